/-- only the row 346 has changed -/
def Fr6 (h h' : HP) : Prop := h'.2 = h.2 ∧ ∀ a, a ≠ 346 → gI h' a = gI h a
theorem MSh_2 {h h' : HP} (e : h'.2 = h.2) (H : MSh h) : MSh h' := by
  have e1 : gS h' = gS h := congrArg (fun x => x.2.2.2.2) e
  have e2 : gK h' = gK h := congrArg (fun x => x.2.2.1) e
  have e3 : gR h' = gR h := congrArg (fun x => x.2.1) e
  have e4 : gL h' = gL h := congrArg (fun x => x.2.2.2.1) e
  unfold MSh at *
  rw [e1, e2, e3, e4]
  exact H
theorem Fr6_B {h h' : HP} {f : Nat → Nat} (F6 : Fr6 h h') (B : MBy h f) : MBy h' f := ⟨MSh_2 F6.1 B.1, fun i hi => by rw [F6.2 339 (by decide)]; exact B.2.1 i hi, B.2.2⟩
theorem Fr6_P {h h' : HP} {pl : Nat} {L : List (Nat × Nat × Nat)} (F6 : Fr6 h h') (P : PlR h pl L) : PlR h' pl L := by
  unfold PlR at *
  rw [F6.2 345 (by decide), F6.2 341 (by decide), F6.2 342 (by decide), F6.2 343 (by decide)]
  exact P
theorem Fr6_rf (h : HP) : Fr6 h h := ⟨rfl, fun _ _ => rfl⟩
theorem Fr6_st {h h' : HP} {k : Nat} {v : Int32} (F6 : Fr6 h h') : Fr6 h (stI h' 346 k v) := ⟨F6.1, fun a ha => by rw [gI_stI_o _ _ _ _ ha]; exact F6.2 a ha⟩
/-- MARKS do not close -/
def tornA (f : Nat → Nat) : List (Nat × Nat × Nat) → List Nat → Bool
  | [], st => !st.isEmpty
  | x :: l, st => if x.1 = 2 then tornA f l (f (x.2.1 + 1) :: st) else if x.1 = 3 then (match st with
    | [] => true
    | t :: s => if t = f (x.2.1 + 2) then tornA f l s else true) else tornA f l st
def SK (h : HP) (st : List Nat) : Prop := ∀ (i t : Nat), st[i]? = some t → gI h 346 (st.length - 1 - i) = nI t ∧ t < 256
theorem SK_push {h : HP} {st : List Nat} {v : Nat} (S : SK h st) (hv : v < 256) : SK (stI h 346 st.length (nI v)) (v :: st) := by
  intro i t ht
  rw [List.length_cons, gI_stI]
  cases i with
  | zero =>
    cases ht
    rw [if_pos ⟨rfl, by omega⟩]
    exact ⟨rfl, hv⟩
  | succ i =>
    have ht' : st[i]? = some t := ht
    have hl := (List.getElem?_eq_some_iff.mp ht').1
    rw [if_neg (by omega), show st.length + 1 - 1 - (i + 1) = st.length - 1 - i by omega]
    exact S i t ht'
theorem SK_pop {h : HP} {st : List Nat} {v : Nat} (S : SK h (v :: st)) : SK h st := by
  intro i t ht
  have := S (i + 1) t ht
  rw [List.length_cons, show st.length + 1 - 1 - (i + 1) = st.length - 1 - i by omega] at this
  exact this
theorem m_digitAt {h : HP} {k b i : Nat} {K : Int32 → HP → Prop} (hM : MSh h) (hi : i < 1800) (h1 : gI h 341 i = nI k) (h2 : gI h 342 i = nI b) (hk : k ≤ 6) (H : K (nI (b + if k = 3 then 2 else 1)) h) : wq_M_digitAt 338 (nI i) h K := by
  unfold wq_M_digitAt
  simp only [i1, nLit]
  rw [mR_from hM, mR_kind hM, nI_cl (by omega), h1, h2]
  refine ⟨MSh_o hM, by decide, mL_from hM hi, MSh_o hM, by decide, mL_kind hM hi, fun c => ?_, fun c => ?_⟩
  · rw [eq_I (by omega) (by omega)] at c
    rw [add_I]; rwa [if_neg c] at H
  · rw [eq_I (by omega) (by omega)] at c
    rw [add_I]; rwa [if_pos c] at H
theorem m_isTorn_lp {h0 : HP} {f : Nat → Nat} {pl : Nat} {L : List (Nat × Nat × Nat)} {K : Int32 → HP → Prop} (B0 : MBy h0 f) (hpl : pl < 3) (P0 : PlR h0 pl L) (hk : ∀ x ∈ L, x.1 ≤ 6 ∧ x.2.1 + 4 ≤ 37200) : ∀ (k j : Nat) (st : List Nat) (h : HP), Fr6 h0 h → st.length ≤ j → SK h st → j + k = L.length → (∀ h', Fr6 h0 h' → K (b2I (tornA f (L.drop j) st)) h') →
    Wp k_M_isTorn 8 [some (.ref 338), some (.int (nI pl)), some (.int (nI st.length)), some (.int (nI (600 * pl + j)))] [] h (0, 0) (QI K)
  | 0, j, st, h, F6, hs, S, h1, H => wb_M_isTorn_8_ok (by
      have hM := (Fr6_B F6 B0).1
      obtain ⟨p1, p2, p3⟩ := Fr6_P F6 P0
      have HK := H h F6
      rw [List.drop_of_length_le (by omega)] at HK
      unfold wb_M_isTorn_8
      simp only [i0, i1, nLit, mul_I]
      rw [mR_solid hM, nI_cl (by omega), p1, add_I]
      refine ⟨MSh_o hM, by decide, mL_solid hM hpl, fun _ => ⟨fun c => ?_, fun c => ?_⟩, fun c => absurd ((le_I (by omega) (by omega)).mpr (by omega)) c⟩
      · rw [le_I (by omega) (by omega)] at c
        have : st = [] := List.eq_nil_of_length_eq_zero (by omega)
        rw [this] at HK
        exact HK
      · rw [le_I (by omega) (by omega)] at c
        cases st with
        | nil => exact absurd (Nat.le_refl 0) c
        | cons t s => exact HK)
  | k + 1, j, st, h, F6, hs, S, h1, H => wb_M_isTorn_8_ok (by
      have hj : j < L.length := by omega
      have B := Fr6_B F6 B0
      have hM := B.1
      obtain ⟨p1, p2, p3⟩ := Fr6_P F6 P0
      have hx := p3 j L[j] (List.getElem?_eq_getElem hj)
      have h6 := hk L[j] (List.getElem_mem hj)
      rw [List.drop_eq_getElem_cons hj] at H
      generalize L[j] = x at hx h6 H
      unfold wb_M_isTorn_8
      simp only [i0, i1, nLit, mul_I]
      rw [mR_solid hM, mR_kind hM, mR_stack hM, mR_bytes hM, nI_cl (by omega), nI_cl (by omega), p1, add_I, add_I, hx.1]
      refine ⟨MSh_o hM, by decide, mL_solid hM hpl, fun c => absurd ((le_I (by omega) (by omega)).mp c) (by omega), fun _ => ⟨MSh_o hM, by decide, mL_kind hM (by omega), fun c => ⟨MSh_o hM, by decide, mL_kind hM (by omega), fun c2 => ?_, fun c2 => ⟨fun c3 => ?_, fun c3 => ⟨MSh_o hM, by decide, ?_⟩⟩⟩, fun c => ⟨MSh_o hM, by decide, MSh_o hM, by decide, MSh_o hM, m_digitAt hM (by omega) hx.1 hx.2.1 h6.1 ?_⟩⟩⟩
      · rw [eq_I (by omega) (by omega)] at c c2
        refine m_isTorn_lp B0 hpl P0 hk k (j + 1) st h F6 (by omega) S (by omega) (fun h' F' => ?_)
        have := H h' F'
        simpa [tornA, c, c2] using this
      · rw [eq_I (by omega) (by omega)] at c c2 c3
        have e0 : st = [] := List.eq_nil_of_length_eq_zero c3
        have := H h F6
        rw [e0] at this
        exact b2_1 (by simp [tornA, c2]) this
      · rw [eq_I (by omega) (by omega)] at c c2 c3
        cases st with
        | nil => exact absurd rfl c3
        | cons t s =>
          have S0 := S 0 t rfl
          rw [List.length_cons] at S0 hs ⊢
          rw [sub_I (by omega), nI_cl (by omega)]
          rw [show s.length + 1 - 1 - 0 = s.length + 1 - 1 by omega] at S0
          rw [S0.1]
          refine ⟨mL_stack hM (by omega), MSh_o hM, by decide, MSh_o hM, m_digitAt hM (by omega) hx.1 hx.2.1 h6.1 ?_⟩
          rw [if_pos c2, nI_cl (by omega), B.2.1 _ (by omega)]
          have fb := B.2.2 (x.2.1 + 2)
          refine ⟨mL_bytes hM (by omega), fun c4 => ?_, fun c4 => ?_⟩
          · rw [eq_I (by omega) (by omega)] at c4
            rw [show nI (s.length + 1) + -nI 1 = nI s.length from pk_m1 s.length]
            refine m_isTorn_lp B0 hpl P0 hk k (j + 1) s h F6 (by omega) (SK_pop S) (by omega) (fun h' F' => ?_)
            have := H h' F'
            simpa [tornA, c2, c4] using this
          · rw [eq_I (by omega) (by omega)] at c4
            have := H h F6
            exact b2_1 (by simp [tornA, c2, c4]) this
      · rw [eq_I (by omega) (by omega)] at c
        rw [if_neg (by omega), nI_cl (n := x.2.1 + 1) (by omega), B.2.1 _ (by omega)]
        refine ⟨mL_bytes hM (by omega), mA_stack hM (by omega), fun h9 e9 => ?_⟩
        rw [nI_cl (by omega)] at e9
        rw [add_I]
        subst e9
        refine m_isTorn_lp B0 hpl P0 hk k (j + 1) (f (x.2.1 + 1) :: st) _ (Fr6_st F6) (by rw [List.length_cons]; omega) (SK_push S (B.2.2 _)) (by omega) (fun h' F' => ?_)
        have := H h' F'
        simpa [tornA, c] using this)
theorem m_isTorn {h : HP} {f : Nat → Nat} {pl : Nat} {L : List (Nat × Nat × Nat)} {K : Int32 → HP → Prop} (B : MBy h f) (hpl : pl < 3) (P : PlR h pl L) (hk : ∀ x ∈ L, x.1 ≤ 6 ∧ x.2.1 + 4 ≤ 37200) (H : ∀ h', Fr6 h h' → K (b2I (tornA f L [])) h') : wq_M_isTorn 338 (nI pl) h K := by
  unfold wq_M_isTorn
  simp only [i0, nLit, mul_I]
  exact m_isTorn_lp B hpl P hk L.length 0 [] h (Fr6_rf h) (Nat.le_refl 0) (fun i t q => by simp at q) (by omega) H
