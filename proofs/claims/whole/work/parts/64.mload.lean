/-! the model's load -/
/-- w is one of r exceptions from e on -/
def exN (f c l : Nat → Nat) (w : Nat × Nat × Nat) : Nat → Nat → Bool
  | 0, _ => false
  | r + 1, e => ttM f c l w e || exN f c l w r (e + 1)
def stopC (b : Nat) : Bool := decide (b = 46) || decide (b = 33) || decide (b = 63)
/-- a segment ends behind piece k of L -/
def enI (f c l : Nat → Nat) (E : Nat) (L : PcL) (k : Nat) : Bool :=
  decide ((L.getD k (0, 0, 0)).1 = 5) && stopC (f (L.getD k (0, 0, 0)).2.1) && (decide (L.length ≤ k + 1) || decide ((L.getD (k + 1) (0, 0, 0)).1 = 6)) && !(decide (f (L.getD k (0, 0, 0)).2.1 = 46) && decide (0 < k) && exN f c l (L.getD (k - 1) (0, 0, 0)) E 0)
section MLD
variable {h : HP} {f c l : Nat → Nat} {E : Nat} {L : PcL} {K : Int32 → HP → Prop}
theorem m_ends_70 {k : Nat} (B : MBy h f) (W : MWd h c l) (P : PlR h 0 L) (WL : ∀ x ∈ L, WfP x) (hE : E ≤ 8) (eE : gI h 338 12 = nI E) (hk : k < L.length) (h0 : 0 < k) : ∀ (r e : Nat) (is : Bool), e + r = E → K (b2I (is && !exN f c l (L.getD (k - 1) (0, 0, 0)) r e)) h → Wp k_M_ends 70 [some (.ref 338), some (.int (nI k)), none, some (.int (nI 46)), some (.int (b2I is)), some (.int (nI e))] [] h (0, 0) (QI K)
  | 0, e, is, h1, H => wb_M_ends_70_ok (by
      have hM := B.1
      unfold wb_M_ends_70
      simp (disch := omega) only [i0, i1, nLit, mul_I, add_I, nI_cl, isO_stI, isA_stI, isL_stI, gR_stI, gJ_stI, gK_stI, gL_stI, gS_stI, true_and, and_true, forall_eq, implies_true, ps_339, MSh_o hM, eE, le_I]
      refine ⟨fun _ => ⟨b2I_01 is, ?_⟩, fun z => absurd (by omega) z⟩
      simpa [exN] using H)
  | r + 1, e, is, h1, H => wb_M_ends_70_ok (by
      have hM := B.1
      have len := P.2.1
      have hk1 : k - 1 < L.length := by omega
      have EX : PE h (k - 1) (L.getD (k - 1) (0, 0, 0)) := by
        rw [getD_at hk1]
        have := PlR_PE P (by decide) WL hk1
        rwa [show 600 * 0 + (k - 1) = k - 1 by omega] at this
      unfold wb_M_ends_70
      simp (disch := omega) only [i0, i1, nLit, mul_I, add_I, nI_cl, isO_stI, isA_stI, isL_stI, gR_stI, gJ_stI, gK_stI, gL_stI, gS_stI, true_and, and_true, forall_eq, implies_true, ps_339, MSh_o hM, eE, le_I, true_or, or_true, true_imp_iff, not_true_eq_false, not_false_eq_true, false_imp_iff, b2I_eq0, Bool.not_eq_false, sub_I]
      refine ⟨fun z => absurd z (by omega), fun _ => ⟨fun z => absurd z (by omega), fun _ => ⟨fun ci => ?_, fun ci => m_isThat B W (by omega) EX ⟨fun ct => ?_, fun ct => ?_⟩⟩⟩⟩
      · refine m_ends_70 B W P WL hE eE hk h0 r (e + 1) false (by omega) ?_
        rw [ci] at H
        exact H
      · refine m_ends_70 B W P WL hE eE hk h0 r (e + 1) false (by omega) ?_
        have c3 := b2I_1 ct
        rw [ci, exN, c3, Bool.true_or] at H
        exact H
      · refine m_ends_70 B W P WL hE eE hk h0 r (e + 1) true (by omega) ?_
        have c3 := b2I_0 ct
        rw [ci, exN, c3, Bool.false_or] at H
        exact H)
theorem m_ends {k : Nat} (B : MBy h f) (W : MWd h c l) (P : PlR h 0 L) (WL : ∀ x ∈ L, WfP x) (hE : E ≤ 8) (eE : gI h 338 12 = nI E) (hk : k < L.length) (H : K (b2I (enI f c l E L k)) h) : wq_M_ends 338 (nI k) (nI L.length) h K := by
  have hM := B.1
  have len := P.2.1
  have EX : PE h (0 + k) (L.getD k (0, 0, 0)) := by rw [getD_at hk]; exact PlR_PE P (by decide) WL hk
  have wx : WfP (L.getD k (0, 0, 0)) := by rw [getD_at hk]; exact WL _ (List.getElem_mem hk)
  rw [Nat.zero_add] at EX
  have ex1 : k + 1 < L.length → gI h 341 (k + 1) = nI (L.getD (k + 1) (0, 0, 0)).1 ∧ (L.getD (k + 1) (0, 0, 0)).1 ≤ 6 := fun hk1 => by
    rw [getD_at hk1]
    have := PlR_PE P (by decide) WL hk1
    rw [show 600 * 0 + (k + 1) = k + 1 by omega] at this
    exact ⟨this.2.1.1, this.2.2.1⟩
  unfold enI at H
  generalize L.getD k (0, 0, 0) = x at *
  generalize hy : L.getD (k + 1) (0, 0, 0) = y at *
  obtain ⟨p1, ⟨p2, p3, p4⟩, p5, p6⟩ := EX
  have fb := B.2.2 x.2.1
  have b70 : stopC (f x.2.1) = true → x.1 = 5 → (L.length ≤ k + 1 ∨ y.1 = 6) → Wp k_M_ends 70 [some (.ref 338), some (.int (nI k)), none, some (.int (nI (f x.2.1))), some (.int (nI 1)), some (.int (nI 0))] [] h (0, 0) (QI K) := fun c1 c2 c3 => by
    have e3 : (decide (L.length ≤ k + 1) || decide (y.1 = 6)) = true := by simpa using c3
    rw [c1, e3, decide_eq_true c2] at H
    by_cases c4 : f x.2.1 = 46 ∧ 0 < k
    · have e4 : (decide (f x.2.1 = 46) && decide (0 < k)) = true := by simpa using c4
      rw [e4, Bool.true_and] at H
      rw [c4.1]
      exact m_ends_70 B W P WL hE eE hk c4.2 E 0 true (by omega) H
    · have e4 : (decide (f x.2.1 = 46) && decide (0 < k)) = false := by rw [Bool.and_eq_false_iff]; by_cases q : f x.2.1 = 46 <;> simp_all
      rw [e4, Bool.false_and] at H
      refine wb_M_ends_70_ok ?_
      unfold wb_M_ends_70
      simp (disch := omega) only [i0, i1, nLit, mul_I, add_I, nI_cl, isO_stI, isA_stI, isL_stI, gR_stI, gJ_stI, gK_stI, gL_stI, gS_stI, true_and, and_true, forall_eq, implies_true, ps_339, MSh_o hM, eE, le_I, true_or, or_true, true_imp_iff, not_true_eq_false, not_false_eq_true, false_imp_iff, eq_I]
      exact ⟨fun _ => H, fun _ => ⟨fun _ => H, fun q => ⟨fun _ => H, fun q2 => absurd ⟨q, by omega⟩ c4⟩⟩⟩
  have b42 : stopC (f x.2.1) = true → x.1 = 5 → wb_M_ends_42 338 (nI k) (nI L.length) (nI (f x.2.1)) h K := fun c1 c2 => by
    unfold wb_M_ends_42
    simp (disch := omega) only [i0, i1, nLit, mul_I, add_I, nI_cl, isO_stI, isA_stI, isL_stI, gR_stI, gJ_stI, gK_stI, gL_stI, gS_stI, true_and, and_true, forall_eq, implies_true, ps_339, MSh_o hM, le_I]
    refine ⟨fun c3 => b70 c1 c2 (Or.inl c3), fun c3 => ?_⟩
    have ey := ex1 (by omega)
    simp (disch := omega) only [i0, i1, nLit, mul_I, add_I, nI_cl, isO_stI, isA_stI, isL_stI, gR_stI, gJ_stI, gK_stI, gL_stI, gS_stI, true_and, and_true, forall_eq, implies_true, ps_339, MSh_o hM, mR_kind hM, mL_kind hM, mA_kind hM, ey.1, eq_I]
    refine ⟨fun c4 => b70 c1 c2 (Or.inr c4), fun c4 => ?_⟩
    have e3 : (decide (L.length ≤ k + 1) || decide (y.1 = 6)) = false := by simp [c4]; omega
    rw [e3, Bool.and_false, Bool.false_and] at H
    exact H
  unfold wq_M_ends
  simp (disch := omega) only [i0, i1, nLit, mul_I, add_I, nI_cl, isO_stI, isA_stI, isL_stI, gR_stI, gJ_stI, gK_stI, gL_stI, gS_stI, true_and, and_true, forall_eq, implies_true, ps_339, MSh_o hM, mR_bytes hM, mL_bytes hM, mA_bytes hM, mR_from hM, mL_from hM, mA_from hM, mR_kind hM, mL_kind hM, mA_kind hM, p2, p3, B.2.1 _ wx.2.2, mL_bytes hM wx.2.2, eq_I]
  refine ⟨fun c1 => ?_, fun c1 => ⟨fun c2 => b42 (by simp [stopC, c2]) c1, fun c2 => ⟨fun c3 => b42 (by simp [stopC, c3]) c1, fun c3 => ⟨fun c4 => b42 (by simp [stopC, c4]) c1, fun c4 => ?_⟩⟩⟩⟩
  · have : K (b2I false) h := by simpa [c1] using H
    exact this
  · have : stopC (f x.2.1) = false := by simp [stopC, c2, c3, c4]
    rw [this, Bool.and_false, Bool.false_and, Bool.false_and] at H
    exact H
end MLD
/-- where segments end: r pieces from k on -/
def ctI (f c l : Nat → Nat) (E : Nat) (L : PcL) : Nat → Nat → List Nat
  | 0, _ => []
  | r + 1, k => if enI f c l E L k = true then ((L.getD (if L.length ≤ k + 1 then k else k + 1) (0, 0, 0)).2.1 + (L.getD (if L.length ≤ k + 1 then k else k + 1) (0, 0, 0)).2.2) :: ctI f c l E L r (k + 1) else ctI f c l E L r (k + 1)
theorem ctI_len (f c l : Nat → Nat) (E : Nat) (L : PcL) : ∀ r k, (ctI f c l E L r k).length ≤ r
  | 0, _ => Nat.le_refl 0
  | r + 1, k => by
    have := ctI_len f c l E L r (k + 1)
    unfold ctI
    split
    · rw [List.length_cons]; omega
    · omega
def ctZ (C : List Nat) (n : Nat) : List Nat := if n = 0 then C else if C.length = 0 ∨ C.getD (C.length - 1) 0 < n then C ++ [n] else C
/-- pieces from at on, r of them, that begin ahead of cut: where, how many solid -/
def cnL (L : PcL) (cut : Nat) : Nat → Nat → Nat → Nat × Nat
  | 0, a, n => (a, n)
  | r + 1, a, n => if (L.getD a (0, 0, 0)).2.1 < cut then cnL L cut r (a + 1) (n + if (L.getD a (0, 0, 0)).1 = 6 then 0 else 1) else (a, n)
def okC (L : PcL) : List Nat → Nat → Bool
  | [], _ => true
  | cut :: C, a => if (cnL L cut (L.length - a) a 0).2 ≤ 20 then okC L C (cnL L cut (L.length - a) a 0).1 else false
theorem cnL_le (L : PcL) (cut : Nat) : ∀ r a n, a ≤ (cnL L cut r a n).1 ∧ (cnL L cut r a n).1 ≤ a + r
  | 0, a, n => ⟨Nat.le_refl a, Nat.le_refl a⟩
  | r + 1, a, n => by
    have := cnL_le L cut r (a + 1) (n + if (L.getD a (0, 0, 0)).1 = 6 then 0 else 1)
    unfold cnL
    split <;> omega
def bgF (C : List Nat) (b : Nat → Nat) (k : Nat) : Nat → Nat := fun s => if s < k then (if s = 0 then 0 else C.getD (s - 1) 0) else b s
def szF (C : List Nat) (n : Nat → Nat) (k : Nat) : Nat → Nat := fun s => if s < k then C.getD s 0 - (if s = 0 then 0 else C.getD (s - 1) 0) else n s
def CtO (h : HP) (C : List Nat) : Prop := ∀ i x : Nat, C[i]? = some x → gI h 351 i = nI x
theorem CtO_push {h : HP} {C : List Nat} {v : Nat} (H : CtO h C) : CtO (stI h 351 C.length (nI v)) (C ++ [v]) := fun i x hx => by
  rw [gI_stI]
  by_cases z : i = C.length
  · rw [if_pos ⟨rfl, z⟩]
    rw [z, List.getElem?_append_right (Nat.le_refl _), Nat.sub_self] at hx
    cases hx
    rfl
  · rw [if_neg (fun y => z y.2)]
    have hl := (List.getElem?_eq_some_iff.mp hx).1
    rw [List.length_append, List.length_singleton] at hl
    rw [List.getElem?_append_left (by omega)] at hx
    exact H i x hx
theorem CtO_at {h : HP} {C : List Nat} {i : Nat} (H : CtO h C) (hi : i < C.length) : gI h 351 i = nI (C.getD i 0) := by
  rw [List.getD_eq_getElem?_getD, List.getElem?_eq_getElem hi]
  exact H i _ (List.getElem?_eq_getElem hi)
section ML2b
variable {h0 : HP} {f c l : Nat → Nat} {E : Nat} {L : PcL} {K : Int32 → HP → Prop}
theorem m_load_26 {z0 : Nat} (B0 : MBy h0 f) (W0 : MWd h0 c l) (P0 : PlR h0 0 L) (WL : ∀ x ∈ L, WfP x) (hE : E ≤ 8) (eE : gI h0 338 12 = nI E) (hz : z0 ≤ 600) (ez : gI h0 340 0 = nI z0) (hc6 : ∀ x ∈ L, x.2.1 + x.2.2 ≤ 600)
    (H : ∀ h', FrX [351] h0 h' → CtO h' (ctZ (ctI f c l E L L.length 0) z0) → (ctZ (ctI f c l E L L.length 0) z0).length ≤ 601 → wb_M_load_131 338 (nI L.length) (nI (ctZ (ctI f c l E L L.length 0) z0).length) h' K) :
    ∀ (r k : Nat) (C : List Nat) (h : HP), k + r = L.length → C.length ≤ k → (∀ x ∈ C, x ≤ 600) → FrX [351] h0 h → CtO h C → C ++ ctI f c l E L r k = ctI f c l E L L.length 0 → Wp k_M_load 26 [some (.ref 338), some (.int (nI L.length)), some (.int (nI C.length)), some (.int (nI k)), none, none] [] h (0, 0) (QI K)
  | 0, k, C, h, h1, hC, hx, F, O, e => wb_M_load_26_ok (by
      have hM := FrX_MSh F B0.1
      have len := P0.2.1
      have ez' : gI h 340 0 = nI z0 := by rw [F.2 340 (by decide)]; exact ez
      rw [ctI, List.append_nil] at e
      have b116 : ctZ C z0 = C ++ [z0] → wb_M_load_116 338 (nI L.length) (nI C.length) h K := fun ec => by
        unfold wb_M_load_116
        simp (disch := omega) only [i0, i1, nLit, mul_I, add_I, nI_cl, isO_stI, isA_stI, isL_stI, gR_stI, gJ_stI, gK_stI, gL_stI, gS_stI, true_and, and_true, forall_eq, implies_true, ps_339, MSh_o hM, mR_cutAt hM, mL_cutAt hM, mA_cutAt hM, mR_size hM, mL_size hM, mA_size hM, ez']
        rw [← e, ec, List.length_append, List.length_singleton] at H
        exact H _ (FrX_st F (by decide)) (CtO_push O) (by omega)
      have b131 : ctZ C z0 = C → wb_M_load_131 338 (nI L.length) (nI C.length) h K := fun ec => by
        rw [← e, ec] at H
        exact H h F O (by omega)
      unfold wb_M_load_26
      simp (disch := omega) only [i0, i1, nLit, mul_I, add_I, nI_cl, isO_stI, isA_stI, isL_stI, gR_stI, gJ_stI, gK_stI, gL_stI, gS_stI, true_and, and_true, forall_eq, implies_true, ps_339, MSh_o hM, mR_size hM, mL_size hM, mA_size hM, ez', le_I, eq_I]
      refine ⟨fun _ => ⟨fun c0 => b131 ?_, fun c0 => ⟨fun c1 => b116 ?_, fun c1 => ?_⟩⟩, fun z => absurd (by omega) z⟩
      · rw [ctZ, if_pos (by omega)]
      · rw [ctZ, if_neg (by omega), if_pos (Or.inl c1)]
      · have eL := CtO_at O (show C.length - 1 < C.length by omega)
        have lL : C.getD (C.length - 1) 0 ≤ 600 := by
          rw [List.getD_eq_getElem?_getD, List.getElem?_eq_getElem (show C.length - 1 < C.length by omega)]
          exact hx _ (List.getElem_mem _)
        rw [sub_I (by omega)]
        simp (disch := omega) only [i0, i1, nLit, mul_I, add_I, nI_cl, isO_stI, isA_stI, isL_stI, gR_stI, gJ_stI, gK_stI, gL_stI, gS_stI, true_and, and_true, forall_eq, implies_true, ps_339, MSh_o hM, mR_cutAt hM, mL_cutAt hM, mA_cutAt hM, eL, le_I]
        refine ⟨fun c2 => b131 ?_, fun c2 => b116 ?_⟩
        · rw [ctZ, if_neg (by omega), if_neg (by omega)]
        · rw [ctZ, if_neg (by omega), if_pos (by omega)])
  | r + 1, k, C, h, h1, hC, hx, F, O, e => wb_M_load_26_ok (by
      have B := FrX_MBy F (by decide) B0
      have hM := B.1
      have len := P0.2.1
      have P := FrX_PlR F (by decide) (by decide) (by decide) (by decide) P0
      have W : MWd h c l := by unfold MWd at *; rw [F.2 347 (by decide), F.2 348 (by decide)]; exact W0
      have eE' : gI h 338 12 = nI E := by rw [F.2 338 (by decide)]; exact eE
      have hk : k < L.length := by omega
      have b54 : enI f c l E L k = true → ∀ j, j = (if L.length ≤ k + 1 then k else k + 1) → wb_M_load_54 338 (nI L.length) (nI C.length) (nI k) (nI j) h K := fun en j ej => by
        have hj : j < L.length := by rw [ej]; split <;> omega
        have EX : PE h j L[j] := by have := PlR_PE P (by decide) WL hj; rwa [show 600 * 0 + j = j by omega] at this
        obtain ⟨p1, ⟨p2, p3, p4⟩, p5, p6⟩ := EX
        unfold wb_M_load_54
        simp (disch := omega) only [i0, i1, nLit, mul_I, add_I, nI_cl, isO_stI, isA_stI, isL_stI, gR_stI, gJ_stI, gK_stI, gL_stI, gS_stI, true_and, and_true, forall_eq, implies_true, ps_339, MSh_o hM, mR_cutAt hM, mL_cutAt hM, mA_cutAt hM, mR_from hM, mL_from hM, mA_from hM, mR_many hM, mL_many hM, mA_many hM, p3, p4]
        have ev := CtO_push (v := L[j].2.1 + L[j].2.2) O
        rw [← List.length_singleton (a := L[j].2.1 + L[j].2.2), ← List.length_append]
        refine m_load_26 B0 W0 P0 WL hE eE hz ez hc6 H r (k + 1) _ _ (by omega) (by rw [List.length_append, List.length_singleton]; omega) ?_ (FrX_st F (by decide)) ev ?_
        · intro x hx'
          rcases List.mem_append.mp hx' with q | q
          · exact hx x q
          · rw [List.mem_singleton.mp q]; exact hc6 _ (List.getElem_mem hj)
        · rw [← e, List.append_assoc]
          congr 1
          rw [ctI, if_pos en, ← ej, getD_at hj]
          rfl
      unfold wb_M_load_26
      simp (disch := omega) only [i0, i1, nLit, mul_I, add_I, nI_cl, isO_stI, isA_stI, isL_stI, gR_stI, gJ_stI, gK_stI, gL_stI, gS_stI, true_and, and_true, forall_eq, implies_true, ps_339, MSh_o hM, le_I]
      refine ⟨fun z => absurd z (by omega), fun _ => m_ends B W P WL hE eE' hk ⟨fun c0 => ?_, fun c0 => ⟨fun c1 => b54 (b2I_1 c0) k (by rw [if_pos c1]), fun c1 => b54 (b2I_1 c0) (k + 1) (by rw [if_neg c1])⟩⟩⟩
      refine m_load_26 B0 W0 P0 WL hE eE hz ez hc6 H r (k + 1) C h (by omega) (by omega) hx F O ?_
      have := b2I_0 c0
      rw [ctI, this] at e
      exact e)
theorem m_load_154 {h : HP} {cut s a0 : Nat} {N : Nat} (hM : MSh h) (P : PlR h 0 L) (WL : ∀ x ∈ L, WfP x) (hs : s < 601) (ec : gI h 351 s = nI cut) (hcut : cut ≤ 37200) (H0 : ¬ (cnL L cut (L.length - a0) a0 0).2 ≤ 20 → K (-nI 5) h) (H1 : (cnL L cut (L.length - a0) a0 0).2 ≤ 20 → Wp k_M_load 145 [some (.ref 338), some (.int (nI L.length)), some (.int (nI N)), some (.int (nI (cnL L cut (L.length - a0) a0 0).1)), some (.int (nI (s + 1))), none] [] h (0, 0) (QI K)) :
    ∀ (r a n : Nat), a + r = L.length → n ≤ a → cnL L cut r a n = cnL L cut (L.length - a0) a0 0 → Wp k_M_load 154 [some (.ref 338), some (.int (nI L.length)), some (.int (nI N)), some (.int (nI a)), some (.int (nI s)), some (.int (nI n))] [] h (0, 0) (QI K)
  | 0, a, n, h1, hn, e => wb_M_load_154_ok (by
      have len := P.2.1
      rw [cnL] at e
      rw [← e] at H0 H1
      unfold wb_M_load_154
      simp (disch := omega) only [i0, i1, nLit, mul_I, add_I, nI_cl, le_I]
      exact ⟨fun _ => ⟨fun c0 => H1 c0, fun c0 => H0 c0⟩, fun z => absurd (by omega) z⟩)
  | r + 1, a, n, h1, hn, e => wb_M_load_154_ok (by
      have len := P.2.1
      have ha : a < L.length := by omega
      have EX : PE h a (L.getD a (0, 0, 0)) := by rw [getD_at ha]; have := PlR_PE P (by decide) WL ha; rwa [show 600 * 0 + a = a by omega] at this
      obtain ⟨p1, ⟨p2, p3, p4⟩, p5, p6⟩ := EX
      have go := m_load_154 (N := N) hM P WL hs ec hcut H0 H1 r (a + 1)
      rw [cnL] at e
      unfold wb_M_load_154
      simp (disch := omega) only [i0, i1, nLit, mul_I, add_I, nI_cl, isO_stI, isA_stI, isL_stI, gR_stI, gJ_stI, gK_stI, gL_stI, gS_stI, true_and, and_true, forall_eq, implies_true, ps_339, MSh_o hM, mR_from hM, mL_from hM, mA_from hM, mR_cutAt hM, mL_cutAt hM, mA_cutAt hM, mR_kind hM, mL_kind hM, mA_kind hM, p2, p3, ec, le_I, eq_I]
      refine ⟨fun z => absurd z (by omega), fun _ => ⟨fun c0 => ?_, fun c0 => ⟨fun c1 => go (n + 1) (by omega) (by omega) ?_, fun c1 => go (n + 0) (by omega) (by omega) ?_⟩⟩⟩
      · rw [if_neg (by omega)] at e
        rw [← e] at H0 H1
        exact ⟨fun c0 => H1 c0, fun c0 => H0 c0⟩
      · rw [if_pos (by omega), if_neg c1] at e
        exact e
      · rw [if_pos (by omega), if_pos c1] at e
        exact e)
end ML2b
