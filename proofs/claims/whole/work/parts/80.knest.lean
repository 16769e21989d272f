/-! the class: torn rows, words counted, scores -/
theorem ps_9 (s : Nat) : (0 < 9 + 4 * s) = True := by simp; omega
theorem ps_112 (s : Nat) : (0 < 112 + 6 * s) = True := by simp; omega
theorem ps_114 (s : Nat) : (0 < 114 + 6 * s) = True := by simp; omega
theorem ps_232 (s : Nat) : (0 < 232 + 2 * s) = True := by simp; omega
theorem kv_24 {n : Nat} (h : n < 24) : vp_in (nI n) 24 := nI_in' h (by decide)
theorem kv_20 {n : Nat} (h : n < 20) : vp_in (nI n) 20 := nI_in' h (by decide)
theorem kv_40 {n : Nat} (h : n < 40) : vp_in (nI n) 40 := nI_in' h (by decide)
theorem kq_7 {h : HP} (S : KSh h) {s : Nat} (hs : s < 24) : gR h 7 s = 9 + 4 * s := (S.2.2.2.2.1 s hs).1
theorem kq_106 {h : HP} (S : KSh h) {p : Nat} (hp : p < 20) : gR h 106 p = 112 + 6 * p := (S.2.2.2.2.2.1 p hp).1
theorem kq_107 {h : HP} (S : KSh h) {p : Nat} (hp : p < 20) : gR h 107 p = 114 + 6 * p := (S.2.2.2.2.2.1 p hp).2.1
theorem kq_109 {h : HP} (S : KSh h) {r : Nat} (hr : r < 40) : gR h 109 r = 232 + 2 * r := S.2.2.2.2.2.2.1 r hr
theorem max_I {a b : Nat} (ha : a < 2147483648) (hb : b < 2147483648) (inst : Decidable (nI a < nI b)) : @ite Int32 (nI a < nI b) inst (nI b) (nI a) = nI (max a b) := by
  by_cases q : a < b
  · rw [if_pos ((lt_I ha hb).mpr q), show max a b = b by omega]
  · rw [if_neg (fun z => q ((lt_I ha hb).mp z)), show max a b = a by omega]
theorem sc_I {q : Nat} (hq : q < 1000000) (inst : Decidable (nI 0 < nI 100 - nI q)) : @ite Int32 (nI 0 < nI 100 - nI q) inst (nI 100 - nI q) (nI 0) = nI (100 - q) := by
  by_cases c : q < 100
  · have hp : nI 0 < nI 100 - nI q := by rw [sub_I (by omega)]; exact (lt_I (by omega) (by omega)).mpr (by omega)
    rw [if_pos hp, sub_I (by omega)]
  · by_cases c2 : q = 100
    · have hp : ¬ nI 0 < nI 100 - nI q := by
        rw [sub_I (by omega)]
        exact fun z => absurd ((lt_I (by omega) (by omega)).mp z) (by omega)
      rw [if_neg hp, show 100 - q = 0 by omega]
    · have := pk_sneg (a := 100) (b := q) (by omega) (by omega)
      rw [if_neg (fun z => absurd (Int32.lt_trans z this) (by decide)), show 100 - q = 0 by omega]
theorem torn_2 {f : Nat → Nat} {x : Nat × Nat × Nat} {l : PcL} {st : List Nat} (h : x.1 = 2) : tornA f (x :: l) st = tornA f l (f (x.2.1 + 1) :: st) := by simp [tornA, h]
theorem torn_3n {f : Nat → Nat} {x : Nat × Nat × Nat} {l : PcL} (h : x.1 = 3) : tornA f (x :: l) [] = true := by simp [tornA, h]
theorem torn_3 {f : Nat → Nat} {x : Nat × Nat × Nat} {l : PcL} {u : Nat} {s : List Nat} (h : x.1 = 3) : tornA f (x :: l) (u :: s) = if u = f (x.2.1 + 2) then tornA f l s else true := by simp [tornA, h]
theorem torn_o {f : Nat → Nat} {x : Nat × Nat × Nat} {l : PcL} {st : List Nat} (h : x.1 ≠ 2) (h3 : x.1 ≠ 3) : tornA f (x :: l) st = tornA f l st := by simp [tornA, h, h3]
/-- pieces follow each other -/
def Chn : Nat → PcL → Prop
  | _, [] => True
  | q, x :: l => q ≤ x.2.1 ∧ Chn (x.2.1 + x.2.2) l
theorem pcs_Chn {g : Nat → Nat} {pt e : Nat} {bl : Bool} : ∀ (k p q : Nat), q ≤ p → Chn q (pcs g pt e bl k p)
  | 0, _, _, _ => trivial
  | k + 1, p, q, h => by
    have hg := nxM_gt g pt e p
    unfold pcs
    split
    · split
      · exact pcs_Chn k _ q (by omega)
      · exact ⟨h, pcs_Chn k _ _ (by show p + (nxM g pt e p - p) ≤ nxM g pt e p; omega)⟩
    · trivial
theorem pcs_2 {g : Nat → Nat} {pt e : Nat} {bl : Bool} : ∀ (k p : Nat), ∀ x ∈ pcs g pt e bl k p, x.1 = 2 → x.2.2 = 3
  | 0, p => by intro x hx; exact absurd hx (by simp [pcs])
  | k + 1, p => by
    intro x hx
    have ih := pcs_2 (g := g) (pt := pt) (e := e) (bl := bl) k (nxM g pt e p)
    unfold pcs at hx
    split at hx
    · split at hx
      · exact ih x hx
      · rcases List.mem_cons.mp hx with q | q
        · rw [q]
          intro h2
          have h2' : kdM g p = 2 := h2
          obtain ⟨a, b, c, d⟩ := kd_mk (g := g) (p := p) (by omega)
          show nxM g pt e p - p = 3
          unfold nxM
          simp only [a, b, c, if_false, Bool.false_eq_true]
          rw [if_neg (by omega), if_pos (by omega)]
          omega
        · exact ih x q
    · exact absurd hx (by simp)
section KNS
variable {h0 : HP} {f : Nat → Nat} {a N t A o n : Nat} {L : PcL} {K : Int32 → HP → Prop}
def X325 (b : Nat) : Prop := b = 325
/-- row a lies apart from cell c -/
def RwF (c a t A : Nat) : Prop := c ≠ a ∧ c ≠ a + 1 ∧ c ≠ a + 2 ∧ c ≠ a + 3 ∧ c ≠ t ∧ c ≠ A
theorem RwF_R {h h' : HP} {c : Nat} (F : RwF c a t A) (G : AgY (fun b => b = c) YN h h') (R : RwT h a N t A f o n L) : RwT h' a N t A f o n L :=
  RwT_y G (fun z => F.1 z.symm) (fun z => F.2.1 z.symm) (fun z => F.2.2.1 z.symm) (fun z => F.2.2.2.1 z.symm) (fun z => F.2.2.2.2.1 z.symm) (fun z => F.2.2.2.2.2 z.symm) (fun _ _ z => z) (fun z => z) R
def SKk (h : HP) (st : List Nat) : Prop := ∀ (i u : Nat), st[i]? = some u → gI h 325 (st.length - 1 - i) = nI (u - 48) ∧ 48 ≤ u ∧ u ≤ 57
theorem SKk_push {h : HP} {st : List Nat} {v : Nat} (S : SKk h st) (hv : 48 ≤ v ∧ v ≤ 57) : SKk (stI h 325 st.length (nI (v - 48))) (v :: st) := by
  intro i u hu
  rw [List.length_cons, gI_stI]
  cases i with
  | zero =>
    cases hu
    rw [if_pos ⟨rfl, by omega⟩]
    exact ⟨rfl, hv⟩
  | succ i =>
    have hu' : st[i]? = some u := hu
    have hl := (List.getElem?_eq_some_iff.mp hu').1
    rw [if_neg (by omega), show st.length + 1 - 1 - (i + 1) = st.length - 1 - i by omega]
    exact S i u hu'
theorem SKk_pop {h : HP} {st : List Nat} {v : Nat} (S : SKk h (v :: st)) : SKk h st := by
  intro i u hu
  have := S (i + 1) u hu
  rw [List.length_cons, show st.length + 1 - 1 - (i + 1) = st.length - 1 - i by omega] at this
  exact this
theorem k_isTorn_lp (S0 : KSh h0) (F : RwF 325 a t A) (R0 : RwT h0 a N t A f o n L) (hn : n ≤ 600) (h2 : ∀ x ∈ L, x.1 = 2 → x.2.2 = 3) (H : ∀ h', AgY (fun b => b = 325) YN h0 h' → K (b2I (tornA f L [])) h') : ∀ (k j : Nat) (st : List Nat) (h : HP) (q : Nat), AgY (fun b => b = 325) YN h0 h → SKk h st → j + k = L.length → (o ≤ q ∧ q ≤ o + n) → 3 * st.length ≤ q - o → Chn q (L.drop j) → tornA f (L.drop j) st = tornA f L [] →
    Wp k_Nest_isTorn 4 [some (.ref 324), some (.ref a), some (.int (nI st.length)), some (.int (nI j))] [] h (0, 0) (QI K)
  | 0, j, st, h, q, G, S, h1, hq, hs, C, e => wb_Nest_isTorn_4_ok (by
      have KS := KSh_y G (fun _ _ z => z.elim) S0
      have R := RwF_R F G R0
      have r1 := R.1
      have hN := r1.2.2.2.2.2
      have hl6 := R.2.2.2.2.2.1
      have HK := H h G
      rw [← e, List.drop_of_length_le (by omega)] at HK
      unfold wb_Nest_isTorn_4
      simp (disch := omega) only [i0, i1, nLit, mul_I, add_I, nI_cl, isO_stI, isA_stI, isL_stI, gR_stI, gJ_stI, gK_stI, gL_stI, gS_stI, true_and, and_true, forall_eq, implies_true, ps_339, rS_o r1, R.2.1.1, le_I, eq_I]
      refine ⟨fun _ => ⟨fun c => ?_, fun c => ?_⟩, fun z => absurd (by omega) z⟩
      · have : st = [] := List.eq_nil_of_length_eq_zero c
        rw [this] at HK
        exact HK
      · cases st with
        | nil => exact absurd rfl c
        | cons u s => exact HK)
  | k + 1, j, st, h, q, G, S, h1, hq, hs, C, e => wb_Nest_isTorn_4_ok (by
      have KS := KSh_y G (fun _ _ z => z.elim) S0
      have R := RwF_R F G R0
      have r1 := R.1
      have hN := r1.2.2.2.2.2
      have hl6 := R.2.2.2.2.2.1
      have hj : j < L.length := by omega
      have E := RwT_E R hj
      have hx2 := h2 _ (List.getElem_mem hj)
      have hx := E.2.2.1
      rw [List.drop_eq_getElem_cons hj] at e C
      generalize L[j] = x at *
      obtain ⟨e1, ⟨e2, e3, e4⟩, e5, e6⟩ := id E
      obtain ⟨c1, c2⟩ := C
      have nx : ∀ (st' : List Nat) (h' : HP), AgY (fun b => b = 325) YN h0 h' → SKk h' st' → 3 * st'.length ≤ x.2.1 + x.2.2 - o → tornA f (L.drop (j + 1)) st' = tornA f L [] → Wp k_Nest_isTorn 4 [some (.ref 324), some (.ref a), some (.int (nI st'.length)), some (.int (nI (j + 1)))] [] h' (0, 0) (QI K) := fun st' h' G' S' hs' e' => k_isTorn_lp S0 F R0 hn h2 H k (j + 1) st' h' (x.2.1 + x.2.2) G' S' (by omega) ⟨by omega, by omega⟩ hs' c2 e'
      have b48 : x.1 ≠ 2 → wb_Nest_isTorn_48 324 a (nI st.length) (nI j) h K := fun n2 => by
        unfold wb_Nest_isTorn_48
        simp (disch := omega) only [i0, i1, nLit, mul_I, add_I, nI_cl, isO_stI, isA_stI, isL_stI, gR_stI, gJ_stI, gK_stI, gL_stI, gS_stI, true_and, and_true, forall_eq, implies_true, ps_339, rS_o r1, rS_0 r1, rS_1 r1, rS_2 r1, rS_l0 r1, rS_l1 r1, rS_l2 r1, e2, eq_I]
        refine ⟨fun c3 => ?_, fun c3 => ⟨fun c4 => ?_, fun c4 => ?_⟩⟩
        · refine nx st h G S (by omega) ?_
          rw [← e, torn_o n2 c3]
        · have e0 : st = [] := List.eq_nil_of_length_eq_zero c4
          have HK := H h G
          refine b2_1 ?_ HK
          rw [← e, e0, torn_3n c3]
        · cases st with
          | nil => exact absurd rfl c4
          | cons u s =>
            have S00 := S 0 u rfl
            rw [List.length_cons] at S00 hs ⊢
            rw [show s.length + 1 - 1 - 0 = s.length by omega] at S00
            rw [sub_I (by omega), Nat.add_sub_cancel]
            have hm : isMk x = true := by simp [isMk, c3]
            have dd := isD_r (e6.2.2 hm).1
            have dA : dgA x = x.2.1 + 2 := by unfold dgA; rw [if_pos c3]
            simp (disch := omega) only [i0, i1, nLit, mul_I, add_I, nI_cl, isO_stI, isA_stI, isL_stI, gR_stI, gJ_stI, gK_stI, gL_stI, gS_stI, true_and, and_true, forall_eq, implies_true, ps_339, kO_324 KS, kR_324_0 KS, kA_325 KS, kL_325 KS, S00.1]
            refine k_digit R E hm ?_
            rw [dA] at dd ⊢
            simp (disch := omega) only [eq_I]
            refine ⟨fun c5 => ?_, fun c5 => ?_⟩
            · rw [show nI (s.length + 1) + -nI 1 = nI s.length from pk_m1 s.length]
              refine nx s h G (SKk_pop S) (by omega) ?_
              rw [← e, torn_3 c3, if_pos (by omega)]
            · refine b2_1 ?_ (H h G)
              rw [← e, torn_3 c3, if_neg (by omega)]
      unfold wb_Nest_isTorn_4
      simp (disch := omega) only [i0, i1, nLit, mul_I, add_I, nI_cl, isO_stI, isA_stI, isL_stI, gR_stI, gJ_stI, gK_stI, gL_stI, gS_stI, true_and, and_true, forall_eq, implies_true, ps_339, rS_o r1, rS_0 r1, rS_1 r1, rS_2 r1, rS_l0 r1, rS_l1 r1, rS_l2 r1, kO_324 KS, kR_324_0 KS, kK_325 KS, kN_325 KS, kS_325 KS, R.2.1.1, le_I, e2, eq_I]
      refine ⟨fun z => absurd z (by omega), fun _ => ⟨fun c => b48 c, fun c => ⟨by simp, fun z => absurd z (by omega), fun _ => ?_⟩⟩⟩
      have hm : isMk x = true := by simp [isMk, c]
      have dd := isD_r (e6.2.2 hm).1
      have dA : dgA x = x.2.1 + 1 := by unfold dgA; rw [if_neg (by omega)]
      refine k_digit R E hm ⟨kA_325 KS (by omega), ?_⟩
      rw [dA]
      rw [dA] at dd
      have := nx (f (x.2.1 + 1) :: st) (stI h 325 st.length (nI (f (x.2.1 + 1) - 48))) (AgY_stI G rfl) (SKk_push S dd) (by rw [List.length_cons]; have := hx2 c; omega) (by rw [← e, torn_2 c])
      exact this)
theorem k_isTorn {h : HP} (S0 : KSh h) (F : RwF 325 a t A) (R0 : RwT h a N t A f o n L) (hn : n ≤ 600) (h2 : ∀ x ∈ L, x.1 = 2 → x.2.2 = 3) (C : Chn o L) (H : ∀ h', AgY (fun b => b = 325) YN h h' → K (b2I (tornA f L [])) h') : wq_Nest_isTorn 324 a h K := by
  unfold wq_Nest_isTorn
  exact k_isTorn_lp S0 F R0 hn h2 H L.length 0 [] h o (AgY_rf _ _ h) (fun i u hu => absurd hu (by simp)) (by omega) ⟨Nat.le_refl o, by omega⟩ (by simp) C rfl
theorem k_timesOf_lp {h : HP} {c l : Nat → Nat} {u : Nat} (R : RwT h a N t A f o n L) (hl : 1 ≤ l u ∧ l u ≤ 8) (hc : ∀ k, k < l u → isLt (c (8 * u + k)) = true) : ∀ (r k m : Nat), k + r = L.length → K (nI (m + ofM f c l u (L.drop k))) h → Wp k_Row_timesOf 5 [some (.ref a), some (.long (lN (pkV c (8 * u) (l u)))), none, some (.int (nI m)), some (.int (nI k))] [] h (0, 0) (QI K)
  | 0, k, m, h1, H => wb_Row_timesOf_5_ok (by
      have r1 := R.1
      have hN := r1.2.2.2.2.2
      have hl6 := R.2.2.2.2.2.1
      rw [List.drop_of_length_le (by omega)] at H
      unfold wb_Row_timesOf_5
      simp (disch := omega) only [i0, i1, nLit, mul_I, add_I, nI_cl, isO_stI, isA_stI, isL_stI, gR_stI, gJ_stI, gK_stI, gL_stI, gS_stI, true_and, and_true, forall_eq, implies_true, ps_339, rS_o r1, R.2.1.1, le_I]
      exact ⟨fun _ => H, fun z => absurd (by omega) z⟩)
  | r + 1, k, m, h1, H => wb_Row_timesOf_5_ok (by
      have r1 := R.1
      have hN := r1.2.2.2.2.2
      have hl6 := R.2.2.2.2.2.1
      have hj : k < L.length := by omega
      have E := RwT_E R hj
      have T := R.2.2.2.2.1
      have htn := tx_n T
      rw [List.drop_eq_getElem_cons hj, ofM] at H
      generalize L[k] = x at *
      obtain ⟨e1, ⟨e2, e3, e4⟩, e5, e6⟩ := id E
      have go := k_timesOf_lp R hl hc r (k + 1)
      unfold wb_Row_timesOf_5
      simp (disch := omega) only [i0, i1, nLit, mul_I, add_I, nI_cl, isO_stI, isA_stI, isL_stI, gR_stI, gJ_stI, gK_stI, gL_stI, gS_stI, true_and, and_true, forall_eq, implies_true, ps_339, rS_o r1, rS_0 r1, rS_1 r1, rS_2 r1, rS_l0 r1, rS_l1 r1, rS_l2 r1, R.2.1.1, R.2.2.1, le_I, e2, e3, e4, eq_I]
      refine ⟨fun z => absurd z (by omega), fun _ => ⟨fun c0 => go m (by omega) ?_, fun c0 => ⟨R.2.2.2.1, k_packed T (by omega) (by omega) ?_⟩⟩⟩
      · have : ttM f c l x u = false := by simp [ttM, c0]
        simpa [this] using H
      · rw [show o + (x.2.1 - o) = x.2.1 by omega, show x.2.1 - o + x.2.2 - (x.2.1 - o) = x.2.2 by omega]
        have hg := e6.1 c0
        have b1 : pkI f x.2.1 x.2.2 < 2 ^ 63 := by
          unfold pkI
          split
          · rename_i q; exact pkV_63 (iwM_le q).2 hg
          · decide
        rw [lN_inj b1 (pkV_63 hl.2 hc), pk_tt c0 hg hl hc]
        refine ⟨fun c1 => go m (by omega) ?_, fun c1 => go (m + 1) (by omega) ?_⟩
        · simpa [c1] using H
        · rw [if_pos c1] at H
          rwa [Nat.add_assoc])
theorem k_timesOf {h : HP} {c l : Nat → Nat} {u : Nat} (R : RwT h a N t A f o n L) (hl : 1 ≤ l u ∧ l u ≤ 8) (hc : ∀ k, k < l u → isLt (c (8 * u + k)) = true) (H : K (nI (ofM f c l u L)) h) : wq_Row_timesOf a (lN (pkV c (8 * u) (l u))) h K :=
  k_timesOf_lp R hl hc L.length 0 0 (by omega) (by rw [Nat.zero_add]; exact H)
end KNS
