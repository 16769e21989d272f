abbrev PcL : Type := List (Nat × Nat × Nat)
def SmO (h : HP) (f : Nat → Nat) (LA LB : PcL) (i j : Nat) : Prop := ∀ i' j', i' ≤ LA.length → j' ≤ LB.length → (i < i' ∨ (i' = i ∧ j ≤ j')) → gI h 354 (21 * i' + j') = nI (wk f (LA.drop i') (LB.drop j'))
theorem getD_at {L : PcL} {i : Nat} (h : i < L.length) : L.getD i (0, 0, 0) = L[i] := by
  rw [List.getD_eq_getElem?_getD, List.getElem?_eq_getElem h]
  rfl
theorem wk_ij {f : Nat → Nat} {LA LB : PcL} {i j b0 b1 b2 : Nat} (hi : i ≤ LA.length) (hj : j ≤ LB.length) (hA : LA.length ≤ 20) (hB : LB.length ≤ 20)
    (e0 : b0 = if i = LA.length ∧ j = LB.length then 0 else 1000000)
    (e1 : b1 = if i < LA.length ∧ j < LB.length then wk f (LA.drop (i + 1)) (LB.drop (j + 1)) + kcM f (LA.getD i (0, 0, 0)) (LB.getD j (0, 0, 0)) else b0)
    (e2 : b2 = if i < LA.length ∧ wk f (LA.drop (i + 1)) (LB.drop j) + lcM (LA.getD i (0, 0, 0)) < b1 then wk f (LA.drop (i + 1)) (LB.drop j) + lcM (LA.getD i (0, 0, 0)) else b1) :
    (if j < LB.length ∧ wk f (LA.drop i) (LB.drop (j + 1)) + lcM (LB.getD j (0, 0, 0)) < b2 then wk f (LA.drop i) (LB.drop (j + 1)) + lcM (LB.getD j (0, 0, 0)) else b2) = wk f (LA.drop i) (LB.drop j) := by
  by_cases ci : i < LA.length
  · by_cases cj : j < LB.length
    · rw [if_pos ⟨ci, cj⟩] at e1
      rw [List.drop_eq_getElem_cons ci, List.drop_eq_getElem_cons cj] at *
      rw [getD_at ci, getD_at cj] at *
      rw [wk_cc]
      simp only [ci, cj, true_and] at e2 ⊢
      repeat' split at e2
      all_goals (split <;> omega)
    · have ej : j = LB.length := by omega
      have ed : LB.drop j = [] := List.drop_of_length_le (by omega)
      rw [if_neg (by omega)] at e1 e0
      rw [ed, getD_at ci] at e2
      rw [if_neg (by omega), List.drop_eq_getElem_cons ci, ed, wk_cn]
      have := wk_le f (LA.drop (i + 1)) []
      have := lcM_le LA[i]
      rw [List.length_drop, List.length_nil] at *
      rw [if_pos (by omega)] at e2
      exact e2
  · have ei : i = LA.length := by omega
    have ed : LA.drop i = [] := List.drop_of_length_le (by omega)
    rw [if_neg (by omega)] at e1 e2
    by_cases cj : j < LB.length
    · rw [if_neg (by omega)] at e0
      rw [List.drop_eq_getElem_cons cj, ed] at *
      rw [getD_at cj] at *
      have := wk_le f [] (LB.drop (j + 1))
      have := lcM_le LB[j]
      rw [List.length_drop, List.length_nil] at *
      rw [if_pos (by omega), wk_nc]
    · have ed2 : LB.drop j = [] := List.drop_of_length_le (by omega)
      rw [if_pos (by omega)] at e0
      rw [if_neg (by omega), ed, ed2, e2, e1, e0]
      rfl
section MWL
variable {h0 : HP} {f : Nat → Nat} {LA LB : PcL} {K : Int32 → HP → Prop}
theorem m_work_in (B0 : MBy h0 f) (PA : PlR h0 0 LA) (PB : PlR h0 1 LB) (WA : ∀ x ∈ LA, WfP x) (WB : ∀ x ∈ LB, WfP x) (hA : LA.length ≤ 20) (hB : LB.length ≤ 20) {i : Nat} (hi : i ≤ LA.length) (H : ∀ h', FrX [354] h0 h' → SmO h' f LA LB i 0 → Wp k_M_work 16 [some (.ref 338), some (.int (nI LA.length)), some (.int (nI LB.length)), some (.int (tI i)), none, none, none] [] h' (0, 0) (QI K)) :
    ∀ (k : Nat) (h : HP), k ≤ LB.length + 1 → FrX [354] h0 h → SmO h f LA LB i k → Wp k_M_work 23 [some (.ref 338), some (.int (nI LA.length)), some (.int (nI LB.length)), some (.int (nI i)), some (.int (tI k)), none, none] [] h (0, 0) (QI K)
  | 0, h, hk, F, S => wb_M_work_23_ok (by
      unfold wb_M_work_23
      simp only [i1, dec_I]
      exact ⟨fun _ => H h F S, fun c => absurd (by decide) c⟩)
  | j + 1, h, hk, F, S => wb_M_work_23_ok (by
      have B := FrX_MBy F (by decide) B0
      have PA' := FrX_PlR F (by decide) (by decide) (by decide) (by decide) PA
      have PB' := FrX_PlR F (by decide) (by decide) (by decide) (by decide) PB
      have go : ∀ b0, b0 = (if i = LA.length ∧ j = LB.length then 0 else 1000000) → wb_M_work_54 338 (nI LA.length) (nI LB.length) (nI i) (nI j) (nI (21 * i + j)) (nI b0) h K := by
        intro b0 e0
        have q1 : ∀ ci : i < LA.length, PE h (0 + i) (LA.getD i (0, 0, 0)) := fun ci => by rw [getD_at ci]; exact PlR_PE PA' (by omega) WA ci
        have q2 : ∀ cj : j < LB.length, PE h (600 + j) (LB.getD j (0, 0, 0)) := fun cj => by rw [getD_at cj]; exact PlR_PE PB' (by omega) WB cj
        have l1 := wk_le f (LA.drop (i + 1)) (LB.drop (j + 1))
        have l2 := wk_le f (LA.drop (i + 1)) (LB.drop j)
        have l3 := wk_le f (LA.drop i) (LB.drop (j + 1))
        have l4 := kcM_le f (LA.getD i (0, 0, 0)) (LB.getD j (0, 0, 0))
        rw [List.length_drop, List.length_drop] at l1 l2 l3
        have b0l : b0 ≤ 1000000 := by rw [e0]; split <;> omega
        refine m_work_54 (x := LA.getD i (0, 0, 0)) (y := LB.getD j (0, 0, 0)) (s1 := wk f (LA.drop (i + 1)) (LB.drop (j + 1))) B hi (by omega) hA hB q1 q2 (fun a b => ?_) ?_
        · rw [show 21 * i + j + 22 = 21 * (i + 1) + (j + 1) by omega]
          exact S (i + 1) (j + 1) (by omega) (by omega) (Or.inl (by omega))
        generalize e1 : (if i < LA.length ∧ j < LB.length then wk f (LA.drop (i + 1)) (LB.drop (j + 1)) + kcM f (LA.getD i (0, 0, 0)) (LB.getD j (0, 0, 0)) else b0) = b1
        have b1l : b1 ≤ 1000000 := by rw [← e1]; split <;> omega
        refine m_work_93 (x := LA.getD i (0, 0, 0)) (s2 := wk f (LA.drop (i + 1)) (LB.drop j)) B.1 hi (by omega) hA hB b1l q1 (fun a => ?_) (by omega) ?_
        · rw [show 21 * i + j + 21 = 21 * (i + 1) + j by omega]
          exact S (i + 1) j (by omega) (by omega) (Or.inl (by omega))
        generalize e2 : (if i < LA.length ∧ wk f (LA.drop (i + 1)) (LB.drop j) + lcM (LA.getD i (0, 0, 0)) < b1 then wk f (LA.drop (i + 1)) (LB.drop j) + lcM (LA.getD i (0, 0, 0)) else b1) = b2
        have b2l : b2 ≤ 1000000 := by rw [← e2]; split <;> omega
        refine m_work_141 (y := LB.getD j (0, 0, 0)) (s3 := wk f (LA.drop i) (LB.drop (j + 1))) B.1 hi (by omega) hA hB b2l q2 (fun a => ?_) (by omega) ?_
        · exact S i (j + 1) (by omega) (by omega) (Or.inr ⟨rfl, by omega⟩)
        rw [wk_ij hi (by omega) hA hB e0 e1.symm e2.symm]
        refine m_work_in B0 PA PB WA WB hA hB hi H j _ (by omega) (FrX_st F (by decide)) (fun i' j' hi' hj' hc => ?_)
        rw [gI_stI]
        by_cases z : i' = i ∧ j' = j
        · rw [if_pos ⟨rfl, by omega⟩, z.1, z.2]
        · rw [if_neg (by omega)]
          exact S i' j' hi' hj' (by omega)
      unfold wb_M_work_23
      simp (disch := omega) only [tI, i0, i1, nLit, mul_I, add_I, nI_cl, lt_I, eq_I, Nat.not_lt_zero, false_imp_iff, not_false_eq_true, true_and, forall_const]
      refine ⟨fun c => go _ (by rw [if_neg (by omega)]), fun c => ⟨fun c2 => go _ (by rw [if_neg (by omega)]), fun c2 => go _ (by rw [if_pos (by omega)])⟩⟩)
theorem m_work_lp (B0 : MBy h0 f) (PA : PlR h0 0 LA) (PB : PlR h0 1 LB) (WA : ∀ x ∈ LA, WfP x) (WB : ∀ x ∈ LB, WfP x) (hA : LA.length ≤ 20) (hB : LB.length ≤ 20) (H : ∀ h', FrX [354] h0 h' → SmO h' f LA LB 0 0 → K (nI (wk f LA LB)) h') :
    ∀ (q : Nat) (h : HP), q ≤ LA.length + 1 → FrX [354] h0 h → SmO h f LA LB q 0 → Wp k_M_work 16 [some (.ref 338), some (.int (nI LA.length)), some (.int (nI LB.length)), some (.int (tI q)), none, none, none] [] h (0, 0) (QI K)
  | 0, h, hk, F, S => wb_M_work_16_ok (by
      have hM := FrX_MSh F B0.1
      have hz : gI h 354 0 = nI (wk f LA LB) := S 0 0 (by omega) (by omega) (Or.inr ⟨rfl, Nat.le_refl 0⟩)
      unfold wb_M_work_16
      refine ⟨fun _ => ?_, fun c => absurd (by decide) c⟩
      simp (disch := omega) only [i0, i1, nLit, mul_I, add_I, nI_cl, isO_stI, isA_stI, isL_stI, gR_stI, gJ_stI, gK_stI, gL_stI, gS_stI, true_and, and_true, forall_eq, implies_true, ps_339, MSh_o hM, mR_sums hM, mL_sums hM, mA_sums hM, hz]
      exact H h F S)
  | i + 1, h, hk, F, S => wb_M_work_16_ok (by
      unfold wb_M_work_16
      simp only [tI]
      refine ⟨fun c => absurd c (nI_pos (by omega)), fun _ => ?_⟩
      refine m_work_in B0 PA PB WA WB hA hB (by omega) (fun h' F' S' => m_work_lp B0 PA PB WA WB hA hB H i h' (by omega) F' S') (LB.length + 1) h (Nat.le_refl _) F (fun i' j' a b c => S i' j' a b (by omega)))
theorem m_work (B0 : MBy h0 f) (PA : PlR h0 0 LA) (PB : PlR h0 1 LB) (WA : ∀ x ∈ LA, WfP x) (WB : ∀ x ∈ LB, WfP x) (hA : LA.length ≤ 20) (hB : LB.length ≤ 20) (H : ∀ h', FrX [354] h0 h' → SmO h' f LA LB 0 0 → K (nI (wk f LA LB)) h') : wq_M_work 338 h0 K := by
  have hM := B0.1
  unfold wq_M_work
  simp (disch := omega) only [i0, i1, nLit, mul_I, add_I, nI_cl, isO_stI, isA_stI, isL_stI, gR_stI, gJ_stI, gK_stI, gL_stI, gS_stI, true_and, and_true, forall_eq, implies_true, ps_339, MSh_o hM, mR_solid hM, mL_solid hM, mA_solid hM, PA.1, PB.1]
  exact m_work_lp B0 PA PB WA WB hA hB H (LA.length + 1) h0 (Nat.le_refl _) (FrX_rf _ _) (fun i' j' a b c => absurd c (by omega))
end MWL
/-- the SCORE out of the least sum -/
def scN (f : Nat → Nat) (LA LB : PcL) : Nat := if max LA.length LB.length = 0 then 100 else 100 - 10 * wk f LA LB / max LA.length LB.length
theorem m_scoreOf_36 {h : HP} {f : Nat → Nat} {LA LB : PcL} {K : Int32 → HP → Prop} (B0 : MBy h f) (PA : PlR h 0 LA) (PB : PlR h 1 LB) (WA : ∀ x ∈ LA, WfP x) (WB : ∀ x ∈ LB, WfP x) (hA : LA.length ≤ 20) (hB : LB.length ≤ 20) (H : ∀ h', FrX [354] h h' → K (nI (scN f LA LB)) h') : wb_M_scoreOf_36 338 (nI (max LA.length LB.length)) h K := by
  have hM := B0.1
  have hw := wk_le f LA LB
  unfold wb_M_scoreOf_36
  simp (disch := omega) only [i0, i1, nLit, mul_I, add_I, nI_cl, isO_stI, isA_stI, isL_stI, gR_stI, gJ_stI, gK_stI, gL_stI, gS_stI, true_and, and_true, forall_eq, implies_true, ps_339, MSh_o hM, eq_I]
  refine ⟨fun c => m_work B0 PA PB WA WB hA hB (fun h' F' _ => ⟨c, ?_⟩), fun c => ?_⟩
  · have HK := H h' F'
    rw [scN, if_neg c] at HK
    rw [mul_I, pk_div (by omega) (by omega) (by omega)]
    have hq : 10 * wk f LA LB / max LA.length LB.length ≤ 10 * wk f LA LB := Nat.div_le_self _ _
    generalize 10 * wk f LA LB / max LA.length LB.length = q at *
    by_cases c2 : q ≤ 100
    · rw [sub_I c2]
      exact ⟨fun _ => HK, fun z => absurd ((le_I (by omega) (by omega)).mpr (by omega)) z⟩
    · have := pk_sneg (a := 100) (b := q) (by omega) (by omega)
      rw [show 100 - q = 0 by omega] at HK
      exact ⟨fun z => absurd this (Int32.not_lt.mpr z), fun _ => HK⟩
  · have HK := H h (FrX_rf _ h)
    rw [scN, if_pos c] at HK
    exact HK
