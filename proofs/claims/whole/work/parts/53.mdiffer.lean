/-! the model's steps -/
def stp (f : Nat → Nat) (LA LB : PcL) : Nat → Nat → Nat → StepL
  | 0, _, _ => []
  | k + 1, i, j => if i < LA.length ∧ j < LB.length ∧ wk f (LA.drop i) (LB.drop j) = wk f (LA.drop (i + 1)) (LB.drop (j + 1)) + kcM f (LA.getD i (0, 0, 0)) (LB.getD j (0, 0, 0)) then ((if kcM f (LA.getD i (0, 0, 0)) (LB.getD j (0, 0, 0)) = 0 then 0 else 1), nI i, nI j) :: stp f LA LB k (i + 1) (j + 1)
    else if i < LA.length ∧ wk f (LA.drop i) (LB.drop j) = wk f (LA.drop (i + 1)) (LB.drop j) + lcM (LA.getD i (0, 0, 0)) then (2, nI i, -nI 1) :: stp f LA LB k (i + 1) j
    else if i < LA.length ∨ j < LB.length then (3, -nI 1, nI j) :: stp f LA LB k i (j + 1) else []
theorem stp_len (f : Nat → Nat) (LA LB : PcL) : ∀ k i j, (stp f LA LB k i j).length ≤ k ∧ ∀ x ∈ stp f LA LB k i j, x.1 ≤ 3
  | 0, _, _ => ⟨Nat.le_refl 0, fun x hx => absurd hx (by simp [stp])⟩
  | k + 1, i, j => by
    have a := stp_len f LA LB k (i + 1) (j + 1)
    have b := stp_len f LA LB k (i + 1) j
    have c := stp_len f LA LB k i (j + 1)
    unfold stp
    split
    · refine ⟨by rw [List.length_cons]; omega, fun x hx => ?_⟩
      rcases List.mem_cons.mp hx with q | q
      · rw [q]; show (if _ then 0 else 1) ≤ 3; split <;> omega
      · exact a.2 x q
    · split
      · refine ⟨by rw [List.length_cons]; omega, fun x hx => ?_⟩
        rcases List.mem_cons.mp hx with q | q
        · rw [q]; show 2 ≤ 3; omega
        · exact b.2 x q
      · split
        · refine ⟨by rw [List.length_cons]; omega, fun x hx => ?_⟩
          rcases List.mem_cons.mp hx with q | q
          · rw [q]; exact Nat.le_refl 3
          · exact c.2 x q
        · exact ⟨Nat.zero_le _, fun x hx => absurd hx (by simp)⟩
/-- behind a reading and work: the steps told so far are d -/
def Dst (h0 h : HP) (d : StepL) : Prop := h.2 = h0.2 ∧ (∀ a, a ≠ 338 → a ≠ 356 → a ≠ 357 → a ≠ 358 → gI h a = gI h0 a) ∧ (∀ k, k ≠ 28 → gI h 338 k = gI h0 338 k) ∧ MSt h d
theorem Dst_step {h0 h : HP} {d : StepL} {k : Nat} {a b : Int32} {K : HP → Prop} (hM0 : MSh h0) (D : Dst h0 h d) (hd : d.length < 2000) (H : ∀ h', Dst h0 h' (d ++ [(k, a, b)]) → K h') : wq_M_step 338 (nI k) a b h K := by
  obtain ⟨d1, d2, d3, d4, d5⟩ := D
  have hM := MSh_2 d1 hM0
  unfold wq_M_step
  simp (disch := omega) only [i0, i1, nLit, mul_I, add_I, nI_cl, isO_stI, isA_stI, isL_stI, gR_stI, gJ_stI, gK_stI, gL_stI, gS_stI, true_and, and_true, forall_eq, implies_true, ps_339, MSh_o hM, mR_stepKind hM, mL_stepKind hM, mA_stepKind hM, mR_stepA hM, mL_stepA hM, mA_stepA hM, mR_stepB hM, mL_stepB hM, mA_stepB hM, d4, gI_stI_o]
  refine H _ ⟨d1, fun q q1 q2 q3 q4 => ?_, fun q q1 => ?_, ?_, fun j x hj => ?_⟩
  · rw [gI_stI_o _ _ _ _ q1, gI_stI_o _ _ _ _ q4, gI_stI_o _ _ _ _ q3, gI_stI_o _ _ _ _ q2]
    exact d2 q q1 q2 q3 q4
  · rw [gI_stI, if_neg (by omega), gI_stI_o _ _ _ _ (by decide), gI_stI_o _ _ _ _ (by decide), gI_stI_o _ _ _ _ (by decide)]
    exact d3 q q1
  · rw [gI_stI, if_pos ⟨rfl, rfl⟩, List.length_append]
    rfl
  · have e1 : ∀ v : Int32, gI (stI (stI (stI (stI h 356 d.length (nI k)) 357 d.length a) 358 d.length b) 338 28 v) 356 j = if j = d.length then nI k else gI h 356 j := fun v => by
      rw [gI_stI_o _ _ _ _ (by decide), gI_stI_o _ _ _ _ (by decide), gI_stI_o _ _ _ _ (by decide), gI_stI]; simp
    have e2 : ∀ v : Int32, gI (stI (stI (stI (stI h 356 d.length (nI k)) 357 d.length a) 358 d.length b) 338 28 v) 357 j = if j = d.length then a else gI h 357 j := fun v => by
      rw [gI_stI_o _ _ _ _ (by decide), gI_stI_o _ _ _ _ (by decide), gI_stI, gI_stI_o _ _ _ _ (by decide)]; simp
    have e3 : ∀ v : Int32, gI (stI (stI (stI (stI h 356 d.length (nI k)) 357 d.length a) 358 d.length b) 338 28 v) 358 j = if j = d.length then b else gI h 358 j := fun v => by
      rw [gI_stI_o _ _ _ _ (by decide), gI_stI, gI_stI_o _ _ _ _ (by decide), gI_stI_o _ _ _ _ (by decide)]; simp
    rw [e1, e2, e3]
    by_cases z : j = d.length
    · rw [if_pos z, if_pos z, if_pos z]
      rw [z, List.getElem?_append_right (Nat.le_refl _), Nat.sub_self] at hj
      cases hj
      exact ⟨rfl, rfl, rfl⟩
    · rw [if_neg z, if_neg z, if_neg z]
      have hl := (List.getElem?_eq_some_iff.mp hj).1
      rw [List.length_append] at hl
      have : j < d.length := by simp at hl; omega
      rw [List.getElem?_append_left this] at hj
      exact d5 j x hj
section MDF
variable {h0 : HP} {f : Nat → Nat} {LA LB : PcL} {K : Int32 → HP → Prop}
theorem Dst_B {h : HP} {d : StepL} (D : Dst h0 h d) (B : MBy h0 f) : MBy h f := ⟨MSh_2 D.1 B.1, fun i hi => by rw [D.2.1 339 (by decide) (by decide) (by decide) (by decide)]; exact B.2.1 i hi, B.2.2⟩
theorem Dst_P {h : HP} {d : StepL} {pl : Nat} {L : PcL} (D : Dst h0 h d) (P : PlR h0 pl L) : PlR h pl L := by
  have g := D.2.1
  unfold PlR at *
  rw [g 345 (by decide) (by decide) (by decide) (by decide), g 341 (by decide) (by decide) (by decide) (by decide), g 342 (by decide) (by decide) (by decide) (by decide), g 343 (by decide) (by decide) (by decide) (by decide)]
  exact P
theorem m_differ_lp (B0 : MBy h0 f) (PA : PlR h0 0 LA) (PB : PlR h0 1 LB) (WA : ∀ x ∈ LA, WfP x) (WB : ∀ x ∈ LB, WfP x) (hA : LA.length ≤ 20) (hB : LB.length ≤ 20) (S : SmO h0 f LA LB 0 0) :
    ∀ (k i j : Nat) (d : StepL) (h : HP), i ≤ LA.length → j ≤ LB.length → LA.length - i + (LB.length - j) ≤ k → d.length + k ≤ 1000 → Dst h0 h d → (∀ h', Dst h0 h' (d ++ stp f LA LB k i j) → K (nI (d ++ stp f LA LB k i j).length) h') →
    Wp k_M_differ 40 [some (.ref 338), none, none, none, some (.int (nI i)), some (.int (nI j)), none, none, none] [] h (0, 0) (QI K) := by
  intro k
  induction k with
  | zero =>
    intro i j d h hi hj hk hd D H
    have hM := MSh_2 D.1 B0.1
    have PA' := Dst_P D PA
    have PB' := Dst_P D PB
    refine wb_M_differ_40_ok ?_
    unfold wb_M_differ_40
    simp (disch := omega) only [i0, i1, nLit, mul_I, add_I, nI_cl, isO_stI, isA_stI, isL_stI, gR_stI, gJ_stI, gK_stI, gL_stI, gS_stI, true_and, and_true, forall_eq, implies_true, ps_339, MSh_o hM, mR_solid hM, mL_solid hM, mA_solid hM, PA'.1, PB'.1, lt_I, le_I, D.2.2.2.1]
    have HK := H h (by simpa [stp] using D)
    simp only [stp, List.append_nil] at HK
    exact ⟨fun c => absurd c (by omega), fun _ => ⟨fun _ => HK, fun c => absurd c (by omega)⟩⟩
  | succ k ih =>
    intro i j d h hi hj hk hd D H
    have hM := MSh_2 D.1 B0.1
    have B := Dst_B D B0
    have PA' := Dst_P D PA
    have PB' := Dst_P D PB
    have S' : ∀ i' j', i' ≤ LA.length → j' ≤ LB.length → gI h 354 (21 * i' + j') = nI (wk f (LA.drop i') (LB.drop j')) := fun i' j' a b => by
      rw [D.2.1 354 (by decide) (by decide) (by decide) (by decide)]
      exact S i' j' a b (by omega)
    have l0 := wk_le f (LA.drop i) (LB.drop j)
    have l1 := wk_le f (LA.drop (i + 1)) (LB.drop (j + 1))
    have l2 := wk_le f (LA.drop (i + 1)) (LB.drop j)
    have l4 := kcM_le f (LA.getD i (0, 0, 0)) (LB.getD j (0, 0, 0))
    have l5 := lcM_le (LA.getD i (0, 0, 0))
    rw [List.length_drop, List.length_drop] at l0 l1 l2
    have q1 : ∀ ci : i < LA.length, PE h (0 + i) (LA.getD i (0, 0, 0)) := fun ci => by rw [getD_at ci]; exact PlR_PE PA' (by omega) WA ci
    have q2 : ∀ cj : j < LB.length, PE h (600 + j) (LB.getD j (0, 0, 0)) := fun cj => by rw [getD_at cj]; exact PlR_PE PB' (by omega) WB cj
    have n1 : ∀ ci : i < LA.length, ¬ wk f (LA.drop i) (LB.drop j) = wk f (LA.drop (i + 1)) (LB.drop j) + lcM (LA.getD i (0, 0, 0)) → j < LB.length := fun ci c => by
      by_cases z : j < LB.length
      · exact z
      · refine absurd ?_ c
        rw [List.drop_of_length_le (by omega : LB.length ≤ j), List.drop_eq_getElem_cons ci, getD_at ci, wk_cn]
    have put : ∀ hc : j < LB.length, ¬ (i < LA.length ∧ j < LB.length ∧ wk f (LA.drop i) (LB.drop j) = wk f (LA.drop (i + 1)) (LB.drop (j + 1)) + kcM f (LA.getD i (0, 0, 0)) (LB.getD j (0, 0, 0))) → ¬ (i < LA.length ∧ wk f (LA.drop i) (LB.drop j) = wk f (LA.drop (i + 1)) (LB.drop j) + lcM (LA.getD i (0, 0, 0))) → wq_M_step 338 (nI 3) (-nI 1) (nI j) h (fun h51 => Wp k_M_differ 40 [some (.ref 338), none, none, none, some (.int (nI i)), some (.int (nI (j + 1))), none, none, none] [] h51 (0, 0) (QI K)) := by
      intro hc a1 a2
      have e : stp f LA LB (k + 1) i j = (3, -nI 1, nI j) :: stp f LA LB k i (j + 1) := by
        show (if _ then _ else _) = _
        rw [if_neg a1, if_neg a2, if_pos (Or.inr hc)]
      refine Dst_step B0.1 D (by omega) (fun h' D' => ih i (j + 1) _ h' hi (by omega) (by omega) (by rw [List.length_append, List.length_singleton]; omega) D' (fun h2 D2 => ?_))
      rw [List.append_assoc, List.singleton_append, ← e] at D2 ⊢
      exact H h2 D2
    have b181 : ¬ (i < LA.length ∧ j < LB.length ∧ wk f (LA.drop i) (LB.drop j) = wk f (LA.drop (i + 1)) (LB.drop (j + 1)) + kcM f (LA.getD i (0, 0, 0)) (LB.getD j (0, 0, 0))) → (i < LA.length ∨ j < LB.length) → wb_M_differ_181 338 (nI i) (nI j) (nI (21 * i + j)) h K := by
      intro a1 ho
      unfold wb_M_differ_181
      simp (disch := omega) only [i0, i1, nLit, mul_I, add_I, nI_cl, isO_stI, isA_stI, isL_stI, gR_stI, gJ_stI, gK_stI, gL_stI, gS_stI, true_and, and_true, forall_eq, implies_true, ps_339, MSh_o hM, mR_solid hM, mL_solid hM, mA_solid hM, mR_sums hM, mL_sums hM, mA_sums hM, PA'.1, le_I]
      refine ⟨fun c => put (by omega) a1 (by omega), fun c => ?_⟩
      refine ⟨mL_sums hM (by omega), m_loneCost hM (q1 (by omega)) ?_⟩
      rw [show 21 * i + j + 21 = 21 * (i + 1) + j by omega, S' i j hi hj, S' (i + 1) j (by omega) hj, add_I]
      simp (disch := omega) only [eq_I]
      refine ⟨fun c2 => ⟨MSh_o hM, put (n1 (by omega) c2) a1 (fun z => c2 z.2)⟩, fun c2 => ⟨MSh_o hM, ?_⟩⟩
      have e : stp f LA LB (k + 1) i j = (2, nI i, -nI 1) :: stp f LA LB k (i + 1) j := by
        show (if _ then _ else _) = _
        rw [if_neg a1, if_pos ⟨by omega, c2⟩]
      refine Dst_step B0.1 D (by omega) (fun h' D' => ih (i + 1) j _ h' (by omega) hj (by omega) (by rw [List.length_append, List.length_singleton]; omega) D' (fun h2 D2 => ?_))
      rw [List.append_assoc, List.singleton_append, ← e] at D2 ⊢
      exact H h2 D2
    have b62 : (i < LA.length ∨ j < LB.length) → wb_M_differ_62 338 (nI i) (nI j) h K := by
      intro ho
      unfold wb_M_differ_62 wb_M_differ_99 wb_M_differ_124
      simp (disch := omega) only [i0, i1, nLit, mul_I, add_I, nI_cl, isO_stI, isA_stI, isL_stI, gR_stI, gJ_stI, gK_stI, gL_stI, gS_stI, true_and, and_true, forall_eq, implies_true, ps_339, MSh_o hM, mR_solid hM, mL_solid hM, mA_solid hM, mR_sums hM, mL_sums hM, mA_sums hM, PA'.1, PB'.1, le_I, forall_const, not_true_eq_false, false_imp_iff, show (nI 1 = nI 0) = False from eq_false (by decide), not_false_eq_true]
      refine ⟨fun c => b181 (by omega) ho, fun c => ⟨fun c2 => b181 (by omega) ho, fun c2 => ?_⟩⟩
      refine m_keepCost B (q1 (by omega)) (q2 (by omega)) ?_
      have e22 := S' (i + 1) (j + 1) (by omega) (by omega)
      rw [show 21 * (i + 1) + (j + 1) = 21 * i + j + 22 by omega] at e22
      simp (disch := omega) only [i0, i1, nLit, mul_I, add_I, nI_cl, isO_stI, isA_stI, isL_stI, gR_stI, gJ_stI, gK_stI, gL_stI, gS_stI, true_and, and_true, forall_eq, implies_true, ps_339, MSh_o hM, mR_solid hM, mL_solid hM, mA_solid hM, mR_sums hM, mL_sums hM, mA_sums hM, eq_I, S' i j hi hj, e22]
      refine ⟨fun c3 => b181 (fun z => c3 z.2.2) ho, fun c3 => ⟨fun c4 => ?_, fun c4 => ?_⟩⟩
      · have e : stp f LA LB (k + 1) i j = (1, nI i, nI j) :: stp f LA LB k (i + 1) (j + 1) := by
          show (if _ then _ else _) = _
          rw [if_pos ⟨by omega, by omega, c3⟩, if_neg c4]
        refine Dst_step B0.1 D (by omega) (fun h' D' => ih (i + 1) (j + 1) _ h' (by omega) (by omega) (by omega) (by rw [List.length_append, List.length_singleton]; omega) D' (fun h2 D2 => ?_))
        rw [List.append_assoc, List.singleton_append, ← e] at D2 ⊢
        exact H h2 D2
      · have e : stp f LA LB (k + 1) i j = (0, nI i, nI j) :: stp f LA LB k (i + 1) (j + 1) := by
          show (if _ then _ else _) = _
          rw [if_pos ⟨by omega, by omega, c3⟩, if_pos c4]
        refine Dst_step B0.1 D (by omega) (fun h' D' => ih (i + 1) (j + 1) _ h' (by omega) (by omega) (by omega) (by rw [List.length_append, List.length_singleton]; omega) D' (fun h2 D2 => ?_))
        rw [List.append_assoc, List.singleton_append, ← e] at D2 ⊢
        exact H h2 D2
    refine wb_M_differ_40_ok ?_
    unfold wb_M_differ_40
    simp (disch := omega) only [i0, i1, nLit, mul_I, add_I, nI_cl, isO_stI, isA_stI, isL_stI, gR_stI, gJ_stI, gK_stI, gL_stI, gS_stI, true_and, and_true, forall_eq, implies_true, ps_339, MSh_o hM, mR_solid hM, mL_solid hM, mA_solid hM, PA'.1, PB'.1, lt_I, le_I, D.2.2.2.1]
    refine ⟨fun c => b62 (by omega), fun c => ⟨fun c2 => ?_, fun c2 => b62 (by omega)⟩⟩
    have e : stp f LA LB (k + 1) i j = [] := by
      show (if _ then _ else _) = _
      rw [if_neg (by omega), if_neg (by omega), if_neg (by omega)]
    rw [e, List.append_nil] at H
    exact H h D
end MDF
