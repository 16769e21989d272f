section KR2
variable {B : Nat → Nat} {σ : St} {h : HP}
def X326 (b : Nat) : Prop := 326 ≤ b ∧ b ≤ 329
theorem X326_q : ∀ a, X326 a → Xq B a := fun a z => Or.inr (Or.inr (Or.inr (Or.inr (Or.inl ⟨by unfold X326 at z; omega, by unfold X326 at z; omega⟩))))
/-- reading a row of renderings, or the tape -/
theorem kr_read {r : Nat} {K : HP → Prop} (I : InvK B σ h) (w : WF σ) (hr : r < 62) (h2 : r = 0 ∨ 22 ≤ r) (H : ∀ h', AgY X326 Y3 h h' → RwT h' 326 600 (txA r) (B r) (sf σ) (600 * r) (sz σ r) (pcRw σ r) → gI h' 326 4 = nI 0 → gI h' 326 5 = nI (sz σ r) → K h') : wq_Row_read 326 (txA r) (nI 0) (nI (sz σ r)) (nI 44) h K := by
  have S := I.1
  have T := I.2.1.1 r hr
  have hz := w.1.2 r hr
  have ta := I.2.1.2.2.2.1 r (by omega)
  unfold isTA at ta
  have tc := txA_c r
  have ep : pcRw σ r = pcs (atM (sf σ) (600 * r + sz σ r)) 44 (600 * r + sz σ r) false 600 (600 * r + 0) := by
    unfold pcRw
    rw [if_pos (by omega)]
    rfl
  have nt : ¬ RwX 326 (txA r) := fun z => by unfold RwX at z; omega
  have nA : ¬ RwX 326 (B r) := fun z => by unfold RwX at z; omega
  refine k_read S.2.2.2.2.2.2.2 T (Nat.le_refl _) (Nat.zero_le _) (by omega) ⟨by decide, by decide⟩ T.1.1 nt nA (pcs_len _ _ _ _ _ _) (fun h' A' g' R' => ?_)
  rw [← ep] at R'
  have G : AgY X326 Y3 h h' := Ag_Y A' g'
  refine H h' G ⟨R'.1, R'.2.1, ?_, T.1.1, TxO_y G (fun z => nt ⟨z.1, z.2⟩) (fun z => nA ⟨z.1, z.2⟩) (fun z => by have := z.1; omega) T, pcRw_len σ r, ?_⟩ R'.2.2.1 R'.2.2.2.1
  · rw [g', gR_stR, if_pos ⟨rfl, rfl⟩]
  · exact pcs_T (Nat.le_refl _) (Nat.le_refl _)
theorem k_isTapeTorn {K : Int32 → HP → Prop} (I : InvK B σ h) (w : WF σ) (H : ∀ h', Qs B σ h h' → K (b2I (trT σ)) h') : wq_K_isTapeTorn 1 h K := by
  have S := I.1
  have T := IK_0 I
  have hz := w.1.2 0 (by omega)
  have r1 : RwS h 326 600 := S.2.2.2.2.2.2.2
  unfold wq_K_isTapeTorn
  simp only [i0, i1, nLit, mul_I, add_I, nI_cl, isO_stI, isA_stI, isL_stI, gR_stI, gJ_stI, gK_stI, gL_stI, gS_stI, true_and, and_true, forall_eq, implies_true, ps_339, kO_1 S, kR_1_0 S, kR_1_7 S, tx_o T, rS_o r1, T.2.2.2.1]
  refine kr_read (r := 0) I w (by omega) (Or.inl rfl) (fun h1 G1 R1 _ _ => ?_)
  have S1 := KSh_y G1 Y3_dy S
  have t0 := I.2.1.2.2.2.1 0 (by decide)
  unfold isTA at t0
  simp only [i0, i1, nLit, mul_I, add_I, nI_cl, isO_stI, isA_stI, isL_stI, gR_stI, gJ_stI, gK_stI, gL_stI, gS_stI, true_and, and_true, forall_eq, implies_true, ps_339, kO_1 S1, kR_1_6 S1, kR_1_7 S1, kO_324 S1]
  refine k_isTorn S1 ⟨by decide, by decide, by decide, by decide, by decide, by omega⟩ R1 hz (pcs_2 _ _) (pcs_Chn _ _ _ (by omega)) (fun h2 G2 => ⟨b2I_01 _, ?_⟩)
  have G3 : AgY (Xq B) Y3 h h2 := AgY_tr (AgY_mono G1 X326_q (fun _ _ z => z)) (AgY_mono G2 (fun a z => by unfold Xq; rw [z]; exact Or.inr (Or.inr (Or.inr (Or.inr (Or.inl ⟨by decide, by decide⟩))))) (fun _ _ z => z.elim))
  exact H h2 ⟨G3, KnO_y G2 (by decide) S1.1 (KnO_y G1 (by unfold X326; decide) S.1 I.2.2.2.2.2.1)⟩
theorem k_readRendering {p : Nat} {K : HP → Prop} (I : InvK B σ h) (w : WF σ) (hp : p < sP σ) (H : ∀ h', Qs B σ h h' → RwT h' 326 600 (232 + 2 * ltR σ p) (B (22 + ltR σ p)) (sf σ) (600 * (22 + ltR σ p)) (sz σ (22 + ltR σ p)) (pcRw σ (22 + ltR σ p)) → gI h' 326 4 = nI 0 → gI h' 326 5 = nI (sz σ (22 + ltR σ p)) → K h') : wq_K_readRenderingOf 1 (nI p) h K := by
  have S := I.1
  have hP := w.2.2.1.1
  have hR := w.2.2.1.2.1
  have hl := ltR_lt w hp
  have el := I.2.2.2.1.2.2.2.1 p hp
  have T22 := IK_22 I (show ltR σ p < 40 by omega)
  have r1 : RwS h 326 600 := S.2.2.2.2.2.2.2
  unfold wq_K_readRenderingOf
  simp (disch := omega) only [i0, i1, nLit, mul_I, add_I, nI_cl, isO_stI, isA_stI, isL_stI, gR_stI, gJ_stI, gK_stI, gL_stI, gS_stI, true_and, and_true, forall_eq, implies_true, ps_339, true_or, or_true, true_imp_iff, not_true_eq_false, not_false_eq_true, false_imp_iff, kO_1 S, kR_1_2 S, kO_105 S, kR_105_0 S, kR_105_1 S, kR_105_2 S, kR_105_3 S, kR_105_4 S, kR_105_5 S, kS_106 S, kK_106 S, kN_106 S, kq_106 S, kS_107 S, kK_107 S, kN_107 S, kq_107 S, kS_109 S, kK_109 S, kN_109 S, kq_109 S, kA_108 S, kL_108 S, kA_110 S, kL_110 S, kA_111 S, kL_111 S, kv_20, kv_40, ps_112, ps_114, ps_232, kR_1_7 S, el, tx_o T22, rS_o r1, T22.2.2.2.1]
  have e22 := tx_22 (show ltR σ p < 40 by omega)
  have := kr_read (r := 22 + ltR σ p) (K := K) I w (by omega) (Or.inr (by omega)) (fun h1 G1 R1 f1 f2 => ?_)
  · rw [e22] at this
    exact this
  · rw [e22] at R1
    exact H h1 ⟨AgY_mono G1 X326_q (fun _ _ z => z), KnO_y G1 (by unfold X326; decide) S.1 I.2.2.2.2.2.1⟩ R1 f1 f2
theorem k_faults_80 {L : PcL} {t A o n N : Nat} {K : Int32 → HP → Prop} (I : InvK B σ h) (w : WF σ) (R : RwT h 326 N t A (sf σ) o n L) (hL : L.length ≤ 600) : ∀ (r k : Nat), k + r = sF σ → K (nI (fbN σ L r k)) h → Wp k_K_faults 80 [some (.ref 1), none, none, some (.int (nI k))] [] h (0, 0) (QI K)
  | 0, k, h1, H => wb_K_faults_80_ok (by
      have S := I.1
      have W := I.2.2.2.2.1.2.2.2
      have hF := w.2.2.2.1.2.2.1
      unfold wb_K_faults_80
      simp (disch := omega) only [i0, i1, nLit, mul_I, add_I, nI_cl, isO_stI, isA_stI, isL_stI, gR_stI, gJ_stI, gK_stI, gL_stI, gS_stI, true_and, and_true, forall_eq, implies_true, ps_339, kO_1 S, kR_1_11 S, W.1, W.2.2.2.2.2.2.2.1, le_I]
      exact ⟨fun _ => H, fun z => absurd (by omega) z⟩)
  | r + 1, k, h1, H => wb_K_faults_80_ok (by
      have S := I.1
      have W := I.2.2.2.2.1.2.2.2
      have hF := w.2.2.2.1.2.2.1
      have wk := W.2.2.2.2.2.2.2.2 k (by omega)
      have r1 := R.1
      have ho := ofM_le (sf σ) (sc σ) (sl σ) (28 + k) L
      unfold wb_K_faults_80
      simp (disch := omega) only [i0, i1, nLit, mul_I, add_I, nI_cl, isO_stI, isA_stI, isL_stI, gR_stI, gJ_stI, gK_stI, gL_stI, gS_stI, true_and, and_true, forall_eq, implies_true, ps_339, kO_1 S, kR_1_7 S, kR_1_11 S, W.1, W.2.1, W.2.2.2.2.2.2.2.1, rS_o r1, wd_A W, wk.1, le_I]
      refine ⟨fun z => absurd z (by omega), fun _ => k_timesOf R wk.2.1 wk.2.2 ?_⟩
      simp (disch := omega) only [le_I]
      refine ⟨fun c => k_faults_80 I w R hL r (k + 1) (by omega) ?_, fun c => ?_⟩
      · rwa [fbN, if_neg (by omega)] at H
      · rwa [fbN, if_pos (by omega)] at H)
theorem k_faults_27 {L LA : PcL} {t A o n N a' t' A' o' n' N' : Nat} {K : Int32 → HP → Prop} (I : InvK B σ h) (w : WF σ) (R : RwT h 326 N t A (sf σ) o n L) (R' : RwT h a' N' t' A' (sf σ) o' n' LA) (hL : L.length ≤ 600) (hLA : LA.length ≤ 600) : ∀ (r k : Nat), k + r = sT σ → K (nI (ftN σ LA L r k)) h → Wp k_K_faults 27 [some (.ref 1), none, some (.ref a'), some (.int (nI k))] [] h (0, 0) (QI K)
  | 0, k, h1, H => wb_K_faults_27_ok (by
      have S := I.1
      have W := I.2.2.2.2.1.2.1
      have hT := w.2.2.2.1.2.1
      unfold wb_K_faults_27
      simp (disch := omega) only [i0, i1, nLit, mul_I, add_I, nI_cl, isO_stI, isA_stI, isL_stI, gR_stI, gJ_stI, gK_stI, gL_stI, gS_stI, true_and, and_true, forall_eq, implies_true, ps_339, kO_1 S, kR_1_9 S, W.1, W.2.2.2.2.2.2.2.1, le_I]
      exact ⟨fun _ => k_faults_80 I w R hL (sF σ) 0 (by omega) H, fun z => absurd (by omega) z⟩)
  | r + 1, k, h1, H => wb_K_faults_27_ok (by
      have S := I.1
      have W := I.2.2.2.2.1.2.1
      have V := I.2.2.2.2.1.2.2.1
      have hT := w.2.2.2.1.2.1
      have wk := W.2.2.2.2.2.2.2.2 k (by omega)
      have vk := V.2.2.2.2.2.2.2.2 k (by omega)
      have r1 := R.1
      have s1 := R'.1
      have ho := ofM_le (sf σ) (sc σ) (sl σ) (8 + k) LA
      have ho2 := ofM_le (sf σ) (sc σ) (sl σ) (18 + k) L
      unfold wb_K_faults_27
      simp (disch := omega) only [i0, i1, nLit, mul_I, add_I, nI_cl, isO_stI, isA_stI, isL_stI, gR_stI, gJ_stI, gK_stI, gL_stI, gS_stI, true_and, and_true, forall_eq, implies_true, ps_339, kO_1 S, kR_1_7 S, kR_1_9 S, kR_1_10 S, W.1, W.2.1, W.2.2.2.2.2.2.2.1, rS_o s1, wd_A W, wk.1, le_I]
      refine ⟨fun z => absurd z (by omega), fun _ => k_timesOf R' wk.2.1 wk.2.2 ?_⟩
      simp (disch := omega) only [i0, i1, nLit, mul_I, add_I, nI_cl, isO_stI, isA_stI, isL_stI, gR_stI, gJ_stI, gK_stI, gL_stI, gS_stI, true_and, and_true, forall_eq, implies_true, ps_339, kO_1 S, kR_1_7 S, kR_1_9 S, kR_1_10 S, V.1, V.2.1, rS_o r1, wd_A V, vk.1]
      refine k_timesOf R vk.2.1 vk.2.2 ?_
      simp (disch := omega) only [eq_I]
      refine ⟨fun c => k_faults_27 I w R R' hL hLA r (k + 1) (by omega) ?_, fun c => ?_⟩
      · rwa [ftN, if_pos c] at H
      · rwa [ftN, if_neg c] at H)
theorem kc_faults {p : Int32} {K : Int32 → HP → Prop} (I : InvK B σ h) (w : WF σ) (H : ∀ h', (∃ B, InvK B σ h') → Fc h h' → K (aFaults σ p) h') : wq_K_faults 1 p h K := by
  have S := I.1
  have hP := w.2.2.1.1
  unfold aFaults at H
  unfold wq_K_faults
  refine ⟨kO_1 S, k_isPair I w ?_⟩
  simp only [i0, i1, nLit, mul_I, add_I, nI_cl, b2I_s]
  rcases ixI_c p (n := sP σ) (by omega) with ⟨e, c⟩ | ⟨q, hq, e, e2⟩
  · simp only [e] at H ⊢
    exact ⟨fun z => absurd (by first | trivial | rfl) z, fun _ => H h ⟨B, I⟩ (Fc_rf h)⟩
  · simp only [e2] at H ⊢
    subst e
    refine ⟨fun _ => ⟨kO_1 S, k_readRendering I w hq (fun h2 Q2 R2 _ _ => ?_)⟩, fun z => absurd z (by simp)⟩
    have I2 := Qs_I Q2 I w
    have S2 := I2.1
    simp (disch := omega) only [i0, i1, nLit, mul_I, add_I, nI_cl, isO_stI, isA_stI, isL_stI, gR_stI, gJ_stI, gK_stI, gL_stI, gS_stI, true_and, and_true, forall_eq, implies_true, ps_339, true_or, or_true, true_imp_iff, not_true_eq_false, not_false_eq_true, false_imp_iff, kO_1 S2, kR_1_2 S2, kO_105 S2, kR_105_0 S2, kR_105_1 S2, kR_105_2 S2, kR_105_3 S2, kR_105_4 S2, kR_105_5 S2, kS_106 S2, kK_106 S2, kN_106 S2, kq_106 S2, kS_107 S2, kK_107 S2, kN_107 S2, kq_107 S2, kS_109 S2, kK_109 S2, kN_109 S2, kq_109 S2, kA_108 S2, kL_108 S2, kA_110 S2, kL_110 S2, kA_111 S2, kL_111 S2, kv_20, kv_40, ps_112, ps_114, ps_232]
    exact k_faults_27 I2 w R2 (IK_src I2 w hq) (pcRw_len σ _) (pcRw_len σ _) (sT σ) 0 (by omega) (Qs_K I w Q2 H)
end KR2
