theorem tx_2 {p : Nat} (hp : p < 20) : txA (2 + p) = 112 + 6 * p := by
  unfold txA
  rw [if_neg (by omega), if_neg (by omega), if_pos (by omega)]
  omega
theorem tx_22 {r : Nat} (hr : r < 40) : txA (22 + r) = 232 + 2 * r := by
  unfold txA
  rw [if_neg (by omega), if_neg (by omega), if_neg (by omega), if_pos (by omega)]
  omega
section KQ2
variable {B : Nat → Nat} {σ : St} {h : HP} {K : Int32 → HP → Prop}
theorem IK_0 (I : InvK B σ h) : TxO h 2 (B 0) (sf σ) 0 (sz σ 0) := I.2.1.1 0 (by decide)
theorem IK_1 (I : InvK B σ h) : TxO h 5 (B 1) (sf σ) 600 (sz σ 1) := I.2.1.1 1 (by decide)
theorem IK_2 (I : InvK B σ h) {p : Nat} (hp : p < 20) : TxO h (112 + 6 * p) (B (2 + p)) (sf σ) (600 * (2 + p)) (sz σ (2 + p)) := by
  have := I.2.1.1 (2 + p) (by omega)
  rwa [tx_2 hp] at this
theorem IK_22 (I : InvK B σ h) {r : Nat} (hr : r < 40) : TxO h (232 + 2 * r) (B (22 + r)) (sf σ) (600 * (22 + r)) (sz σ (22 + r)) := by
  have := I.2.1.1 (22 + r) (by omega)
  rwa [tx_22 hr] at this
theorem kc_tape {v : Int32} (I : InvK B σ h) (w : WF σ) (H : ∀ h', (∃ B, InvK B σ h') → Fc h h' → K (aTape σ v) h') : wq_K_tape 1 v h K := by
  have S := I.1
  have HK := H h ⟨B, I⟩ (Fc_rf h)
  have T := IK_0 I
  unfold wq_K_tape
  simp only [isO_stI, isA_stI, isL_stI, gR_stI, gJ_stI, gK_stI, gL_stI, gS_stI, true_and, and_true, forall_eq, implies_true, ps_339, kO_1 S, kR_1_0 S, tx_o T]
  refine k_at T ?_
  unfold aTape at HK
  simp only [Nat.zero_add]
  exact HK
theorem kc_segment {v what : Int32} (I : InvK B σ h) (w : WF σ) (H : ∀ h', (∃ B, InvK B σ h') → Fc h h' → K (aSegment σ v what) h') : wq_K_segment 1 v what h K := by
  have S := I.1
  have hS := w.2.1.1
  have HK := H h ⟨B, I⟩ (Fc_rf h)
  unfold aSegment at HK
  unfold wq_K_segment
  refine ⟨kO_1 S, k_isSegment I w ?_⟩
  simp only [i0, i1, nLit, mul_I, add_I, nI_cl, b2I_s]
  rcases ixI_c v (n := sS σ) (by omega) with ⟨e, c⟩ | ⟨s, hs, e, e2⟩
  · simp only [e] at HK ⊢
    exact ⟨fun z => absurd (by first | trivial | rfl) z, fun _ => HK⟩
  · unfold aSegment at H
    simp only [e2] at HK H ⊢
    subst e
    have g := (I.2.2.1.2 s hs)
    have R := IK_seg I w hs
    have r1 := R.1
    have T1 := IK_1 I
    have tn := tx_n T1
    obtain ⟨⟨g0, g4, g5, g6, g8⟩, gz⟩ := g
    simp (disch := omega) only [i0, i1, nLit, mul_I, add_I, nI_cl, isO_stI, isA_stI, isL_stI, gR_stI, gJ_stI, gK_stI, gL_stI, gS_stI, true_and, and_true, forall_eq, implies_true, ps_339, true_or, or_true, true_imp_iff, not_true_eq_false, not_false_eq_true, false_imp_iff, kO_1 S, kR_1_1 S, kO_4 S, kR_4_1 S, kS_7 S, kK_7 S, kN_7 S, kq_7 S, kv_24, ps_9, rS_o r1, g4, g5, g6, g8, g0.1, sub_I]
    refine ⟨fun _ => ⟨fun c0 c1 c2 c3 c4 c5 => ?_, fun c0 => ?_, fun c0 => ?_, fun c0 => ?_, fun c0 => ?_, fun c0 => ?_, fun c0 => ?_⟩, fun z => absurd z (by simp)⟩
    · simpa [c0, c1, c2, c3, c4, c5] using HK
    · subst c0; exact HK
    · subst c0
      rw [Nat.add_sub_cancel_left]
      exact HK
    · subst c0; exact HK
    · subst c0; exact HK
    · subst c0; exact HK
    · subst c0
      simp only [isO_stI, isA_stI, isL_stI, gR_stI, gJ_stI, gK_stI, gL_stI, gS_stI, true_and, and_true, forall_eq, implies_true, ps_339, kR_1_6 S, kO_324 S]
      have T4 := I.2.1.2.2.2.1 1 (by decide)
      unfold isTA at T4
      have hz1 := w.1.2 1 (by decide)
      refine k_isTorn S ⟨by omega, by omega, by omega, by omega, by decide, by omega⟩ R hz1 (pcs_2 _ _) (pcs_Chn _ _ _ (by omega)) (fun h2 G2 => ?_)
      have G3 : AgY (Xq B) Y3 h h2 := AgY_mono G2 (fun a z => by unfold Xq; rw [z]; exact Or.inr (Or.inr (Or.inr (Or.inr (Or.inl ⟨by decide, by decide⟩))))) (fun _ _ z => z.elim)
      have HK2 : K (b2I (tornA (sf σ) (pcB σ s) [])) h2 := KK_q I w G3 (KnO_y G2 (by decide) S.1 I.2.2.2.2.2.1) H
      exact ⟨fun z => b2_0 (b2I_0 z) HK2, fun z => b2_1 (b2I_1 z) HK2⟩
theorem kc_piece {v i what : Int32} (I : InvK B σ h) (w : WF σ) (H : ∀ h', (∃ B, InvK B σ h') → Fc h h' → K (aPiece σ v i what) h') : wq_K_piece 1 v i what h K := by
  have S := I.1
  have hS := w.2.1.1
  have HK := H h ⟨B, I⟩ (Fc_rf h)
  unfold aPiece at HK
  unfold wq_K_piece
  refine ⟨kO_1 S, k_isSegment I w ?_⟩
  simp only [i0, i1, nLit, mul_I, add_I, nI_cl, b2I_s]
  rcases ixI_c v (n := sS σ) (by omega) with ⟨e, c⟩ | ⟨s, hs, e, e2⟩
  · simp only [e] at HK ⊢
    exact ⟨fun z => absurd (by first | trivial | rfl) z, fun _ => HK⟩
  · simp only [e2] at HK ⊢
    subst e
    have R := IK_seg I w hs
    have r1 := R.1
    have len := w.2.1.2.2 s hs
    simp (disch := omega) only [i0, i1, nLit, mul_I, add_I, nI_cl, isO_stI, isA_stI, isL_stI, gR_stI, gJ_stI, gK_stI, gL_stI, gS_stI, true_and, and_true, forall_eq, implies_true, ps_339, true_or, or_true, true_imp_iff, not_true_eq_false, not_false_eq_true, false_imp_iff, kO_1 S, kR_1_1 S, kO_4 S, kR_4_1 S, kS_7 S, kK_7 S, kN_7 S, kq_7 S, kv_24, ps_9, rS_o r1, rS_0 r1, rS_1 r1, rS_2 r1, rS_l0 r1, rS_l1 r1, rS_l2 r1, R.2.1.1]
    refine ⟨fun _ => ?_, fun z => absurd z (by simp)⟩
    rcases ixI_c i (n := (pcB σ s).length) (by omega) with ⟨e, c⟩ | ⟨k, hk, e, e2⟩
    · simp only [e] at HK
      refine ⟨fun _ => HK, fun c0 => ⟨fun c1 => ?_, fun _ => HK⟩⟩
      rcases c with c | c
      · exact absurd c c0
      · exact absurd c1 (Int32.not_lt.mpr c)
    · simp only [e2] at HK
      subst e
      have E := RwT_E R hk
      rw [getD_at hk] at HK
      obtain ⟨q1, ⟨q2, q3, q4⟩, q5⟩ := E
      simp (disch := omega) only [i0, i1, nLit, mul_I, add_I, nI_cl, isO_stI, isA_stI, isL_stI, gR_stI, gJ_stI, gK_stI, gL_stI, gS_stI, true_and, and_true, forall_eq, implies_true, ps_339, rS_o r1, rS_0 r1, rS_1 r1, rS_2 r1, rS_l0 r1, rS_l1 r1, rS_l2 r1, q2, q3, q4]
      refine ⟨fun z => absurd z (nI_pos (by omega)), fun _ => ⟨fun _ => ⟨fun c0 c1 c2 => ?_, fun c0 => ?_, fun c0 => ?_, fun c0 => ?_⟩, fun z => absurd ((lt_I (by omega) (by omega)).mpr hk) z⟩⟩
      · simpa [c0, c1, c2] using HK
      · subst c0; exact HK
      · subst c0; exact HK
      · subst c0; exact HK
theorem kc_step {i what : Int32} (I : InvK B σ h) (w : WF σ) (H : ∀ h', (∃ B, InvK B σ h') → Fc h h' → K (aStep σ i what) h') : wq_K_step 1 i what h K := by
  have S := I.1
  have hl := w.2.2.2.2.1
  have HK := H h ⟨B, I⟩ (Fc_rf h)
  obtain ⟨t1, t2⟩ := I.2.2.2.2.2.2
  unfold aStep at HK
  unfold wq_K_step
  simp (disch := omega) only [i0, i1, nLit, mul_I, add_I, nI_cl, isO_stI, isA_stI, isL_stI, gR_stI, gJ_stI, gK_stI, gL_stI, gS_stI, true_and, and_true, forall_eq, implies_true, ps_339, kO_1 S, kR_1_4 S, kO_312 S, kR_312_1 S, kR_312_2 S, kR_312_3 S, t1]
  rcases ixI_c i (n := (sD σ).length) (by omega) with ⟨e, c⟩ | ⟨k, hk, e, e2⟩
  · simp only [e] at HK
    refine ⟨fun _ => HK, fun c0 => ⟨fun c1 => ?_, fun _ => HK⟩⟩
    rcases c with c | c
    · exact absurd c c0
    · exact absurd c1 (Int32.not_lt.mpr c)
  · simp only [e2] at HK
    subst e
    rw [getD_st hk] at HK
    obtain ⟨q1, q2, q3⟩ := t2 k _ (List.getElem?_eq_getElem hk)
    simp (disch := omega) only [i0, i1, nLit, mul_I, add_I, nI_cl, isO_stI, isA_stI, isL_stI, gR_stI, gJ_stI, gK_stI, gL_stI, gS_stI, true_and, and_true, forall_eq, implies_true, ps_339, kA_314 S, kL_314 S, kA_315 S, kL_315 S, kA_316 S, kL_316 S, q1, q2, q3]
    refine ⟨fun z => absurd z (nI_pos (by omega)), fun _ => ⟨fun _ => ⟨fun c0 c1 c2 => ?_, fun c0 => ?_, fun c0 => ?_, fun c0 => ?_⟩, fun z => absurd ((lt_I (by omega) (by omega)).mpr hk) z⟩⟩
    · simpa [c0, c1, c2] using HK
    · subst c0; exact HK
    · subst c0; exact HK
    · subst c0; exact HK
theorem kc_about {what : Int32} (I : InvK B σ h) (w : WF σ) (H : ∀ h', (∃ B, InvK B σ h') → Fc h h' → K (aAbout σ what) h') : wq_K_about 1 what h K := by
  have S := I.1
  have HK := H h ⟨B, I⟩ (Fc_rf h)
  have T := IK_0 I
  obtain ⟨w0, w1, w2, w3⟩ := I.2.2.2.2.1
  unfold aAbout at HK
  unfold wq_K_about
  simp (disch := omega) only [i0, i1, nLit, mul_I, add_I, nI_cl, isO_stI, isA_stI, isL_stI, gR_stI, gJ_stI, gK_stI, gL_stI, gS_stI, true_and, and_true, forall_eq, implies_true, ps_339, kO_1 S, kR_1_0 S, kR_1_1 S, kR_1_2 S, kR_1_8 S, kR_1_9 S, kR_1_11 S, kO_4 S, kO_105 S, tx_o T, w0.1, w1.1, w3.1, T.2.2.2.1, w0.2.2.2.2.2.2.2.1, w1.2.2.2.2.2.2.2.1, w3.2.2.2.2.2.2.2.1, I.2.2.1.1, I.2.2.2.1.1, I.2.2.2.1.2.1]
  refine ⟨fun c0 c1 c2 c3 c4 c5 c6 c7 => ?_, fun c => ?_, fun c => ?_, fun c => ?_, fun c => ?_, fun c => ?_, fun c => ?_, fun c => ?_, fun c => ?_⟩
  · simpa [c0, c1, c2, c3, c4, c5, c6, c7] using HK
  all_goals (subst c; exact HK)
theorem kc_like {v p : Int32} (I : InvK B σ h) (w : WF σ) (H : ∀ h', (∃ B, InvK B σ h') → Fc h h' → K (aLike σ v p) h') : wq_K_like 1 v p h K := by
  have S := I.1
  have hS := w.2.1.1
  have hP := w.2.2.1.1
  have HK := H h ⟨B, I⟩ (Fc_rf h)
  unfold aLike a2 at HK
  unfold wq_K_like
  refine ⟨kO_1 S, k_isSegment I w ?_⟩
  simp only [i0, i1, nLit, mul_I, add_I, nI_cl, b2I_s]
  rcases ixI_c v (n := sS σ) (by omega) with ⟨e, c⟩ | ⟨s, hs, e, e2⟩
  · simp only [e] at HK ⊢
    exact ⟨fun _ => HK, fun z => absurd (by first | trivial | rfl) z⟩
  · simp only [e2] at HK ⊢
    subst e
    refine ⟨fun z => absurd z (by simp), fun _ => ⟨kO_1 S, k_isPair I w ?_⟩⟩
    simp only [b2I_s]
    rcases ixI_c p (n := sP σ) (by omega) with ⟨e, c⟩ | ⟨q, hq, e, e2⟩
    · simp only [e] at HK ⊢
      exact ⟨fun z => absurd (by first | trivial | rfl) z, fun _ => HK⟩
    · simp only [e2] at HK ⊢
      subst e
      exact ⟨fun _ => ⟨kO_1 S, k_isLikeSource I w hs hq ⟨fun z => b2_0 (b2I_0 z) HK, fun z => b2_1 (b2I_1 z) HK⟩⟩, fun z => absurd z (by simp)⟩
theorem kc_score {v p : Int32} (I : InvK B σ h) (w : WF σ) (H : ∀ h', (∃ B, InvK B σ h') → Fc h h' → K (aScore σ v p) h') : wq_K_score 1 v p h K := by
  have S := I.1
  have hS := w.2.1.1
  have hP := w.2.2.1.1
  unfold aScore a2 at H
  unfold wq_K_score
  refine ⟨kO_1 S, k_isSegment I w ?_⟩
  simp only [i0, i1, nLit, mul_I, add_I, nI_cl, b2I_s]
  rcases ixI_c v (n := sS σ) (by omega) with ⟨e, c⟩ | ⟨s, hs, e, e2⟩
  · simp only [e] at H ⊢
    exact ⟨fun _ => H h ⟨B, I⟩ (Fc_rf h), fun z => absurd (by first | trivial | rfl) z⟩
  · simp only [e2] at H ⊢
    subst e
    refine ⟨fun z => absurd z (by simp), fun _ => ⟨kO_1 S, k_isPair I w ?_⟩⟩
    simp only [b2I_s]
    rcases ixI_c p (n := sP σ) (by omega) with ⟨e, c⟩ | ⟨q, hq, e, e2⟩
    · simp only [e] at H ⊢
      exact ⟨fun _ => H h ⟨B, I⟩ (Fc_rf h), fun z => absurd (by first | trivial | rfl) z⟩
    · simp only [e2] at H ⊢
      subst e
      exact ⟨fun z => absurd z (by simp), fun _ => ⟨kO_1 S, k_scoreOf I w hs hq (fun h2 G2 K2 => KK_q I w G2 K2 H)⟩⟩
theorem k_renderingsOf {p : Nat} (I : InvK B σ h) (w : WF σ) (hp : p < 1000) : ∀ (r k a : Nat), k + r = sR σ → K (nI (a + cntW (sw σ) p r k)) h → Wp k_Memory_renderingsOf 4 [some (.ref 105), some (.int (nI p)), some (.int (nI a)), some (.int (nI k))] [] h (0, 0) (QI K)
  | 0, k, a, h1, H => wb_Memory_renderingsOf_4_ok (by
      have S := I.1
      have hR := w.2.2.1.2.1
      unfold wb_Memory_renderingsOf_4
      simp (disch := omega) only [i0, i1, nLit, mul_I, add_I, nI_cl, isO_stI, isA_stI, isL_stI, gR_stI, gJ_stI, gK_stI, gL_stI, gS_stI, true_and, and_true, forall_eq, implies_true, ps_339, kO_105 S, I.2.2.2.1.2.1, le_I]
      exact ⟨fun _ => H, fun z => absurd (by omega) z⟩)
  | r + 1, k, a, h1, H => wb_Memory_renderingsOf_4_ok (by
      have S := I.1
      have hR := w.2.2.1.2.1
      have hP := w.2.2.1.1
      have hk := (I.2.2.2.1.2.2.1 k (by omega)).1
      have hw := (w.2.2.1.2.2.1 k (by omega)).1
      unfold wb_Memory_renderingsOf_4
      simp (disch := omega) only [i0, i1, nLit, mul_I, add_I, nI_cl, isO_stI, isA_stI, isL_stI, gR_stI, gJ_stI, gK_stI, gL_stI, gS_stI, true_and, and_true, forall_eq, implies_true, ps_339, kO_105 S, kR_105_4 S, kA_110 S, kL_110 S, I.2.2.2.1.2.1, hk, le_I, eq_I]
      refine ⟨fun z => absurd z (by omega), fun _ => ⟨fun c => ?_, fun c => ?_⟩⟩
      · refine k_renderingsOf I w hp r (k + 1) _ (by omega) ?_
        simpa [cntW, c] using H
      · refine k_renderingsOf I w hp r (k + 1) _ (by omega) ?_
        simpa [cntW, c, Nat.add_assoc] using H)
theorem kc_pair {p what : Int32} (I : InvK B σ h) (w : WF σ) (H : ∀ h', (∃ B, InvK B σ h') → Fc h h' → K (aPair σ p what) h') : wq_K_pair 1 p what h K := by
  have S := I.1
  have hP := w.2.2.1.1
  have hR := w.2.2.1.2.1
  have HK := H h ⟨B, I⟩ (Fc_rf h)
  unfold aPair at HK
  unfold wq_K_pair
  refine ⟨kO_1 S, k_isPair I w ?_⟩
  simp only [i0, i1, nLit, mul_I, add_I, nI_cl, b2I_s]
  rcases ixI_c p (n := sP σ) (by omega) with ⟨e, c⟩ | ⟨q, hq, e, e2⟩
  · simp only [e] at HK ⊢
    exact ⟨fun z => absurd (by first | trivial | rfl) z, fun _ => HK⟩
  · simp only [e2] at HK ⊢
    subst e
    have hl := ltR_lt w hq
    have el := I.2.2.2.1.2.2.2.1 q hq
    have T2 := IK_2 I (show q < 20 by omega)
    have T22 := IK_22 I (show ltR σ q < 40 by omega)
    have ey := (I.2.2.2.1.2.2.1 (ltR σ q) (by omega)).2
    simp (disch := omega) only [i0, i1, nLit, mul_I, add_I, nI_cl, isO_stI, isA_stI, isL_stI, gR_stI, gJ_stI, gK_stI, gL_stI, gS_stI, true_and, and_true, forall_eq, implies_true, ps_339, true_or, or_true, true_imp_iff, not_true_eq_false, not_false_eq_true, false_imp_iff, kO_1 S, kR_1_2 S, kO_105 S, kR_105_0 S, kR_105_1 S, kR_105_2 S, kR_105_3 S, kR_105_4 S, kR_105_5 S, kS_106 S, kK_106 S, kN_106 S, kq_106 S, kS_107 S, kK_107 S, kN_107 S, kq_107 S, kS_109 S, kK_109 S, kN_109 S, kq_109 S, kA_108 S, kL_108 S, kA_110 S, kL_110 S, kA_111 S, kL_111 S, kv_20, kv_40, ps_112, ps_114, ps_232, el, tx_o T2, tx_o T22, T2.2.2.2.1, T22.2.2.2.1, ey]
    refine ⟨fun _ => ⟨fun c0 c1 c2 c3 c4 => ?_, fun c => ?_, fun c => ?_, fun c => ?_, fun c => ?_, fun c => ?_⟩, fun z => absurd z (by simp)⟩
    · simpa [c0, c1, c2, c3, c4] using HK
    · subst c; exact HK
    · subst c; exact HK
    · subst c
      exact k_renderingsOf I w (by omega) (sR σ) 0 0 (by omega) (by rw [Nat.zero_add]; exact HK)
    · subst c; exact HK
    · subst c; exact HK
theorem k_renderingAt_lp {w' : Nat → Nat} {n p : Nat} (S : KSh h) (W : ∀ r, r < n → gI h 110 r = nI (w' r) ∧ w' r < 20) (hn : n ≤ 40) (hp : p < 1000) : ∀ t : Nat, t ≤ n → K (tI (latN w' p t)) h → Wp k_Memory_renderingAt 11 [some (.ref 105), some (.int (nI p)), none, some (.int (tI t))] [] h (0, 0) (QI K)
  | 0, _, H => wb_Memory_renderingAt_11_ok (by
      unfold wb_Memory_renderingAt_11
      exact ⟨fun _ => H, fun c => absurd (by decide) c⟩)
  | t + 1, h1, H => wb_Memory_renderingAt_11_ok (by
      have hw := W t (by omega)
      unfold wb_Memory_renderingAt_11
      simp (disch := omega) only [tI, i0, i1, nLit, mul_I, add_I, nI_cl, isO_stI, isA_stI, isL_stI, gR_stI, gJ_stI, gK_stI, gL_stI, gS_stI, true_and, and_true, forall_eq, implies_true, ps_339, kO_105 S, kR_105_4 S, kA_110 S, kL_110 S, hw.1, eq_I, dec_I]
      refine ⟨fun c => absurd c (nI_pos (by omega)), fun _ => ⟨fun c => k_renderingAt_lp S W hn hp t (by omega) ?_, fun c => ?_⟩⟩
      · rwa [latN, if_neg c] at H
      · rwa [latN, if_pos c] at H)
theorem k_renderingAt {w' : Nat → Nat} {n p t : Nat} (S : KSh h) (W : ∀ r, r < n → gI h 110 r = nI (w' r) ∧ w' r < 20) (hn : n ≤ 40) (e7 : gI h 105 7 = nI n) (hp : p < 1000) (ht : t ≤ n) (H : K (tI (latN w' p t)) h) : wq_Memory_renderingAt 105 (nI p) (nI t) h K := by
  unfold wq_Memory_renderingAt
  rw [e7, if_neg (fun z => absurd ((lt_I (by omega) (by omega)).mp z) (by omega))]
  refine ⟨kO_105 S, ?_⟩
  rw [i1, sub1_I]
  exact k_renderingAt_lp S W hn hp t ht H
theorem IK_W (I : InvK B σ h) (w : WF σ) : ∀ r, r < sR σ → gI h 110 r = nI (sw σ r) ∧ sw σ r < 20 := fun r hr => ⟨(I.2.2.2.1.2.2.1 r (by have := w.2.2.1.2.1; omega)).1, by have := (w.2.2.1.2.2.1 r hr).1; have := w.2.2.1.1; omega⟩
theorem kc_rendered {p t i : Int32} (I : InvK B σ h) (w : WF σ) (H : ∀ h', (∃ B, InvK B σ h') → Fc h h' → K (aRendered σ p t i) h') : wq_K_rendered 1 p t i h K := by
  have S := I.1
  have hP := w.2.2.1.1
  have hR := w.2.2.1.2.1
  have HK := H h ⟨B, I⟩ (Fc_rf h)
  unfold aRendered at HK
  unfold wq_K_rendered
  refine ⟨kO_1 S, k_isPair I w ?_⟩
  simp only [i0, i1, nLit, mul_I, add_I, nI_cl, b2I_s]
  rcases ixI_c p (n := sP σ) (by omega) with ⟨e, c⟩ | ⟨q, hq, e, e2⟩
  · simp only [e] at HK ⊢
    exact ⟨fun _ => HK, fun z => absurd (by first | trivial | rfl) z⟩
  · simp only [e2] at HK ⊢
    subst e
    have T2 := IK_2 I (show q < 20 by omega)
    simp (disch := omega) only [i0, i1, nLit, mul_I, add_I, nI_cl, isO_stI, isA_stI, isL_stI, gR_stI, gJ_stI, gK_stI, gL_stI, gS_stI, true_and, and_true, forall_eq, implies_true, ps_339, true_or, or_true, true_imp_iff, not_true_eq_false, not_false_eq_true, false_imp_iff, kO_1 S, kR_1_2 S, kO_105 S, kR_105_0 S, kR_105_1 S, kR_105_2 S, kR_105_3 S, kR_105_4 S, kR_105_5 S, kS_106 S, kK_106 S, kN_106 S, kq_106 S, kS_107 S, kK_107 S, kN_107 S, kq_107 S, kS_109 S, kK_109 S, kN_109 S, kq_109 S, kA_108 S, kL_108 S, kA_110 S, kL_110 S, kA_111 S, kL_111 S, kv_20, kv_40, ps_112, ps_114, ps_232, I.2.2.2.1.2.1, tx_o T2]
    refine ⟨fun z => absurd z (by simp), fun _ => ?_⟩
    by_cases ct : t = -nI 1
    · rw [if_pos ct] at HK
      subst ct
      have le : (-nI 1 : Int32) ≤ nI (sR σ) := Int32.le_trans (by decide : (-nI 1 : Int32) ≤ 0) (nI_pos' (by omega))
      refine ⟨fun z => absurd z (by decide), fun _ => ⟨fun _ => ⟨fun z => absurd rfl z, fun _ => k_at T2 HK⟩, fun z => absurd le z⟩⟩
    · rw [if_neg ct] at HK
      rcases ixI_c t (n := sR σ + 1) (by omega) with ⟨e, c⟩ | ⟨k, hk, e, e2⟩
      · simp only [e] at HK
        refine ⟨fun _ => HK, fun c1 => ⟨fun c2 => ?_, fun _ => HK⟩⟩
        exfalso
        rcases c with c | c
        · have h1 : t.toInt < 0 := by simpa using Int32.lt_iff_toInt_lt.mp c
          have h2 := Int32.le_iff_toInt_le.mp (Int32.not_lt.mp c1)
          rw [show (-nI 1 : Int32).toInt = -1 from by decide] at h2
          apply ct
          apply Int32.toInt_inj.mp
          rw [show (-nI 1 : Int32).toInt = -1 from by decide]
          omega
        · exact Int32.not_lt.mpr (Int32.le_trans c c2) ((lt_I (by omega) (by omega)).mpr (by omega))
      · simp only [e2] at HK
        subst e
        have nle : ¬ nI k < -nI 1 := fun z => absurd (Int32.lt_of_le_of_lt (nI_pos' (by omega) : (0 : Int32) ≤ nI k) z) (by decide)
        refine ⟨fun z => absurd z nle, fun _ => ⟨fun _ => ⟨fun _ => k_renderingAt S (IK_W I w) hR I.2.2.2.1.2.1 (by omega) (by omega) ?_, fun z => absurd z ct⟩, fun z => absurd ((le_I (by omega) (by omega)).mpr (by omega)) z⟩⟩
        have hll := latN_le (sw σ) q k
        generalize latN (sw σ) q k = u at *
        cases u with
        | zero => exact ⟨fun z => absurd z (by decide), fun _ => HK⟩
        | succ u =>
          have T22 := IK_22 I (show u < 40 by omega)
          refine ⟨fun _ => ?_, fun z => absurd (nI_pos' (by omega)) z⟩
          simp (disch := omega) only [tI, i0, i1, nLit, mul_I, add_I, nI_cl, isO_stI, isA_stI, isL_stI, gR_stI, gJ_stI, gK_stI, gL_stI, gS_stI, true_and, and_true, forall_eq, implies_true, ps_339, true_or, or_true, true_imp_iff, not_true_eq_false, not_false_eq_true, false_imp_iff, kO_1 S, kR_1_2 S, kO_105 S, kR_105_0 S, kR_105_1 S, kR_105_2 S, kR_105_3 S, kR_105_4 S, kR_105_5 S, kS_106 S, kK_106 S, kN_106 S, kq_106 S, kS_107 S, kK_107 S, kN_107 S, kq_107 S, kS_109 S, kK_109 S, kN_109 S, kq_109 S, kA_108 S, kL_108 S, kA_110 S, kL_110 S, kA_111 S, kL_111 S, kv_20, kv_40, ps_112, ps_114, ps_232, tx_o T22]
          exact k_at T22 HK
end KQ2
