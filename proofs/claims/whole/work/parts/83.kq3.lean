section KQ3
variable {B : Nat → Nat} {σ : St} {K : Int32 → HP → Prop}
/-- a question that may fill in scores -/
def Qs (B : Nat → Nat) (σ : St) (h h' : HP) : Prop := AgY (Xq B) Y3 h h' ∧ KnO σ h'
theorem Qs_tr {h1 h2 h3 : HP} (A : Qs B σ h1 h2) (C : Qs B σ h2 h3) : Qs B σ h1 h3 := ⟨AgY_tr A.1 C.1, C.2⟩
theorem Qs_rf {h : HP} (I : InvK B σ h) : Qs B σ h h := ⟨AgY_rf _ _ h, I.2.2.2.2.2.1⟩
theorem Qs_I {h h' : HP} (Q : Qs B σ h h') (I : InvK B σ h) (w : WF σ) : InvK B σ h' := InvK_q Q.1 Q.2 I w
theorem Qs_K {h h' : HP} {v : Int32} (I : InvK B σ h) (w : WF σ) (Q : Qs B σ h h') (H : ∀ h', (∃ B, InvK B σ h') → Fc h h' → K v h') : K v h' := KK_q I w Q.1 Q.2 H
theorem k_ahead_lp {h0 : HP} {s p : Nat} (I0 : InvK B σ h0) (w : WF σ) (hs : s < sS σ) (hp : p < sP σ) (H : ∀ h', Qs B σ h0 h' → K (nI (ahN σ s p (sP σ) 0)) h') : ∀ (r k a : Nat) (h : HP), k + r = sP σ → Qs B σ h0 h → a + ahN σ s p r k = ahN σ s p (sP σ) 0 → Wp k_K_aheadOf 13 [some (.ref 1), some (.int (nI p)), some (.int (nI s)), some (.int (nI (scSP σ s p))), some (.int (nI a)), some (.int (nI k)), none] [] h (0, 0) (QI K)
  | 0, k, a, h, h1, Q, e => wb_K_aheadOf_13_ok (by
      have I := Qs_I Q I0 w
      have S := I.1
      have hP := w.2.2.1.1
      unfold wb_K_aheadOf_13
      simp (disch := omega) only [i0, i1, nLit, mul_I, add_I, nI_cl, isO_stI, isA_stI, isL_stI, gR_stI, gJ_stI, gK_stI, gL_stI, gS_stI, true_and, and_true, forall_eq, implies_true, ps_339, kO_1 S, kR_1_2 S, kO_105 S, I.2.2.2.1.1, le_I]
      refine ⟨fun _ => ?_, fun z => absurd (by omega) z⟩
      have e1 : a = ahN σ s p (sP σ) 0 := by rw [← e]; rfl
      rw [e1]
      exact H h Q)
  | r + 1, k, a, h, h1, Q, e => wb_K_aheadOf_13_ok (by
      have I := Qs_I Q I0 w
      have S := I.1
      have hP := w.2.2.1.1
      have hR := w.2.2.1.2.1
      have hk : k < sP σ := by omega
      have s1 : scSP σ s p ≤ 100 := scN_le _ _ _
      have s2 : scSP σ s k ≤ 100 := scN_le _ _ _
      have lp := ltR_lt w hp
      have lk := ltR_lt w hk
      unfold wb_K_aheadOf_13
      simp (disch := omega) only [i0, i1, nLit, mul_I, add_I, nI_cl, isO_stI, isA_stI, isL_stI, gR_stI, gJ_stI, gK_stI, gL_stI, gS_stI, true_and, and_true, forall_eq, implies_true, ps_339, kO_1 S, kR_1_2 S, kO_105 S, I.2.2.2.1.1, le_I]
      refine ⟨fun z => absurd z (by omega), fun _ => k_scoreOf I w hs hk (fun h2 G2 K2 => ?_)⟩
      have Q2 : Qs B σ h0 h2 := Qs_tr Q ⟨G2, K2⟩
      have I2 := Qs_I Q2 I0 w
      have S2 := I2.1
      have go := fun a' e' => k_ahead_lp I0 w hs hp H r (k + 1) a' h2 (by omega) Q2 e'
      have el := I2.2.2.2.1.2.2.2.1
      simp (disch := omega) only [i0, i1, nLit, mul_I, add_I, nI_cl, isO_stI, isA_stI, isL_stI, gR_stI, gJ_stI, gK_stI, gL_stI, gS_stI, true_and, and_true, forall_eq, implies_true, ps_339, kO_1 S2, kR_1_2 S2, kO_105 S2, kR_105_2 S2, kA_108 S2, kL_108 S2, el p hp, el k hk, lt_I, le_I, eq_I]
      refine ⟨fun c => go (a + 1) ?_, fun c => ⟨fun c2 => go a ?_, fun c2 => ⟨fun c3 => go a ?_, fun c3 => go (a + 1) ?_⟩⟩⟩
      · rw [← e]; simp only [ahN, if_pos (Or.inl c), Nat.add_assoc]
      · rw [← e]; simp only [ahN, if_neg (show ¬ (scSP σ s p < scSP σ s k ∨ (scSP σ s k = scSP σ s p ∧ ltR σ p < ltR σ k)) by omega), Nat.zero_add]
      · rw [← e]; simp only [ahN, if_neg (show ¬ (scSP σ s p < scSP σ s k ∨ (scSP σ s k = scSP σ s p ∧ ltR σ p < ltR σ k)) by omega), Nat.zero_add]
      · rw [← e]; simp only [ahN, if_pos (show (scSP σ s p < scSP σ s k ∨ (scSP σ s k = scSP σ s p ∧ ltR σ p < ltR σ k)) by omega), Nat.add_assoc])
theorem k_aheadOf {h : HP} {s p : Nat} (I : InvK B σ h) (w : WF σ) (hs : s < sS σ) (hp : p < sP σ) (H : ∀ h', Qs B σ h h' → K (nI (ahN σ s p (sP σ) 0)) h') : wq_K_aheadOf 1 (nI p) (nI s) h K := by
  have S := I.1
  unfold wq_K_aheadOf
  refine ⟨kO_1 S, k_scoreOf I w hs hp (fun h2 G2 K2 => ?_)⟩
  exact k_ahead_lp I w hs hp H (sP σ) 0 0 h2 (by omega) ⟨G2, K2⟩ (Nat.zero_add _)
theorem k_found_30 {h0 : HP} {s l : Nat} {i : Int32} (I0 : InvK B σ h0) (w : WF σ) (hs : s < sS σ) (hl : l ≤ 100) (H : ∀ h', Qs B σ h0 h' → K (fnd σ s l i (sP σ) 0) h') : ∀ (r k : Nat) (h : HP), k + r = sP σ → Qs B σ h0 h → fnd σ s l i r k = fnd σ s l i (sP σ) 0 → Wp k_K_found 30 [some (.ref 1), some (.int (nI s)), some (.int (nI l)), some (.int i), some (.int (nI k))] [] h (0, 0) (QI K)
  | 0, k, h, h1, Q, e => wb_K_found_30_ok (by
      have I := Qs_I Q I0 w
      have S := I.1
      have hP := w.2.2.1.1
      have HK := H h Q
      rw [← e] at HK
      unfold wb_K_found_30
      simp (disch := omega) only [i0, i1, nLit, mul_I, add_I, nI_cl, isO_stI, isA_stI, isL_stI, gR_stI, gJ_stI, gK_stI, gL_stI, gS_stI, true_and, and_true, forall_eq, implies_true, ps_339, kO_1 S, kR_1_2 S, kO_105 S, I.2.2.2.1.1, le_I]
      exact ⟨fun _ => HK, fun z => absurd (by omega) z⟩)
  | r + 1, k, h, h1, Q, e => wb_K_found_30_ok (by
      have I := Qs_I Q I0 w
      have S := I.1
      have hP := w.2.2.1.1
      have hk : k < sP σ := by omega
      have s2 : scSP σ s k ≤ 100 := scN_le _ _ _
      unfold wb_K_found_30
      simp (disch := omega) only [i0, i1, nLit, mul_I, add_I, nI_cl, isO_stI, isA_stI, isL_stI, gR_stI, gJ_stI, gK_stI, gL_stI, gS_stI, true_and, and_true, forall_eq, implies_true, ps_339, kO_1 S, kR_1_2 S, kO_105 S, I.2.2.2.1.1, le_I]
      refine ⟨fun z => absurd z (by omega), fun _ => k_scoreOf I w hs hk (fun h2 G2 K2 => ?_)⟩
      have Q2 : Qs B σ h0 h2 := Qs_tr Q ⟨G2, K2⟩
      have I2 := Qs_I Q2 I0 w
      simp (disch := omega) only [lt_I]
      refine ⟨fun c => k_found_30 I0 w hs hl H r (k + 1) h2 (by omega) Q2 ?_, fun c => ⟨kO_1 I2.1, k_aheadOf I2 w hs hk (fun h3 Q3 => ⟨fun c2 => k_found_30 I0 w hs hl H r (k + 1) h3 (by omega) (Qs_tr Q2 Q3) ?_, fun c2 => ?_⟩)⟩⟩
      · rwa [fnd, if_neg (by omega)] at e
      · rwa [fnd, if_neg (fun z => c2 z.2)] at e
      · have HK := H h3 (Qs_tr Q2 Q3)
        rwa [← e, fnd, if_pos ⟨by omega, c2⟩] at HK)
theorem kc_found {h : HP} {v least i : Int32} (I : InvK B σ h) (w : WF σ) (H : ∀ h', (∃ B, InvK B σ h') → Fc h h' → K (aFound σ v least i) h') : wq_K_found 1 v least i h K := by
  have S := I.1
  have hS := w.2.1.1
  unfold aFound at H
  unfold wq_K_found
  refine ⟨kO_1 S, k_isSegment I w ?_⟩
  simp only [i0, i1, nLit, mul_I, add_I, nI_cl, b2I_s]
  rcases ixI_c v (n := sS σ) (by omega) with ⟨e, c⟩ | ⟨s, hs, e, e2⟩
  · simp only [e] at H ⊢
    exact ⟨fun _ => H h ⟨B, I⟩ (Fc_rf h), fun z => absurd (by first | trivial | rfl) z⟩
  · simp only [e2] at H ⊢
    subst e
    refine ⟨fun z => absurd z (by simp), fun _ => ⟨fun ci => ?_, fun ci => ?_⟩⟩
    · simp only [if_pos ci] at H
      rcases ixI_c least (n := 101) (by decide) with ⟨e, c⟩ | ⟨l, hl, e, e2⟩
      · simp only [e] at H
        have HK := H h ⟨B, I⟩ (Fc_rf h)
        refine ⟨fun _ => HK, fun c1 => ⟨fun c2 => ?_, fun _ => HK⟩⟩
        rcases c with c | c
        · exact absurd c c1
        · exact absurd (Int32.le_trans c c2) (by decide)
      · simp only [e2] at H
        subst e
        refine ⟨fun z => absurd z (nI_pos (by omega)), fun _ => ⟨fun _ => ?_, fun z => absurd ((le_I (by omega) (by omega)).mpr (by omega)) z⟩⟩
        exact k_found_30 I w hs (by omega) (fun h' Q' => Qs_K I w Q' H) (sP σ) 0 h (by omega) (Qs_rf I) rfl
    · simp only [if_neg ci] at H
      exact H h ⟨B, I⟩ (Fc_rf h)
theorem k_spread_14 {h : HP} {p : Nat} (I : InvK B σ h) (w : WF σ) (hp : p < sP σ) : ∀ (r k a : Nat), k + r = sS σ → K (nI (a + sprN σ p r k)) h → Wp k_K_spread 14 [some (.ref 1), some (.int (nI p)), some (.int (nI a)), some (.int (nI k))] [] h (0, 0) (QI K)
  | 0, k, a, h1, H => wb_K_spread_14_ok (by
      have S := I.1
      have hS := w.2.1.1
      unfold wb_K_spread_14
      simp (disch := omega) only [i0, i1, nLit, mul_I, add_I, nI_cl, isO_stI, isA_stI, isL_stI, gR_stI, gJ_stI, gK_stI, gL_stI, gS_stI, true_and, and_true, forall_eq, implies_true, ps_339, kO_1 S, kR_1_1 S, kO_4 S, I.2.2.1.1, le_I]
      exact ⟨fun _ => H, fun z => absurd (by omega) z⟩)
  | r + 1, k, a, h1, H => wb_K_spread_14_ok (by
      have S := I.1
      have hS := w.2.1.1
      unfold wb_K_spread_14
      simp (disch := omega) only [i0, i1, nLit, mul_I, add_I, nI_cl, isO_stI, isA_stI, isL_stI, gR_stI, gJ_stI, gK_stI, gL_stI, gS_stI, true_and, and_true, forall_eq, implies_true, ps_339, kO_1 S, kR_1_1 S, kO_4 S, I.2.2.1.1, le_I]
      refine ⟨fun z => absurd z (by omega), fun _ => k_isLikeSource I w (by omega) hp ⟨fun c => ?_, fun c => ?_⟩⟩
      · have c2 := b2I_0 c
        refine k_spread_14 I w hp r (k + 1) a (by omega) ?_
        simpa [sprN, c2] using H
      · have c2 := b2I_1 c
        refine k_spread_14 I w hp r (k + 1) (a + 1) (by omega) ?_
        simpa [sprN, c2, Nat.add_assoc] using H)
theorem kc_spread {h : HP} {p : Int32} (I : InvK B σ h) (w : WF σ) (H : ∀ h', (∃ B, InvK B σ h') → Fc h h' → K (aSpread σ p) h') : wq_K_spread 1 p h K := by
  have S := I.1
  have hP := w.2.2.1.1
  have HK := H h ⟨B, I⟩ (Fc_rf h)
  unfold aSpread at HK
  unfold wq_K_spread
  refine ⟨kO_1 S, k_isPair I w ?_⟩
  simp only [i0, i1, nLit, mul_I, add_I, nI_cl, b2I_s]
  rcases ixI_c p (n := sP σ) (by omega) with ⟨e, c⟩ | ⟨q, hq, e, e2⟩
  · simp only [e] at HK ⊢
    exact ⟨fun z => absurd (by first | trivial | rfl) z, fun _ => HK⟩
  · simp only [e2] at HK ⊢
    subst e
    exact ⟨fun _ => k_spread_14 I w hq (sS σ) 0 0 (by omega) (by rw [Nat.zero_add]; exact HK), fun z => absurd z (by simp)⟩
theorem k_kind_43 {h0 : HP} {s : Nat} (I0 : InvK B σ h0) (w : WF σ) (hs : s < sS σ) : ∀ (r k a b : Nat) (h : HP), k + r = sP σ → b ≤ 100 → ((a = 0 ∧ b = 0) ∨ a = b + 1) → Qs B σ h0 h → (∀ h', Qs B σ h0 h' → K (nI (if knN σ s r k = true then 1 else kdC (bsN σ s r k a))) h') → Wp k_K_kindCounted 43 [some (.ref 1), some (.int (nI s)), some (.int (nI b)), some (.int (nI k))] [] h (0, 0) (QI K)
  | 0, k, a, b, h, h1, hb, hab, Q, H => wb_K_kindCounted_43_ok (by
      have I := Qs_I Q I0 w
      have S := I.1
      have hP := w.2.2.1.1
      have HK : K (nI (kdC a)) h := H h Q
      unfold kdC at HK
      unfold wb_K_kindCounted_43
      simp (disch := omega) only [i0, i1, nLit, mul_I, add_I, nI_cl, isO_stI, isA_stI, isL_stI, gR_stI, gJ_stI, gK_stI, gL_stI, gS_stI, true_and, and_true, forall_eq, implies_true, ps_339, kO_1 S, kR_1_2 S, kO_105 S, I.2.2.2.1.1, le_I, lt_I]
      refine ⟨fun _ => ⟨fun c => ⟨fun c2 => ?_, fun c2 => ?_⟩, fun c => ?_⟩, fun z => absurd (by omega) z⟩
      · rwa [if_pos (by omega), if_pos (by omega)] at HK
      · rwa [if_pos (by omega), if_neg (by omega)] at HK
      · rwa [if_neg (by omega)] at HK)
  | r + 1, k, a, b, h, h1, hb, hab, Q, H => wb_K_kindCounted_43_ok (by
      have I := Qs_I Q I0 w
      have S := I.1
      have hP := w.2.2.1.1
      have hk : k < sP σ := by omega
      have s2 : scSP σ s k ≤ 100 := scN_le _ _ _
      unfold wb_K_kindCounted_43
      simp (disch := omega) only [i0, i1, nLit, mul_I, add_I, nI_cl, isO_stI, isA_stI, isL_stI, gR_stI, gJ_stI, gK_stI, gL_stI, gS_stI, true_and, and_true, forall_eq, implies_true, ps_339, kO_1 S, kR_1_2 S, kO_105 S, I.2.2.2.1.1, le_I]
      refine ⟨fun z => absurd z (by omega), fun _ => k_isLikeSource I w hs hk ⟨fun c => ⟨kO_1 S, k_scoreOf I w hs hk (fun h2 G2 K2 => ?_)⟩, fun c => ?_⟩⟩
      · have c2 := b2I_0 c
        rw [max_I (by omega) (by omega)]
        refine k_kind_43 I0 w hs r (k + 1) (max a (scSP σ s k + 1)) (max b (scSP σ s k)) h2 (by omega) (by omega) (by omega) (Qs_tr Q ⟨G2, K2⟩) (fun h' Q' => ?_)
        have := H h' Q'
        rwa [knN, c2, Bool.false_or, bsN] at this
      · have c2 := b2I_1 c
        have := H h Q
        rwa [knN, c2, Bool.true_or, if_pos rfl] at this)
theorem k_kind_2 {h : HP} {s : Nat} (I : InvK B σ h) (w : WF σ) (hs : s < sS σ) (H : ∀ h', Qs B σ h h' → K (nI (cdN σ s)) h') : ∀ (r k : Nat), k + r = s → agN σ s r k = agN σ s s 0 → Wp k_K_kindCounted 2 [some (.ref 1), some (.int (nI s)), some (.int (nI k)), none] [] h (0, 0) (QI K)
  | 0, k, h1, e => wb_K_kindCounted_2_ok (by
      have hS := w.2.1.1
      unfold wb_K_kindCounted_2
      simp (disch := omega) only [i0, i1, nLit, mul_I, add_I, nI_cl, le_I]
      refine ⟨fun _ => k_kind_43 I w hs (sP σ) 0 0 0 h (by omega) (by omega) (Or.inl ⟨rfl, rfl⟩) (Qs_rf I) (fun h' Q' => ?_), fun z => absurd (by omega) z⟩
      have := H h' Q'
      rwa [cdN, ← e, agN, if_neg (by decide)] at this)
  | r + 1, k, h1, e => wb_K_kindCounted_2_ok (by
      have S := I.1
      have hS := w.2.1.1
      have R := IK_seg I w hs
      have R' := IK_seg I w (show k < sS σ by omega)
      have r1 := R.1
      have s1 := R'.1
      unfold wb_K_kindCounted_2
      simp (disch := omega) only [i0, i1, nLit, mul_I, add_I, nI_cl, isO_stI, isA_stI, isL_stI, gR_stI, gJ_stI, gK_stI, gL_stI, gS_stI, true_and, and_true, forall_eq, implies_true, ps_339, true_or, or_true, true_imp_iff, not_true_eq_false, not_false_eq_true, false_imp_iff, kO_1 S, kR_1_1 S, kO_4 S, kR_4_1 S, kS_7 S, kK_7 S, kN_7 S, kq_7 S, kv_24, ps_9, rS_o r1, le_I]
      refine ⟨fun z => absurd z (by omega), fun _ => k_isLike R R' ⟨fun c => k_kind_2 I w hs H r (k + 1) (by omega) ?_, fun c => ?_⟩⟩
      · have c2 := b2I_0 c
        rw [lkL_sym] at c2
        rwa [agN, c2, Bool.false_or] at e
      · have c2 := b2I_1 c
        rw [lkL_sym] at c2
        have := H h (Qs_rf I)
        rwa [cdN, ← e, agN, c2, Bool.true_or, if_pos rfl] at this)
theorem k_kindCounted {h : HP} {s : Nat} (I : InvK B σ h) (w : WF σ) (hs : s < sS σ) (H : ∀ h', Qs B σ h h' → K (nI (cdN σ s)) h') : wq_K_kindCounted 1 (nI s) h K := k_kind_2 I w hs H s 0 (by omega) rfl
theorem kc_counted {h : HP} {v : Int32} (I : InvK B σ h) (w : WF σ) (H : ∀ h', (∃ B, InvK B σ h') → Fc h h' → K (aCounted σ v) h') : wq_K_counted 1 v h K := by
  have S := I.1
  have hS := w.2.1.1
  unfold aCounted at H
  unfold wq_K_counted
  refine ⟨kO_1 S, k_isSegment I w ?_⟩
  simp only [i0, i1, nLit, mul_I, add_I, nI_cl, b2I_s]
  rcases ixI_c v (n := sS σ) (by omega) with ⟨e, c⟩ | ⟨s, hs, e, e2⟩
  · simp only [e] at H ⊢
    exact ⟨fun _ => H h ⟨B, I⟩ (Fc_rf h), fun z => absurd (by first | trivial | rfl) z⟩
  · simp only [e2] at H ⊢
    subst e
    exact ⟨fun z => absurd z (by simp), fun _ => ⟨kO_1 S, k_kindCounted I w hs (fun h1 Q1 => Qs_K I w Q1 H)⟩⟩
theorem k_count_28 {h0 : HP} {kd wd : Nat} (I0 : InvK B σ h0) (w : WF σ) (hkd : kd ≤ 4) (hwd : wd ≤ 1) : ∀ (r k a : Nat) (h : HP), k + r = sS σ → Qs B σ h0 h → (∀ h', Qs B σ h0 h' → K (nI (a + cnN σ kd wd r k)) h') → Wp k_K_count 28 [some (.ref 1), some (.int (nI kd)), some (.int (nI wd)), some (.int (nI a)), some (.int (nI k))] [] h (0, 0) (QI K)
  | 0, k, a, h, h1, Q, H => wb_K_count_28_ok (by
      have I := Qs_I Q I0 w
      have S := I.1
      have hS := w.2.1.1
      unfold wb_K_count_28
      simp (disch := omega) only [i0, i1, nLit, mul_I, add_I, nI_cl, isO_stI, isA_stI, isL_stI, gR_stI, gJ_stI, gK_stI, gL_stI, gS_stI, true_and, and_true, forall_eq, implies_true, ps_339, kO_1 S, kR_1_1 S, kO_4 S, I.2.2.1.1, le_I]
      exact ⟨fun _ => H h Q, fun z => absurd (by omega) z⟩)
  | r + 1, k, a, h, h1, Q, H => wb_K_count_28_ok (by
      have I := Qs_I Q I0 w
      have S := I.1
      have hS := w.2.1.1
      have h4 := cdN_le σ k
      have hk : k < sS σ := by omega
      unfold wb_K_count_28
      simp (disch := omega) only [i0, i1, nLit, mul_I, add_I, nI_cl, isO_stI, isA_stI, isL_stI, gR_stI, gJ_stI, gK_stI, gL_stI, gS_stI, true_and, and_true, forall_eq, implies_true, ps_339, kO_1 S, kR_1_1 S, kO_4 S, I.2.2.1.1, le_I]
      refine ⟨fun z => absurd z (by omega), fun _ => k_kindCounted I w hk (fun h2 Q2' => ?_)⟩
      have Q2 := Qs_tr Q Q2'
      have I2 := Qs_I Q2 I0 w
      have S2 := I2.1
      have g8 := (I2.2.2.1.2 k hk).1.2.2.2.2
      have r1 := (IK_seg I2 w hk).1
      simp (disch := omega) only [i0, i1, nLit, mul_I, add_I, nI_cl, isO_stI, isA_stI, isL_stI, gR_stI, gJ_stI, gK_stI, gL_stI, gS_stI, true_and, and_true, forall_eq, implies_true, ps_339, true_or, or_true, true_imp_iff, not_true_eq_false, not_false_eq_true, false_imp_iff, kO_1 S2, kR_1_1 S2, kO_4 S2, kR_4_1 S2, kS_7 S2, kK_7 S2, kN_7 S2, kq_7 S2, kv_24, ps_9, rS_o r1, g8, eq_I]
      refine ⟨fun c => ?_, fun c => ⟨fun c2 => ?_, fun c2 => ?_⟩⟩
      · refine k_count_28 I0 w hkd hwd r (k + 1) a h2 (by omega) Q2 (fun h' Q' => ?_)
        have := H h' Q'
        rwa [cnN, if_neg c, Nat.zero_add] at this
      · refine k_count_28 I0 w hkd hwd r (k + 1) _ h2 (by omega) Q2 (fun h' Q' => ?_)
        have := H h' Q'
        rwa [cnN, if_pos c, if_pos (by omega), ← Nat.add_assoc] at this
      · refine k_count_28 I0 w hkd hwd r (k + 1) _ h2 (by omega) Q2 (fun h' Q' => ?_)
        have := H h' Q'
        rwa [cnN, if_pos c, if_neg (by omega), ← Nat.add_assoc] at this)
theorem kc_count {h : HP} {kd wd : Int32} (I : InvK B σ h) (w : WF σ) (H : ∀ h', (∃ B, InvK B σ h') → Fc h h' → K (aCount σ kd wd) h') : wq_K_count 1 kd wd h K := by
  unfold aCount at H
  unfold wq_K_count
  simp only [i0, i1, nLit, mul_I, add_I, nI_cl]
  rcases ixI_c kd (n := 5) (by decide) with ⟨e, c⟩ | ⟨k, hk, e, e2⟩
  · simp only [e] at H
    have HK := H h ⟨B, I⟩ (Fc_rf h)
    refine ⟨fun _ => HK, fun c0 => ⟨fun c1 => ?_, fun _ => HK⟩⟩
    rcases c with c | c
    · exact absurd c c0
    · exact absurd c1 (Int32.not_lt.mpr c)
  · simp only [e2] at H
    subst e
    refine ⟨fun z => absurd z (nI_pos (by omega)), fun _ => ⟨fun _ => ?_, fun z => absurd ((lt_I (by omega) (by omega)).mpr hk) z⟩⟩
    rcases ixI_c wd (n := 2) (by decide) with ⟨e, c⟩ | ⟨u, hu, e, e2⟩
    · simp only [e] at H
      have HK := H h ⟨B, I⟩ (Fc_rf h)
      refine ⟨fun c0 => ?_, fun c0 => ⟨fun c1 => ?_, fun _ => HK⟩⟩
      · subst c0
        rcases c with c | c
        · exact absurd c (by decide)
        · exact absurd c (by decide)
      · subst c1
        rcases c with c | c
        · exact absurd c (by decide)
        · exact absurd c (by decide)
    · simp only [e2] at H
      subst e
      have go := k_count_28 (kd := k) (wd := u) I w (by omega) (by omega) (sS σ) 0 0 h (by omega) (Qs_rf I) (fun h' Q' => by rw [Nat.zero_add]; exact Qs_K I w Q' H)
      refine ⟨fun _ => go, fun c0 => ⟨fun _ => go, fun c1 => ?_⟩⟩
      exfalso
      rw [eq_I (by omega) (by omega)] at c0 c1
      omega
end KQ3
