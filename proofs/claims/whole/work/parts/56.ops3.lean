section OP3
variable {σ : St} {K : Int32 → HP → Prop}
/-- how many pairs from k on, r of them, are told ahead of p -/
def ahN (σ : St) (s p : Nat) : Nat → Nat → Nat
  | 0, _ => 0
  | r + 1, k => (if scSP σ s p < scSP σ s k ∨ (scSP σ s k = scSP σ s p ∧ ltR σ p < ltR σ k) then 1 else 0) + ahN σ s p r (k + 1)
def fnd (σ : St) (s l : Nat) (i : Int32) : Nat → Nat → Int32
  | 0, _ => -nI 1
  | r + 1, k => if l ≤ scSP σ s k ∧ nI (ahN σ s k (sP σ) 0) = i then nI k else fnd σ s l i r (k + 1)
def aFound (σ : St) (v least i : Int32) : Int32 := match ixI v (sS σ) with
  | none => -nI 1
  | some s => if nI 0 ≤ i then (match ixI least 101 with
    | none => -nI 2
    | some l => fnd σ s l i (sP σ) 0) else -nI 1
theorem m_found_91 {h : HP} {s l p : Nat} {i : Int32} (I : InvM σ h) (w : WF σ) (hp : p < sP σ) (hs : ∀ q, q < sP σ → gI h 355 q = nI (scSP σ s q)) (H1 : nI (ahN σ s p (sP σ) 0) = i → K (nI p) h) (H2 : ¬ nI (ahN σ s p (sP σ) 0) = i → Wp k_M_found 62 [some (.ref 338), none, some (.int (nI l)), some (.int i), some (.int (nI (p + 1))), none, none] [] h (0, 0) (QI K)) :
    ∀ (r k a : Nat), k + r = sP σ → a + ahN σ s p r k = ahN σ s p (sP σ) 0 → Wp k_M_found 91 [some (.ref 338), none, some (.int (nI l)), some (.int i), some (.int (nI p)), some (.int (nI a)), some (.int (nI k))] [] h (0, 0) (QI K)
  | 0, k, a, h1, h2 => wb_M_found_91_ok (by
      have hM := I.1
      have hP := w.2.2.1.1
      unfold wb_M_found_91
      simp (disch := omega) only [i0, i1, nLit, mul_I, add_I, nI_cl, isO_stI, isA_stI, isL_stI, gR_stI, gJ_stI, gK_stI, gL_stI, gS_stI, true_and, and_true, forall_eq, implies_true, ps_339, MSh_o hM, I.2.2.2.2.1.1, le_I]
      have e : a = ahN σ s p (sP σ) 0 := by rw [← h2]; rfl
      rw [e]
      exact ⟨fun _ => ⟨H2, H1⟩, fun z => absurd (by omega) z⟩)
  | r + 1, k, a, h1, h2 => wb_M_found_91_ok (by
      have hM := I.1
      have hP := w.2.2.1.1
      have hR := w.2.2.1.2.1
      have hk : k < sP σ := by omega
      have s1 : scSP σ s p ≤ 100 := scN_le _ _ _
      have s2 : scSP σ s k ≤ 100 := scN_le _ _ _
      have go := m_found_91 I w hp hs H1 H2 r (k + 1)
      have lp := ltR_lt w hp
      have lk := ltR_lt w hk
      unfold wb_M_found_91
      simp (disch := omega) only [i0, i1, nLit, mul_I, add_I, nI_cl, isO_stI, isA_stI, isL_stI, gR_stI, gJ_stI, gK_stI, gL_stI, gS_stI, true_and, and_true, forall_eq, implies_true, ps_339, MSh_o hM, mR_scores hM, mL_scores hM, mA_scores hM, I.2.2.2.2.1.1, I.2.2.2.2.1.2.1, le_I, lt_I, eq_I, hs k hk, hs p hp]
      refine ⟨fun z => absurd z (by omega), fun _ => ⟨fun c => go (a + 1) (by omega) ?_, fun c => ⟨fun c2 => go (a + 0) (by omega) ?_, fun c2 => ?_⟩⟩⟩
      · rw [← h2]; simp only [ahN, if_pos (Or.inl c), Nat.add_assoc]
      · rw [← h2]; simp only [ahN, if_neg (show ¬ (scSP σ s p < scSP σ s k ∨ (scSP σ s k = scSP σ s p ∧ ltR σ p < ltR σ k)) by omega), Nat.add_assoc]
      · refine m_latest hM (IM_P I w) (by omega) (Nat.le_refl _) ⟨MSh_o hM, MSh_o hM, ?_⟩
        rw [I.2.2.2.2.1.2.1]
        refine m_latest hM (IM_P I w) (by omega) (Nat.le_refl _) ?_
        rw [lp.2, lk.2]
        simp (disch := omega) only [tI, le_I]
        refine ⟨fun c3 => go (a + 0) (by omega) ?_, fun c3 => go (a + 1) (by omega) ?_⟩
        · rw [← h2]; simp only [ahN, if_neg (show ¬ (scSP σ s p < scSP σ s k ∨ (scSP σ s k = scSP σ s p ∧ ltR σ p < ltR σ k)) by omega), Nat.add_assoc]
        · rw [← h2]; simp only [ahN, if_pos (show (scSP σ s p < scSP σ s k ∨ (scSP σ s k = scSP σ s p ∧ ltR σ p < ltR σ k)) by omega), Nat.add_assoc])
theorem m_found_62 {h : HP} {s l : Nat} {i : Int32} (I : InvM σ h) (w : WF σ) (hl : l ≤ 100) (hs : ∀ q, q < sP σ → gI h 355 q = nI (scSP σ s q)) :
    ∀ (r k : Nat), k + r = sP σ → K (fnd σ s l i r k) h → Wp k_M_found 62 [some (.ref 338), none, some (.int (nI l)), some (.int i), some (.int (nI k)), none, none] [] h (0, 0) (QI K)
  | 0, k, h1, H => wb_M_found_62_ok (by
      have hM := I.1
      have hP := w.2.2.1.1
      unfold wb_M_found_62
      simp (disch := omega) only [i0, i1, nLit, mul_I, add_I, nI_cl, isO_stI, isA_stI, isL_stI, gR_stI, gJ_stI, gK_stI, gL_stI, gS_stI, true_and, and_true, forall_eq, implies_true, ps_339, MSh_o hM, I.2.2.2.2.1.1, le_I]
      exact ⟨fun _ => H, fun z => absurd (by omega) z⟩)
  | r + 1, k, h1, H => wb_M_found_62_ok (by
      have hM := I.1
      have hP := w.2.2.1.1
      have hk : k < sP σ := by omega
      have s2 : scSP σ s k ≤ 100 := scN_le _ _ _
      unfold wb_M_found_62
      simp (disch := omega) only [i0, i1, nLit, mul_I, add_I, nI_cl, isO_stI, isA_stI, isL_stI, gR_stI, gJ_stI, gK_stI, gL_stI, gS_stI, true_and, and_true, forall_eq, implies_true, ps_339, MSh_o hM, mR_scores hM, mL_scores hM, mA_scores hM, I.2.2.2.2.1.1, le_I, hs k hk]
      refine ⟨fun z => absurd z (by omega), fun _ => ⟨fun c => ?_, fun c => ?_⟩⟩
      · refine m_found_91 I w hk hs (fun e => ?_) (fun e => m_found_62 I w hl hs r (k + 1) (by omega) ?_) (sP σ) 0 0 (by omega) (Nat.zero_add _)
        · simpa [fnd, c, e] using H
        · simpa [fnd, c, e] using H
      · refine m_found_62 I w hl hs r (k + 1) (by omega) ?_
        simpa [fnd, c] using H)
theorem m_found_30 {h0 : HP} {s l : Nat} {i : Int32} (I0 : InvM σ h0) (w : WF σ) (hss : s < sS σ) (hl : l ≤ 100) (H : ∀ h', Fm h0 h' → K (fnd σ s l i (sP σ) 0) h') :
    ∀ (r k : Nat) (h : HP), k + r = sP σ → Fm h0 h → (∀ q, q < k → gI h 355 q = nI (scSP σ s q)) → Wp k_M_found 30 [some (.ref 338), some (.int (nI s)), some (.int (nI l)), some (.int i), some (.int (nI k)), none, none] [] h (0, 0) (QI K)
  | 0, k, h, h1, F, hs => wb_M_found_30_ok (by
      have I := InvM_m F I0
      have hM := I.1
      have hP := w.2.2.1.1
      unfold wb_M_found_30
      simp (disch := omega) only [i0, i1, nLit, mul_I, add_I, nI_cl, isO_stI, isA_stI, isL_stI, gR_stI, gJ_stI, gK_stI, gL_stI, gS_stI, true_and, and_true, forall_eq, implies_true, ps_339, MSh_o hM, I.2.2.2.2.1.1, le_I]
      exact ⟨fun _ => m_found_62 I w hl (fun q hq => hs q (by omega)) (sP σ) 0 (by omega) (H h F), fun z => absurd (by omega) z⟩)
  | r + 1, k, h, h1, F, hs => wb_M_found_30_ok (by
      have I := InvM_m F I0
      have hM := I.1
      have hP := w.2.2.1.1
      unfold wb_M_found_30
      simp (disch := omega) only [i0, i1, nLit, mul_I, add_I, nI_cl, isO_stI, isA_stI, isL_stI, gR_stI, gJ_stI, gK_stI, gL_stI, gS_stI, true_and, and_true, forall_eq, implies_true, ps_339, MSh_o hM, mR_scores hM, mL_scores hM, mA_scores hM, I.2.2.2.2.1.1, le_I]
      refine ⟨fun z => absurd z (by omega), fun _ => m_scoreOf I w hss (by omega) (fun h2 F2 E2 => ⟨?_, ?_⟩)⟩
      · exact mA_scores (InvM_m F2 I).1 (by omega)
      · rw [← scSP]
        refine m_found_30 I0 w hss hl H r (k + 1) _ (by omega) (Fm_st (Fm_tr F F2) rfl) (fun q hq => ?_)
        rw [gI_stI]
        by_cases z : q = k
        · rw [if_pos ⟨rfl, z⟩, z]
        · rw [if_neg (fun y => z y.2), E2]
          exact hs q (by omega))
theorem m_found {h : HP} {v least i : Int32} (I : InvM σ h) (w : WF σ) (H : ∀ h', InvM σ h' → Fo h h' → K (aFound σ v least i) h') : wq_M_found 338 v least i h K := by
  have hM := I.1
  have hS := w.2.1.1
  unfold aFound at H
  unfold wq_M_found
  refine ⟨MSh_o hM, m_isSegment I w ?_⟩
  simp only [i0, i1, nLit, mul_I, add_I, nI_cl, b2I_s]
  rcases ixI_c v (n := sS σ) (by omega) with ⟨e, c⟩ | ⟨s, hs, e, e2⟩
  · simp only [e] at H ⊢
    exact ⟨fun _ => H h I (Fo_rf h), fun z => absurd (by first | trivial | rfl) z⟩
  · simp only [e2] at H ⊢
    subst e
    refine ⟨fun z => absurd z (by simp), fun _ => ⟨fun ci => ?_, fun ci => ?_⟩⟩
    · simp only [if_pos ci] at H
      refine m_inM (by decide) ?_
      simp only [b2I_s]
      rcases ixI_c least (n := 101) (by decide) with ⟨e, c⟩ | ⟨l, hl, e, e2⟩
      · simp only [e] at H ⊢
        exact ⟨fun z => absurd (by first | trivial | rfl) z, fun _ => H h I (Fo_rf h)⟩
      · simp only [e2] at H ⊢
        subst e
        exact ⟨fun _ => m_found_30 I w hs (by omega) (fun h' F' => MK_q I F' H) (sP σ) 0 h (by omega) (Fm_rf h) (fun q hq => absurd hq (by omega)), fun z => absurd z (by simp)⟩
    · simp only [if_neg ci] at H
      exact H h I (Fo_rf h)
/-- how many segments from k on, r of them, are LIKE the source of p -/
def sprN (σ : St) (p : Nat) : Nat → Nat → Nat
  | 0, _ => 0
  | r + 1, k => (if lkSP σ k p = true then 1 else 0) + sprN σ p r (k + 1)
def aSpread (σ : St) (p : Int32) : Int32 := match ixI p (sP σ) with
  | none => -nI 1
  | some q => nI (sprN σ q (sS σ) 0)
theorem m_spread_14 {h0 : HP} {p : Nat} (I0 : InvM σ h0) (w : WF σ) (hp : p < sP σ) : ∀ (r k a : Nat) (h : HP), k + r = sS σ → Fm h0 h → (∀ h', Fm h0 h' → K (nI (a + sprN σ p r k)) h') → Wp k_M_spread 14 [some (.ref 338), some (.int (nI p)), some (.int (nI a)), some (.int (nI k))] [] h (0, 0) (QI K)
  | 0, k, a, h, h1, F, H => wb_M_spread_14_ok (by
      have I := InvM_m F I0
      have hM := I.1
      have hS := w.2.1.1
      unfold wb_M_spread_14
      simp (disch := omega) only [i0, i1, nLit, mul_I, add_I, nI_cl, isO_stI, isA_stI, isL_stI, gR_stI, gJ_stI, gK_stI, gL_stI, gS_stI, true_and, and_true, forall_eq, implies_true, ps_339, MSh_o hM, I.2.2.2.1.1, le_I]
      exact ⟨fun _ => H h F, fun z => absurd (by omega) z⟩)
  | r + 1, k, a, h, h1, F, H => wb_M_spread_14_ok (by
      have I := InvM_m F I0
      have hM := I.1
      have hS := w.2.1.1
      have hP := w.2.2.1.1
      unfold wb_M_spread_14
      simp (disch := omega) only [i0, i1, nLit, mul_I, add_I, nI_cl, isO_stI, isA_stI, isL_stI, gR_stI, gJ_stI, gK_stI, gL_stI, gS_stI, true_and, and_true, forall_eq, implies_true, ps_339, MSh_o hM, I.2.2.2.1.1, le_I]
      refine ⟨fun z => absurd z (by omega), fun _ => m_readBoth I w (by omega) hp (fun h2 F2 _ PA PB => ?_)⟩
      have I2 := InvM_m F2 I
      refine ⟨MSh_o I2.1, m_like (IM_B I2 w) PA PB (pcRw_Wf w (by omega)) (pcB_Wf w (by omega)) ⟨fun c => ?_, fun c => ?_⟩⟩
      · have c2 : lkSP σ k p = false := b2I_0 c
        refine m_spread_14 I0 w hp r (k + 1) _ h2 (by omega) (Fm_tr F F2) (fun h' F' => ?_)
        have := H h' F'
        simpa [sprN, c2] using this
      · have c2 : lkSP σ k p = true := b2I_1 c
        refine m_spread_14 I0 w hp r (k + 1) _ h2 (by omega) (Fm_tr F F2) (fun h' F' => ?_)
        have := H h' F'
        simpa [sprN, c2, Nat.add_assoc] using this)
theorem m_spread {h : HP} {p : Int32} (I : InvM σ h) (w : WF σ) (H : ∀ h', InvM σ h' → Fo h h' → K (aSpread σ p) h') : wq_M_spread 338 p h K := by
  have hM := I.1
  have hP := w.2.2.1.1
  unfold aSpread at H
  unfold wq_M_spread
  refine ⟨MSh_o hM, m_isPair I w ?_⟩
  simp only [i0, i1, nLit, mul_I, add_I, nI_cl, b2I_s]
  rcases ixI_c p (n := sP σ) (by omega) with ⟨e, c⟩ | ⟨q, hq, e, e2⟩
  · simp only [e] at H ⊢
    exact ⟨fun z => absurd (by first | trivial | rfl) z, fun _ => H h I (Fo_rf h)⟩
  · simp only [e2] at H ⊢
    subst e
    exact ⟨fun _ => m_spread_14 I w hq (sS σ) 0 0 h (by omega) (Fm_rf h) (fun h' F' => by rw [Nat.zero_add]; exact MK_q I F' H), fun z => absurd z (by simp)⟩
end OP3
