/-! the model's questions -/
section OP2
variable {σ : St} {h : HP} {K : Int32 → HP → Prop}
/-- two rows of pieces are LIKE -/
def lkL (f : Nat → Nat) (LA LB : PcL) : Bool := decide (LA.length = LB.length) && liF f LA LB
def lkSP (σ : St) (s p : Nat) : Bool := lkL (sf σ) (pcRw σ (2 + p)) (pcB σ s)
def scSP (σ : St) (s p : Nat) : Nat := scN (sf σ) (pcRw σ (2 + p)) (pcB σ s)
theorem scN_le (f : Nat → Nat) (LA LB : PcL) : scN f LA LB ≤ 100 := by
  unfold scN
  split
  · exact Nat.le_refl _
  · exact Nat.sub_le _ _
def a2 (σ : St) (v p : Int32) (k : Nat → Nat → Int32) : Int32 := match ixI v (sS σ) with
  | none => -nI 1
  | some s => match ixI p (sP σ) with
    | none => -nI 1
    | some q => k s q
def aLike (σ : St) (v p : Int32) : Int32 := a2 σ v p (fun s q => b2I (lkSP σ s q))
def aScore (σ : St) (v p : Int32) : Int32 := a2 σ v p (fun s q => nI (scSP σ s q))
theorem m_like2 {v p : Int32} (I : InvM σ h) (w : WF σ) (H : ∀ h', InvM σ h' → Fo h h' → K (aLike σ v p) h') : wq_M_like2 338 v p h K := by
  have hM := I.1
  have hS := w.2.1.1
  have hP := w.2.2.1.1
  unfold aLike a2 at H
  unfold wq_M_like2
  refine ⟨MSh_o hM, m_isSegment I w ?_⟩
  simp only [i0, i1, nLit, mul_I, add_I, nI_cl, b2I_s]
  rcases ixI_c v (n := sS σ) (by omega) with ⟨e, c⟩ | ⟨s, hs, e, e2⟩
  · simp only [e] at H ⊢
    exact ⟨fun _ => H h I (Fo_rf h), fun z => absurd (by first | trivial | rfl) z⟩
  · simp only [e2] at H ⊢
    subst e
    refine ⟨fun z => absurd z (by simp), fun _ => ⟨MSh_o hM, m_isPair I w ?_⟩⟩
    simp only [b2I_s]
    rcases ixI_c p (n := sP σ) (by omega) with ⟨e, c⟩ | ⟨q, hq, e, e2⟩
    · simp only [e] at H ⊢
      exact ⟨fun z => absurd (by first | trivial | rfl) z, fun _ => H h I (Fo_rf h)⟩
    · simp only [e2] at H ⊢
      subst e
      refine ⟨fun _ => ⟨MSh_o hM, m_readBoth I w hs hq (fun h1 F1 _ PA PB => ?_)⟩, fun z => absurd z (by simp)⟩
      have I1 := InvM_m F1 I
      have HK : K (b2I (lkSP σ s q)) h1 := MK_q I F1 H
      refine ⟨MSh_o I1.1, m_like (IM_B I1 w) PA PB (pcRw_Wf w (by omega)) (pcB_Wf w hs) ?_⟩
      exact ⟨fun z => b2_0 (b2I_0 z) HK, fun z => b2_1 (b2I_1 z) HK⟩
theorem m_score {v p : Int32} (I : InvM σ h) (w : WF σ) (H : ∀ h', InvM σ h' → Fo h h' → K (aScore σ v p) h') : wq_M_score 338 v p h K := by
  have hM := I.1
  have hS := w.2.1.1
  have hP := w.2.2.1.1
  unfold aScore a2 at H
  unfold wq_M_score
  refine ⟨MSh_o hM, m_isSegment I w ?_⟩
  simp only [i0, i1, nLit, mul_I, add_I, nI_cl, b2I_s]
  rcases ixI_c v (n := sS σ) (by omega) with ⟨e, c⟩ | ⟨s, hs, e, e2⟩
  · simp only [e] at H ⊢
    exact ⟨fun _ => H h I (Fo_rf h), fun z => absurd (by first | trivial | rfl) z⟩
  · simp only [e2] at H ⊢
    subst e
    refine ⟨fun z => absurd z (by simp), fun _ => ⟨MSh_o hM, m_isPair I w ?_⟩⟩
    simp only [b2I_s]
    rcases ixI_c p (n := sP σ) (by omega) with ⟨e, c⟩ | ⟨q, hq, e, e2⟩
    · simp only [e] at H ⊢
      exact ⟨fun _ => H h I (Fo_rf h), fun z => absurd (by first | trivial | rfl) z⟩
    · simp only [e2] at H ⊢
      subst e
      refine ⟨fun z => absurd z (by simp), fun _ => ⟨MSh_o hM, m_scoreOf I w hs hq (fun h1 F1 _ => ?_)⟩⟩
      exact MK_q I F1 H
/-- how many of the first n renderings are of pair p -/
def cntW (w : Nat → Nat) (p : Nat) : Nat → Nat → Nat
  | 0, _ => 0
  | r + 1, k => (if w k = p then 1 else 0) + cntW w p r (k + 1)
theorem m_pair_82 {p : Nat} (I : InvM σ h) (w : WF σ) (hp : p < 1000) : ∀ (r k a : Nat), k + r = sR σ → K (nI (a + cntW (sw σ) p r k)) h → Wp k_M_pair 82 [some (.ref 338), some (.int (nI p)), none, none, some (.int (nI a)), some (.int (nI k))] [] h (0, 0) (QI K)
  | 0, k, a, h1, H => wb_M_pair_82_ok (by
      have hM := I.1
      have hR := w.2.2.1.2.1
      unfold wb_M_pair_82
      simp (disch := omega) only [i0, i1, nLit, mul_I, add_I, nI_cl, isO_stI, isA_stI, isL_stI, gR_stI, gJ_stI, gK_stI, gL_stI, gS_stI, true_and, and_true, forall_eq, implies_true, ps_339, MSh_o hM, I.2.2.2.2.1.2.1, le_I]
      exact ⟨fun _ => H, fun z => absurd (by omega) z⟩)
  | r + 1, k, a, h1, H => wb_M_pair_82_ok (by
      have hM := I.1
      have hR := w.2.2.1.2.1
      have hk := (IM_P I w).2 k (by omega)
      unfold wb_M_pair_82
      simp (disch := omega) only [i0, i1, nLit, mul_I, add_I, nI_cl, isO_stI, isA_stI, isL_stI, gR_stI, gJ_stI, gK_stI, gL_stI, gS_stI, true_and, and_true, forall_eq, implies_true, ps_339, MSh_o hM, mR_pairOf hM, mL_pairOf hM, mA_pairOf hM, I.2.2.2.2.1.2.1, hk.1, le_I, eq_I]
      refine ⟨fun z => absurd z (by omega), fun _ => ⟨fun c => ?_, fun c => ?_⟩⟩
      · refine m_pair_82 I w hp r (k + 1) _ (by omega) ?_
        simpa [cntW, c] using H
      · refine m_pair_82 I w hp r (k + 1) _ (by omega) ?_
        simpa [cntW, c, Nat.add_assoc] using H)
/-- the latest rendering of a pair that is there -/
def ltR (σ : St) (p : Nat) : Nat := latN (sw σ) p (sR σ) - 1
theorem latN_le (w : Nat → Nat) (p : Nat) : ∀ t, latN w p t ≤ t
  | 0 => Nat.le_refl 0
  | t + 1 => by
    have := latN_le w p t
    unfold latN
    split <;> omega
theorem ltR_lt (w : WF σ) {p : Nat} (hp : p < sP σ) : ltR σ p < sR σ ∧ latN (sw σ) p (sR σ) = ltR σ p + 1 := by
  have h1 := w.2.2.1.2.2.2.2.1 p hp
  have h2 := latN_le (sw σ) p (sR σ)
  unfold ltR
  omega
def aPair (σ : St) (p what : Int32) : Int32 := match ixI p (sP σ) with
  | none => -nI 1
  | some q => if what = nI 0 then nI (sz σ (2 + q)) else if what = nI 1 then nI (sz σ (22 + ltR σ q)) else if what = nI 2 then nI (cntW (sw σ) q (sR σ) 0) else if what = nI 3 then nI (sy σ (ltR σ q)) else if what = nI 4 then nI (ltR σ q + 1) else -nI 1
theorem m_pair {p what : Int32} (I : InvM σ h) (w : WF σ) (H : ∀ h', InvM σ h' → Fo h h' → K (aPair σ p what) h') : wq_M_pair 338 p what h K := by
  have hM := I.1
  have hP := w.2.2.1.1
  have hR := w.2.2.1.2.1
  have HK := H h I (Fo_rf h)
  unfold aPair at HK
  unfold wq_M_pair
  refine ⟨MSh_o hM, m_isPair I w ?_⟩
  simp only [i0, i1, nLit, mul_I, add_I, nI_cl, b2I_s]
  rcases ixI_c p (n := sP σ) (by omega) with ⟨e, c⟩ | ⟨q, hq, e, e2⟩
  · simp only [e] at HK ⊢
    exact ⟨fun z => absurd (by first | trivial | rfl) z, fun _ => HK⟩
  · simp only [e2] at HK ⊢
    subst e
    have hl := ltR_lt w hq
    refine ⟨fun _ => ⟨MSh_o hM, MSh_o hM, ?_⟩, fun z => absurd z (by simp)⟩
    rw [I.2.2.2.2.1.2.1]
    refine m_latest hM (IM_P I w) (by omega) (Nat.le_refl _) ?_
    rw [hl.2]
    simp (disch := omega) only [tI, i0, i1, nLit, mul_I, add_I, nI_cl, isO_stI, isA_stI, isL_stI, gR_stI, gJ_stI, gK_stI, gL_stI, gS_stI, true_and, and_true, forall_eq, implies_true, ps_339, MSh_o hM, mR_size hM, mL_size hM, mA_size hM, mR_who hM, mL_who hM, mA_who hM, I.2.2.1, I.2.2.2.2.1.2.2 (ltR σ q) (by omega)]
    refine ⟨fun c0 c1 c2 c3 c4 => ?_, fun c => ?_, fun c => ?_, fun c => ?_, fun c => ?_, fun c => ?_⟩
    · simpa [c0, c1, c2, c3, c4] using HK
    · subst c; exact HK
    · subst c; exact HK
    · subst c
      exact m_pair_82 I w (by omega) (sR σ) 0 0 (by omega) (by rw [Nat.zero_add]; exact HK)
    · subst c; exact HK
    · subst c; exact HK
def aByte (σ : St) (r : Nat) (i : Int32) : Int32 := match ixI i (sz σ r) with
  | none => -nI 1
  | some k => nI (sf σ (600 * r + k))
theorem m_rendered_58 {r : Nat} {i : Int32} (I : InvM σ h) (w : WF σ) (hr : r < 62) (H : K (aByte σ r i) h) : wb_M_rendered_58 338 i (nI r) h K := by
  have hM := I.1
  have hz := w.1.2 r hr
  unfold aByte at H
  unfold wb_M_rendered_58
  simp (disch := omega) only [i0, i1, nLit, mul_I, add_I, nI_cl, isO_stI, isA_stI, isL_stI, gR_stI, gJ_stI, gK_stI, gL_stI, gS_stI, true_and, and_true, forall_eq, implies_true, ps_339, MSh_o hM, mR_size hM, mL_size hM, mA_size hM, I.2.2.1, sub1_I]
  refine m_inN (by omega) ?_
  simp only [b2I_s]
  rcases ixI_c i (n := sz σ r) (by omega) with ⟨e, c⟩ | ⟨k, hk, e, e2⟩
  · simp only [e] at H ⊢
    exact ⟨fun _ => H, fun z => absurd (by first | trivial | rfl) z⟩
  · simp only [e2] at H ⊢
    subst e
    simp (disch := omega) only [i0, i1, nLit, mul_I, add_I, nI_cl, isO_stI, isA_stI, isL_stI, gR_stI, gJ_stI, gK_stI, gL_stI, gS_stI, true_and, and_true, forall_eq, implies_true, ps_339, MSh_o hM, mR_bytes hM, mL_bytes hM, mA_bytes hM, I.2.1]
    exact ⟨fun z => absurd z (by simp), fun _ => H⟩
/-- a TIME from -1 on -/
def aRendered (σ : St) (p t i : Int32) : Int32 := match ixI p (sP σ) with
  | none => -nI 1
  | some q => if t = -nI 1 then aByte σ (2 + q) i else match ixI t (sR σ + 1) with
    | none => -nI 1
    | some t => match latN (sw σ) q t with
      | 0 => -nI 1
      | r + 1 => aByte σ (22 + r) i
theorem m_rendered {p t i : Int32} (I : InvM σ h) (w : WF σ) (H : ∀ h', InvM σ h' → Fo h h' → K (aRendered σ p t i) h') : wq_M_rendered 338 p t i h K := by
  have hM := I.1
  have hP := w.2.2.1.1
  have hR := w.2.2.1.2.1
  have HK := H h I (Fo_rf h)
  unfold aRendered at HK
  unfold wq_M_rendered
  refine ⟨MSh_o hM, m_isPair I w ?_⟩
  simp only [i0, i1, nLit, mul_I, add_I, nI_cl, b2I_s]
  rcases ixI_c p (n := sP σ) (by omega) with ⟨e, c⟩ | ⟨q, hq, e, e2⟩
  · simp only [e] at HK ⊢
    exact ⟨fun _ => HK, fun z => absurd (by first | trivial | rfl) z⟩
  · simp only [e2] at HK ⊢
    subst e
    refine ⟨fun z => absurd z (by simp), fun _ => ⟨MSh_o hM, m_in ?_⟩⟩
    rw [I.2.2.2.2.1.2.1]
    by_cases ct : t = -nI 1
    · rw [if_pos ct] at HK
      subst ct
      have le : (-nI 1 : Int32) ≤ nI (sR σ) := Int32.le_trans (by decide : (-nI 1 : Int32) ≤ 0) (nI_pos' (by omega))
      rw [if_pos ⟨Int32.le_refl _, le⟩]
      refine ⟨fun _ => ⟨MSh_o hM, ?_⟩, fun z => absurd z (by decide)⟩
      unfold wq_M_latest
      refine wb_M_latest_4_ok ?_
      unfold wb_M_latest_4
      refine ⟨fun _ => ?_, fun z => absurd (by decide) z⟩
      refine ⟨fun _ => ?_, fun z => absurd (by decide) z⟩
      unfold wb_M_rendered_42
      refine ⟨fun z => absurd (by first | trivial | rfl) z, fun _ => ?_⟩
      simp only [i0, i1, nLit, mul_I, add_I, nI_cl]
      exact m_rendered_58 I w (by omega) HK
    · rw [if_neg ct] at HK
      rcases ixI_c t (n := sR σ + 1) (by omega) with ⟨e, c⟩ | ⟨k, hk, e, e2⟩
      · simp only [e] at HK
        rw [if_neg]
        · exact ⟨fun z => absurd (by first | trivial | rfl) z, fun _ => HK⟩
        · rintro ⟨c1, c2⟩
          rcases c with c | c
          · have : t.toInt < 0 := by simpa using Int32.lt_iff_toInt_lt.mp c
            have h2 := Int32.le_iff_toInt_le.mp c1
            rw [show (-nI 1 : Int32).toInt = -1 from by decide] at h2
            apply ct
            apply Int32.toInt_inj.mp
            rw [show (-nI 1 : Int32).toInt = -1 from by decide]
            omega
          · exact Int32.not_lt.mpr (Int32.le_trans c c2) ((lt_I (by omega) (by omega)).mpr (by omega))
      · simp only [e2] at HK
        subst e
        have le : (-nI 1 : Int32) ≤ nI k := Int32.le_trans (by decide : (-nI 1 : Int32) ≤ 0) (nI_pos' (by omega))
        rw [if_pos ⟨le, (le_I (by omega) (by omega)).mpr (by omega)⟩]
        refine ⟨fun _ => ⟨MSh_o hM, m_latest hM (IM_P I w) (by omega) (by omega) ?_⟩, fun z => absurd z (by decide)⟩
        have hll := latN_le (sw σ) q k
        refine ⟨fun z => absurd z (nI_pos (by omega)), fun _ => ?_⟩
        generalize latN (sw σ) q k = u at *
        cases u with
        | zero => exact ⟨fun z => absurd (by first | trivial | rfl) z, fun _ => HK⟩
        | succ u =>
          refine ⟨fun _ => ?_, fun z => absurd z (fun y => ?_)⟩
          · unfold wb_M_rendered_42
            refine ⟨fun _ => ?_, fun z => absurd z ct⟩
            simp only [tI, i0, i1, nLit, mul_I, add_I, nI_cl]
            exact m_rendered_58 I w (by omega) HK
          · have : (0 : Int32) ≤ nI u := nI_pos' (by omega)
            rw [show nI u = -nI 1 from y] at this
            exact absurd this (by decide)
end OP2
