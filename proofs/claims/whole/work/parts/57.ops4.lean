section OP4
variable {σ : St} {K : Int32 → HP → Prop}
theorem lt_tI {a n : Nat} (ha : a < 2147483648) (hn : n < 2147483648) : (tI a < nI n) ↔ a ≤ n := by
  cases a with
  | zero => exact ⟨fun _ => Nat.zero_le n, fun _ => Int32.lt_of_lt_of_le (by decide : tI 0 < 0) (nI_pos' hn)⟩
  | succ a => exact (lt_I (by omega) hn).trans (by omega)
def agN (σ : St) (s : Nat) : Nat → Nat → Bool
  | 0, _ => false
  | r + 1, k => lkL (sf σ) (pcB σ k) (pcB σ s) || agN σ s r (k + 1)
def knN (σ : St) (s : Nat) : Nat → Nat → Bool
  | 0, _ => false
  | r + 1, k => lkSP σ s k || knN σ s r (k + 1)
def bsN (σ : St) (s : Nat) : Nat → Nat → Nat → Nat
  | 0, _, a => a
  | r + 1, k, a => bsN σ s r (k + 1) (max a (scSP σ s k + 1))
def kdC (a : Nat) : Nat := if a ≤ 75 then (if a ≤ 50 then 4 else 3) else 2
def cdN (σ : St) (s : Nat) : Nat := if agN σ s s 0 = true then 0 else if knN σ s (sP σ) 0 = true then 1 else kdC (bsN σ s (sP σ) 0 0)
theorem bsN_le (σ : St) (s : Nat) : ∀ r k a, a ≤ 101 → bsN σ s r k a ≤ 101
  | 0, _, _, h => h
  | r + 1, k, a, h => bsN_le σ s r (k + 1) _ (by have : scSP σ s k ≤ 100 := scN_le _ _ _; omega)
theorem m_countedOf_71 {h0 : HP} {s : Nat} (I0 : InvM σ h0) (w : WF σ) (hs : s < sS σ) : ∀ (r k a : Nat) (h : HP), k + r = sP σ → a ≤ 101 → Fm h0 h → (∀ h', Fm h0 h' → K (nI (kdC (bsN σ s r k a))) h') → Wp k_M_countedOf 71 [some (.ref 338), some (.int (nI s)), some (.int (tI a)), some (.int (nI k)), none] [] h (0, 0) (QI K)
  | 0, k, a, h, h1, ha, F, H => wb_M_countedOf_71_ok (by
      have I := InvM_m F I0
      have hM := I.1
      have hP := w.2.2.1.1
      have HK : K (nI (kdC a)) h := H h F
      unfold wb_M_countedOf_71
      simp (disch := omega) only [i0, i1, nLit, mul_I, add_I, nI_cl, isO_stI, isA_stI, isL_stI, gR_stI, gJ_stI, gK_stI, gL_stI, gS_stI, true_and, and_true, forall_eq, implies_true, ps_339, MSh_o hM, I.2.2.2.2.1.1, le_I, lt_tI]
      refine ⟨fun _ => ⟨fun c => ⟨fun c2 => ?_, fun c2 => ?_⟩, fun c => ?_⟩, fun z => absurd (by omega) z⟩
      · rwa [kdC, if_pos c, if_pos c2] at HK
      · rwa [kdC, if_pos c, if_neg c2] at HK
      · rwa [kdC, if_neg c] at HK)
  | r + 1, k, a, h, h1, ha, F, H => wb_M_countedOf_71_ok (by
      have I := InvM_m F I0
      have hM := I.1
      have hP := w.2.2.1.1
      have s2 : scSP σ s k ≤ 100 := scN_le _ _ _
      unfold wb_M_countedOf_71
      simp (disch := omega) only [i0, i1, nLit, mul_I, add_I, nI_cl, isO_stI, isA_stI, isL_stI, gR_stI, gJ_stI, gK_stI, gL_stI, gS_stI, true_and, and_true, forall_eq, implies_true, ps_339, MSh_o hM, I.2.2.2.2.1.1, le_I]
      refine ⟨fun z => absurd z (by omega), fun _ => m_scoreOf I w hs (by omega) (fun h2 F2 _ => ?_)⟩
      rw [← scSP]
      simp (disch := omega) only [le_tI]
      refine ⟨fun c => ?_, fun c => ?_⟩
      · refine m_countedOf_71 I0 w hs r (k + 1) a h2 (by omega) ha (Fm_tr F F2) (fun h' F' => ?_)
        have := H h' F'
        rwa [bsN, show max a (scSP σ s k + 1) = a by omega] at this
      · refine m_countedOf_71 I0 w hs r (k + 1) (scSP σ s k + 1) h2 (by omega) (by omega) (Fm_tr F F2) (fun h' F' => ?_)
        have := H h' F'
        rwa [bsN, show max a (scSP σ s k + 1) = scSP σ s k + 1 by omega] at this)
theorem m_countedOf_36 {h0 : HP} {s : Nat} (I0 : InvM σ h0) (w : WF σ) (hs : s < sS σ) : ∀ (r k : Nat) (h : HP), k + r = sP σ → Fm h0 h → PlR h 1 (pcB σ s) → (∀ h', Fm h0 h' → K (nI (if knN σ s r k = true then 1 else kdC (bsN σ s (sP σ) 0 0))) h') → Wp k_M_countedOf 36 [some (.ref 338), some (.int (nI s)), some (.int (nI k)), none, none] [] h (0, 0) (QI K)
  | 0, k, h, h1, F, PB, H => wb_M_countedOf_36_ok (by
      have I := InvM_m F I0
      have hM := I.1
      have hP := w.2.2.1.1
      unfold wb_M_countedOf_36
      simp (disch := omega) only [i0, i1, nLit, mul_I, add_I, nI_cl, isO_stI, isA_stI, isL_stI, gR_stI, gJ_stI, gK_stI, gL_stI, gS_stI, true_and, and_true, forall_eq, implies_true, ps_339, MSh_o hM, I.2.2.2.2.1.1, le_I]
      exact ⟨fun _ => m_countedOf_71 I0 w hs (sP σ) 0 0 h (by omega) (by omega) F H, fun z => absurd (by omega) z⟩)
  | r + 1, k, h, h1, F, PB, H => wb_M_countedOf_36_ok (by
      have I := InvM_m F I0
      have hM := I.1
      have hP := w.2.2.1.1
      unfold wb_M_countedOf_36
      simp (disch := omega) only [i0, i1, nLit, mul_I, add_I, nI_cl, isO_stI, isA_stI, isL_stI, gR_stI, gJ_stI, gK_stI, gL_stI, gS_stI, true_and, and_true, forall_eq, implies_true, ps_339, MSh_o hM, I.2.2.2.2.1.1, le_I]
      refine ⟨fun z => absurd z (by omega), fun _ => m_readRow (IM_B I w) (IM_Z I w) (by decide) (by omega) (fun h2 R2 => ?_)⟩
      have F2 := RD_m R2
      have I2 := InvM_m F2 I
      have PA2 : PlR h2 0 (pcRw σ (2 + k)) := RD_pl R2 (pcRw_len σ _)
      have PB2 := RD_other R2 (pcRw_len σ _) (by decide) PB
      refine ⟨MSh_o I2.1, m_like (IM_B I2 w) PA2 PB2 (pcRw_Wf w (by omega)) (pcB_Wf w hs) ⟨fun c => ?_, fun c => ?_⟩⟩
      · have c2 : lkSP σ s k = false := b2I_0 c
        refine m_countedOf_36 I0 w hs r (k + 1) h2 (by omega) (Fm_tr F F2) PB2 (fun h' F' => ?_)
        have := H h' F'
        rwa [knN, c2, Bool.false_or] at this
      · have c2 : lkSP σ s k = true := b2I_1 c
        have := H h2 (Fm_tr F F2)
        rwa [knN, c2, Bool.true_or, if_pos rfl] at this)
theorem m_countedOf_8 {h0 : HP} {s : Nat} (I0 : InvM σ h0) (w : WF σ) (hs : s < sS σ) : ∀ (r k : Nat) (h : HP), k + r = s → Fm h0 h → PlR h 1 (pcB σ s) → (∀ h', Fm h0 h' → K (nI (if agN σ s r k = true then 0 else if knN σ s (sP σ) 0 = true then 1 else kdC (bsN σ s (sP σ) 0 0))) h') → Wp k_M_countedOf 8 [some (.ref 338), some (.int (nI s)), some (.int (nI k)), none, none] [] h (0, 0) (QI K)
  | 0, k, h, h1, F, PB, H => wb_M_countedOf_8_ok (by
      have hS := w.2.1.1
      unfold wb_M_countedOf_8
      simp (disch := omega) only [i0, i1, nLit, mul_I, add_I, nI_cl, isO_stI, isA_stI, isL_stI, gR_stI, gJ_stI, gK_stI, gL_stI, gS_stI, true_and, and_true, forall_eq, implies_true, ps_339, le_I]
      exact ⟨fun _ => m_countedOf_36 I0 w hs (sP σ) 0 h (by omega) F PB H, fun z => absurd (by omega) z⟩)
  | r + 1, k, h, h1, F, PB, H => wb_M_countedOf_8_ok (by
      have I := InvM_m F I0
      have hM := I.1
      have hS := w.2.1.1
      unfold wb_M_countedOf_8
      simp (disch := omega) only [i0, i1, nLit, mul_I, add_I, nI_cl, isO_stI, isA_stI, isL_stI, gR_stI, gJ_stI, gK_stI, gL_stI, gS_stI, true_and, and_true, forall_eq, implies_true, ps_339, MSh_o hM, le_I]
      refine ⟨fun z => absurd z (by omega), fun _ => m_readSegment (IM_B I w) (IM_S I w) (by decide) (by omega) (fun h2 R2 => ?_)⟩
      have F2 := RD_m R2
      have I2 := InvM_m F2 I
      have PA2 : PlR h2 0 (pcB σ k) := RD_pl R2 (pcB_len σ _)
      have PB2 := RD_other R2 (pcB_len σ _) (by decide) PB
      refine ⟨MSh_o I2.1, m_like (IM_B I2 w) PA2 PB2 (pcB_Wf w (by omega)) (pcB_Wf w hs) ⟨fun c => ?_, fun c => ?_⟩⟩
      · have c2 : lkL (sf σ) (pcB σ k) (pcB σ s) = false := b2I_0 c
        refine m_countedOf_8 I0 w hs r (k + 1) h2 (by omega) (Fm_tr F F2) PB2 (fun h' F' => ?_)
        have := H h' F'
        rwa [agN, c2, Bool.false_or] at this
      · have c2 : lkL (sf σ) (pcB σ k) (pcB σ s) = true := b2I_1 c
        have := H h2 (Fm_tr F F2)
        rwa [agN, c2, Bool.true_or, if_pos rfl] at this)
theorem m_countedOf {h : HP} {s : Nat} (I : InvM σ h) (w : WF σ) (hs : s < sS σ) (H : ∀ h', Fm h h' → K (nI (cdN σ s)) h') : wq_M_countedOf 338 (nI s) h K := by
  unfold wq_M_countedOf
  simp only [i0, i1, nLit, mul_I, add_I, nI_cl]
  refine ⟨MSh_o I.1, m_readSegment (IM_B I w) (IM_S I w) (by decide) hs (fun h2 R2 => ?_)⟩
  exact m_countedOf_8 I w hs s 0 h2 (by omega) (RD_m R2) (RD_pl R2 (pcB_len σ _)) H
def aCounted (σ : St) (v : Int32) : Int32 := match ixI v (sS σ) with
  | none => -nI 1
  | some s => nI (cdN σ s)
theorem m_counted {h : HP} {v : Int32} (I : InvM σ h) (w : WF σ) (H : ∀ h', InvM σ h' → Fo h h' → K (aCounted σ v) h') : wq_M_counted 338 v h K := by
  have hM := I.1
  have hS := w.2.1.1
  unfold aCounted at H
  unfold wq_M_counted
  refine ⟨MSh_o hM, m_isSegment I w ?_⟩
  simp only [i0, i1, nLit, mul_I, add_I, nI_cl, b2I_s]
  rcases ixI_c v (n := sS σ) (by omega) with ⟨e, c⟩ | ⟨s, hs, e, e2⟩
  · simp only [e] at H ⊢
    exact ⟨fun _ => H h I (Fo_rf h), fun z => absurd (by first | trivial | rfl) z⟩
  · simp only [e2] at H ⊢
    subst e
    exact ⟨fun z => absurd z (by simp), fun _ => ⟨MSh_o hM, m_countedOf I w hs (fun h1 F1 => MK_q I F1 H)⟩⟩
def cnN (σ : St) (kd wd : Nat) : Nat → Nat → Nat
  | 0, _ => 0
  | r + 1, k => (if cdN σ k = kd then (if wd = 1 then wct (pcB σ k) else 1) else 0) + cnN σ kd wd r (k + 1)
theorem cdN_le (σ : St) (s : Nat) : cdN σ s ≤ 4 := by
  unfold cdN kdC
  repeat' split
  all_goals omega
theorem m_count_28 {h0 : HP} {kd wd : Nat} (I0 : InvM σ h0) (w : WF σ) (hkd : kd ≤ 4) (hwd : wd ≤ 1) : ∀ (r k a : Nat) (h : HP), k + r = sS σ → Fm h0 h → (∀ h', Fm h0 h' → K (nI (a + cnN σ kd wd r k)) h') → Wp k_M_count 28 [some (.ref 338), some (.int (nI kd)), some (.int (nI wd)), some (.int (nI a)), some (.int (nI k))] [] h (0, 0) (QI K)
  | 0, k, a, h, h1, F, H => wb_M_count_28_ok (by
      have I := InvM_m F I0
      have hM := I.1
      have hS := w.2.1.1
      unfold wb_M_count_28
      simp (disch := omega) only [i0, i1, nLit, mul_I, add_I, nI_cl, isO_stI, isA_stI, isL_stI, gR_stI, gJ_stI, gK_stI, gL_stI, gS_stI, true_and, and_true, forall_eq, implies_true, ps_339, MSh_o hM, I.2.2.2.1.1, le_I]
      exact ⟨fun _ => H h F, fun z => absurd (by omega) z⟩)
  | r + 1, k, a, h, h1, F, H => wb_M_count_28_ok (by
      have I := InvM_m F I0
      have hM := I.1
      have hS := w.2.1.1
      have h4 := cdN_le σ k
      unfold wb_M_count_28
      simp (disch := omega) only [i0, i1, nLit, mul_I, add_I, nI_cl, isO_stI, isA_stI, isL_stI, gR_stI, gJ_stI, gK_stI, gL_stI, gS_stI, true_and, and_true, forall_eq, implies_true, ps_339, MSh_o hM, I.2.2.2.1.1, le_I]
      refine ⟨fun z => absurd z (by omega), fun _ => m_countedOf I w (by omega) (fun h2 F2 => ?_)⟩
      have I2 := InvM_m F2 I
      have F02 := Fm_tr F F2
      simp (disch := omega) only [eq_I]
      refine ⟨fun c => ⟨MSh_o I2.1, m_readSegment (IM_B I2 w) (IM_S I2 w) (by decide) (by omega) (fun h3 R3 => ?_)⟩, fun c => ?_⟩
      · have F3 := RD_m R3
        have I3 := InvM_m F3 I2
        have F03 := Fm_tr F02 F3
        refine ⟨fun c2 => ?_, fun c2 => ⟨MSh_o I3.1, m_wordsOf I3.1 (by decide) (RD_pl R3 (pcB_len σ k)) (fun x hx => (pcB_Wf w (show k < sS σ by omega) x hx).1) ?_⟩⟩
        · refine m_count_28 I0 w hkd hwd r (k + 1) _ h3 (by omega) F03 (fun h' F' => ?_)
          have := H h' F'
          rwa [cnN, if_pos c, if_neg c2, ← Nat.add_assoc] at this
        · rw [add_I]
          refine m_count_28 I0 w hkd hwd r (k + 1) _ h3 (by omega) F03 (fun h' F' => ?_)
          have := H h' F'
          rwa [cnN, if_pos c, if_pos c2, ← Nat.add_assoc] at this
      · refine m_count_28 I0 w hkd hwd r (k + 1) _ h2 (by omega) F02 (fun h' F' => ?_)
        have := H h' F'
        rwa [cnN, if_neg c, Nat.zero_add] at this)
def aCount (σ : St) (kd wd : Int32) : Int32 := match ixI kd 5 with
  | none => -nI 1
  | some k => match ixI wd 2 with
    | none => -nI 2
    | some u => nI (cnN σ k u (sS σ) 0)
theorem m_count {h : HP} {kd wd : Int32} (I : InvM σ h) (w : WF σ) (H : ∀ h', InvM σ h' → Fo h h' → K (aCount σ kd wd) h') : wq_M_count 338 kd wd h K := by
  have hM := I.1
  unfold aCount at H
  unfold wq_M_count
  simp only [i0, i1, nLit, mul_I, add_I, nI_cl]
  refine m_inM (n := 4) (by decide) ?_
  simp only [b2I_s]
  rcases ixI_c kd (n := 5) (by decide) with ⟨e, c⟩ | ⟨k, hk, e, e2⟩
  · simp only [e] at H ⊢
    exact ⟨fun z => absurd (by first | trivial | rfl) z, fun _ => H h I (Fo_rf h)⟩
  · simp only [e2] at H ⊢
    subst e
    refine ⟨fun _ => m_inM (n := 1) (by decide) ?_, fun z => absurd z (by simp)⟩
    simp only [b2I_s]
    rcases ixI_c wd (n := 2) (by decide) with ⟨e, c⟩ | ⟨u, hu, e, e2⟩
    · simp only [e] at H ⊢
      exact ⟨fun z => absurd (by first | trivial | rfl) z, fun _ => H h I (Fo_rf h)⟩
    · simp only [e2] at H ⊢
      subst e
      exact ⟨fun _ => m_count_28 I w (by omega) (by omega) (sS σ) 0 0 h (by omega) (Fm_rf h) (fun h' F' => by rw [Nat.zero_add]; exact MK_q I F' H), fun z => absurd z (by simp)⟩
/-! faults -/
def fbN (σ : St) (L : PcL) : Nat → Nat → Nat
  | 0, _ => 200
  | r + 1, k => if 0 < ofM (sf σ) (sc σ) (sl σ) (28 + k) L then 100 + k else fbN σ L r (k + 1)
def ftN (σ : St) (LA L : PcL) : Nat → Nat → Nat
  | 0, _ => fbN σ L (sF σ) 0
  | r + 1, k => if ofM (sf σ) (sc σ) (sl σ) (8 + k) LA = ofM (sf σ) (sc σ) (sl σ) (18 + k) L then ftN σ LA L r (k + 1) else k
theorem ofM_le (f c l : Nat → Nat) (t : Nat) : ∀ L : PcL, ofM f c l t L ≤ L.length
  | [] => Nat.le_refl 0
  | x :: L => by
    have := ofM_le f c l t L
    rw [ofM, List.length_cons]
    split <;> omega
theorem m_faults_76 {h : HP} {L : PcL} (I : InvM σ h) (w : WF σ) (P : PlR h 2 L) (hW : ∀ x ∈ L, WfP x) : ∀ (r k : Nat), k + r = sF σ → K (nI (fbN σ L r k)) h → Wp k_M_faults 76 [some (.ref 338), none, some (.int (nI k))] [] h (0, 0) (QI K)
  | 0, k, h1, H => wb_M_faults_76_ok (by
      have hM := I.1
      have hF := w.2.2.2.1.2.2.1
      unfold wb_M_faults_76
      simp (disch := omega) only [i0, i1, nLit, mul_I, add_I, nI_cl, isO_stI, isA_stI, isL_stI, gR_stI, gJ_stI, gK_stI, gL_stI, gS_stI, true_and, and_true, forall_eq, implies_true, ps_339, MSh_o hM, I.2.2.2.2.2.1.2.2.1, le_I]
      exact ⟨fun _ => H, fun z => absurd (by omega) z⟩)
  | r + 1, k, h1, H => wb_M_faults_76_ok (by
      have hM := I.1
      have hF := w.2.2.2.1.2.2.1
      have hl := P.2.1
      have ho := ofM_le (sf σ) (sc σ) (sl σ) (28 + k) L
      unfold wb_M_faults_76
      simp (disch := omega) only [i0, i1, nLit, mul_I, add_I, nI_cl, isO_stI, isA_stI, isL_stI, gR_stI, gJ_stI, gK_stI, gL_stI, gS_stI, true_and, and_true, forall_eq, implies_true, ps_339, MSh_o hM, I.2.2.2.2.2.1.2.2.1, le_I]
      refine ⟨fun z => absurd z (by omega), fun _ => m_often (IM_B I w) (IM_W I w) (by omega) (by decide) P hW ?_⟩
      simp (disch := omega) only [le_I]
      refine ⟨fun c => ?_, fun c => ?_⟩
      · refine m_faults_76 I w P hW r (k + 1) (by omega) ?_
        rwa [fbN, if_neg (by omega)] at H
      · rwa [fbN, if_pos (by omega)] at H)
theorem m_faults_37 {h : HP} {LA L : PcL} (I : InvM σ h) (w : WF σ) (PA : PlR h 0 LA) (P : PlR h 2 L) (hWA : ∀ x ∈ LA, WfP x) (hW : ∀ x ∈ L, WfP x) : ∀ (r k : Nat), k + r = sT σ → K (nI (ftN σ LA L r k)) h → Wp k_M_faults 37 [some (.ref 338), none, some (.int (nI k))] [] h (0, 0) (QI K)
  | 0, k, h1, H => wb_M_faults_37_ok (by
      have hM := I.1
      have hT := w.2.2.2.1.2.1
      unfold wb_M_faults_37
      simp (disch := omega) only [i0, i1, nLit, mul_I, add_I, nI_cl, isO_stI, isA_stI, isL_stI, gR_stI, gJ_stI, gK_stI, gL_stI, gS_stI, true_and, and_true, forall_eq, implies_true, ps_339, MSh_o hM, I.2.2.2.2.2.1.2.1, le_I]
      exact ⟨fun _ => m_faults_76 I w P hW (sF σ) 0 (by omega) H, fun z => absurd (by omega) z⟩)
  | r + 1, k, h1, H => wb_M_faults_37_ok (by
      have hM := I.1
      have hT := w.2.2.2.1.2.1
      have hl := P.2.1
      have hla := PA.2.1
      have ho := ofM_le (sf σ) (sc σ) (sl σ) (8 + k) LA
      have ho2 := ofM_le (sf σ) (sc σ) (sl σ) (18 + k) L
      unfold wb_M_faults_37
      simp (disch := omega) only [i0, i1, nLit, mul_I, add_I, nI_cl, isO_stI, isA_stI, isL_stI, gR_stI, gJ_stI, gK_stI, gL_stI, gS_stI, true_and, and_true, forall_eq, implies_true, ps_339, MSh_o hM, I.2.2.2.2.2.1.2.1, le_I]
      refine ⟨fun z => absurd z (by omega), fun _ => m_often (IM_B I w) (IM_W I w) (by omega) (by decide) PA hWA ⟨MSh_o hM, m_often (IM_B I w) (IM_W I w) (by omega) (by decide) P hW ?_⟩⟩
      simp (disch := omega) only [eq_I]
      refine ⟨fun c => ?_, fun c => ?_⟩
      · refine m_faults_37 I w PA P hWA hW r (k + 1) (by omega) ?_
        rwa [ftN, if_pos c] at H
      · rwa [ftN, if_neg c] at H)
def aFaults (σ : St) (p : Int32) : Int32 := match ixI p (sP σ) with
  | none => -nI 1
  | some q => nI (ftN σ (pcRw σ (2 + q)) (pcRw σ (22 + ltR σ q)) (sT σ) 0)
theorem m_faults {h : HP} {p : Int32} (I : InvM σ h) (w : WF σ) (H : ∀ h', InvM σ h' → Fo h h' → K (aFaults σ p) h') : wq_M_faults 338 p h K := by
  have hM := I.1
  have hP := w.2.2.1.1
  have hR := w.2.2.1.2.1
  unfold aFaults at H
  unfold wq_M_faults
  refine ⟨MSh_o hM, m_isPair I w ?_⟩
  simp only [i0, i1, nLit, mul_I, add_I, nI_cl, b2I_s]
  rcases ixI_c p (n := sP σ) (by omega) with ⟨e, c⟩ | ⟨q, hq, e, e2⟩
  · simp only [e] at H ⊢
    exact ⟨fun z => absurd (by first | trivial | rfl) z, fun _ => H h I (Fo_rf h)⟩
  · simp only [e2] at H ⊢
    subst e
    have hl := ltR_lt w hq
    simp only [add_I]
    refine ⟨fun _ => ⟨MSh_o hM, m_readRow (IM_B I w) (IM_Z I w) (by decide) (by omega) (fun h2 R2 => ?_)⟩, fun z => absurd z (by simp)⟩
    have F2 := RD_m R2
    have I2 := InvM_m F2 I
    refine ⟨MSh_o I2.1, MSh_o I2.1, ?_⟩
    rw [I2.2.2.2.2.1.2.1]
    refine m_latest I2.1 (IM_P I2 w) (by omega) (Nat.le_refl _) ⟨MSh_o I2.1, ?_⟩
    rw [hl.2]
    simp only [tI, add_I]
    refine m_readRow (IM_B I2 w) (IM_Z I2 w) (by decide) (by omega) (fun h3 R3 => ?_)
    have F3 := RD_m R3
    have I3 := InvM_m F3 I2
    refine m_faults_37 I3 w (RD_other R3 (pcRw_len σ (22 + ltR σ q)) (by decide) (RD_pl R2 (pcRw_len σ (2 + q)))) (RD_pl R3 (pcRw_len σ (22 + ltR σ q))) (pcRw_Wf w (by omega)) (pcRw_Wf w (by omega)) (sT σ) 0 (by omega) (MK_q I (Fm_tr F2 F3) H)
end OP4
