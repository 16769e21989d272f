/-! pairs come and go in the model -/
section OP6
variable {σ : St} {h : HP} {K : Int32 → HP → Prop}
def tComes (σ : St) (p y : Nat) : St := setP (setz (setf σ (cpF (sf σ) 0 (22 + sR σ) (sz σ 0))) (va_up (va_up (sz σ) (22 + sR σ) (sz σ 0)) 0 0)) (sP σ) (sR σ + 1) (va_up (sw σ) (sR σ) p) (va_up (sy σ) (sR σ) y)
theorem m_comes {p y : Nat} {K : HP → Prop} (I : InvM σ h) (hf : ∀ i, sf σ i < 256) (hz : sz σ 0 ≤ 600) (hR : sR σ < 40) (H : ∀ h', InvM (tComes σ p y) h' → Fo h h' → K h') : wq_M_comes 338 (nI p) (nI y) h K := by
  have hM := I.1
  unfold wq_M_comes
  simp (disch := omega) only [i0, i1, nLit, mul_I, add_I, nI_cl, isO_stI, isA_stI, isL_stI, gR_stI, gJ_stI, gK_stI, gL_stI, gS_stI, true_and, and_true, forall_eq, implies_true, ps_339, MSh_o hM, mR_size hM, mL_size hM, mA_size hM, I.2.2.1, I.2.2.2.2.1.2.1]
  refine m_copy ⟨I.1, I.2.1, hf⟩ (by omega) (by omega) (by omega) (by omega) (fun h1 C => ?_)
  have I1 := IM_cp C I
  have M1 := I1.1
  have e20 : gI h1 338 20 = nI (sR σ) := I1.2.2.2.2.1.2.1
  simp (disch := omega) only [i0, i1, nLit, mul_I, add_I, nI_cl, isO_stI, isA_stI, isL_stI, gR_stI, gJ_stI, gK_stI, gL_stI, gS_stI, true_and, and_true, forall_eq, implies_true, ps_339, MSh_o M1, mR_size M1, mL_size M1, mA_size M1, mR_pairOf M1, mL_pairOf M1, mA_pairOf M1, mR_who M1, mL_who M1, mA_who M1, e20, gI_stI_o]
  exact H _ (IM_R1 (v := sR σ + 1) (IM_y (r := sR σ) (v := y) (IM_w (r := sR σ) (v := p) (IM_z (r := 0) (v := 0) I1)))) (Fo_st (Fo_st (Fo_st (Fo_st (CP_o C) (by omega)) (by omega)) (by omega)) (by omega))
def trB (σ : St) (s : Nat) : Bool := tornA (sf σ) (pcB σ s) []
def trT (σ : St) : Bool := tornA (sf σ) (pcRw σ 0) []
theorem pcT_tw (w : WF σ) : ∀ x ∈ pcRw σ 0, x.1 ≤ 6 ∧ x.2.1 + 4 ≤ 37200 := fun x hx => by
  have := pcs_in (atM_z (sf σ) _) _ _ x hx
  have := w.1.2 0 (by omega)
  omega
def aChange (σ : St) (p who : Int32) : Int32 := match ixI p (sP σ) with
  | none => -nI 1
  | some _ => match ixI who 100 with
    | none => -nI 2
    | some _ => if trT σ = true then -nI 3 else if sR σ = 40 then -nI 5 else nI (sR σ + 1)
def tChange (σ : St) (p who : Int32) : St := match ixI p (sP σ) with
  | none => σ
  | some q => match ixI who 100 with
    | none => σ
    | some y => if trT σ = true then σ else if sR σ = 40 then σ else tComes σ q y
theorem m_change {p who : Int32} (I : InvM σ h) (w : WF σ) (H : ∀ h', InvM (tChange σ p who) h' → Fo h h' → K (aChange σ p who) h') : wq_M_change 338 p who h K := by
  have hM := I.1
  have hP := w.2.2.1.1
  have hR := w.2.2.1.2.1
  have hz := w.1.2 0 (by omega)
  unfold aChange tChange at H
  unfold wq_M_change
  refine ⟨MSh_o hM, m_isPair I w ?_⟩
  simp only [i0, i1, nLit, mul_I, add_I, nI_cl, b2I_s]
  rcases ixI_c p (n := sP σ) (by omega) with ⟨e, c⟩ | ⟨q, hq, e, e2⟩
  · simp only [e] at H ⊢
    exact ⟨fun z => absurd (by first | trivial | rfl) z, fun _ => H h I (Fo_rf h)⟩
  · simp only [e2] at H ⊢
    subst e
    refine ⟨fun _ => m_inM (n := 99) (by decide) ?_, fun z => absurd z (by simp)⟩
    simp only [b2I_s]
    rcases ixI_c who (n := 100) (by decide) with ⟨e, c⟩ | ⟨y, hy, e, e2⟩
    · simp only [e] at H ⊢
      exact ⟨fun z => absurd (by first | trivial | rfl) z, fun _ => H h I (Fo_rf h)⟩
    · simp only [e2] at H ⊢
      subst e
      refine ⟨fun _ => ⟨MSh_o hM, m_readRow (IM_B I w) (IM_Z I w) (by decide) (by omega) (fun h2 R2 => ?_)⟩, fun z => absurd z (by simp)⟩
      have F2 := RD_m R2
      have I2 := InvM_m F2 I
      refine ⟨MSh_o I2.1, m_isTorn (IM_B I2 w) (by decide) (RD_pl R2 (pcRw_len σ 0)) (pcT_tw w) (fun h3 F3' => ?_)⟩
      have F3 := Fm_tr F2 (Fr6_m F3')
      have I3 := InvM_m F3 I
      have hM3 := I3.1
      simp (disch := omega) only [MSh_o hM3, true_and, I3.2.2.2.2.1.2.1, eq_I]
      refine ⟨fun c => ⟨fun c2 => ?_, fun c2 => ?_⟩, fun c => ?_⟩
      · have c' : trT σ = false := b2I_0 c
        simp only [c', Bool.false_eq_true, if_false, if_neg c2] at H
        refine m_comes I3 w.1.1 hz (by omega) (fun h4 I4 F4 => ⟨MSh_o I4.1, ?_⟩)
        have e20 : gI h4 338 20 = nI (sR σ + 1) := I4.2.2.2.2.1.2.1
        rw [e20]
        exact H h4 I4 (Fo_tr (Fm_o F3) F4)
      · have c' : trT σ = false := b2I_0 c
        simp only [c', Bool.false_eq_true, if_false, if_pos c2] at H
        exact H h3 I3 (Fm_o F3)
      · have c' : trT σ = true := b2I_1 c
        simp only [c', if_true] at H
        exact H h3 I3 (Fm_o F3)
def tSrc (σ : St) (s : Nat) : St := setP (setz (setf σ (cpF (sf σ) (600 + sb σ s) (2 + sP σ) (sn σ s))) (va_up (sz σ) (2 + sP σ) (sn σ s))) (sP σ + 1) (sR σ) (sw σ) (sy σ)
def aKeep (σ : St) (v who : Int32) : Int32 := match ixI v (sS σ) with
  | none => -nI 1
  | some s => match ixI who 100 with
    | none => -nI 2
    | some _ => if trB σ s = true ∨ trT σ = true then -nI 3 else if sP σ = 20 ∨ sR σ = 40 then -nI 5 else nI (sP σ)
def tKeep (σ : St) (v who : Int32) : St := match ixI v (sS σ) with
  | none => σ
  | some s => match ixI who 100 with
    | none => σ
    | some y => if trB σ s = true ∨ trT σ = true then σ else if sP σ = 20 ∨ sR σ = 40 then σ else tComes (tSrc σ s) (sP σ) y
theorem cpF_lt {f : Nat → Nat} {a t k : Nat} (hf : ∀ i, f i < 256) : ∀ i, cpF f a t k i < 256 := fun i => by
  unfold cpF
  split
  · exact hf _
  · exact hf _
theorem m_keep {v who : Int32} (I : InvM σ h) (w : WF σ) (H : ∀ h', InvM (tKeep σ v who) h' → Fo h h' → K (aKeep σ v who) h') : wq_M_keep 338 v who h K := by
  have hM := I.1
  have hS := w.2.1.1
  have hP := w.2.2.1.1
  have hR := w.2.2.1.2.1
  have hz := w.1.2 0 (by omega)
  unfold aKeep tKeep at H
  unfold wq_M_keep
  refine ⟨MSh_o hM, m_isSegment I w ?_⟩
  simp only [i0, i1, nLit, mul_I, add_I, nI_cl, b2I_s]
  rcases ixI_c v (n := sS σ) (by omega) with ⟨e, c⟩ | ⟨s, hs, e, e2⟩
  · simp only [e] at H ⊢
    exact ⟨fun z => absurd (by first | trivial | rfl) z, fun _ => H h I (Fo_rf h)⟩
  · simp only [e2] at H ⊢
    subst e
    have hbn := w.2.1.2.1 s hs
    refine ⟨fun _ => m_inM (n := 99) (by decide) ?_, fun z => absurd z (by simp)⟩
    simp only [b2I_s]
    rcases ixI_c who (n := 100) (by decide) with ⟨e, c⟩ | ⟨y, hy, e, e2⟩
    · simp only [e] at H ⊢
      exact ⟨fun z => absurd (by first | trivial | rfl) z, fun _ => H h I (Fo_rf h)⟩
    · simp only [e2] at H ⊢
      subst e
      refine ⟨fun _ => ⟨MSh_o hM, m_readSegment (IM_B I w) (IM_S I w) (by decide) hs (fun h1 R1 => ?_)⟩, fun z => absurd z (by simp)⟩
      have F1 := RD_m R1
      have I1 := InvM_m F1 I
      refine ⟨MSh_o I1.1, m_readRow (IM_B I1 w) (IM_Z I1 w) (by decide) (by omega) (fun h2 R2 => ?_)⟩
      have F2 := Fm_tr F1 (RD_m R2)
      have I2 := InvM_m F2 I
      have PB : PlR h2 1 (pcB σ s) := RD_other R2 (pcRw_len σ 0) (by decide) (RD_pl R1 (pcB_len σ s))
      have PC : PlR h2 2 (pcRw σ 0) := RD_pl R2 (pcRw_len σ 0)
      refine ⟨MSh_o I2.1, m_isTorn (IM_B I2 w) (by decide) PB (pcB_tw w hs) (fun h3 F3' => ?_)⟩
      have F3 := Fm_tr F2 (Fr6_m F3')
      have I3 := InvM_m F3 I
      refine ⟨fun c => ?_, fun c => ⟨MSh_o I3.1, m_isTorn (IM_B I3 w) (by decide) (Fr6_P F3' PC) (pcT_tw w) (fun h4 F4' => ?_)⟩⟩
      · have c' : trB σ s = true := b2I_1 c
        simp only [c', true_or, if_true] at H
        exact H h3 I3 (Fm_o F3)
      have c1 : trB σ s = false := b2I_0 c
      have F4 := Fm_tr F3 (Fr6_m F4')
      have I4 := InvM_m F4 I
      have hM4 := I4.1
      have hsz := I4.2.2.2.1.2 s (by omega)
      simp (disch := omega) only [i0, i1, nLit, mul_I, add_I, nI_cl, isO_stI, isA_stI, isL_stI, gR_stI, gJ_stI, gK_stI, gL_stI, gS_stI, true_and, and_true, forall_eq, implies_true, ps_339, MSh_o hM4, mR_begins hM4, mL_begins hM4, mA_begins hM4, mR_sizes hM4, mL_sizes hM4, mA_sizes hM4, I4.2.2.2.2.1.2.1, I4.2.2.2.2.1.1, hsz.1, hsz.2, eq_I]
      refine ⟨fun c => ⟨fun c2 => ?_, fun c2 => ⟨fun c3 => ?_, fun c3 => ?_⟩⟩, fun c => ?_⟩
      · have c' : trT σ = false := b2I_0 c
        simp only [c1, c', c2, Bool.false_eq_true, or_self, if_false, true_or, if_true] at H
        exact H h4 I4 (Fm_o F4)
      · have c' : trT σ = false := b2I_0 c
        simp only [c1, c', c2, c3, Bool.false_eq_true, or_self, if_false] at H
        refine m_copy (IM_B I4 w) (by omega) (by omega) (by omega) (by omega) (fun h5 C5 => ?_)
        have I5 := IM_cp C5 I4
        have M5 := I5.1
        have e19 : gI h5 338 19 = nI (sP σ) := I5.2.2.2.2.1.1
        simp (disch := omega) only [i0, i1, nLit, mul_I, add_I, nI_cl, isO_stI, isA_stI, isL_stI, gR_stI, gJ_stI, gK_stI, gL_stI, gS_stI, true_and, and_true, forall_eq, implies_true, ps_339, MSh_o M5, e19]
        have e19b : gI (stI h5 338 19 (nI (sP σ + 1))) 338 19 = nI (sP σ + 1) := rfl
        rw [e19b, sub_I (by omega), Nat.add_sub_cancel]
        have I6 : InvM (tSrc σ s) (stI h5 338 19 (nI (sP σ + 1))) := IM_P1 (v := sP σ + 1) I5
        refine m_comes I6 (cpF_lt w.1.1) ?_ (show sR σ < 40 by omega) (fun h7 I7 F7 => ⟨MSh_o I7.1, ?_⟩)
        · show va_up (sz σ) (2 + sP σ) (sn σ s) 0 ≤ 600
          rw [va_up_ne _ _ (by omega)]
          exact hz
        · have e19c : gI h7 338 19 = nI (sP σ + 1) := I7.2.2.2.2.1.1
          rw [e19c, sub_I (by omega), Nat.add_sub_cancel]
          exact H h7 I7 (Fo_tr (Fo_tr (Fm_o F4) (Fo_st (CP_o C5) (by omega))) F7)
      · have c' : trT σ = false := b2I_0 c
        simp only [c1, c', c2, c3, Bool.false_eq_true, or_self, if_false, or_true, if_true] at H
        exact H h4 I4 (Fm_o F4)
      · have c' : trT σ = true := b2I_1 c
        simp only [c', or_true, if_true] at H
        exact H h4 I4 (Fm_o F4)
def aUndo (σ : St) : Int32 := if sR σ = 0 then -nI 4 else nI (sw σ (sR σ - 1))
def tUndo (σ : St) : St := if sR σ = 0 then σ else if latN (sw σ) (sw σ (sR σ - 1)) (sR σ - 1) = 0 then setP σ (sP σ - 1) (sR σ - 1) (sw σ) (sy σ) else setP σ (sP σ) (sR σ - 1) (sw σ) (sy σ)
theorem m_undo (I : InvM σ h) (w : WF σ) (H : ∀ h', InvM (tUndo σ) h' → Fo h h' → K (aUndo σ) h') : wq_M_undo 338 h K := by
  have hM := I.1
  have hP := w.2.2.1.1
  have hR := w.2.2.1.2.1
  unfold aUndo tUndo at H
  unfold wq_M_undo
  simp (disch := omega) only [i0, i1, nLit, mul_I, add_I, nI_cl, isO_stI, isA_stI, isL_stI, gR_stI, gJ_stI, gK_stI, gL_stI, gS_stI, true_and, and_true, forall_eq, implies_true, ps_339, MSh_o hM, I.2.2.2.2.1.2.1, eq_I]
  refine ⟨fun c => ?_, fun c => ?_⟩
  · simp only [if_neg c] at H
    rw [sub_I (by omega)]
    have I1 := IM_R1 (v := sR σ - 1) I
    have e20 : gI (stI h 338 20 (nI (sR σ - 1))) 338 20 = nI (sR σ - 1) := rfl
    have hw := w.2.2.1.2.2.1 (sR σ - 1) (by omega)
    have ew : gI (stI h 338 20 (nI (sR σ - 1))) 352 (sR σ - 1) = nI (sw σ (sR σ - 1)) := (I.2.2.2.2.1.2.2 (sR σ - 1) (by omega)).1
    simp (disch := omega) only [i0, i1, nLit, mul_I, add_I, nI_cl, isO_stI, isA_stI, isL_stI, gR_stI, gJ_stI, gK_stI, gL_stI, gS_stI, true_and, and_true, forall_eq, implies_true, ps_339, MSh_o hM, mR_pairOf hM, mL_pairOf hM, mA_pairOf hM, e20, ew]
    have W1 : MPO (stI h 338 20 (nI (sR σ - 1))) (sw σ) (sR σ - 1) := ⟨by omega, fun r hr => ⟨(I.2.2.2.2.1.2.2 r (by omega)).1, by have := (w.2.2.1.2.2.1 r (by omega)).1; omega⟩⟩
    refine m_latest I1.1 W1 (by omega) (Nat.le_refl _) ?_
    have e19 : gI (stI h 338 20 (nI (sR σ - 1))) 338 19 = nI (sP σ) := I.2.2.2.2.1.1
    have hll := latN_le (sw σ) (sw σ (sR σ - 1)) (sR σ - 1)
    generalize latN (sw σ) (sw σ (sR σ - 1)) (sR σ - 1) = u at *
    cases u with
    | zero =>
      simp only [if_true] at H
      refine ⟨fun z => absurd rfl z, fun _ => ⟨MSh_o hM, MSh_o hM, ?_⟩⟩
      rw [e19, sub_I (by omega)]
      exact H _ (IM_P1 (v := sP σ - 1) I1) (Fo_st (Fo_st (Fo_rf h) (by omega)) (by omega))
    | succ u =>
      rw [if_neg (by omega)] at H
      refine ⟨fun _ => H _ I1 (Fo_st (Fo_rf h) (by omega)), fun z => absurd z (fun y => ?_)⟩
      have : (0 : Int32) ≤ nI u := nI_pos' (by omega)
      rw [show nI u = -nI 1 from y] at this
      exact absurd this (by decide)
  · simp only [if_pos c] at H
    exact H h I (Fo_rf h)
def stD (σ : St) (q s : Nat) : StepL := stp (sf σ) (pcRw σ (2 + q)) (pcB σ s) 40 0 0
def aDiffer (σ : St) (p v : Int32) : Int32 := match ixI p (sP σ) with
  | none => -nI 1
  | some q => match ixI v (sS σ) with
    | none => -nI 1
    | some s => nI (stD σ q s).length
def tDiffer (σ : St) (p v : Int32) : St := match ixI p (sP σ) with
  | none => σ
  | some q => match ixI v (sS σ) with
    | none => σ
    | some s => setD σ (stD σ q s)
theorem Dst_inv {h0 h' : HP} {d0 d : StepL} (D : Dst h0 h' d) (I : InvM (setD σ d0) h0) : InvM (setD σ d) h' ∧ Fo h0 h' := by
  obtain ⟨d1, d2, d3, d4⟩ := D
  obtain ⟨i1, i2, i3, i4, i5, i6, i7⟩ := I
  refine ⟨?_, d1, fun a ha => d2 a (by omega) (by omega) (by omega) (by omega)⟩
  unfold InvM
  have g : ∀ a, a ≠ 338 → a ≠ 356 → a ≠ 357 → a ≠ 358 → gI h' a = gI h0 a := d2
  rw [g 339 (by decide) (by decide) (by decide) (by decide), g 340 (by decide) (by decide) (by decide) (by decide), g 349 (by decide) (by decide) (by decide) (by decide), g 350 (by decide) (by decide) (by decide) (by decide), g 352 (by decide) (by decide) (by decide) (by decide), g 353 (by decide) (by decide) (by decide) (by decide), g 347 (by decide) (by decide) (by decide) (by decide), g 348 (by decide) (by decide) (by decide) (by decide), d3 15 (by decide), d3 19 (by decide), d3 20 (by decide), d3 12 (by decide), d3 13 (by decide), d3 14 (by decide)]
  exact ⟨MSh_2 d1 i1, i2, i3, i4, i5, i6, d4⟩
theorem m_differ {p v : Int32} (I : InvM σ h) (w : WF σ) (H : ∀ h', InvM (tDiffer σ p v) h' → Fo h h' → K (aDiffer σ p v) h') : wq_M_differ 338 p v h K := by
  have hM := I.1
  have hS := w.2.1.1
  have hP := w.2.2.1.1
  unfold aDiffer tDiffer at H
  unfold wq_M_differ
  refine ⟨MSh_o hM, m_isPair I w ?_⟩
  simp only [i0, i1, nLit, mul_I, add_I, nI_cl, b2I_s]
  rcases ixI_c p (n := sP σ) (by omega) with ⟨e, c⟩ | ⟨q, hq, e, e2⟩
  · simp only [e] at H ⊢
    exact ⟨fun _ => H h I (Fo_rf h), fun z => absurd (by first | trivial | rfl) z⟩
  · simp only [e2] at H ⊢
    subst e
    refine ⟨fun z => absurd z (by simp), fun _ => ⟨MSh_o hM, m_isSegment I w ?_⟩⟩
    simp only [b2I_s]
    rcases ixI_c v (n := sS σ) (by omega) with ⟨e, c⟩ | ⟨s, hs, e, e2⟩
    · simp only [e] at H ⊢
      exact ⟨fun z => absurd (by first | trivial | rfl) z, fun _ => H h I (Fo_rf h)⟩
    · simp only [e2] at H ⊢
      subst e
      have la := w.2.2.1.2.2.2.1 q hq
      have lb := w.2.1.2.2 s hs
      refine ⟨fun _ => ⟨MSh_o hM, m_readBoth I w hs hq (fun h1 F1 _ PA PB => ?_)⟩, fun z => absurd z (by simp)⟩
      have I1 := InvM_m F1 I
      refine ⟨MSh_o I1.1, m_work (IM_B I1 w) PA PB (pcRw_Wf w (by omega)) (pcB_Wf w hs) la lb (fun h2 F2 S2 => ?_)⟩
      have F02 := Fm_tr F1 (FrX_m F2 (by decide))
      have I2 := InvM_m F02 I
      have PA2 := FrX_PlR F2 (by decide) (by decide) (by decide) (by decide) PA
      have PB2 := FrX_PlR F2 (by decide) (by decide) (by decide) (by decide) PB
      refine ⟨MSh_o I2.1, fun h3 e3 => ?_⟩
      have I3 : InvM (setD σ []) h3 := by
        subst e3
        obtain ⟨i1, i2, i3, i4, i5, i6, i7⟩ := I2
        exact ⟨i1, i2, i3, i4, i5, i6, rfl, fun j x hj => absurd (show ([] : StepL)[j]? = some x from hj) (by simp)⟩
      have D3 : Dst h3 h3 [] := ⟨rfl, fun _ _ _ _ _ => rfl, fun _ _ => rfl, I3.2.2.2.2.2.2⟩
      have B3 : MBy h3 (sf σ) := ⟨I3.1, I3.2.1, w.1.1⟩
      have PA3 : PlR h3 0 (pcRw σ (2 + q)) := by subst e3; exact PA2
      have PB3 : PlR h3 1 (pcB σ s) := by subst e3; exact PB2
      have S3 : SmO h3 (sf σ) (pcRw σ (2 + q)) (pcB σ s) 0 0 := by subst e3; exact S2
      refine m_differ_lp B3 PA3 PB3 (pcRw_Wf w (by omega)) (pcB_Wf w hs) la lb S3 40 0 0 [] h3 (by omega) (by omega) (by omega) (by decide) D3 (fun h4 D4 => ?_)
      rw [List.nil_append] at D4 ⊢
      have := Dst_inv D4 I3
      refine H h4 this.1 (Fo_tr (Fm_o F02) (Fo_tr ?_ this.2))
      subst e3
      exact Fo_st (Fo_rf h2) (by omega)
end OP6
