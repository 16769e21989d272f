/-! numbers that name something -/
def ixI (v : Int32) (n : Nat) : Option Nat := if 0 ≤ v ∧ v < nI n then some v.toNatClampNeg else none
theorem ixI_at {j n : Nat} (h : j < n) (hn : n < 2147483648) : ixI (nI j) n = some j := by
  unfold ixI
  rw [if_pos ⟨nI_pos' (by omega), (lt_I (by omega) hn).mpr h⟩, nI_cl (by omega)]
theorem ixI_c (v : Int32) {n : Nat} (hn : n < 2147483648) : (ixI v n = none ∧ (v < 0 ∨ nI n ≤ v)) ∨ ∃ j, j < n ∧ v = nI j ∧ ixI v n = some j := by
  rcases pk_ix v hn with c | c | ⟨j, hj, e⟩
  · refine Or.inl ⟨?_, Or.inl c⟩
    unfold ixI
    rw [if_neg (fun z => Int32.not_lt.mpr z.1 c)]
  · refine Or.inl ⟨?_, Or.inr c⟩
    unfold ixI
    rw [if_neg (fun z => Int32.not_lt.mpr c z.2)]
  · exact Or.inr ⟨j, hj, e, by rw [e]; exact ixI_at hj hn⟩
theorem sub1_I (n : Nat) : nI n - nI 1 = tI n := by
  cases n with
  | zero => rfl
  | succ n => exact nI_pred n
theorem le_tI {j n : Nat} (hj : j < 2147483648) (hn : n < 2147483648) : (nI j ≤ tI n) ↔ j < n := by
  cases n with
  | zero =>
    constructor
    · intro c
      exact absurd c (Int32.not_le.mpr (Int32.lt_of_lt_of_le (by decide : tI 0 < 0) (nI_pos' hj)))
    · intro c; omega
  | succ n => exact (le_I hj (by omega)).trans (by omega)
/-- in(v, 0, n - 1) -/
theorem m_inN {v : Int32} {n : Nat} {h : HP} {K : Int32 → HP → Prop} (hn : n < 2147483648) (H : K (b2I (ixI v n).isSome) h) : wq_M_in v (nI 0) (tI n) h K := by
  refine m_in ?_
  rcases ixI_c v hn with ⟨e, c⟩ | ⟨j, hj, e, e2⟩
  · rw [e] at H
    rw [if_neg]
    · exact H
    · rintro ⟨a, b⟩
      rcases c with c | c
      · exact Int32.not_lt.mpr a c
      · cases n with
        | zero => exact absurd (Int32.le_trans a b) (by decide)
        | succ n => exact Int32.not_lt.mpr (Int32.le_trans c b) ((lt_I (by omega) hn).mpr (by omega) : nI n < nI (n + 1))
  · rw [e2] at H
    rw [if_pos]
    · exact H
    · rw [e]
      exact ⟨nI_pos' (by omega), (le_tI (by omega) hn).mpr hj⟩
/-- in(v, 0, n) -/
theorem m_inM {v : Int32} {n : Nat} {h : HP} {K : Int32 → HP → Prop} (hn : n + 1 < 2147483648) (H : K (b2I (ixI v (n + 1)).isSome) h) : wq_M_in v (nI 0) (nI n) h K := m_inN (n := n + 1) hn H
theorem b2I_s {α : Type} (o : Option α) : (b2I o.isSome = nI 0) = (o = none) := by cases o <;> simp [b2I] <;> decide
section OP1
variable {σ : St} {h : HP} {K : Int32 → HP → Prop}
theorem m_isSegment {v : Int32} (I : InvM σ h) (w : WF σ) (H : K (b2I (ixI v (sS σ)).isSome) h) : wq_M_isSegment 338 v h K := by
  have hM := I.1
  have := w.2.1.1
  unfold wq_M_isSegment
  simp (disch := omega) only [i0, i1, nLit, mul_I, add_I, nI_cl, isO_stI, isA_stI, isL_stI, gR_stI, gJ_stI, gK_stI, gL_stI, gS_stI, true_and, and_true, forall_eq, implies_true, ps_339, MSh_o hM, I.2.2.2.1.1, sub1_I]
  exact m_inN (by omega) ⟨b2I_01 _, H⟩
theorem m_isPair {v : Int32} (I : InvM σ h) (w : WF σ) (H : K (b2I (ixI v (sP σ)).isSome) h) : wq_M_isPair 338 v h K := by
  have hM := I.1
  have := w.2.2.1.1
  unfold wq_M_isPair
  simp (disch := omega) only [i0, i1, nLit, mul_I, add_I, nI_cl, isO_stI, isA_stI, isL_stI, gR_stI, gJ_stI, gK_stI, gL_stI, gS_stI, true_and, and_true, forall_eq, implies_true, ps_339, MSh_o hM, I.2.2.2.2.1.1, sub1_I]
  exact m_inN (by omega) ⟨b2I_01 _, H⟩
/-- the end of a call that keeps the state -/
theorem MK_q {σ : St} {h h' : HP} {v : Int32} {K : Int32 → HP → Prop} (I : InvM σ h) (F : Fm h h') (H : ∀ h', InvM σ h' → Fo h h' → K v h') : K v h' := H h' (InvM_m F I) (Fm_o F)
def ctB (σ : St) (s : Nat) : Nat := pct (atM (sf σ) (600 + sb σ s + sn σ s)) 46 (600 + sb σ s + sn σ s) 600 (600 + sb σ s)
def aTape (σ : St) (v : Int32) : Int32 := match ixI v (sz σ 0) with
  | none => -nI 1
  | some i => nI (sf σ i)
theorem m_tape {v : Int32} (I : InvM σ h) (w : WF σ) (H : ∀ h', InvM σ h' → Fo h h' → K (aTape σ v) h') : wq_M_tape 338 v h K := by
  have hM := I.1
  have hz := w.1.2 0 (by omega)
  have HK := H h I (Fo_rf h)
  unfold wq_M_tape
  simp (disch := omega) only [i0, i1, nLit, mul_I, add_I, nI_cl, isO_stI, isA_stI, isL_stI, gR_stI, gJ_stI, gK_stI, gL_stI, gS_stI, true_and, and_true, forall_eq, implies_true, ps_339, MSh_o hM, mR_size hM, mL_size hM, mA_size hM, I.2.2.1, sub1_I]
  refine m_inN (by omega) ?_
  simp only [b2I_s]
  unfold aTape at HK
  rcases ixI_c v (n := sz σ 0) (by omega) with ⟨e, c⟩ | ⟨j, hj, e, e2⟩
  · simp only [e] at HK ⊢
    exact ⟨fun _ => HK, fun z => absurd (by first | trivial | rfl) z⟩
  · simp only [e2] at HK ⊢
    subst e
    simp (disch := omega) only [i0, i1, nLit, mul_I, add_I, nI_cl, isO_stI, isA_stI, isL_stI, gR_stI, gJ_stI, gK_stI, gL_stI, gS_stI, true_and, and_true, forall_eq, implies_true, ps_339, MSh_o hM, mR_bytes hM, mL_bytes hM, mA_bytes hM, I.2.1]
    exact ⟨fun z => absurd z (by simp), fun _ => HK⟩
def aSegment (σ : St) (v what : Int32) : Int32 := match ixI v (sS σ) with
  | none => -nI 1
  | some s => if what = nI 0 then nI (sb σ s) else if what = nI 1 then nI (sn σ s) else if what = nI 2 then nI (ctB σ s) else if what = nI 3 then nI (pcB σ s).length else if what = nI 4 then nI (wct (pcB σ s)) else if what = nI 5 then b2I (tornA (sf σ) (pcB σ s) []) else -nI 1
theorem pcB_tw (w : WF σ) {s : Nat} (hs : s < sS σ) : ∀ x ∈ pcB σ s, x.1 ≤ 6 ∧ x.2.1 + 4 ≤ 37200 := fun x hx => by
  have := pcs_in (atM_z (sf σ) _) _ _ x hx
  have := w.2.1.2.1 s hs
  omega
theorem m_segment {v what : Int32} (I : InvM σ h) (w : WF σ) (H : ∀ h', InvM σ h' → Fo h h' → K (aSegment σ v what) h') : wq_M_segment 338 v what h K := by
  have hM := I.1
  have hS := w.2.1.1
  unfold wq_M_segment
  refine ⟨MSh_o hM, m_isSegment I w ?_⟩
  simp only [i0, i1, nLit, mul_I, add_I, nI_cl, b2I_s]
  unfold aSegment at H
  rcases ixI_c v (n := sS σ) (by omega) with ⟨e, c⟩ | ⟨s, hs, e, e2⟩
  · simp only [e] at H ⊢
    exact ⟨fun z => absurd (by first | trivial | rfl) z, fun _ => H h I (Fo_rf h)⟩
  · simp only [e2] at H ⊢
    subst e
    refine ⟨fun _ => ⟨MSh_o hM, m_readSegment (IM_B I w) (IM_S I w) (by decide) hs (fun h1 R1 => ?_)⟩, fun z => absurd z (by simp)⟩
    have F1 := RD_m R1
    have I1 := InvM_m F1 I
    have M1 := I1.1
    have P1 : PlR h1 1 (pcB σ s) := RD_pl R1 (pcB_len σ s)
    have HK := MK_q I F1 H
    have g4 : gI h1 344 1 = nI (ctB σ s) := by rw [R1.2.2.2.1, va_up_self]; rfl
    simp (disch := omega) only [i0, i1, nLit, mul_I, add_I, nI_cl, isO_stI, isA_stI, isL_stI, gR_stI, gJ_stI, gK_stI, gL_stI, gS_stI, true_and, and_true, forall_eq, implies_true, ps_339, MSh_o M1, mR_begins M1, mL_begins M1, mA_begins M1, mR_sizes M1, mL_sizes M1, mA_sizes M1, mR_pieces M1, mL_pieces M1, mA_pieces M1, mR_solid M1, mL_solid M1, mA_solid M1, I1.2.2.2.1.2 s (by omega), g4, P1.1]
    refine ⟨fun c0 c1 c2 c3 c4 c5 => ?_, fun c0 => ?_, fun c0 => ?_, fun c0 => ?_, fun c0 => ?_, fun c0 => ?_, fun c0 => ?_⟩
    · simpa [c0, c1, c2, c3, c4, c5] using HK
    · subst c0; exact HK
    · subst c0; exact HK
    · subst c0; exact HK
    · subst c0; exact HK
    · subst c0
      exact m_wordsOf M1 (by decide) P1 (fun x hx => (pcB_Wf w hs x hx).1) HK
    · subst c0
      refine m_isTorn (IM_B I1 w) (by decide) P1 (pcB_tw w hs) (fun h2 F2 => ?_)
      have HK2 : K (b2I (tornA (sf σ) (pcB σ s) [])) h2 := MK_q I (Fm_tr F1 (Fr6_m F2)) H
      exact ⟨fun z => b2_0 (b2I_0 z) HK2, fun z => b2_1 (b2I_1 z) HK2⟩
def aPiece (σ : St) (v i what : Int32) : Int32 := match ixI v (sS σ) with
  | none => -nI 1
  | some s => match ixI i (pcB σ s).length with
    | none => -nI 1
    | some k => if what = nI 0 then nI ((pcB σ s).getD k (0, 0, 0)).1 else if what = nI 1 then nI (((pcB σ s).getD k (0, 0, 0)).2.1 - 600) else if what = nI 2 then nI ((pcB σ s).getD k (0, 0, 0)).2.2 else -nI 1
theorem m_piece {v i what : Int32} (I : InvM σ h) (w : WF σ) (H : ∀ h', InvM σ h' → Fo h h' → K (aPiece σ v i what) h') : wq_M_piece 338 v i what h K := by
  have hM := I.1
  have hS := w.2.1.1
  unfold wq_M_piece
  refine ⟨MSh_o hM, m_isSegment I w ?_⟩
  simp only [i0, i1, nLit, mul_I, add_I, nI_cl, b2I_s]
  unfold aPiece at H
  rcases ixI_c v (n := sS σ) (by omega) with ⟨e, c⟩ | ⟨s, hs, e, e2⟩
  · simp only [e] at H ⊢
    exact ⟨fun z => absurd (by first | trivial | rfl) z, fun _ => H h I (Fo_rf h)⟩
  · simp only [e2] at H ⊢
    subst e
    refine ⟨fun _ => ⟨MSh_o hM, m_readSegment (IM_B I w) (IM_S I w) (by decide) hs (fun h1 R1 => ?_)⟩, fun z => absurd z (by simp)⟩
    have F1 := RD_m R1
    have I1 := InvM_m F1 I
    have M1 := I1.1
    have len := pcB_len σ s
    have P1 : PlR h1 1 (pcB σ s) := RD_pl R1 len
    have HK := MK_q I F1 H
    simp (disch := omega) only [i0, i1, nLit, mul_I, add_I, nI_cl, isO_stI, isA_stI, isL_stI, gR_stI, gJ_stI, gK_stI, gL_stI, gS_stI, true_and, and_true, forall_eq, implies_true, ps_339, MSh_o M1, mR_solid M1, mL_solid M1, mA_solid M1, P1.1, sub1_I]
    refine m_inN (by omega) ?_
    simp only [b2I_s]
    rcases ixI_c i (n := (pcB σ s).length) (by omega) with ⟨e, c⟩ | ⟨k, hk, e, e2⟩
    · simp only [e] at HK ⊢
      exact ⟨fun z => absurd (by first | trivial | rfl) z, fun _ => HK⟩
    · simp only [e2] at HK ⊢
      subst e
      have E := PlR_PE P1 (by decide) (pcB_Wf w hs) hk
      rw [getD_at hk] at HK
      have hin := pcs_in (atM_z (sf σ) _) _ _ _ (List.getElem_mem hk)
      obtain ⟨q1, ⟨q2, q3, q4⟩, q5⟩ := E
      rw [Nat.mul_one] at q1 q2 q3 q4
      simp (disch := omega) only [i0, i1, nLit, mul_I, add_I, nI_cl, isO_stI, isA_stI, isL_stI, gR_stI, gJ_stI, gK_stI, gL_stI, gS_stI, true_and, and_true, forall_eq, implies_true, ps_339, MSh_o M1, mR_kind M1, mL_kind M1, mA_kind M1, mR_from M1, mL_from M1, mA_from M1, mR_many M1, mL_many M1, mA_many M1, q2, q3, q4, sub_I]
      refine ⟨fun _ => ⟨fun c0 => ⟨fun c1 => ⟨fun c2 => ?_, fun c2 => ?_⟩, fun c1 => ?_⟩, fun c0 => ?_⟩, fun z => absurd z (by simp)⟩
      · simpa [c0, c1, c2] using HK
      · subst c2; exact HK
      · subst c1; exact HK
      · subst c0; exact HK
def aStep (σ : St) (i what : Int32) : Int32 := match ixI i (sD σ).length with
  | none => -nI 1
  | some k => if what = nI 0 then nI ((sD σ).getD k (0, 0, 0)).1 else if what = nI 1 then ((sD σ).getD k (0, 0, 0)).2.1 else if what = nI 2 then ((sD σ).getD k (0, 0, 0)).2.2 else -nI 1
theorem getD_st {L : StepL} {i : Nat} (h : i < L.length) : L.getD i (0, 0, 0) = L[i] := by
  rw [List.getD_eq_getElem?_getD, List.getElem?_eq_getElem h]
  rfl
theorem m_step2 {i what : Int32} (I : InvM σ h) (w : WF σ) (H : ∀ h', InvM σ h' → Fo h h' → K (aStep σ i what) h') : wq_M_step2 338 i what h K := by
  have hM := I.1
  have hl := w.2.2.2.2.1
  have HK := H h I (Fo_rf h)
  obtain ⟨t1, t2⟩ := I.2.2.2.2.2.2
  unfold wq_M_step2
  simp (disch := omega) only [i0, i1, nLit, mul_I, add_I, nI_cl, isO_stI, isA_stI, isL_stI, gR_stI, gJ_stI, gK_stI, gL_stI, gS_stI, true_and, and_true, forall_eq, implies_true, ps_339, MSh_o hM, t1, sub1_I]
  refine m_inN (by omega) ?_
  simp only [b2I_s]
  unfold aStep at HK
  rcases ixI_c i (n := (sD σ).length) (by omega) with ⟨e, c⟩ | ⟨k, hk, e, e2⟩
  · simp only [e] at HK ⊢
    exact ⟨fun _ => HK, fun z => absurd (by first | trivial | rfl) z⟩
  · simp only [e2] at HK ⊢
    subst e
    rw [getD_st hk] at HK
    obtain ⟨q1, q2, q3⟩ := t2 k _ (List.getElem?_eq_getElem hk)
    simp (disch := omega) only [i0, i1, nLit, mul_I, add_I, nI_cl, isO_stI, isA_stI, isL_stI, gR_stI, gJ_stI, gK_stI, gL_stI, gS_stI, true_and, and_true, forall_eq, implies_true, ps_339, MSh_o hM, mR_stepKind hM, mL_stepKind hM, mA_stepKind hM, mR_stepA hM, mL_stepA hM, mA_stepA hM, mR_stepB hM, mL_stepB hM, mA_stepB hM, q1, q2, q3]
    refine ⟨fun z => absurd z (by simp), fun _ => ⟨fun c0 => ⟨fun c1 => ⟨fun c2 => ?_, fun c2 => ?_⟩, fun c1 => ?_⟩, fun c0 => ?_⟩⟩
    · simpa [c0, c1, c2] using HK
    · subst c2; exact HK
    · subst c1; exact HK
    · subst c0; exact HK
def aAbout (σ : St) (what : Int32) : Int32 := if what = nI 0 then nI (sS σ) else if what = nI 1 then nI (sP σ) else if what = nI 2 then nI (sR σ) else if what = nI 3 then nI (sR σ) else if what = nI 4 then nI (sz σ 0) else if what = nI 5 then nI (sE σ) else if what = nI 6 then nI (sT σ) else if what = nI 7 then nI (sF σ) else -nI 1
theorem m_about {what : Int32} (I : InvM σ h) (w : WF σ) (H : ∀ h', InvM σ h' → Fo h h' → K (aAbout σ what) h') : wq_M_about 338 what h K := by
  have hM := I.1
  have HK := H h I (Fo_rf h)
  unfold aAbout at HK
  unfold wq_M_about
  simp (disch := omega) only [i0, i1, nLit, mul_I, add_I, nI_cl, isO_stI, isA_stI, isL_stI, gR_stI, gJ_stI, gK_stI, gL_stI, gS_stI, true_and, and_true, forall_eq, implies_true, ps_339, MSh_o hM, mR_size hM, mL_size hM, mA_size hM, I.2.2.2.1.1, I.2.2.2.2.1.1, I.2.2.2.2.1.2.1, I.2.2.1, I.2.2.2.2.2.1.1, I.2.2.2.2.2.1.2.1, I.2.2.2.2.2.1.2.2.1]
  refine ⟨fun c0 c1 c2 c3 c4 c5 c6 c7 => ?_, fun c => ?_, fun c => ?_, fun c => ?_, fun c => ?_, fun c => ?_, fun c => ?_, fun c => ?_, fun c => ?_⟩
  · simpa [c0, c1, c2, c3, c4, c5, c6, c7] using HK
  all_goals (subst c; exact HK)
end OP1
