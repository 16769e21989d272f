/-! the model's changes -/
section OP5
variable {σ : St} {h : HP} {K : Int32 → HP → Prop}
/-- byte k of a long, the lowest is 0 -/
def byN (w : Int64) (k : Nat) : Nat := w.toBitVec.toNat / 2 ^ (8 * k) % 2 ^ 8
theorem byN_lt (w : Int64) (k : Nat) : byN w k < 256 := Nat.mod_lt _ (by decide)
theorem byN_bit (w : Int64) (k i : Nat) (hi : i < 32) : (nI (byN w k)).toBitVec.getLsbD i = (decide (i < 8) && w.toBitVec.getLsbD (8 * k + i)) := by
  show (BitVec.ofNat 32 (byN w k)).getLsbD i = _
  rw [BitVec.getLsbD_ofNat, byN, Nat.testBit_mod_two_pow, Nat.testBit_div_two_pow]
  simp only [hi, decide_true, Bool.true_and]
  rw [Nat.add_comm i (8 * k)]
  rfl
theorem m_sh (w : Int64) {k : Nat} (hk : k < 8) : (w >>> ((nI (8 * k)).toInt64 &&& 63)).toBitVec = w.toBitVec.sshiftRight (8 * k) := by
  have e1 : (((nI (8 * k)).toInt64 &&& 63).toBitVec.smod 64).toNat = 8 * k := (by decide : ∀ k, k < 8 → (((nI (8 * k)).toInt64 &&& 63).toBitVec.smod 64).toNat = 8 * k) k hk
  show w.toBitVec.sshiftRight' _ = _
  rw [BitVec.sshiftRight_eq', e1]
theorem m_byte (w : Int64) {k : Nat} (hk : k < 8) : ((w >>> ((nI (8 * k)).toInt64 &&& 63)) &&& (lN 255)).toInt32 = nI (byN w k) := by
  apply Int32.toBitVec_inj.mp
  apply BitVec.eq_of_getLsbD_eq
  intro i hi
  have hm : (lN 255).toBitVec.getLsbD i = decide (i < 8) := (by decide : ∀ i, i < 32 → (lN 255).toBitVec.getLsbD i = decide (i < 8)) i hi
  rw [byN_bit w k i hi, Int64.toBitVec_toInt32, BitVec.getLsbD_signExtend, if_pos (by omega), Int64.toBitVec_and, BitVec.getLsbD_and, hm, m_sh w hk, BitVec.getLsbD_sshiftRight]
  by_cases z : i < 8
  · rw [if_pos (by omega)]
    simp [z, hi]
    omega
  · simp [z]
/-- the r lowest bytes of w, the highest first, from place k on -/
def fdF (w : Int64) : Nat → Nat → (Nat → Nat) → (Nat → Nat)
  | 0, _, f => f
  | r + 1, k, f => fdF w r (k + 1) (va_up f k (byN w r))
def aFeed (σ : St) (n : Int32) : Int32 := if nI 1 ≤ n ∧ n ≤ nI 8 then (if sz σ 0 + n.toNatClampNeg ≤ 600 then nI (sz σ 0 + n.toNatClampNeg) else -nI 5) else -nI 2
def tFeed (σ : St) (w : Int64) (n : Int32) : St := if nI 1 ≤ n ∧ n ≤ nI 8 then (if sz σ 0 + n.toNatClampNeg ≤ 600 then setz (setf σ (fdF w n.toNatClampNeg (sz σ 0) (sf σ))) (va_up (sz σ) 0 (sz σ 0 + n.toNatClampNeg)) else σ) else σ
theorem va_up_2 {α : Type} (f : Nat → α) (k : Nat) : va_up f k (f k) = f := by
  funext j
  unfold va_up
  split
  · rename_i e; rw [e]
  · rfl
theorem m_feed_35 {w : Int64} {h0 : HP} : ∀ (r : Nat) (τ : St) (h : HP), r ≤ 8 → sz τ 0 + r ≤ 600 → Fo h0 h → InvM τ h → (∀ h', InvM (setz (setf τ (fdF w r (sz τ 0) (sf τ))) (va_up (sz τ) 0 (sz τ 0 + r))) h' → Fo h0 h' → K (nI (sz τ 0 + r)) h') → Wp k_M_feed 35 [some (.ref 338), some (.long w), none, none, some (.int (tI r))] [] h (0, 0) (QI K)
  | 0, τ, h, hr, hz, F, I, H => wb_M_feed_35_ok (by
      have hM := I.1
      unfold wb_M_feed_35
      refine ⟨fun _ => ?_, fun c => absurd (by decide) c⟩
      simp (disch := omega) only [i0, i1, nLit, mul_I, add_I, nI_cl, isO_stI, isA_stI, isL_stI, gR_stI, gJ_stI, gK_stI, gL_stI, gS_stI, true_and, and_true, forall_eq, implies_true, ps_339, MSh_o hM, mR_size hM, mL_size hM, mA_size hM, I.2.2.1]
      refine H h ?_ F
      show InvM (setz τ (va_up (sz τ) 0 (sz τ 0))) h
      rw [va_up_2]
      exact I)
  | r + 1, τ, h, hr, hz, F, I, H => wb_M_feed_35_ok (by
      have hM := I.1
      have hb := m_byte w (k := r) (by omega)
      unfold wb_M_feed_35
      refine ⟨fun c => absurd c (nI_pos (by omega)), fun _ => ?_⟩
      simp (disch := omega) only [tI, i0, i1, nLit, mul_I, add_I, nI_cl, isO_stI, isA_stI, isL_stI, gR_stI, gJ_stI, gK_stI, gL_stI, gS_stI, true_and, and_true, forall_eq, implies_true, ps_339, MSh_o hM, mR_size hM, mL_size hM, mA_size hM, mR_bytes hM, mL_bytes hM, mA_bytes hM, I.2.2.1, hb, dec_I]
      have e1 : gI (stI h 339 (sz τ 0) (nI (byN w r))) 340 0 = nI (sz τ 0) := I.2.2.1 0 (by omega)
      rw [e1, add_I]
      have I2 := IM_z (r := 0) (v := sz τ 0 + 1) (IM_f (r := sz τ 0) (v := byN w r) I)
      refine m_feed_35 r (setz (setf τ (va_up (sf τ) (sz τ 0) (byN w r))) (va_up (sz τ) 0 (sz τ 0 + 1))) _ (by omega) (by show sz τ 0 + 1 + r ≤ 600; omega) (Fo_st (Fo_st F (by omega)) (by omega)) I2 (fun h' I' F' => ?_)
      have e2 : sz (setz (setf τ (va_up (sf τ) (sz τ 0) (byN w r))) (va_up (sz τ) 0 (sz τ 0 + 1))) 0 = sz τ 0 + 1 := rfl
      rw [e2, show sz τ 0 + 1 + r = sz τ 0 + (r + 1) by omega] at I' ⊢
      refine H h' ?_ F'
      have e3 : va_up (sz (setz (setf τ (va_up (sf τ) (sz τ 0) (byN w r))) (va_up (sz τ) 0 (sz τ 0 + 1)))) 0 (sz τ 0 + (r + 1)) = va_up (sz τ) 0 (sz τ 0 + (r + 1)) := va_up_up _ _ _ _
      rw [e3] at I'
      exact I')
theorem m_feed {w : Int64} {n : Int32} (I : InvM σ h) (wf : WF σ) (H : ∀ h', InvM (tFeed σ w n) h' → Fo h h' → K (aFeed σ n) h') : wq_M_feed 338 w n h K := by
  have hM := I.1
  have hz := wf.1.2 0 (by omega)
  unfold aFeed tFeed at H
  unfold wq_M_feed
  refine m_in ?_
  by_cases c : nI 1 ≤ n ∧ n ≤ nI 8
  · simp only [if_pos c] at H
    rw [if_pos (show (1 : Int32) ≤ n ∧ n ≤ 8 from c)]
    simp only [i0, i1, nLit, mul_I, add_I, nI_cl]
    rcases ixI_c n (n := 9) (by decide) with ⟨e, c2⟩ | ⟨j, hj, e, e2⟩
    · rcases c2 with c2 | c2
      · exact absurd (Int32.lt_of_le_of_lt c.1 c2) (by decide)
      · exact absurd (Int32.le_trans c2 c.2) (by decide)
    · subst e
      have hj1 := (le_I (by omega) (by omega)).mp c.1
      rw [nI_cl (by omega)] at H
      refine ⟨fun _ => ?_, fun z => absurd z (by decide)⟩
      simp (disch := omega) only [i0, i1, nLit, mul_I, add_I, nI_cl, isO_stI, isA_stI, isL_stI, gR_stI, gJ_stI, gK_stI, gL_stI, gS_stI, true_and, and_true, forall_eq, implies_true, ps_339, MSh_o hM, mR_size hM, mL_size hM, mA_size hM, I.2.2.1, le_I, sub1_I]
      refine ⟨fun c3 => ?_, fun c3 => ?_⟩
      · simp only [if_pos c3] at H
        exact m_feed_35 j σ h (by omega) c3 (Fo_rf h) I H
      · simp only [if_neg c3] at H
        exact H h I (Fo_rf h)
  · simp only [if_neg c] at H
    rw [if_neg (show ¬ ((1 : Int32) ≤ n ∧ n ≤ 8) from c)]
    exact ⟨fun z => absurd (by first | trivial | rfl) z, fun _ => H h I (Fo_rf h)⟩
def aCut (σ : St) (n : Int32) : Int32 := match ixI n (sz σ 0 + 1) with
  | none => -nI 2
  | some _ => n
def tCut (σ : St) (n : Int32) : St := match ixI n (sz σ 0 + 1) with
  | none => σ
  | some k => setz σ (va_up (sz σ) 0 k)
theorem m_cut {n : Int32} (I : InvM σ h) (wf : WF σ) (H : ∀ h', InvM (tCut σ n) h' → Fo h h' → K (aCut σ n) h') : wq_M_cut 338 n h K := by
  have hM := I.1
  have hz := wf.1.2 0 (by omega)
  unfold aCut tCut at H
  unfold wq_M_cut
  simp (disch := omega) only [i0, i1, nLit, mul_I, add_I, nI_cl, isO_stI, isA_stI, isL_stI, gR_stI, gJ_stI, gK_stI, gL_stI, gS_stI, true_and, and_true, forall_eq, implies_true, ps_339, MSh_o hM, mR_size hM, mL_size hM, mA_size hM, I.2.2.1]
  refine m_inM (by omega) ?_
  simp only [b2I_s]
  rcases ixI_c n (n := sz σ 0 + 1) (by omega) with ⟨e, c⟩ | ⟨k, hk, e, e2⟩
  · simp only [e] at H ⊢
    exact ⟨fun z => absurd (by first | trivial | rfl) z, fun _ => H h I (Fo_rf h)⟩
  · simp only [e2] at H ⊢
    subst e
    simp (disch := omega) only [i0, i1, nLit, mul_I, add_I, nI_cl, isO_stI, isA_stI, isL_stI, gR_stI, gJ_stI, gK_stI, gL_stI, gS_stI, true_and, and_true, forall_eq, implies_true, ps_339, MSh_o hM, mR_size hM, mL_size hM, mA_size hM]
    exact ⟨fun _ => H _ (IM_z I) (Fo_st (Fo_rf h) (by omega)), fun z => absurd z (by simp)⟩
/-- the tape is empty -/
def tEmp (σ : St) : St := setz σ (va_up (sz σ) 0 0)
def aExcept (σ : St) : Int32 := if iwM (sf σ) 0 (sz σ 0) = true then (if sE σ = 8 then -nI 5 else nI (sE σ + 1)) else -nI 2
def tExcept (σ : St) : St := if iwM (sf σ) 0 (sz σ 0) = true then (if sE σ = 8 then σ else tEmp (setW σ (sE σ + 1) (sT σ) (sF σ) (cpW (sc σ) (sf σ) 0 (sE σ) (sz σ 0)) (va_up (sl σ) (sE σ) (sz σ 0)))) else σ
theorem iwM_le {f : Nat → Nat} {b n : Nat} (h : iwM f b n = true) : 1 ≤ n ∧ n ≤ 8 := by
  unfold iwM at h
  rw [Bool.and_eq_true] at h
  exact of_decide_eq_true h.1
theorem m_except (I : InvM σ h) (wf : WF σ) (H : ∀ h', InvM (tExcept σ) h' → Fo h h' → K (aExcept σ) h') : wq_M_except 338 h K := by
  have hM := I.1
  have hz := wf.1.2 0 (by omega)
  have hE := wf.2.2.2.1.1
  unfold aExcept tExcept at H
  unfold wq_M_except
  simp (disch := omega) only [i0, i1, nLit, mul_I, add_I, nI_cl, isO_stI, isA_stI, isL_stI, gR_stI, gJ_stI, gK_stI, gL_stI, gS_stI, true_and, and_true, forall_eq, implies_true, ps_339, MSh_o hM, mR_size hM, mL_size hM, mA_size hM, I.2.2.1]
  refine m_isWord (IM_B I wf) (by omega) ?_
  simp (disch := omega) only [b2I_eq0, Bool.not_eq_false, i0, i1, nLit, mul_I, add_I, nI_cl, isO_stI, isA_stI, isL_stI, gR_stI, gJ_stI, gK_stI, gL_stI, gS_stI, true_and, and_true, forall_eq, implies_true, ps_339, MSh_o hM, mR_size hM, mL_size hM, mA_size hM, I.2.2.1, I.2.2.2.2.2.1.1, eq_I]
  refine ⟨fun c => ⟨fun c2 => ?_, fun c2 => ?_⟩, fun c => ?_⟩
  · simp only [if_pos c, if_neg c2] at H
    have hw := iwM_le c
    refine m_word (IM_B I wf) (IM_W I wf) (by omega) (by omega) (by omega) (fun h2 F2 W2 => ?_)
    have I2 := IM_wd F2 W2 I
    have M2 := I2.1
    have e12 : gI h2 338 12 = nI (sE σ) := I2.2.2.2.2.2.1.1
    simp (disch := omega) only [i0, i1, nLit, mul_I, add_I, nI_cl, isO_stI, isA_stI, isL_stI, gR_stI, gJ_stI, gK_stI, gL_stI, gS_stI, true_and, and_true, forall_eq, implies_true, ps_339, MSh_o M2, mR_size M2, mL_size M2, mA_size M2, e12]
    exact H _ (IM_z (IM_E1 I2)) (Fo_st (Fo_st (FrX_o F2 (by decide)) (by omega)) (by omega))
  · simp only [if_pos c, if_pos c2] at H
    exact H h I (Fo_rf h)
  · simp only [c, Bool.false_eq_true, if_false] at H
    exact H h I (Fo_rf h)
def aForbid (σ : St) : Int32 := if iwM (sf σ) 0 (sz σ 0) = true then (if sF σ = 5 then -nI 5 else nI (sF σ + 1)) else -nI 2
def tForbid (σ : St) : St := if iwM (sf σ) 0 (sz σ 0) = true then (if sF σ = 5 then σ else tEmp (setW σ (sE σ) (sT σ) (sF σ + 1) (cpW (sc σ) (sf σ) 0 (28 + sF σ) (sz σ 0)) (va_up (sl σ) (28 + sF σ) (sz σ 0)))) else σ
theorem m_forbid (I : InvM σ h) (wf : WF σ) (H : ∀ h', InvM (tForbid σ) h' → Fo h h' → K (aForbid σ) h') : wq_M_forbid 338 h K := by
  have hM := I.1
  have hz := wf.1.2 0 (by omega)
  have hF := wf.2.2.2.1.2.2.1
  unfold aForbid tForbid at H
  unfold wq_M_forbid
  simp (disch := omega) only [i0, i1, nLit, mul_I, add_I, nI_cl, isO_stI, isA_stI, isL_stI, gR_stI, gJ_stI, gK_stI, gL_stI, gS_stI, true_and, and_true, forall_eq, implies_true, ps_339, MSh_o hM, mR_size hM, mL_size hM, mA_size hM, I.2.2.1]
  refine m_isWord (IM_B I wf) (by omega) ?_
  simp (disch := omega) only [b2I_eq0, Bool.not_eq_false, i0, i1, nLit, mul_I, add_I, nI_cl, isO_stI, isA_stI, isL_stI, gR_stI, gJ_stI, gK_stI, gL_stI, gS_stI, true_and, and_true, forall_eq, implies_true, ps_339, MSh_o hM, mR_size hM, mL_size hM, mA_size hM, I.2.2.1, I.2.2.2.2.2.1.2.2.1, eq_I]
  refine ⟨fun c => ⟨fun c2 => ?_, fun c2 => ?_⟩, fun c => ?_⟩
  · simp only [if_pos c, if_neg c2] at H
    have hw := iwM_le c
    refine m_word (IM_B I wf) (IM_W I wf) (by omega) (by omega) (by omega) (fun h2 F2 W2 => ?_)
    have I2 := IM_wd F2 W2 I
    have M2 := I2.1
    have e12 : gI h2 338 14 = nI (sF σ) := I2.2.2.2.2.2.1.2.2.1
    simp (disch := omega) only [i0, i1, nLit, mul_I, add_I, nI_cl, isO_stI, isA_stI, isL_stI, gR_stI, gJ_stI, gK_stI, gL_stI, gS_stI, true_and, and_true, forall_eq, implies_true, ps_339, MSh_o M2, mR_size M2, mL_size M2, mA_size M2, e12]
    exact H _ (IM_z (IM_F1 I2)) (Fo_st (Fo_st (FrX_o F2 (by decide)) (by omega)) (by omega))
  · simp only [if_pos c, if_pos c2] at H
    exact H h I (Fo_rf h)
  · simp only [c, Bool.false_eq_true, if_false] at H
    exact H h I (Fo_rf h)
/-- the first blank from k on, r bytes at most -/
def fbl (f : Nat → Nat) : Nat → Nat → Nat
  | 0, k => k
  | r + 1, k => if f k = 32 then k else fbl f r (k + 1)
theorem fbl_le (f : Nat → Nat) : ∀ r k, k ≤ fbl f r k ∧ fbl f r k ≤ k + r
  | 0, k => ⟨Nat.le_refl k, Nat.le_refl k⟩
  | r + 1, k => by
    have := fbl_le f r (k + 1)
    unfold fbl
    split <;> omega
def okT (σ : St) (n : Nat) : Bool := iwM (sf σ) 0 n && decide (¬ n = sz σ 0) && iwM (sf σ) (n + 1) (sz σ 0 - n - 1)
def gapT (σ : St) : Nat := fbl (sf σ) (sz σ 0) 0
def aTerm (σ : St) : Int32 := if okT σ (gapT σ) = true then (if sT σ = 10 then -nI 5 else nI (sT σ)) else -nI 2
def tTerm (σ : St) : St := if okT σ (gapT σ) = true then (if sT σ = 10 then σ else tEmp (setW σ (sE σ) (sT σ + 1) (sF σ) (cpW (cpW (sc σ) (sf σ) 0 (8 + sT σ) (gapT σ)) (sf σ) (gapT σ + 1) (18 + sT σ) (sz σ 0 - gapT σ - 1)) (va_up (va_up (sl σ) (8 + sT σ) (gapT σ)) (18 + sT σ) (sz σ 0 - gapT σ - 1)))) else σ
theorem m_term_29 {n : Nat} (I : InvM σ h) (wf : WF σ) (hn : n = gapT σ) (H : ∀ h', InvM (tTerm σ) h' → Fo h h' → K (aTerm σ) h') : wb_M_term_29 338 (nI n) h K := by
  have hM := I.1
  have hz := wf.1.2 0 (by omega)
  have hT := wf.2.2.2.1.2.1
  have hg := fbl_le (sf σ) (sz σ 0) 0
  have hg2 : n ≤ sz σ 0 := by rw [hn]; unfold gapT; omega
  unfold aTerm tTerm at H
  rw [← hn] at H
  have no : okT σ n = false → K (-nI 2) h := fun e => by
    simp only [e, Bool.false_eq_true, if_false] at H
    exact H h I (Fo_rf h)
  unfold wb_M_term_29
  simp (disch := omega) only [i0, i1, nLit, mul_I, add_I, nI_cl, isO_stI, isA_stI, isL_stI, gR_stI, gJ_stI, gK_stI, gL_stI, gS_stI, true_and, and_true, forall_eq, implies_true, ps_339, MSh_o hM]
  refine m_isWord (IM_B I wf) (by omega) ?_
  simp (disch := omega) only [b2I_eq0, Bool.not_eq_false, i0, i1, nLit, mul_I, add_I, nI_cl, isO_stI, isA_stI, isL_stI, gR_stI, gJ_stI, gK_stI, gL_stI, gS_stI, true_and, and_true, forall_eq, implies_true, ps_339, MSh_o hM, mR_size hM, mL_size hM, mA_size hM, I.2.2.1, eq_I]
  refine ⟨fun c => no (by simp [okT, c]), fun c => ⟨fun c2 => no (by simp [okT, c2]), fun c2 => ?_⟩⟩
  rw [sub_I hg2, sub_I (by omega)]
  refine m_isWord (IM_B I wf) (by omega) ?_
  simp (disch := omega) only [b2I_eq0, Bool.not_eq_false, i0, i1, nLit, mul_I, add_I, nI_cl, isO_stI, isA_stI, isL_stI, gR_stI, gJ_stI, gK_stI, gL_stI, gS_stI, true_and, and_true, forall_eq, implies_true, ps_339, MSh_o hM, I.2.2.2.2.2.1.2.1, eq_I]
  refine ⟨fun c3 => ?_, fun c3 => no (by simp [okT, c3])⟩
  have ok : okT σ n = true := by simp [okT, c, c2, c3]
  simp only [ok, if_true] at H
  have w1 := iwM_le c
  have w2 := iwM_le c3
  refine ⟨fun c4 => ?_, fun c4 => ?_⟩
  · simp only [if_neg c4] at H
    refine m_word (IM_B I wf) (IM_W I wf) (by omega) (by omega) (by omega) (fun h2 F2 W2 => ?_)
    have I2 := IM_wd F2 W2 I
    have M2 := I2.1
    have B2 := FrX_MBy F2 (by decide) (IM_B I wf)
    have e12 : gI h2 338 13 = nI (sT σ) := I2.2.2.2.2.2.1.2.1
    have e0 : gI h2 340 0 = nI (sz σ 0) := I2.2.2.1 0 (by omega)
    simp (disch := omega) only [i0, i1, nLit, mul_I, add_I, nI_cl, isO_stI, isA_stI, isL_stI, gR_stI, gJ_stI, gK_stI, gL_stI, gS_stI, true_and, and_true, forall_eq, implies_true, ps_339, MSh_o M2, mR_size M2, mL_size M2, mA_size M2, e12, e0]
    rw [sub_I hg2, sub_I (by omega)]
    refine m_word B2 W2 (by omega) (by omega) (by omega) (fun h3 F3 W3 => ?_)
    have I3 := IM_wd F3 W3 I2
    have M3 := I3.1
    have e13 : gI h3 338 13 = nI (sT σ) := I3.2.2.2.2.2.1.2.1
    simp (disch := omega) only [i0, i1, nLit, mul_I, add_I, nI_cl, isO_stI, isA_stI, isL_stI, gR_stI, gJ_stI, gK_stI, gL_stI, gS_stI, true_and, and_true, forall_eq, implies_true, ps_339, MSh_o M3, mR_size M3, mL_size M3, mA_size M3, e13]
    have e14 : gI (stI (stI h3 338 13 (nI (sT σ + 1))) 340 0 (nI 0)) 338 13 = nI (sT σ + 1) := rfl
    rw [e14, sub_I (by omega), Nat.add_sub_cancel]
    exact H _ (IM_z (IM_T1 I3)) (Fo_st (Fo_st (Fo_tr (FrX_o F2 (by decide)) (FrX_o F3 (by decide))) (by omega)) (by omega))
  · simp only [if_pos c4] at H
    exact H h I (Fo_rf h)
theorem m_term_2 (I : InvM σ h) (wf : WF σ) (H : ∀ h', InvM (tTerm σ) h' → Fo h h' → K (aTerm σ) h') : ∀ (r k : Nat), k + r = sz σ 0 → fbl (sf σ) r k = gapT σ → Wp k_M_term 2 [some (.ref 338), some (.int (nI k))] [] h (0, 0) (QI K)
  | 0, k, h1, h2 => wb_M_term_2_ok (by
      have hM := I.1
      have hz := wf.1.2 0 (by omega)
      unfold wb_M_term_2
      simp (disch := omega) only [i0, i1, nLit, mul_I, add_I, nI_cl, isO_stI, isA_stI, isL_stI, gR_stI, gJ_stI, gK_stI, gL_stI, gS_stI, true_and, and_true, forall_eq, implies_true, ps_339, MSh_o hM, mR_size hM, mL_size hM, mA_size hM, I.2.2.1, le_I]
      exact ⟨fun _ => m_term_29 I wf h2 H, fun z => absurd (by omega) z⟩)
  | r + 1, k, h1, h2 => wb_M_term_2_ok (by
      have hM := I.1
      have hz := wf.1.2 0 (by omega)
      have hf := wf.1.1 k
      unfold wb_M_term_2
      simp (disch := omega) only [i0, i1, nLit, mul_I, add_I, nI_cl, isO_stI, isA_stI, isL_stI, gR_stI, gJ_stI, gK_stI, gL_stI, gS_stI, true_and, and_true, forall_eq, implies_true, ps_339, MSh_o hM, mR_size hM, mL_size hM, mA_size hM, mR_bytes hM, mL_bytes hM, mA_bytes hM, I.2.2.1, I.2.1, le_I, eq_I]
      refine ⟨fun z => absurd z (by omega), fun _ => ⟨fun c => m_term_29 I wf ?_ H, fun c => m_term_2 I wf H r (k + 1) (by omega) ?_⟩⟩
      · rwa [fbl, if_pos c] at h2
      · rwa [fbl, if_neg c] at h2)
theorem m_term (I : InvM σ h) (wf : WF σ) (H : ∀ h', InvM (tTerm σ) h' → Fo h h' → K (aTerm σ) h') : wq_M_term 338 h K := m_term_2 I wf H (sz σ 0) 0 (by omega) rfl
end OP5
