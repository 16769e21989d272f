/-! words of the model -/
def cpW (c f : Nat → Nat) (a t k : Nat) : Nat → Nat := fun i => if 8 * t ≤ i ∧ i < 8 * t + k then f (a + (i - 8 * t)) else c i
def MWd (h : HP) (c l : Nat → Nat) : Prop := (∀ i, i < 264 → gI h 347 i = nI (c i)) ∧ (∀ i, i < 33 → gI h 348 i = nI (l i)) ∧ (∀ i, c i < 256) ∧ ∀ i, l i ≤ 8
theorem m_word_lp {h0 : HP} {f c l : Nat → Nat} {a n t : Nat} {K : HP → Prop} (B0 : MBy h0 f) (W0 : MWd h0 c l) (ht : t < 33) (hn : n ≤ 8) (ha : a + n ≤ 37200) (H : ∀ h', FrX [347, 348] h0 h' → MWd h' (cpW c f a t n) (va_up l t n) → K h') : ∀ (r k : Nat) (h : HP), k + r = n → FrX [347, 348] h0 h → MWd h (cpW c f a t k) l → Wp k_M_word 3 [some (.ref 338), some (.int (nI t)), some (.int (nI a)), some (.int (nI n)), some (.int (nI k))] [] h (0, 0) (QV K)
  | 0, k, h, h1, F, W => wb_M_word_3_ok (by
      have hM := FrX_MSh F B0.1
      have hk : k = n := by omega
      subst hk
      obtain ⟨w1, w2, w3, w4⟩ := W
      unfold wb_M_word_3
      simp (disch := omega) only [i0, i1, nLit, mul_I, add_I, nI_cl, isO_stI, isA_stI, isL_stI, gR_stI, gJ_stI, gK_stI, gL_stI, gS_stI, true_and, and_true, forall_eq, implies_true, ps_339, MSh_o hM, mR_words hM, mL_words hM, mA_words hM, mR_letters hM, mL_letters hM, mA_letters hM, le_I, Nat.le_refl, forall_const, not_true, false_imp_iff]
      refine H _ (FrX_st F (by decide)) ⟨fun i hi => by rw [gI_stI_o _ _ _ _ (by decide)]; exact w1 i hi, fun i hi => ?_, w3, fun i => ?_⟩
      · rw [gI_stI_s]; unfold va_up; split
        · rfl
        · exact w2 i hi
      · unfold va_up; split
        · exact hn
        · exact w4 i)
  | r + 1, k, h, h1, F, W => wb_M_word_3_ok (by
      have hM := FrX_MSh F B0.1
      have B := FrX_MBy F (by decide) B0
      obtain ⟨w1, w2, w3, w4⟩ := W
      unfold wb_M_word_3
      simp (disch := omega) only [i0, i1, nLit, mul_I, add_I, nI_cl, isO_stI, isA_stI, isL_stI, gR_stI, gJ_stI, gK_stI, gL_stI, gS_stI, true_and, and_true, forall_eq, implies_true, ps_339, MSh_o hM, mR_words hM, mL_words hM, mA_words hM, mR_letters hM, mL_letters hM, mA_letters hM, mR_bytes hM, mL_bytes hM, mA_bytes hM, le_I]
      refine ⟨fun c => absurd c (by omega), fun _ => ?_⟩
      refine m_word_lp B0 W0 ht hn ha H r (k + 1) _ (by omega) (FrX_st F (by decide)) ⟨fun i hi => ?_, fun i hi => by rw [gI_stI_o _ _ _ _ (by decide)]; exact w2 i hi, fun i => ?_, w4⟩
      · rw [gI_stI_s, B.2.1 _ (by omega)]
        unfold va_up
        by_cases z : i = 8 * t + k
        · rw [if_pos z]
          unfold cpW
          rw [if_pos (by omega), z, show 8 * t + k - 8 * t = k by omega]
        · rw [if_neg z, w1 i hi]
          unfold cpW
          by_cases y : 8 * t ≤ i ∧ i < 8 * t + k
          · rw [if_pos y, if_pos (by omega)]
          · rw [if_neg y, if_neg (by omega)]
      · have := W0.2.2.1 i
        have := B.2.2
        unfold cpW
        split
        · exact this _
        · assumption)
theorem m_word {h : HP} {f c l : Nat → Nat} {a n t : Nat} {K : HP → Prop} (B : MBy h f) (W : MWd h c l) (ht : t < 33) (hn : n ≤ 8) (ha : a + n ≤ 37200) (H : ∀ h', FrX [347, 348] h h' → MWd h' (cpW c f a t n) (va_up l t n) → K h') : wq_M_word 338 (nI t) (nI a) (nI n) h K := by
  unfold wq_M_word
  rw [i0]
  have e : cpW c f a t 0 = c := by funext i; unfold cpW; rw [if_neg (by omega)]
  exact m_word_lp B W ht hn ha H n 0 h (by omega) (FrX_rf _ h) (by rw [e]; exact W)
/-- r bytes from a + k on of f are alike those from 8 t + k on of c -/
def ttF (f c : Nat → Nat) (a t : Nat) : Nat → Nat → Bool
  | 0, _ => true
  | r + 1, k => decide (smN (f (a + k)) = smN (c (8 * t + k))) && ttF f c a t r (k + 1)
def ttM (f c l : Nat → Nat) (x : Nat × Nat × Nat) (t : Nat) : Bool := decide (x.1 = 0) && decide (x.2.2 = l t) && ttF f c x.2.1 t (l t) 0
theorem m_isThat_lp {h : HP} {f c l : Nat → Nat} {i t : Nat} {x : Nat × Nat × Nat} {K : Int32 → HP → Prop} (B : MBy h f) (W : MWd h c l) (ht : t < 33) (P : PE h i x) (hl : x.2.1 + l t ≤ 37200) : ∀ (r k : Nat) (is : Bool), k + r = l t → K (b2I (is && ttF f c x.2.1 t r k)) h → Wp k_M_isThat 33 [some (.ref 338), some (.int (nI i)), some (.int (nI t)), some (.int (b2I is)), some (.int (nI k))] [] h (0, 0) (QI K)
  | 0, k, is, h1, H => wb_M_isThat_33_ok (by
      have hM := B.1
      have := W.2.2.2 t
      unfold wb_M_isThat_33
      simp (disch := omega) only [i0, i1, nLit, mul_I, add_I, nI_cl, isO_stI, isA_stI, isL_stI, gR_stI, gJ_stI, gK_stI, gL_stI, gS_stI, true_and, and_true, forall_eq, implies_true, ps_339, MSh_o hM, mR_words hM, mL_words hM, mA_words hM, mR_letters hM, mL_letters hM, mA_letters hM, W.2.1, le_I]
      refine ⟨fun _ => ⟨b2I_01 is, by simpa [ttF] using H⟩, fun z => absurd (by omega) z⟩)
  | r + 1, k, is, h1, H => wb_M_isThat_33_ok (by
      have hM := B.1
      have := W.2.2.2 t
      have f1 := smN_lt (B.2.2 (x.2.1 + k))
      have f2 := smN_lt (W.2.2.1 (8 * t + k))
      obtain ⟨p1, ⟨p2, p5, p6⟩, p3, p4⟩ := id P
      unfold wb_M_isThat_33
      simp (disch := omega) only [i0, i1, nLit, mul_I, add_I, nI_cl, isO_stI, isA_stI, isL_stI, gR_stI, gJ_stI, gK_stI, gL_stI, gS_stI, true_and, and_true, forall_eq, implies_true, ps_339, MSh_o hM, mR_words hM, mL_words hM, mA_words hM, mR_letters hM, mL_letters hM, mA_letters hM, mR_bytes hM, mL_bytes hM, mA_bytes hM, mR_from hM, mL_from hM, mA_from hM, W.2.1, W.1, B.2.1, le_I, p5]
      refine ⟨fun c => absurd c (by omega), fun _ => ⟨fun c => ⟨b2I_01 is, ?_⟩, fun c => m_small (B.2.2 _) ?_⟩⟩
      · have := b2I_0 c
        rw [this] at H ⊢
        exact H
      simp (disch := omega) only [i0, i1, nLit, mul_I, add_I, nI_cl, isO_stI, isA_stI, isL_stI, gR_stI, gJ_stI, gK_stI, gL_stI, gS_stI, true_and, and_true, forall_eq, implies_true, ps_339, MSh_o hM, mR_words hM, mL_words hM, mA_words hM, mR_letters hM, mL_letters hM, mA_letters hM, mR_bytes hM, mL_bytes hM, mA_bytes hM, mR_from hM, mL_from hM, mA_from hM, W.2.1, W.1]
      rw [b2I_1 c] at H
      refine m_small (W.2.2.1 _) ⟨fun c2 => ?_, fun c2 => ?_⟩
      · rw [eq_I (by omega) (by omega)] at c2
        refine m_isThat_lp B W ht P hl r (k + 1) false (by omega) ?_
        simpa [ttF, c2] using H
      · rw [eq_I (by omega) (by omega)] at c2
        refine m_isThat_lp B W ht P hl r (k + 1) true (by omega) ?_
        simpa [ttF, c2] using H)
theorem m_isThat_no {h : HP} {c l : Nat → Nat} {i t : Nat} {K : Int32 → HP → Prop} (hM : MSh h) (W : MWd h c l) (ht : t < 33) (H : K (b2I false) h) : Wp k_M_isThat 33 [some (.ref 338), some (.int (nI i)), some (.int (nI t)), some (.int (nI 0)), some (.int (nI 0))] [] h (0, 0) (QI K) := wb_M_isThat_33_ok (by
  have := W.2.2.2 t
  unfold wb_M_isThat_33
  simp (disch := omega) only [i0, i1, nLit, mul_I, add_I, nI_cl, isO_stI, isA_stI, isL_stI, gR_stI, gJ_stI, gK_stI, gL_stI, gS_stI, true_and, and_true, forall_eq, implies_true, ps_339, MSh_o hM, mR_words hM, mL_words hM, mA_words hM, mR_letters hM, mL_letters hM, mA_letters hM, W.2.1, le_I, true_or, or_true, true_imp_iff, not_true_eq_false, not_false_eq_true, false_imp_iff]
  exact ⟨fun _ => H, fun _ => H⟩)
theorem m_isThat {h : HP} {f c l : Nat → Nat} {i t : Nat} {x : Nat × Nat × Nat} {K : Int32 → HP → Prop} (B : MBy h f) (W : MWd h c l) (ht : t < 33) (P : PE h i x) (H : K (b2I (ttM f c l x t)) h) : wq_M_isThat 338 (nI i) (nI t) h K := by
  have hM := B.1
  have := W.2.2.2 t
  obtain ⟨p1, ⟨p2, p5, p6⟩, p3, p4⟩ := id P
  unfold wq_M_isThat
  simp (disch := omega) only [i0, i1, nLit, mul_I, add_I, nI_cl, isO_stI, isA_stI, isL_stI, gR_stI, gJ_stI, gK_stI, gL_stI, gS_stI, true_and, and_true, forall_eq, implies_true, ps_339, MSh_o hM, mR_kind hM, mL_kind hM, mA_kind hM, mR_many hM, mL_many hM, mA_many hM, mR_letters hM, mL_letters hM, mA_letters hM, W.2.1, p2, p6, eq_I]
  refine ⟨fun c => ?_, fun c => ⟨fun c2 => ?_, fun c2 => ?_⟩⟩
  · refine m_isThat_no hM W ht ?_
    simpa [ttM, c] using H
  · refine m_isThat_no hM W ht ?_
    simpa [ttM, c2] using H
  · refine m_isThat_lp B W ht P (by omega) (l t) 0 true (by omega) ?_
    simpa [ttM, c, c2] using H
/-- how often WORD t stands there -/
def ofM (f c l : Nat → Nat) (t : Nat) : List (Nat × Nat × Nat) → Nat
  | [] => 0
  | x :: L => (if ttM f c l x t = true then 1 else 0) + ofM f c l t L
theorem m_often_lp {h : HP} {f c l : Nat → Nat} {pl t : Nat} {L : List (Nat × Nat × Nat)} {K : Int32 → HP → Prop} (B : MBy h f) (W : MWd h c l) (ht : t < 33) (hpl : pl < 3) (P : PlR h pl L) (hW : ∀ x ∈ L, WfP x) : ∀ (r k a : Nat), k + r = L.length → K (nI (a + ofM f c l t (L.drop k))) h → Wp k_M_often 5 [some (.ref 338), some (.int (nI pl)), some (.int (nI t)), some (.int (nI a)), some (.int (nI k))] [] h (0, 0) (QI K)
  | 0, k, a, h1, H => wb_M_often_5_ok (by
      have hM := B.1
      have := P.2.1
      rw [List.drop_of_length_le (by omega)] at H
      unfold wb_M_often_5
      simp (disch := omega) only [i0, i1, nLit, mul_I, add_I, nI_cl, isO_stI, isA_stI, isL_stI, gR_stI, gJ_stI, gK_stI, gL_stI, gS_stI, true_and, and_true, forall_eq, implies_true, ps_339, MSh_o hM, mR_solid hM, mL_solid hM, mA_solid hM, P.1, le_I]
      exact ⟨fun _ => H, fun z => absurd (by omega) z⟩)
  | r + 1, k, a, h1, H => wb_M_often_5_ok (by
      have hM := B.1
      have := P.2.1
      have hk : k < L.length := by omega
      have E := PlR_PE P hpl hW hk
      rw [List.drop_eq_getElem_cons hk] at H
      unfold wb_M_often_5
      simp (disch := omega) only [i0, i1, nLit, mul_I, add_I, nI_cl, isO_stI, isA_stI, isL_stI, gR_stI, gJ_stI, gK_stI, gL_stI, gS_stI, true_and, and_true, forall_eq, implies_true, ps_339, MSh_o hM, mR_solid hM, mL_solid hM, mA_solid hM, P.1, le_I]
      refine ⟨fun z => absurd z (by omega), fun _ => m_isThat B W ht E ⟨fun c2 => ?_, fun c2 => ?_⟩⟩
      · have c3 := b2I_0 c2
        refine m_often_lp B W ht hpl P hW r (k + 1) _ (by omega) ?_
        simpa [ofM, c3] using H
      · have c3 := b2I_1 c2
        refine m_often_lp B W ht hpl P hW r (k + 1) _ (by omega) ?_
        simpa [ofM, c3, Nat.add_assoc] using H)
theorem m_often {h : HP} {f c l : Nat → Nat} {pl t : Nat} {L : List (Nat × Nat × Nat)} {K : Int32 → HP → Prop} (B : MBy h f) (W : MWd h c l) (ht : t < 33) (hpl : pl < 3) (P : PlR h pl L) (hW : ∀ x ∈ L, WfP x) (H : K (nI (ofM f c l t L)) h) : wq_M_often 338 (nI pl) (nI t) h K :=
  m_often_lp B W ht hpl P hW L.length 0 0 (by omega) (by rw [Nat.zero_add]; exact H)
