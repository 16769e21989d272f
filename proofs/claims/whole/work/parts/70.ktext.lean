/-! the class: bytes -/
theorem bp_b (x : Int32) : x.toInt8.toInt32 &&& 255 = x &&& 255 := by
  apply Int32.toBitVec_inj.mp
  rw [Int32.toBitVec_and, Int32.toBitVec_and, Int8.toBitVec_toInt32, Int32.toBitVec_toInt8]
  apply BitVec.eq_of_getLsbD_eq
  intro i hi
  rw [BitVec.getLsbD_and, BitVec.getLsbD_and]
  have hm : ∀ i < 32, 8 ≤ i → (255 : Int32).toBitVec.getLsbD i = false := by decide
  rcases Nat.lt_or_ge i 8 with z | z
  · rw [BitVec.getLsbD_signExtend, BitVec.getLsbD_signExtend, if_pos z, if_pos hi]
    simp only [z, hi, decide_true, Bool.true_and]
  · rw [hm i hi z]; simp
/-- a byte as it is kept -/
def sgB (n : Nat) : Int32 := (nI n).toInt8.toInt32
theorem sgB_255 : ∀ n, n < 256 → sgB n &&& 255 = nI n := by decide +kernel
theorem sgB_inj {a b : Nat} (ha : a < 256) (hb : b < 256) : (sgB a = sgB b) = (a = b) := propext ⟨fun e => by
  have : sgB a &&& 255 = sgB b &&& 255 := by rw [e]
  rw [sgB_255 a ha, sgB_255 b hb, eq_I (by omega) (by omega)] at this
  exact this, fun e => by rw [e]⟩
theorem sgB_32 {a : Nat} (ha : a < 256) : (sgB a = nI 32) = (a = 32) := sgB_inj (b := 32) ha (by decide)
theorem sgB_or : ∀ n, n < 256 → isLt n = true → sgB n ||| nI 32 = nI (smN n) := by decide +kernel
theorem sgB_fit (n : Nat) : fits .byte (.int (sgB n)) = true := pk_fb (nI n)
theorem sgB_nar (n : Nat) : narB 101 (sgB n) = sgB n := by
  show (nI n).toInt8.toInt32.toInt8.toInt32 = (nI n).toInt8.toInt32
  rw [Int8.toInt8_toInt32]
/-- text t keeps in row A the n bytes of f from o on -/
def TxO (h : HP) (t A : Nat) (f : Nat → Nat) (o n : Nat) : Prop := isO h t 7 ∧ gR h t 0 = A ∧ (0 < A ∧ A < gS h ∧ gK h A = 101) ∧ gI h t 1 = nI n ∧ (n ≤ gL h A ∧ gL h A ≤ 1000) ∧ (∀ i, i < n → gI h A i = sgB (f (o + i))) ∧ ∀ i, f i < 256
section KTX
variable {h : HP} {t A o n : Nat} {f : Nat → Nat} {K : Int32 → HP → Prop}
theorem tx_o (T : TxO h t A f o n) : isO h t 7 := T.1
theorem tx_A (T : TxO h t A f o n) {i : Nat} (hi : i < n) : isA h A 101 (nI i) := ⟨T.2.2.1.1, T.2.2.1.2.1, T.2.2.1.2.2, nI_in' (by have := T.2.2.2.2.1.1; omega) (by have := T.2.2.2.2.1.2; omega)⟩
theorem tx_n (T : TxO h t A f o n) : n ≤ 1000 := Nat.le_trans T.2.2.2.2.1.1 T.2.2.2.2.1.2
/-- a byte, or NONE -/
def bvI (f : Nat → Nat) (E q : Nat) : Int32 := if q < E then nI (f q) else -nI 1
theorem k_at {v : Int32} (T : TxO h t A f o n) (H : K (match ixI v n with
    | none => -nI 1
    | some i => nI (f (o + i))) h) : wq_Text_at t v h K := by
  have hn := tx_n T
  obtain ⟨t1, t2, t3, t4, t5, t6, t7⟩ := id T
  unfold wq_Text_at
  rw [t4, t2]
  rcases ixI_c v (n := n) (by omega) with ⟨e, c⟩ | ⟨i, hi, e, e2⟩
  · simp only [e] at H
    rcases c with c | c
    · exact ⟨fun _ => H, fun z => absurd c z⟩
    · refine ⟨fun z => ?_, fun _ => ⟨t1, fun z => absurd z (Int32.not_lt.mpr c), fun _ => H⟩⟩
      exact H
  · simp only [e2] at H
    subst e
    refine ⟨fun z => absurd z (nI_pos (by omega)), fun _ => ⟨t1, fun _ => ⟨t1, t3.1, tx_A T hi, ?_⟩, fun z => absurd ((lt_I (by omega) (by omega)).mpr hi) z⟩⟩
    rw [nI_cl (by omega), t6 i hi, sgB_255 _ (t7 _)]
    exact H
theorem k_atN {i : Nat} (T : TxO h t A f o n) (hi : i < n) (H : K (nI (f (o + i))) h) : wq_Text_at t (nI i) h K := by
  refine k_at T ?_
  rw [ixI_at hi (by have := tx_n T; omega)]
  exact H
theorem k_byteAt {i e : Nat} (T : TxO h t A f o n) (he : e ≤ n) (hi : i < 2000000) (H : K (bvI f (o + e) (o + i)) h) : wq_Scan_byteAt t (nI i) (nI e) h K := by
  have hn := tx_n T
  unfold wq_Scan_byteAt
  simp (disch := omega) only [le_I]
  refine ⟨fun c => ?_, fun c => ⟨T.1, k_atN T (by omega) ?_⟩⟩
  · rwa [bvI, if_neg (by omega)] at H
  · rwa [bvI, if_pos (by omega)] at H
theorem k_isLetter {c : Nat} {h : HP} {K : Int32 → HP → Prop} (hc : c < 256) (H : K (b2I (isLt c)) h) : wq_Scan_isLetter (nI c) h K := by
  simp only [wq_Scan_isLetter, wb_Scan_isLetter_12, nLit]
  simp (disch := omega) only [lt_I, le_I]
  refine ⟨fun q => ⟨fun r => ?_, fun r => ⟨fun t => ?_, fun t => ?_⟩⟩, fun q => ⟨fun r => ?_, fun r => ⟨fun t => ?_, fun t => ⟨fun u => ?_, fun u => ?_⟩⟩⟩⟩
  all_goals first
    | exact b2_0 (by simp [isLt]; omega) H
    | exact b2_1 (by simp [isLt]; omega) H
theorem k_isDigit {c : Nat} {h : HP} {K : Int32 → HP → Prop} (hc : c < 256) (H : K (b2I (isD c)) h) : wq_Scan_isDigit (nI c) h K := by
  simp only [wq_Scan_isDigit, nLit]
  refine ⟨fun q => ?_, fun q => ⟨fun r => ?_, fun r => ?_⟩⟩ <;> simp (disch := omega) only [lt_I] at *
  · exact b2_0 (by simp [isD]; omega) H
  · exact b2_0 (by simp [isD]; omega) H
  · exact b2_1 (by simp [isD]; omega) H
theorem k_isLetterB {E q : Nat} {h : HP} {K : Int32 → HP → Prop} (hf : ∀ i, f i < 256) (H : K (b2I (isLt (atM f E q))) h) : wq_Scan_isLetter (bvI f E q) h K := by
  unfold bvI
  unfold atM at H
  split
  · rw [if_pos (by assumption)] at H
    exact k_isLetter (hf q) H
  · rw [if_neg (by assumption)] at H
    unfold wq_Scan_isLetter wb_Scan_isLetter_12
    exact ⟨fun _ => ⟨fun _ => H, fun z => absurd (by decide) z⟩, fun z => absurd (by decide) z⟩
theorem k_isDigitB {E q : Nat} {h : HP} {K : Int32 → HP → Prop} (hf : ∀ i, f i < 256) (H : K (b2I (isD (atM f E q))) h) : wq_Scan_isDigit (bvI f E q) h K := by
  unfold bvI
  unfold atM at H
  split
  · rw [if_pos (by assumption)] at H
    exact k_isDigit (hf q) H
  · rw [if_neg (by assumption)] at H
    unfold wq_Scan_isDigit
    exact ⟨fun _ => H, fun z => absurd (by decide) z⟩
theorem bv_eq {E q c : Nat} (hf : ∀ i, f i < 256) (hc : c < 256) (h0 : 0 < c) : (bvI f E q = nI c) = (atM f E q = c) := by
  unfold bvI atM
  split
  · exact propext (eq_I (by have := hf q; omega) (by omega))
  · refine propext ⟨fun z => ?_, fun z => absurd z (by omega)⟩
    have q : (0 : Int32) ≤ nI c := nI_pos' (by omega)
    rw [← z] at q
    exact absurd q (by decide)
/-! ends of pieces: how far one looks doesn't matter -/
theorem ltE_fu {g : Nat → Nat} {E : Nat} (hz : ∀ q, E ≤ q → g q = 0) : ∀ (n m p : Nat), E ≤ p + n → E ≤ p + m → ltE g p n = ltE g p m
  | 0, 0, p, _, _ => rfl
  | 0, m + 1, p, h1, h2 => by
    have : isLt (g p) = false := by rw [hz p (by omega)]; rfl
    rw [ltE, ltE, if_neg (by rw [this]; decide)]
  | n + 1, 0, p, h1, h2 => by
    have : isLt (g p) = false := by rw [hz p (by omega)]; rfl
    rw [ltE, ltE, if_neg (by rw [this]; decide)]
  | n + 1, m + 1, p, h1, h2 => by
    rw [ltE, ltE, ltE_fu hz n m (p + 1) (by omega) (by omega)]
theorem blE_fu {g : Nat → Nat} {E : Nat} (hz : ∀ q, E ≤ q → g q = 0) : ∀ (n m p : Nat), E ≤ p + n → E ≤ p + m → blE g p n = blE g p m
  | 0, 0, p, _, _ => rfl
  | 0, m + 1, p, h1, h2 => by
    have : ¬ g p = 32 := by rw [hz p (by omega)]; decide
    rw [blE, blE, if_neg this]
  | n + 1, 0, p, h1, h2 => by
    have : ¬ g p = 32 := by rw [hz p (by omega)]; decide
    rw [blE, blE, if_neg this]
  | n + 1, m + 1, p, h1, h2 => by
    rw [blE, blE, blE_fu hz n m (p + 1) (by omega) (by omega)]
theorem k_lettersEnd_lp {e : Nat} {l1 : Int32} (T : TxO h t A f o n) (he : e ≤ n) : ∀ (r i : Nat), i + r = e → (∀ j, o + j = ltE (atM f (o + e)) (o + i) r → K (nI j) h) → Wp k_Scan_lettersEnd 2 [some (.ref t), none, some (.int (nI e)), some (.int (nI i))] [] h (0, 0) (QI K)
  | 0, i, h1, H => wb_Scan_lettersEnd_2_ok (by
      have hn := tx_n T
      unfold wb_Scan_lettersEnd_2
      simp (disch := omega) only [le_I]
      exact ⟨fun _ => H i rfl, fun z => absurd (by omega) z⟩)
  | r + 1, i, h1, H => wb_Scan_lettersEnd_2_ok (by
      have hn := tx_n T
      have ea : atM f (o + e) (o + i) = f (o + i) := by unfold atM; rw [if_pos (by omega)]
      unfold wb_Scan_lettersEnd_2
      simp (disch := omega) only [i0, i1, nLit, mul_I, add_I, nI_cl, le_I]
      refine ⟨fun z => absurd z (by omega), fun _ => ⟨T.1, k_atN T (by omega) (k_isLetter (T.2.2.2.2.2.2 _) ⟨fun c => H i ?_, fun c => k_lettersEnd_lp (l1 := l1) T he r (i + 1) (by omega) (fun j hj => H j ?_)⟩)⟩⟩
      · rw [ltE, ea, b2I_0 c]; rfl
      · rw [ltE, ea, b2I_1 c]; exact hj)
theorem k_blanksEnd_lp {e : Nat} (T : TxO h t A f o n) (he : e ≤ n) : ∀ (r i : Nat), i + r = e → (∀ j, o + j = blE (atM f (o + e)) (o + i) r → K (nI j) h) → Wp k_Scan_blanksEnd 2 [some (.ref t), none, some (.int (nI e)), some (.int (nI i))] [] h (0, 0) (QI K)
  | 0, i, h1, H => wb_Scan_blanksEnd_2_ok (by
      have hn := tx_n T
      unfold wb_Scan_blanksEnd_2
      simp (disch := omega) only [le_I]
      exact ⟨fun _ => H i rfl, fun z => absurd (by omega) z⟩)
  | r + 1, i, h1, H => wb_Scan_blanksEnd_2_ok (by
      have hn := tx_n T
      have ea : atM f (o + e) (o + i) = f (o + i) := by unfold atM; rw [if_pos (by omega)]
      have fb := T.2.2.2.2.2.2 (o + i)
      unfold wb_Scan_blanksEnd_2
      simp (disch := omega) only [i0, i1, nLit, mul_I, add_I, nI_cl, le_I]
      refine ⟨fun z => absurd z (by omega), fun _ => ⟨T.1, k_atN T (by omega) ?_⟩⟩
      rw [eq_I (by omega) (by omega)]
      refine ⟨fun c => H i ?_, fun c => k_blanksEnd_lp T he r (i + 1) (by omega) (fun j hj => H j ?_)⟩
      · rw [blE, ea, if_neg c]
      · rw [blE, ea, if_pos c]; exact hj)
theorem k_digitsEnd_lp {e b most : Nat} (T : TxO h t A f o n) (he : e ≤ n) (hb : b + most < 1000000) : ∀ (r i : Nat), b ≤ i → i - b + r = most → (∀ j, o + j = dgE (atM f (o + e)) (o + i) r → K (nI j) h) → Wp k_Scan_digitsEnd 3 [some (.ref t), some (.int (nI b)), some (.int (nI e)), some (.int (nI most)), some (.int (nI i))] [] h (0, 0) (QI K)
  | 0, i, h0, h1, H => wb_Scan_digitsEnd_3_ok (by
      have hn := tx_n T
      unfold wb_Scan_digitsEnd_3
      simp (disch := omega) only [i0, i1, nLit, mul_I, add_I, nI_cl, le_I]
      exact ⟨fun _ => H i rfl, fun _ => ⟨fun _ => H i rfl, fun z => absurd (by omega) z⟩⟩)
  | r + 1, i, h0, h1, H => wb_Scan_digitsEnd_3_ok (by
      have hn := tx_n T
      unfold wb_Scan_digitsEnd_3
      simp (disch := omega) only [i0, i1, nLit, mul_I, add_I, nI_cl, le_I]
      refine ⟨fun z => H i ?_, fun z => ⟨fun z => absurd z (by omega), fun _ => ⟨T.1, k_atN T (by omega) (k_isDigit (T.2.2.2.2.2.2 _) ?_)⟩⟩⟩
      · have : isD (atM f (o + e) (o + i)) = false := by unfold atM; rw [if_neg (by omega)]; rfl
        rw [dgE, this]; rfl
      · have ea : atM f (o + e) (o + i) = f (o + i) := by unfold atM; rw [if_pos (by omega)]
        refine ⟨fun c => H i ?_, fun c => k_digitsEnd_lp T he hb r (i + 1) (by omega) (by omega) (fun j hj => H j ?_)⟩
        · rw [dgE, ea, b2I_0 c]; rfl
        · rw [dgE, ea, b2I_1 c]; exact hj)
theorem k_digitsEnd {e b most : Nat} (T : TxO h t A f o n) (he : e ≤ n) (hb : b + most < 1000000) (H : ∀ j, o + j = dgE (atM f (o + e)) (o + b) most → K (nI j) h) : wq_Scan_digitsEnd t (nI b) (nI e) (nI most) h K := k_digitsEnd_lp T he hb most b (Nat.le_refl b) (by omega) H
end KTX
