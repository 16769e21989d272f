/-! the class: words in a long -/
def pkV (f : Nat → Nat) (a : Nat) : Nat → Nat
  | 0 => 0
  | r + 1 => pkV f a r * 256 + smN (f (a + r))
def pkI (f : Nat → Nat) (a n : Nat) : Nat := if iwM f a n = true then pkV f a n else 0
theorem iwF_all {f : Nat → Nat} : ∀ {r q : Nat}, iwF f r q = true → ∀ k, k < r → isLt (f (q + k)) = true
  | 0, _, _, k, hk => absurd hk (by omega)
  | r + 1, q, h, k, hk => by
    rw [iwF, Bool.and_eq_true] at h
    cases k with
    | zero => exact h.1
    | succ k =>
      have := iwF_all h.2 k (by omega)
      rwa [show q + 1 + k = q + (k + 1) by omega] at this
theorem iwF_of {f : Nat → Nat} : ∀ {r q : Nat}, (∀ k, k < r → isLt (f (q + k)) = true) → iwF f r q = true
  | 0, _, _ => rfl
  | r + 1, q, h => by
    rw [iwF, Bool.and_eq_true]
    exact ⟨h 0 (by omega), iwF_of (fun k hk => by have := h (k + 1) (by omega); rwa [show q + (k + 1) = q + 1 + k by omega] at this)⟩
theorem isLt_sm : ∀ c, c < 256 → isLt c = true → 97 ≤ smN c ∧ smN c ≤ 122 := by decide +kernel
theorem isLt_256 {c : Nat} (h : isLt c = true) : c < 256 := by
  unfold isLt at h
  simp at h
  omega
theorem pkV_lt (f : Nat → Nat) (a : Nat) : ∀ r, (∀ k, k < r + 1 → isLt (f (a + k)) = true) → pkV f a (r + 1) < 123 * 256 ^ r
  | 0, h => by
    have := isLt_sm _ (isLt_256 (h 0 (by omega))) (h 0 (by omega))
    rw [pkV, pkV, Nat.pow_zero]
    omega
  | r + 1, h => by
    have ih := pkV_lt f a r (fun k hk => h k (by omega))
    have := isLt_sm _ (isLt_256 (h (r + 1) (by omega))) (h (r + 1) (by omega))
    rw [pkV, Nat.pow_succ]
    generalize (256 : Nat) ^ r = P at *
    omega
theorem pkV_63 {f : Nat → Nat} {a r : Nat} (hr : r ≤ 8) (h : ∀ k, k < r → isLt (f (a + k)) = true) : pkV f a r < 2 ^ 63 := by
  cases r with
  | zero => exact (by decide : 0 < 2 ^ 63)
  | succ r =>
    have := pkV_lt f a r h
    have h2 : (256 : Nat) ^ r ≤ 256 ^ 7 := Nat.pow_le_pow_right (by decide) (by omega)
    have h3 : 123 * 256 ^ r ≤ 123 * 256 ^ 7 := Nat.mul_le_mul_left _ h2
    have h4 : 123 * 256 ^ 7 < 2 ^ 63 := by decide
    omega
theorem pkV_56 {f : Nat → Nat} {a r : Nat} (hr : r ≤ 7) (h : ∀ k, k < r → isLt (f (a + k)) = true) : pkV f a r < 2 ^ 55 := by
  cases r with
  | zero => exact (by decide : 0 < 2 ^ 55)
  | succ r =>
    have := pkV_lt f a r h
    have h2 : (256 : Nat) ^ r ≤ 256 ^ 6 := Nat.pow_le_pow_right (by decide) (by omega)
    have h3 : 123 * 256 ^ r ≤ 123 * 256 ^ 6 := Nat.mul_le_mul_left _ h2
    have h4 : 123 * 256 ^ 6 < 2 ^ 55 := by decide
    omega
theorem pkV_pos {f : Nat → Nat} {a r : Nat} (hr : 1 ≤ r) (h : ∀ k, k < r → isLt (f (a + k)) = true) : 0 < pkV f a r := by
  cases r with
  | zero => omega
  | succ r =>
    have := isLt_sm _ (isLt_256 (h r (by omega))) (h r (by omega))
    rw [pkV]
    omega
theorem pkV_inj {f g : Nat → Nat} {a b : Nat} : ∀ {r s : Nat}, (∀ k, k < r → isLt (f (a + k)) = true) → (∀ k, k < s → isLt (g (b + k)) = true) → pkV f a r = pkV g b s → r = s ∧ ∀ k, k < r → smN (f (a + k)) = smN (g (b + k))
  | 0, 0, _, _, _ => ⟨rfl, fun k hk => absurd hk (by omega)⟩
  | 0, s + 1, _, hg, e => by
    have := pkV_pos (by omega) hg
    rw [← e] at this
    exact absurd this (by simp [pkV])
  | r + 1, 0, hf, _, e => by
    have := pkV_pos (by omega) hf
    rw [e] at this
    exact absurd this (by simp [pkV])
  | r + 1, s + 1, hf, hg, e => by
    have l1 := isLt_sm _ (isLt_256 (hf r (by omega))) (hf r (by omega))
    have l2 := isLt_sm _ (isLt_256 (hg s (by omega))) (hg s (by omega))
    rw [pkV, pkV] at e
    have e1 : pkV f a r = pkV g b s := by omega
    have e2 : smN (f (a + r)) = smN (g (b + s)) := by omega
    obtain ⟨e3, e4⟩ := pkV_inj (fun k hk => hf k (by omega)) (fun k hk => hg k (by omega)) e1
    subst e3
    refine ⟨rfl, fun k hk => ?_⟩
    by_cases z : k = r
    · rw [z]; exact e2
    · exact e4 k (by omega)
theorem pkV_cg {f g : Nat → Nat} {a b : Nat} : ∀ {r : Nat}, (∀ k, k < r → smN (f (a + k)) = smN (g (b + k))) → pkV f a r = pkV g b r
  | 0, _ => rfl
  | r + 1, h => by rw [pkV, pkV, pkV_cg (fun k hk => h k (by omega)), h r (by omega)]
theorem ttF_all {f c : Nat → Nat} {a t : Nat} : ∀ {r k : Nat}, (ttF f c a t r k = true) ↔ ∀ j, j < r → smN (f (a + (k + j))) = smN (c (8 * t + (k + j)))
  | 0, k => ⟨fun _ j hj => absurd hj (by omega), fun _ => rfl⟩
  | r + 1, k => by
    rw [ttF, Bool.and_eq_true, ttF_all, decide_eq_true_iff]
    constructor
    · rintro ⟨h1, h2⟩ j hj
      cases j with
      | zero => exact h1
      | succ j => have := h2 j (by omega); rwa [show k + 1 + j = k + (j + 1) by omega] at this
    · intro h
      exact ⟨h 0 (by omega), fun j hj => by have := h (j + 1) (by omega); rwa [show k + (j + 1) = k + 1 + j by omega] at this⟩
/-- a word that was read is a word that is kept just when both longs are the same -/
theorem pk_tt {f c l : Nat → Nat} {x : Nat × Nat × Nat} {t : Nat} (hx : x.1 = 0) (hg : ∀ k, k < x.2.2 → isLt (f (x.2.1 + k)) = true) (hl : 1 ≤ l t ∧ l t ≤ 8) (hc : ∀ k, k < l t → isLt (c (8 * t + k)) = true) : (pkI f x.2.1 x.2.2 = pkV c (8 * t) (l t)) ↔ ttM f c l x t = true := by
  have hp := pkV_pos hl.1 hc
  unfold ttM
  rw [Bool.and_eq_true, Bool.and_eq_true, decide_eq_true_iff, decide_eq_true_iff, ttF_all]
  unfold pkI
  constructor
  · intro e
    split at e
    · obtain ⟨e1, e2⟩ := pkV_inj hg hc e
      exact ⟨⟨hx, e1⟩, fun j hj => by rw [Nat.zero_add]; exact e2 j (by omega)⟩
    · omega
  · rintro ⟨⟨_, e1⟩, e2⟩
    have hw : iwM f x.2.1 x.2.2 = true := by
      unfold iwM
      rw [Bool.and_eq_true]
      exact ⟨decide_eq_true (by omega), iwF_of hg⟩
    rw [if_pos hw, e1]
    exact pkV_cg (fun k hk => by have := e2 k hk; rwa [Nat.zero_add] at this)
theorem lN_inj {a b : Nat} (ha : a < 2 ^ 63) (hb : b < 2 ^ 63) : (lg_cmp (lN a) (lN b) = nI 0) = (a = b) := by
  refine propext ⟨fun e => ?_, fun e => ?_⟩
  · unfold lg_cmp at e
    split at e
    · exact absurd e (by decide)
    · split at e
      · rename_i q; exact (pk_lEQ ha hb).mp q
      · exact absurd e (by decide)
  · rw [e]
    unfold lg_cmp
    rw [if_neg Int64.lt_irrefl, if_pos rfl]
    rfl
theorem or_sm : ∀ b, b < 256 → isLt b = true → b ||| 32 = smN b := by decide +kernel
theorem pk_step {w b : Nat} (hw : w < 2 ^ 55) (hb : isLt b = true) : ((lN w <<< ((nI 8).toInt64 &&& 63)) ||| (nI b).toInt64) ||| (lN 32) = lN (w * 256 + smN b) := by
  have hb2 := isLt_256 hb
  have hs := isLt_sm b hb2 hb
  apply Int64.toBitVec_inj.mp
  apply BitVec.eq_of_toNat_eq
  have e8 : (((nI 8).toInt64 &&& 63).toBitVec.smod 64).toNat = 8 := by decide
  have e1 : (lN w <<< ((nI 8).toInt64 &&& 63)).toBitVec = (lN w).toBitVec <<< 8 := by
    show (lN w).toBitVec <<< (((nI 8).toInt64 &&& 63).toBitVec.smod 64) = _
    rw [BitVec.shiftLeft_eq', e8]
  have e2 : (lN w).toBitVec.toNat = w := by
    show (BitVec.ofNat 64 w).toNat = w
    rw [BitVec.toNat_ofNat, Nat.mod_eq_of_lt (by omega)]
  have e3 : (nI b).toInt64.toBitVec.toNat = b := by
    rw [nI_l (by omega)]
    show (BitVec.ofNat 64 b).toNat = b
    rw [BitVec.toNat_ofNat, Nat.mod_eq_of_lt (by omega)]
  have e4 : (lN 32).toBitVec.toNat = 32 := by decide
  have e5 : (lN (w * 256 + smN b)).toBitVec.toNat = w * 256 + smN b := by
    show (BitVec.ofNat 64 _).toNat = _
    rw [BitVec.toNat_ofNat, Nat.mod_eq_of_lt (by omega)]
  rw [e5, Int64.toBitVec_or, Int64.toBitVec_or, BitVec.toNat_or, BitVec.toNat_or, e1, BitVec.toNat_shiftLeft, e2, e3, e4, Nat.or_assoc, or_sm b hb2 hb]
  rw [Nat.shiftLeft_eq, Nat.mod_eq_of_lt (by omega), show w * 2 ^ 8 = w <<< 8 by rw [Nat.shiftLeft_eq], ← Nat.shiftLeft_add_eq_or_of_lt (by omega : smN b < 2 ^ 8), Nat.shiftLeft_eq]
section KWD
variable {h : HP} {t A o n : Nat} {f : Nat → Nat}
theorem k_packed_lp {K : Int64 → HP → Prop} {b e : Nat} (T : TxO h t A f o n) (he : e ≤ n) (hbe : b ≤ e) (h8 : e - b ≤ 8) (h1 : 1 ≤ e - b) (H : K (lN (pkI f (o + b) (e - b))) h) : ∀ (r i : Nat), i + r = e → b ≤ i → (∀ k, k < i - b → isLt (f (o + b + k)) = true) → Wp k_Words_packed 20 [some (.ref t), none, some (.int (nI e)), some (.long (lN (pkV f (o + b) (i - b)))), none, some (.int (nI i)), none] [] h (0, 0) (QJ K)
  | 0, i, h2, h3, ha => wb_Words_packed_20_ok (by
      have hn := tx_n T
      unfold wb_Words_packed_20
      simp (disch := omega) only [le_I]
      refine ⟨fun _ => ?_, fun z => absurd (by omega) z⟩
      have ei : i = e := by omega
      subst ei
      have hw : iwM f (o + b) (i - b) = true := by
        unfold iwM
        rw [Bool.and_eq_true]
        exact ⟨decide_eq_true (by omega), iwF_of ha⟩
      rwa [pkI, if_pos hw] at H)
  | r + 1, i, h2, h3, ha => wb_Words_packed_20_ok (by
      have hn := tx_n T
      unfold wb_Words_packed_20
      simp (disch := omega) only [i0, i1, nLit, mul_I, add_I, nI_cl, le_I]
      refine ⟨fun z => absurd z (by omega), fun _ => ⟨T.1, k_atN T (by omega) (k_isLetter (T.2.2.2.2.2.2 _) ⟨fun c => ?_, fun c => ?_⟩)⟩⟩
      · have c1 := b2I_1 c
        rw [pk_step (pkV_56 (by omega) ha) c1]
        have e1 : pkV f (o + b) (i - b) * 256 + smN (f (o + i)) = pkV f (o + b) (i + 1 - b) := by
          rw [show i + 1 - b = (i - b) + 1 by omega, pkV, show o + b + (i - b) = o + i by omega]
        rw [e1]
        refine k_packed_lp T he hbe h8 h1 H r (i + 1) (by omega) (by omega) (fun k hk => ?_)
        by_cases z : k = i - b
        · rw [z, show o + b + (i - b) = o + i by omega]; exact c1
        · exact ha k (by omega)
      · have c1 := b2I_0 c
        have hw : ¬ iwM f (o + b) (e - b) = true := fun z => by
          unfold iwM at z
          rw [Bool.and_eq_true] at z
          have := iwF_all z.2 (i - b) (by omega)
          rw [show o + b + (i - b) = o + i by omega, c1] at this
          exact absurd this (by decide)
        rwa [pkI, if_neg hw] at H)
theorem k_packed {K : Int64 → HP → Prop} {b e : Nat} (T : TxO h t A f o n) (he : e ≤ n) (hb : b ≤ n + 1) (H : K (lN (pkI f (o + b) (e - b))) h) : wq_Words_packed t (nI b) (nI e) h K := by
  have hn := tx_n T
  have no : ¬ (1 ≤ e - b ∧ e - b ≤ 8) → K (lN 0) h := fun z => by
    have hw : ¬ iwM f (o + b) (e - b) = true := fun y => by have := iwM_le y; omega
    rwa [pkI, if_neg hw] at H
  unfold wq_Words_packed
  simp (disch := omega) only [i0, i1, nLit, mul_I, add_I, nI_cl, le_I]
  refine ⟨fun c => no (by omega), fun c => ?_⟩
  rw [sub_I (by omega), le_I (by omega) (by omega)]
  refine ⟨fun c2 => ?_, fun c2 => no (by omega)⟩
  have := k_packed_lp (K := K) T he (by omega) c2 (by omega) H (e - b) b (by omega) (Nat.le_refl b) (fun k hk => absurd hk (by omega))
  rwa [Nat.sub_self, pkV] at this
/-- the list of words at cell a: those from base on, m of them, room for N -/
def WdO (h : HP) (a N base m : Nat) (c l : Nat → Nat) : Prop := isO h a 8 ∧ gR h a 0 = a + 1 ∧ a + 1 < gS h ∧ gK h (a + 1) = 103 ∧ gL h (a + 1) = N ∧ N ≤ 100 ∧ m ≤ N ∧ gI h a 1 = nI m ∧ ∀ i, i < m → gJ h (a + 1) i = lN (pkV c (8 * (base + i)) (l (base + i))) ∧ (1 ≤ l (base + i) ∧ l (base + i) ≤ 8) ∧ ∀ k, k < l (base + i) → isLt (c (8 * (base + i) + k)) = true
theorem wd_A {a N base m : Nat} {c l : Nat → Nat} (W : WdO h a N base m c l) {i : Nat} (hi : i < N) : isA h (a + 1) 103 (nI i) := by
  obtain ⟨w1, w2, w3, w4, w5, w6, w7⟩ := W
  exact ⟨by omega, w3, w4, by rw [w5]; exact nI_in' hi (by omega)⟩
theorem k_isFull {K : Int32 → HP → Prop} {a N base m : Nat} {c l : Nat → Nat} (W : WdO h a N base m c l) (H : K (b2I (decide (N ≤ m))) h) : wq_Words_isFull a h K := by
  obtain ⟨w1, w2, w3, w4, w5, w6, w7, w8, w9⟩ := W
  unfold wq_Words_isFull
  rw [w2, w4, w5, w8]
  refine ⟨w1, w1, by omega, ⟨w3, by decide, by decide, fun z => absurd z (by omega)⟩, ?_⟩
  simp (disch := omega) only [lt_I]
  refine ⟨fun q => b2_0 (by simp; omega) H, fun q => b2_1 (by simp; omega) H⟩
theorem k_has {K : Int32 → HP → Prop} {a N base m v : Nat} {c l : Nat → Nat} {b : Bool} (W : WdO h a N base m c l) (hv : v < 2 ^ 63) : ∀ (r i : Nat), i + r = m → ((∃ j, i ≤ j ∧ j < m ∧ pkV c (8 * (base + j)) (l (base + j)) = v) ↔ b = true) → K (b2I b) h → Wp k_Words_has 2 [some (.ref a), some (.long (lN v)), none, some (.int (nI i))] [] h (0, 0) (QI K)
  | 0, i, h1, hb, H => wb_Words_has_2_ok (by
      obtain ⟨w1, w2, w3, w4, w5, w6, w7, w8, w9⟩ := id W
      unfold wb_Words_has_2
      rw [w8, le_I (by omega) (by omega)]
      refine ⟨w1, fun _ => ?_, fun z => absurd (by omega) z⟩
      refine b2_0 ?_ H
      cases b with
      | false => rfl
      | true => obtain ⟨j, p, q, _⟩ := hb.mpr rfl; omega)
  | r + 1, i, h1, hb, H => wb_Words_has_2_ok (by
      obtain ⟨w1, w2, w3, w4, w5, w6, w7, w8, w9⟩ := id W
      have wi := w9 i (by omega)
      unfold wb_Words_has_2
      rw [w8, le_I (by omega) (by omega), w2, nI_cl (by omega), wi.1]
      refine ⟨w1, fun z => absurd z (by omega), fun _ => ⟨w1, by omega, wd_A W (by omega), ?_⟩⟩
      have el : (lg_cmp (lN (pkV c (8 * (base + i)) (l (base + i)))) (lN v) = 0) = (pkV c (8 * (base + i)) (l (base + i)) = v) := lN_inj (pkV_63 wi.2.1.2 wi.2.2) hv
      rw [el, i1, add_I]
      refine ⟨fun q => k_has W hv r (i + 1) (by omega) ⟨fun ⟨j, p1, p2, p3⟩ => hb.mp ⟨j, by omega, p2, p3⟩, fun y => ?_⟩ H, fun q => b2_1 (hb.mp ⟨i, Nat.le_refl i, by omega, q⟩) H⟩
      obtain ⟨j, p1, p2, p3⟩ := hb.mpr y
      refine ⟨j, ?_, p2, p3⟩
      by_cases z : j = i
      · rw [z] at p3; exact absurd p3 q
      · omega)
end KWD
