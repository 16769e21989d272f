/-! the class: the tape and words change -/
theorem TxO_cut {h : HP} {t A o n k : Nat} {f : Nat → Nat} (T : TxO h t A f o n) (hk : k ≤ n) (ht : t ≠ A) : TxO (stI h t 1 (nI k)) t A f o k := by
  obtain ⟨t1, t2, t3, t4, t5, t6, t7⟩ := T
  refine ⟨t1, t2, t3, by rw [gI_stI, if_pos ⟨rfl, rfl⟩], ⟨by show k ≤ gL h A; omega, t5.2⟩, fun i hi => ?_, t7⟩
  rw [gI_stI_o _ _ _ _ (Ne.symm ht)]
  exact t6 i (by omega)
theorem TxO_put {h : HP} {t A o n b : Nat} {f : Nat → Nat} (T : TxO h t A f o n) (hn : n < gL h A) (ht : t ≠ A) (hb : b < 256) : TxO (stI (stI h A n (sgB b)) t 1 (nI (n + 1))) t A (va_up f (o + n) b) o (n + 1) := by
  obtain ⟨t1, t2, t3, t4, t5, t6, t7⟩ := T
  refine ⟨t1, t2, t3, by rw [gI_stI, if_pos ⟨rfl, rfl⟩], ⟨by show n + 1 ≤ gL h A; omega, t5.2⟩, fun i hi => ?_, fun i => ?_⟩
  · rw [gI_stI_o _ _ _ _ (Ne.symm ht), gI_stI, va_up_at]
    by_cases z : i = n
    · rw [if_pos ⟨rfl, z⟩, if_pos (by omega)]
    · rw [if_neg (fun y => z y.2), if_neg (by omega)]
      exact t6 i (by omega)
  · rw [va_up_at]
    split
    · exact hb
    · exact t7 i
theorem k_put {h : HP} {t A o n b : Nat} {f : Nat → Nat} {v : Int32} {K : HP → Prop} (T : TxO h t A f o n) (hn : n < gL h A) (hv : narB 101 v.toInt8.toInt32 = sgB b) (ht : t ≠ A) (H : K (stI (stI h A n (sgB b)) t 1 (nI (n + 1)))) : wq_Text_put t v h K := by
  have hc := T.2.2.2.2.1.2
  obtain ⟨t1, t2, t3, t4, t5, t6, t7⟩ := T
  unfold wq_Text_put
  rw [t2, t4, hv, nI_cl (by omega), t3.2.2]
  refine ⟨t1, t1, t3.1, ⟨t3.2.1, by decide, by decide, fun z => by have := t3.1; omega⟩, fun z => absurd ((le_I (by omega) (by omega)).mp z) (by omega), fun _ => ⟨t1, t3.1, t1, ⟨t3.1, t3.2.1, t3.2.2, nI_in' hn (by omega)⟩, fun h1 e1 => ⟨by rw [e1]; exact t1, by rw [e1]; exact t1, fun h2 e2 => ?_⟩⟩⟩
  have e3 : gI h1 t 1 = nI n := by rw [e1, gI_stI_o _ _ _ _ ht]; exact t4
  rw [e2, e3, i1, add_I, e1]
  exact H
theorem k_byte (w : Int64) {k : Nat} (hk : k < 8) : narB 101 (((w.toUInt64 >>> ((nI (8 * k)).toInt64.toUInt64 &&& Int64.toUInt64 63)).toInt64).toInt32).toInt8.toInt32 = sgB (byN w k) := by
  have e0 : ∀ x : Int32, narB 101 x.toInt8.toInt32 = x.toInt8.toInt32 := fun x => by
    show x.toInt8.toInt32.toInt8.toInt32 = x.toInt8.toInt32
    rw [Int8.toInt8_toInt32]
  rw [e0]
  unfold sgB
  congr 1
  apply Int8.toBitVec_inj.mp
  apply BitVec.eq_of_getLsbD_eq
  intro i hi
  rw [Int32.toBitVec_toInt8, Int32.toBitVec_toInt8, BitVec.getLsbD_signExtend, BitVec.getLsbD_signExtend, if_pos (by omega), if_pos (by omega), byN_bit w k i (by omega), Int64.toBitVec_toInt32, BitVec.getLsbD_signExtend, if_pos (by omega)]
  have e1 : (((nI (8 * k)).toInt64.toUInt64 &&& Int64.toUInt64 63).toBitVec % 64).toNat = 8 * k := (by decide : ∀ k, k < 8 → (((nI (8 * k)).toInt64.toUInt64 &&& Int64.toUInt64 63).toBitVec % 64).toNat = 8 * k) k hk
  have e2 : (w.toUInt64 >>> ((nI (8 * k)).toInt64.toUInt64 &&& Int64.toUInt64 63)).toInt64.toBitVec = w.toBitVec >>> (8 * k) := by
    show (w.toUInt64 >>> ((nI (8 * k)).toInt64.toUInt64 &&& Int64.toUInt64 63)).toBitVec = _
    rw [UInt64.toBitVec_shiftRight, BitVec.ushiftRight_eq', e1]
    rfl
  rw [e2, BitVec.getLsbD_ushiftRight]
  simp [hi]
  omega
theorem fdF_o (w : Int64) : ∀ (r k : Nat) (f : Nat → Nat) (i : Nat), (i < k ∨ k + r ≤ i) → fdF w r k f i = f i
  | 0, _, _, _, _ => rfl
  | r + 1, k, f, i, h => by
    rw [fdF, fdF_o w r (k + 1) _ i (by omega), va_up_at, if_neg (by omega)]
theorem fdF_lt (w : Int64) : ∀ (r k : Nat) (f : Nat → Nat), (∀ i, f i < 256) → ∀ i, fdF w r k f i < 256
  | 0, _, _, h, i => h i
  | r + 1, k, f, h, i => by
    rw [fdF]
    refine fdF_lt w r (k + 1) _ (fun j => ?_) i
    rw [va_up_at]
    split
    · exact byN_lt w r
    · exact h j
section KCH
variable {B : Nat → Nat} {σ : St} {h : HP} {K : Int32 → HP → Prop}
theorem ta_2 (T : isTA (B 0)) : 2 ≠ B 0 := fun z => by unfold isTA at T; omega
theorem KWd_0 {h' : HP} (G : AgY (fun a => a = 2 ∨ a = B 0) YN h h') (T : isTA (B 0)) (W : KWd σ h) : KWd σ h' := by
  unfold isTA at T
  exact ⟨WdO_y G (by omega) (by omega) (fun z => z) W.1, WdO_y G (by omega) (by omega) (fun z => z) W.2.1, WdO_y G (by omega) (by omega) (fun z => z) W.2.2.1, WdO_y G (by omega) (by omega) (fun z => z) W.2.2.2⟩
theorem kc_cut {n : Int32} (I : InvK B σ h) (w : WF σ) (H : ∀ h', (∃ B, InvK B (tCut σ n) h') → Fc h h' → K (aCut σ n) h') : wq_K_cut 1 n h K := by
  have S := I.1
  have T := IK_0 I
  have tn := tx_n T
  have ta := I.2.1.2.2.2.1 0 (by decide)
  unfold aCut tCut at H
  unfold wq_K_cut
  simp only [i0, i1, nLit, mul_I, add_I, nI_cl, isO_stI, isA_stI, isL_stI, gR_stI, gJ_stI, gK_stI, gL_stI, gS_stI, true_and, and_true, forall_eq, implies_true, ps_339, kO_1 S, kR_1_0 S, tx_o T, T.2.2.2.1]
  rcases ixI_c n (n := sz σ 0 + 1) (by omega) with ⟨e, c⟩ | ⟨k, hk, e, e2⟩
  · simp only [e] at H
    have HK := H h ⟨B, I⟩ (Fc_rf h)
    refine ⟨fun _ => HK, fun c0 => ⟨fun c1 => ?_, fun _ => HK⟩⟩
    rcases c with c | c
    · exact absurd c c0
    · exact absurd ((lt_I (by omega) (by omega)).mpr (by omega) : nI (sz σ 0) < nI (sz σ 0 + 1)) (Int32.not_lt.mpr (Int32.le_trans c c1))
  · simp only [e2] at H
    subst e
    refine ⟨fun z => absurd z (nI_pos (by omega)), fun _ => ⟨fun _ => ?_, fun z => absurd ((le_I (by omega) (by omega)).mpr (by omega)) z⟩⟩
    have G : AgY (fun a => a = 2 ∨ a = B 0) YN h (stI h 2 1 (nI k)) := AgY_stI (AgY_rf _ _ h) (Or.inl rfl)
    have G0 : AgY (X0 B) YN h (stI h 2 1 (nI k)) := AgY_stI (AgY_rf _ _ h) (Or.inl rfl)
    refine H _ ⟨B, InvK_0 (σ := σ) G0 ⟨rfl, rfl, rfl, fun _ _ => rfl, fun r hr => ?_⟩ w.1.1 ?_ (KWd_0 G ta I.2.2.2.2.1) I w⟩ (X0_c G0 ta)
    · show va_up (sz σ) 0 k r = _
      rw [va_up_ne _ _ hr]
    · exact TxO_cut T (by omega) (ta_2 ta)
theorem k_feed_37 {w : Int64} {h0 : HP} (I : InvK B σ h0) (wf : WF σ) {m : Nat} (hm : m ≤ 8) (hz : sz σ 0 + m ≤ 600) (H : ∀ h', (∃ B, InvK B (setz (setf σ (fdF w m (sz σ 0) (sf σ))) (va_up (sz σ) 0 (sz σ 0 + m))) h') → Fc h0 h' → K (nI (sz σ 0 + m)) h') : ∀ (r n : Nat) (f : Nat → Nat) (h : HP), r ≤ 8 → n + r = sz σ 0 + m → AgY (fun a => a = 2 ∨ a = B 0) YN h0 h → TxO h 2 (B 0) f 0 n → fdF w r n f = fdF w m (sz σ 0) (sf σ) → Wp k_K_feed 37 [some (.ref 1), some (.long w), none, none, some (.int (tI r))] [] h (0, 0) (QI K)
  | 0, n, f, h, hr, h1, G, T, e => wb_K_feed_37_ok (by
      have S := KSh_y G (fun _ _ z => z.elim) I.1
      have ta := I.2.1.2.2.2.1 0 (by decide)
      unfold wb_K_feed_37
      refine ⟨fun _ => ?_, fun c => absurd (by decide) c⟩
      simp only [i0, i1, nLit, mul_I, add_I, nI_cl, isO_stI, isA_stI, isL_stI, gR_stI, gJ_stI, gK_stI, gL_stI, gS_stI, true_and, and_true, forall_eq, implies_true, ps_339, kO_1 S, kR_1_0 S, tx_o T, T.2.2.2.1]
      have G0 : AgY (X0 B) YN h0 h := AgY_mono G (fun a z => by rcases z with z | z; exact Or.inl z; exact Or.inr (Or.inl z)) (fun _ _ z => z)
      rw [show n = sz σ 0 + m by omega]
      refine H h ⟨B, InvK_0 (σ := σ) G0 ⟨rfl, rfl, rfl, fun i hi => fdF_o w m _ _ i (by omega), fun r hr => ?_⟩ (fdF_lt w m _ _ wf.1.1) ?_ (KWd_0 (σ := setz (setf σ (fdF w m (sz σ 0) (sf σ))) (va_up (sz σ) 0 (sz σ 0 + m))) G ta I.2.2.2.2.1) I wf⟩ (X0_c G0 ta)
      · show va_up (sz σ) 0 _ r = _
        rw [va_up_ne _ _ hr]
      · show TxO h 2 (B 0) (fdF w m (sz σ 0) (sf σ)) 0 (sz σ 0 + m)
        rw [← e, ← h1]
        exact T)
  | r + 1, n, f, h, hr, h1, G, T, e => wb_K_feed_37_ok (by
      have S := KSh_y G (fun _ _ z => z.elim) I.1
      have ta := I.2.1.2.2.2.1 0 (by decide)
      have hl : gL h (B 0) = 600 := by rw [(G.2.2.1 _ (I.2.1.1 0 (by decide)).2.2.1.2.1).2]; exact I.2.1.2.2.1
      unfold wb_K_feed_37
      refine ⟨fun c => absurd c (nI_pos (by omega)), fun _ => ?_⟩
      simp only [tI, i0, i1, nLit, mul_I, add_I, nI_cl, isO_stI, isA_stI, isL_stI, gR_stI, gJ_stI, gK_stI, gL_stI, gS_stI, true_and, and_true, forall_eq, implies_true, ps_339, kO_1 S, kR_1_0 S, tx_o T, dec_I]
      refine k_put (b := byN w r) T (by omega) (k_byte w (by omega)) (ta_2 ta) ?_
      have T' := TxO_put (b := byN w r) T (by omega) (ta_2 ta) (byN_lt w r)
      rw [Nat.zero_add] at T'
      exact k_feed_37 I wf hm hz H r (n + 1) (va_up f n (byN w r)) _ (by omega) (by omega) (AgY_stI (AgY_stI G (Or.inr rfl)) (Or.inl rfl)) T' e)
theorem kc_feed {w : Int64} {n : Int32} (I : InvK B σ h) (wf : WF σ) (H : ∀ h', (∃ B, InvK B (tFeed σ w n) h') → Fc h h' → K (aFeed σ n) h') : wq_K_feed 1 w n h K := by
  have S := I.1
  have T := IK_0 I
  have hz := wf.1.2 0 (by omega)
  unfold aFeed tFeed at H
  unfold wq_K_feed
  simp only [i0, i1, nLit, mul_I, add_I, nI_cl, isO_stI, isA_stI, isL_stI, gR_stI, gJ_stI, gK_stI, gL_stI, gS_stI, true_and, and_true, forall_eq, implies_true, ps_339, kO_1 S, kR_1_0 S, tx_o T, T.2.2.2.1]
  by_cases c : nI 1 ≤ n ∧ n ≤ nI 8
  · simp only [if_pos c] at H
    rcases ixI_c n (n := 9) (by decide) with ⟨e, c2⟩ | ⟨j, hj, e, e2⟩
    · exfalso
      rcases c2 with c2 | c2
      · exact absurd (Int32.lt_of_le_of_lt c.1 c2) (by decide)
      · exact absurd (Int32.le_trans c2 c.2) (by decide)
    · subst e
      have hj1 := (le_I (by omega) (by omega)).mp c.1
      rw [nI_cl (by omega)] at H
      refine ⟨fun z => absurd ((lt_I (by omega) (by omega)).mp z) (by omega), fun _ => ⟨fun _ => ?_, fun z => absurd c.2 z⟩⟩
      simp (disch := omega) only [add_I, le_I, sub1_I]
      refine ⟨fun c3 => ?_, fun c3 => ?_⟩
      · simp only [if_pos c3] at H
        exact k_feed_37 I wf (by omega) c3 H j (sz σ 0) (sf σ) h (by omega) rfl (AgY_rf _ _ h) T rfl
      · simp only [if_neg c3] at H
        exact H h ⟨B, I⟩ (Fc_rf h)
  · simp only [if_neg c] at H
    have HK := H h ⟨B, I⟩ (Fc_rf h)
    refine ⟨fun _ => HK, fun c1 => ⟨fun c2 => absurd ⟨Int32.not_lt.mp c1, c2⟩ c, fun _ => HK⟩⟩
/-! words -/
theorem cpW_o {c f : Nat → Nat} {a t k i : Nat} (h : i < 8 * t ∨ 8 * t + k ≤ i) : cpW c f a t k i = c i := by unfold cpW; rw [if_neg (by omega)]
theorem cpW_i {c f : Nat → Nat} {a t k j : Nat} (h : j < k) : cpW c f a t k (8 * t + j) = f (a + j) := by unfold cpW; rw [if_pos (by omega), Nat.add_sub_cancel_left]
theorem pkV_e {f g : Nat → Nat} {a b : Nat} : ∀ {r : Nat}, (∀ k, k < r → f (a + k) = g (b + k)) → pkV f a r = pkV g b r
  | 0, _ => rfl
  | r + 1, h => by rw [pkV, pkV, pkV_e (fun k hk => h k (by omega)), h r (by omega)]
theorem WdO_other {a N base m u n b : Nat} {c l f : Nat → Nat} (W : WdO h a N base m c l) (hn : n ≤ 8) (hu : ∀ i, i < m → base + i ≠ u) : WdO h a N base m (cpW c f b u n) (va_up l u n) := by
  obtain ⟨w1, w2, w3, w4, w5, w6, w7, w8, w9⟩ := W
  refine ⟨w1, w2, w3, w4, w5, w6, w7, w8, fun i hi => ?_⟩
  have q := w9 i hi
  have hi' := hu i hi
  have el : va_up l u n (base + i) = l (base + i) := va_up_ne _ _ hi'
  have ec : ∀ k, k < l (base + i) → cpW c f b u n (8 * (base + i) + k) = c (8 * (base + i) + k) := fun k hk => cpW_o (by have := q.2.1.2; omega)
  rw [el]
  refine ⟨by rw [pkV_e ec]; exact q.1, q.2.1, fun k hk => by rw [ec k hk]; exact q.2.2 k hk⟩
theorem WdO_add {a N base m n b : Nat} {c l f : Nat → Nat} (W : WdO h a N base m c l) (hm : m < N) (hw : iwM f b n = true) : WdO (stI (stJ h (a + 1) m (lN (pkV f b n))) a 1 (nI (m + 1))) a N base (m + 1) (cpW c f b (base + m) n) (va_up l (base + m) n) := by
  have hn := iwM_le hw
  have W' := WdO_other (f := f) (b := b) W hn.2 (u := base + m) (fun i hi => by omega)
  obtain ⟨w1, w2, w3, w4, w5, w6, w7, w8, w9⟩ := W'
  have hl : ∀ k, k < n → isLt (f (b + k)) = true := by
    unfold iwM at hw
    rw [Bool.and_eq_true] at hw
    exact iwF_all hw.2
  refine ⟨w1, w2, w3, w4, w5, w6, hm, by rw [gI_stI, if_pos ⟨rfl, rfl⟩], fun i hi => ?_⟩
  have eJ : gJ (stI (stJ h (a + 1) m (lN (pkV f b n))) a 1 (nI (m + 1))) (a + 1) i = if i = m then lN (pkV f b n) else gJ h (a + 1) i := by
    show gJ (stJ h (a + 1) m (lN (pkV f b n))) (a + 1) i = _
    rw [gJ_stJ]
    simp
  rw [eJ]
  by_cases z : i = m
  · rw [if_pos z, z, va_up_self]
    have ec : ∀ k, k < n → cpW c f b (base + m) n (8 * (base + m) + k) = f (b + k) := fun k hk => cpW_i hk
    refine ⟨by rw [pkV_e ec], hn, fun k hk => by rw [ec k hk]; exact hl k hk⟩
  · rw [if_neg z]
    exact w9 i (by omega)
theorem k_add {a N base m v : Nat} {c l : Nat → Nat} {K : HP → Prop} (W : WdO h a N base m c l) (hm : m < N) (H : K (stI (stJ h (a + 1) m (lN v)) a 1 (nI (m + 1)))) : wq_Words_add a (lN v) h K := by
  have w6 := W.2.2.2.2.2.1
  unfold wq_Words_add
  refine ⟨W.1, k_isFull W ⟨fun z => absurd (b2I_1 z) (by simp; omega), fun _ => ?_⟩⟩
  have w8 := W.2.2.2.2.2.2.2.1
  rw [W.2.1, w8, nI_cl (by omega)]
  refine ⟨W.1, by omega, W.1, wd_A W hm, fun h3 e3 => ⟨by rw [e3]; exact W.1, by rw [e3]; exact W.1, fun h4 e4 => ?_⟩⟩
  have e5 : gI h3 a 1 = nI m := by rw [e3]; exact w8
  rw [e4, e5, i1, add_I, e3]
  exact H
theorem pkI_0 {f : Nat → Nat} {a n : Nat} : (pkI f a n = 0) ↔ iwM f a n = false := by
  unfold pkI
  cases hw : iwM f a n with
  | false => simp
  | true =>
    have hn := iwM_le hw
    unfold iwM at hw
    rw [Bool.and_eq_true] at hw
    have := pkV_pos hn.1 (iwF_all hw.2)
    simp
    omega
theorem pkI_63 (f : Nat → Nat) (a n : Nat) : pkI f a n < 2 ^ 63 := by
  unfold pkI
  split
  · rename_i hw
    have hn := iwM_le hw
    unfold iwM at hw
    rw [Bool.and_eq_true] at hw
    exact pkV_63 hn.2 (iwF_all hw.2)
  · decide
theorem pk_lc0 {f : Nat → Nat} {a n : Nat} : (lg_cmp (lN (pkI f a n)) (lN 0) = nI 0) = (iwM f a n = false) := by
  rw [lN_inj (pkI_63 f a n) (by decide), propext pkI_0]
end KCH
