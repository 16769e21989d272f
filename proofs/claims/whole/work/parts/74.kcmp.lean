/-! the class: comparing pieces -/
/-- what a piece that was read is like -/
def GdP (f : Nat → Nat) (x : Nat × Nat × Nat) : Prop := (x.1 = 0 → ∀ k, k < x.2.2 → isLt (f (x.2.1 + k)) = true) ∧ (x.1 = 5 → x.2.2 = 1) ∧ DgP f x
/-- row a, its text t in A from o on with n bytes, and its pieces L -/
def RwT (h : HP) (a N t A : Nat) (f : Nat → Nat) (o n : Nat) (L : PcL) : Prop := RwS h a N ∧ RwO h a o L ∧ gR h a 3 = t ∧ 0 < t ∧ TxO h t A f o n ∧ L.length ≤ N ∧ ∀ x ∈ L, (o ≤ x.2.1 ∧ x.2.1 + x.2.2 ≤ o + n ∧ x.1 ≤ 5) ∧ GdP f x
theorem ltE_let {g : Nat → Nat} : ∀ (n p : Nat), ∀ q, p ≤ q → q < ltE g p n → isLt (g q) = true
  | 0, p, q, h1, h2 => by rw [ltE] at h2; omega
  | n + 1, p, q, h1, h2 => by
    rw [ltE] at h2
    split at h2
    · by_cases z : q = p
      · rw [z]; assumption
      · exact ltE_let n (p + 1) q (by omega) h2
    · omega
theorem atM_Lt {f : Nat → Nat} {e q : Nat} (h : isLt (atM f e q) = true) : isLt (f q) = true := by
  unfold atM at h
  split at h
  · exact h
  · exact absurd h (by decide)
theorem pc_Gd {f : Nat → Nat} {pt e p : Nat} : GdP f (kdM (atM f e) p, p, nxM (atM f e) pt e p - p) := by
  refine ⟨fun h0 k hk => ?_, fun h5 => ?_, pc_Dg⟩
  · have c0 : isLt (atM f e p) = true := by
      cases c : isLt (atM f e p) with
      | true => rfl
      | false =>
        have h0' : kdM (atM f e) p = 0 := h0
        unfold kdM at h0'
        have := mkM_cases (atM f e) p
        rw [c] at h0'
        simp only [Bool.false_eq_true, if_false] at h0'
        repeat' split at h0'
        all_goals omega
    have hk' : k < nxM (atM f e) pt e p - p := hk
    unfold nxM at hk'
    rw [if_pos c0] at hk'
    show isLt (f (p + k)) = true
    cases k with
    | zero => exact atM_Lt c0
    | succ k => exact atM_Lt (e := e) (ltE_let e (p + 1) (p + (k + 1)) (by omega) (by omega))
  · show nxM (atM f e) pt e p - p = 1
    have h5' : kdM (atM f e) p = 5 := h5
    have := mkM_cases (atM f e) p
    unfold kdM at h5'
    unfold nxM
    repeat' split at h5'
    all_goals first
      | omega
      | (simp only [*, if_true, if_false]; simp_all; done)
      | skip
theorem pcs_Gd {f : Nat → Nat} {pt e : Nat} {bl : Bool} : ∀ (k p : Nat), ∀ x ∈ pcs (atM f e) pt e bl k p, GdP f x
  | 0, p => by intro x hx; exact absurd hx (by simp [pcs])
  | k + 1, p => by
    intro x hx
    have ih := pcs_Gd (f := f) (pt := pt) (e := e) (bl := bl) k (nxM (atM f e) pt e p)
    unfold pcs at hx
    split at hx
    · split at hx
      · exact ih x hx
      · rcases List.mem_cons.mp hx with q | q
        · rw [q]; exact pc_Gd
        · exact ih x q
    · exact absurd hx (by simp)
theorem pcs_k5 {g : Nat → Nat} {pt e : Nat} : ∀ (k p : Nat), ∀ x ∈ pcs g pt e false k p, x.1 ≤ 5
  | 0, p => by intro x hx; exact absurd hx (by simp [pcs])
  | k + 1, p => by
    intro x hx
    have ih := pcs_k5 (g := g) (pt := pt) (e := e) k (nxM g pt e p)
    unfold pcs at hx
    split at hx
    · split at hx
      · exact ih x hx
      · rename_i c
        rcases List.mem_cons.mp hx with q | q
        · rw [q]
          have := kdM_le g p
          show kdM g p ≤ 5
          have c' : ¬ kdM g p = 6 := fun z => c ⟨z, rfl⟩
          omega
        · exact ih x q
    · exact absurd hx (by simp)
section KCM
variable {h : HP} {f : Nat → Nat} {a N t A o n a' N' t' A' o' n' i j : Nat} {L M : PcL} {K : Int32 → HP → Prop}
/-- place i of row a is the piece x -/
def KE (h : HP) (a N o n : Nat) (f : Nat → Nat) (i : Nat) (x : Nat × Nat × Nat) : Prop := i < N ∧ (gI h (a + 1) i = nI x.1 ∧ gI h (a + 2) i = nI (x.2.1 - o) ∧ gI h (a + 3) i = nI x.2.2) ∧ (o ≤ x.2.1 ∧ x.2.1 + x.2.2 ≤ o + n ∧ x.1 ≤ 5) ∧ GdP f x
theorem RwT_E (R : RwT h a N t A f o n L) (hi : i < L.length) : KE h a N o n f i L[i] := by
  obtain ⟨r1, r2, r3, r4, r5, r6, r7⟩ := R
  have := r7 _ (List.getElem_mem hi)
  exact ⟨by omega, r2.2 i _ (List.getElem?_eq_getElem hi), this.1, this.2⟩
theorem k_isMark {x : Nat × Nat × Nat} (S : RwS h a N) (E : KE h a N o n f i x) (H : K (b2I (isMk x)) h) : wq_Row_isMark a (nI i) h K := by
  have hN := S.2.2.2.2.2
  obtain ⟨e1, ⟨e2, e3, e4⟩, e5, e6⟩ := E
  unfold wq_Row_isMark
  simp (disch := omega) only [i0, i1, nLit, mul_I, add_I, nI_cl, isO_stI, isA_stI, isL_stI, gR_stI, gJ_stI, gK_stI, gL_stI, gS_stI, true_and, and_true, forall_eq, implies_true, ps_339, rS_o S, rS_0 S, rS_l0 S, e2, eq_I]
  refine ⟨fun c => b2_1 (by simp [isMk]; omega) H, fun c => ⟨fun c => b2_1 (by simp [isMk]; omega) H, fun c => ⟨fun c => b2_0 (by simp [isMk]; omega) H, fun c => b2_1 (by simp [isMk]; omega) H⟩⟩⟩
theorem k_digitPlace {x : Nat × Nat × Nat} (S : RwS h a N) (E : KE h a N o n f i x) (H : K (nI (dgA x - o)) h) : wq_Row_digitPlace a (nI i) h K := by
  have hN := S.2.2.2.2.2
  obtain ⟨e1, ⟨e2, e3, e4⟩, e5, e6⟩ := E
  unfold dgA at H
  unfold wq_Row_digitPlace
  simp (disch := omega) only [i0, i1, nLit, mul_I, add_I, nI_cl, isO_stI, isA_stI, isL_stI, gR_stI, gJ_stI, gK_stI, gL_stI, gS_stI, true_and, and_true, forall_eq, implies_true, ps_339, rS_o S, rS_0 S, rS_l0 S, rS_1 S, rS_l1 S, e2, e3, eq_I]
  refine ⟨fun c => ?_, fun c => ?_⟩
  · rwa [if_neg c, show x.2.1 + 1 - o = x.2.1 - o + 1 by omega] at H
  · rwa [if_pos c, show x.2.1 + 2 - o = x.2.1 - o + 2 by omega] at H
theorem k_digit {x : Nat × Nat × Nat} (R : RwT h a N t A f o n L) (E : KE h a N o n f i x) (hm : isMk x = true) (H : K (nI (f (dgA x) - 48)) h) : wq_Row_digit a (nI i) h K := by
  obtain ⟨r1, r2, r3, r4, r5, r6, r7⟩ := R
  have hN := r1.2.2.2.2.2
  have hd := E.2.2.2.2.2 hm
  have hr := isD_r hd.1
  have hx := E.2.2.1
  have hle : x.2.1 ≤ dgA x := by unfold dgA; omega
  unfold wq_Row_digit
  rw [r3]
  refine ⟨r1.1, r4, r1.1, k_digitPlace r1 E ⟨r5.1, k_atN r5 (by omega) ?_⟩⟩
  rw [show o + (dgA x - o) = dgA x by omega]
  simp only [nLit]
  rw [sub_I (by omega)]
  exact H
theorem k_hasBytes_lp {x y : Nat × Nat × Nat} (S : RwS h a N) (T : TxO h t A f o n) (S' : RwS h a' N') (T' : TxO h t' A' f o' n') (E : KE h a N o n f i x) (E' : KE h a' N' o' n' f j y) (hl : x.2.2 = y.2.2) : ∀ (r k : Nat), k + r = x.2.2 → K (b2I (saF f x.2.1 y.2.1 r k)) h → Wp k_Row_hasBytesOf 38 [some (.ref a), some (.int (nI i)), some (.ref a'), some (.int (nI j)), some (.ref A), some (.ref A'), some (.int (nI k))] [] h (0, 0) (QI K)
  | 0, k, h1, H => wb_Row_hasBytesOf_38_ok (by
      have hN := S.2.2.2.2.2
      have hn := tx_n T
      obtain ⟨e1, ⟨e2, e3, e4⟩, e5, e6⟩ := id E
      unfold wb_Row_hasBytesOf_38
      simp (disch := omega) only [i0, i1, nLit, mul_I, add_I, nI_cl, isO_stI, isA_stI, isL_stI, gR_stI, gJ_stI, gK_stI, gL_stI, gS_stI, true_and, and_true, forall_eq, implies_true, ps_339, rS_o S, rS_2 S, rS_l2 S, e4, le_I]
      exact ⟨fun _ => H, fun z => absurd (by omega) z⟩)
  | r + 1, k, h1, H => wb_Row_hasBytesOf_38_ok (by
      have hN := S.2.2.2.2.2
      have hN' := S'.2.2.2.2.2
      have hn := tx_n T
      have hn' := tx_n T'
      obtain ⟨e1, ⟨e2, e3, e4⟩, e5, e6⟩ := id E
      obtain ⟨d1, ⟨d2, d3, d4⟩, d5, d6⟩ := id E'
      have b1 := T.2.2.2.2.2.1 (x.2.1 - o + k) (by omega)
      have b2 := T'.2.2.2.2.2.1 (y.2.1 - o' + k) (by omega)
      rw [show o + (x.2.1 - o + k) = x.2.1 + k by omega] at b1
      rw [show o' + (y.2.1 - o' + k) = y.2.1 + k by omega] at b2
      unfold wb_Row_hasBytesOf_38
      simp (disch := omega) only [i0, i1, nLit, mul_I, add_I, nI_cl, isO_stI, isA_stI, isL_stI, gR_stI, gJ_stI, gK_stI, gL_stI, gS_stI, true_and, and_true, forall_eq, implies_true, ps_339, rS_o S, rS_2 S, rS_l2 S, rS_1 S, rS_l1 S, rS_o S', rS_1 S', rS_l1 S', tx_A T, tx_A T', e4, e3, d3, b1, b2, le_I]
      rw [sgB_inj (T.2.2.2.2.2.2 _) (T.2.2.2.2.2.2 _)]
      refine ⟨fun z => absurd z (by omega), fun _ => ⟨fun c => k_hasBytes_lp S T S' T' E E' hl r (k + 1) (by omega) ?_, fun c => ?_⟩⟩
      · simpa [saF, c] using H
      · refine b2_0 ?_ H
        simp [saF, c])
theorem k_hasBytes {x y : Nat × Nat × Nat} (R : RwT h a N t A f o n L) (R' : RwT h a' N' t' A' f o' n' M) (E : KE h a N o n f i x) (E' : KE h a' N' o' n' f j y) (H : K (b2I (smP f x y)) h) : wq_Row_hasBytesOf a (nI i) a' (nI j) h K := by
  obtain ⟨r1, r2, r3, r4, r5, r6, r7⟩ := R
  obtain ⟨s1, s2, s3, s4, s5, s6, s7⟩ := R'
  have hN := r1.2.2.2.2.2
  have hN' := s1.2.2.2.2.2
  have hn := tx_n r5
  have hn' := tx_n s5
  obtain ⟨e1, ⟨e2, e3, e4⟩, e5, e6⟩ := id E
  obtain ⟨d1, ⟨d2, d3, d4⟩, d5, d6⟩ := id E'
  unfold smP at H
  unfold wq_Row_hasBytesOf
  simp (disch := omega) only [i0, i1, nLit, mul_I, add_I, nI_cl, isO_stI, isA_stI, isL_stI, gR_stI, gJ_stI, gK_stI, gL_stI, gS_stI, true_and, and_true, forall_eq, implies_true, ps_339, rS_o r1, rS_2 r1, rS_l2 r1, rS_o s1, rS_2 s1, rS_l2 s1, e4, d4, eq_I, r3, s3, tx_o r5, tx_o s5, r5.2.1, s5.2.1]
  refine ⟨fun c => ⟨r4, r5.2.2.1.1, s4, s5.2.2.1.1, k_hasBytes_lp r1 r5 s1 s5 E E' c _ 0 (Nat.zero_add _) ?_⟩, fun c => ?_⟩
  · simpa [c] using H
  · exact b2_0 (by simp [c]) H
theorem k_hasLetters_lp {x y : Nat × Nat × Nat} (S : RwS h a N) (T : TxO h t A f o n) (S' : RwS h a' N') (T' : TxO h t' A' f o' n') (E : KE h a N o n f i x) (E' : KE h a' N' o' n' f j y) (hl : x.2.2 = y.2.2) (hx : x.1 = 0) (hy : y.1 = 0) : ∀ (r k : Nat), k + r = x.2.2 → K (b2I (alF f x.2.1 y.2.1 r k)) h → Wp k_Row_hasLettersOf 38 [some (.ref a), some (.int (nI i)), some (.ref a'), some (.int (nI j)), some (.ref A), some (.ref A'), some (.int (nI k))] [] h (0, 0) (QI K)
  | 0, k, h1, H => wb_Row_hasLettersOf_38_ok (by
      have hN := S.2.2.2.2.2
      have hn := tx_n T
      obtain ⟨e1, ⟨e2, e3, e4⟩, e5, e6⟩ := id E
      unfold wb_Row_hasLettersOf_38
      simp (disch := omega) only [i0, i1, nLit, mul_I, add_I, nI_cl, isO_stI, isA_stI, isL_stI, gR_stI, gJ_stI, gK_stI, gL_stI, gS_stI, true_and, and_true, forall_eq, implies_true, ps_339, rS_o S, rS_2 S, rS_l2 S, e4, le_I]
      exact ⟨fun _ => H, fun z => absurd (by omega) z⟩)
  | r + 1, k, h1, H => wb_Row_hasLettersOf_38_ok (by
      have hN := S.2.2.2.2.2
      have hN' := S'.2.2.2.2.2
      have hn := tx_n T
      have hn' := tx_n T'
      obtain ⟨e1, ⟨e2, e3, e4⟩, e5, e6⟩ := id E
      obtain ⟨d1, ⟨d2, d3, d4⟩, d5, d6⟩ := id E'
      have b1 := T.2.2.2.2.2.1 (x.2.1 - o + k) (by omega)
      have b2 := T'.2.2.2.2.2.1 (y.2.1 - o' + k) (by omega)
      rw [show o + (x.2.1 - o + k) = x.2.1 + k by omega] at b1
      rw [show o' + (y.2.1 - o' + k) = y.2.1 + k by omega] at b2
      have w1 := sgB_or _ (T.2.2.2.2.2.2 _) (e6.1 hx k (by omega))
      have w2 := sgB_or _ (T.2.2.2.2.2.2 _) (d6.1 hy k (by omega))
      have l1 := smN_lt (T.2.2.2.2.2.2 (x.2.1 + k))
      have l2 := smN_lt (T.2.2.2.2.2.2 (y.2.1 + k))
      unfold wb_Row_hasLettersOf_38
      simp (disch := omega) only [i0, i1, nLit, mul_I, add_I, nI_cl, isO_stI, isA_stI, isL_stI, gR_stI, gJ_stI, gK_stI, gL_stI, gS_stI, true_and, and_true, forall_eq, implies_true, ps_339, rS_o S, rS_2 S, rS_l2 S, rS_1 S, rS_l1 S, rS_o S', rS_1 S', rS_l1 S', tx_A T, tx_A T', e4, e3, d3, b1, b2, w1, w2, le_I, eq_I]
      refine ⟨fun z => absurd z (by omega), fun _ => ⟨fun c => k_hasLetters_lp S T S' T' E E' hl hx hy r (k + 1) (by omega) ?_, fun c => ?_⟩⟩
      · simpa [alF, c] using H
      · refine b2_0 ?_ H
        simp [alF, c])
theorem k_hasLetters {x y : Nat × Nat × Nat} (R : RwT h a N t A f o n L) (R' : RwT h a' N' t' A' f o' n' M) (E : KE h a N o n f i x) (E' : KE h a' N' o' n' f j y) (hx : x.1 = 0) (hy : y.1 = 0) (H : K (b2I (alP f x y)) h) : wq_Row_hasLettersOf a (nI i) a' (nI j) h K := by
  obtain ⟨r1, r2, r3, r4, r5, r6, r7⟩ := R
  obtain ⟨s1, s2, s3, s4, s5, s6, s7⟩ := R'
  have hN := r1.2.2.2.2.2
  have hN' := s1.2.2.2.2.2
  have hn := tx_n r5
  have hn' := tx_n s5
  obtain ⟨e1, ⟨e2, e3, e4⟩, e5, e6⟩ := id E
  obtain ⟨d1, ⟨d2, d3, d4⟩, d5, d6⟩ := id E'
  unfold alP at H
  unfold wq_Row_hasLettersOf
  simp (disch := omega) only [i0, i1, nLit, mul_I, add_I, nI_cl, isO_stI, isA_stI, isL_stI, gR_stI, gJ_stI, gK_stI, gL_stI, gS_stI, true_and, and_true, forall_eq, implies_true, ps_339, rS_o r1, rS_2 r1, rS_l2 r1, rS_o s1, rS_2 s1, rS_l2 s1, e4, d4, eq_I, r3, s3, tx_o r5, tx_o s5, r5.2.1, s5.2.1]
  refine ⟨fun c => ⟨r4, r5.2.2.1.1, s4, s5.2.2.1.1, k_hasLetters_lp r1 r5 s1 s5 E E' c hx hy _ 0 (Nat.zero_add _) ?_⟩, fun c => ?_⟩
  · simpa [c] using H
  · exact b2_0 (by simp [c]) H
theorem k_aloneCost {x : Nat × Nat × Nat} (S : RwS h a N) (E : KE h a N o n f i x) (H : K (nI (lcM x)) h) : wq_Row_aloneCost a (nI i) h K := by
  unfold wq_Row_aloneCost
  refine ⟨S.1, k_isMark S E ⟨fun c => ?_, fun c => ?_⟩⟩
  · have c := b2I_0 c
    unfold isMk at c
    rwa [lcM, if_neg (by rintro ⟨p, q⟩; simp [p, q] at c)] at H
  · have c := b2I_1 c
    unfold isMk at c
    rw [Bool.and_eq_true] at c
    rwa [lcM, if_pos ⟨of_decide_eq_true c.1, of_decide_eq_true c.2⟩] at H
theorem k_changeCost {x y : Nat × Nat × Nat} (R : RwT h a N t A f o n L) (R' : RwT h a' N' t' A' f o' n' M) (E : KE h a N o n f i x) (E' : KE h a' N' o' n' f j y) (H : K (nI (kcM f x y)) h) : wq_Row_changeCost a (nI i) a' (nI j) h K := by
  have r1 := R.1
  have s1 := R'.1
  have hN := r1.2.2.2.2.2
  have hN' := s1.2.2.2.2.2
  obtain ⟨e1, ⟨e2, e3, e4⟩, e5, e6⟩ := id E
  obtain ⟨d1, ⟨d2, d3, d4⟩, d5, d6⟩ := id E'
  unfold kcM kc2 at H
  unfold wq_Row_changeCost
  simp (disch := omega) only [i0, i1, nLit, mul_I, add_I, nI_cl, isO_stI, isA_stI, isL_stI, gR_stI, gJ_stI, gK_stI, gL_stI, gS_stI, true_and, and_true, forall_eq, implies_true, ps_339, rS_o r1, rS_0 r1, rS_l0 r1, rS_o s1, rS_0 s1, rS_l0 s1, e2, d2, eq_I]
  refine ⟨fun c => k_hasBytes R R' E E' ?_, fun c => ?_⟩
  · simp (disch := omega) only [i0, i1, nLit, mul_I, add_I, nI_cl, isO_stI, isA_stI, isL_stI, gR_stI, gJ_stI, gK_stI, gL_stI, gS_stI, true_and, and_true, forall_eq, implies_true, ps_339, rS_o r1, rS_0 r1, rS_l0 r1, e2, eq_I, b2I_eq0, Bool.not_eq_false]
    refine ⟨fun c1 => ⟨fun c2 => k_hasLetters R R' E E' c2 (by omega) ⟨fun c3 => ?_, fun c3 => ?_⟩, fun c2 => ?_, fun c2 c3 => ?_⟩, fun c1 => ?_⟩
    · have c4 := b2I_0 c3
      simpa [c1, c2, c4, ← c] using H
    · have c4 := b2I_1 c3
      simpa [c1, c2, c4, ← c] using H
    · simpa [c1, c2, ← c] using H
    · simpa [c1, c2, c3, ← c] using H
    · simpa [c, c1] using H
  · simpa [c] using H
theorem smP_5 {x y : Nat × Nat × Nat} (hx : x.2.2 = 1) (hy : y.2.2 = 1) : smP f x y = decide (f x.2.1 = f y.2.1) := by
  unfold smP
  rw [hx, hy]
  simp [saF]
theorem k_isPieceLike {x y : Nat × Nat × Nat} (R : RwT h a N t A f o n L) (R' : RwT h a' N' t' A' f o' n' M) (E : KE h a N o n f i x) (E' : KE h a' N' o' n' f i y) (H : K (b2I (lkP1 f x y)) h) : wq_Row_isPieceLike a (nI i) a' h K := by
  have r1 := R.1
  have s1 := R'.1
  have hN := r1.2.2.2.2.2
  have hN' := s1.2.2.2.2.2
  obtain ⟨e1, ⟨e2, e3, e4⟩, e5, e6⟩ := id E
  obtain ⟨d1, ⟨d2, d3, d4⟩, d5, d6⟩ := id E'
  unfold lkP1 wdP sgP at H
  unfold wq_Row_isPieceLike
  simp (disch := omega) only [i0, i1, nLit, mul_I, add_I, nI_cl, isO_stI, isA_stI, isL_stI, gR_stI, gJ_stI, gK_stI, gL_stI, gS_stI, true_and, and_true, forall_eq, implies_true, ps_339, rS_o r1, rS_0 r1, rS_l0 r1, rS_o s1, rS_0 s1, rS_l0 s1, e2, d2, eq_I]
  refine ⟨fun c => ⟨fun c2 => k_hasLetters R R' E E' c2 (by omega) ⟨b2I_01 _, ?_⟩, fun c2 => k_hasBytes R R' E E' ⟨b2I_01 _, ?_⟩, fun c2 c3 => ?_⟩, fun c => ?_⟩
  · simpa [c2, ← c] using H
  · rw [smP_5 (e6.2.1 c2) (d6.2.1 (by omega))]
    simpa [c2, ← c] using H
  · exact b2_1 (by simp [c2, c3, ← c]) H
  · exact b2_0 (by simp [c]) H
theorem k_isLike_lp (R : RwT h a N t A f o n L) (R' : RwT h a' N' t' A' f o' n' M) (hl : L.length = M.length) : ∀ (r k : Nat), k + r = L.length → K (b2I (liF f (L.drop k) (M.drop k))) h → Wp k_Row_isLike 15 [some (.ref a), some (.ref a'), some (.int (nI k))] [] h (0, 0) (QI K)
  | 0, k, h1, H => wb_Row_isLike_15_ok (by
      have r1 := R.1
      have hN := r1.2.2.2.2.2
      have hl6 := R.2.2.2.2.2.1
      rw [List.drop_of_length_le (by omega)] at H
      unfold wb_Row_isLike_15
      simp (disch := omega) only [i0, i1, nLit, mul_I, add_I, nI_cl, isO_stI, isA_stI, isL_stI, gR_stI, gJ_stI, gK_stI, gL_stI, gS_stI, true_and, and_true, forall_eq, implies_true, ps_339, rS_o r1, R.2.1.1, le_I]
      exact ⟨fun _ => H, fun z => absurd (by omega) z⟩)
  | r + 1, k, h1, H => wb_Row_isLike_15_ok (by
      have r1 := R.1
      have hN := r1.2.2.2.2.2
      have hl6 := R.2.2.2.2.2.1
      have hk : k < L.length := by omega
      have hk' : k < M.length := by omega
      rw [List.drop_eq_getElem_cons hk, List.drop_eq_getElem_cons hk', liF] at H
      unfold wb_Row_isLike_15
      simp (disch := omega) only [i0, i1, nLit, mul_I, add_I, nI_cl, isO_stI, isA_stI, isL_stI, gR_stI, gJ_stI, gK_stI, gL_stI, gS_stI, true_and, and_true, forall_eq, implies_true, ps_339, rS_o r1, R.2.1.1, le_I]
      refine ⟨fun z => absurd z (by omega), fun _ => k_isPieceLike R R' (RwT_E R hk) (RwT_E R' hk') ⟨fun c => k_isLike_lp R R' hl r (k + 1) (by omega) ?_, fun c => ?_⟩⟩
      · have c2 := b2I_1 c
        rwa [c2, Bool.true_and] at H
      · have c2 := b2I_0 c
        exact b2_0 (by rw [c2, Bool.false_and]) H)
theorem k_isLike (R : RwT h a N t A f o n L) (R' : RwT h a' N' t' A' f o' n' M) (H : K (b2I (lkL f L M)) h) : wq_Row_isLike a a' h K := by
  have r1 := R.1
  have s1 := R'.1
  have hN := r1.2.2.2.2.2
  have hN' := s1.2.2.2.2.2
  have hl6 := R.2.2.2.2.2.1
  have hl7 := R'.2.2.2.2.2.1
  unfold lkL at H
  unfold wq_Row_isLike
  simp (disch := omega) only [i0, i1, nLit, mul_I, add_I, nI_cl, isO_stI, isA_stI, isL_stI, gR_stI, gJ_stI, gK_stI, gL_stI, gS_stI, true_and, and_true, forall_eq, implies_true, ps_339, rS_o r1, rS_o s1, R.2.1.1, R'.2.1.1, eq_I]
  refine ⟨fun c => k_isLike_lp R R' c L.length 0 (by omega) ?_, fun c => b2_0 (by simp [c]) H⟩
  simpa [c] using H
end KCM
