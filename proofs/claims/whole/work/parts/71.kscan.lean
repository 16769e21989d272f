/-! the class: kinds and ends of pieces -/
section KSC
variable {h : HP} {t A o n e i pt : Nat} {f : Nat → Nat} {K : Int32 → HP → Prop}
theorem k_numberEnd (T : TxO h t A f o n) (he : e ≤ n) (hi : i < e) (hp : 0 < pt ∧ pt < 256) (H : ∀ j, o + j = nmE (atM f (o + e)) pt (o + i) → K (nI j) h) : wq_Scan_numberEnd t (nI i) (nI e) (nI pt) h K := by
  have hn := tx_n T
  have hf := T.2.2.2.2.2.2
  unfold wq_Scan_numberEnd
  simp only [i0, i1, nLit, mul_I, add_I, nI_cl]
  refine k_digitsEnd T he (by omega) (fun j hj => k_byteAt T he (by have := dgE_le (atM f (o + e)) 9 (o + i); omega) ?_)
  have hd := dgE_le (atM f (o + e)) 9 (o + i)
  rw [bv_eq hf hp.2 hp.1]
  simp only [add_I]
  refine ⟨fun c => k_digitsEnd T he (by omega) (fun j2 hj2 => ?_), fun c => H j ?_⟩
  · rw [← Nat.add_assoc] at hj2
    have hd2 := dgE_le (atM f (o + e)) 4 (o + j + 1)
    simp (disch := omega) only [le_I]
    refine ⟨fun c2 => H j ?_, fun c2 => H j2 ?_⟩
    · unfold nmE
      rw [← hj, if_neg]
      rintro ⟨_, z⟩
      have : o + j + 1 + 1 ≤ dgE (atM f (o + e)) (o + j + 1) 4 := dgE_pos (n := 3) z
      omega
    · have zz : isD (atM f (o + e) (o + j + 1)) = true := by
        cases z : isD (atM f (o + e) (o + j + 1)) with
        | true => rfl
        | false =>
          have : dgE (atM f (o + e)) (o + j + 1) 4 = o + j + 1 := by rw [dgE, z]; rfl
          omega
      unfold nmE
      rw [← hj, if_pos ⟨c, zz⟩]
      exact hj2
  · unfold nmE
    rw [← hj, if_neg (fun z => c z.1)]
theorem isD_47 : isD 47 = false := rfl
theorem k_kindBehind (T : TxO h t A f o n) (he : e ≤ n) (hi : i < e) (hg : atM f (o + e) (o + i) = 60) (H : K (nI (kdM (atM f (o + e)) (o + i))) h) : wq_Scan_kindBehindBracket t (nI i) (nI e) h K := by
  have hn := tx_n T
  have hf := T.2.2.2.2.2.2
  have ek : kdM (atM f (o + e)) (o + i) = if mkM (atM f (o + e)) (o + i) = 9 then 5 else mkM (atM f (o + e)) (o + i) := by
    unfold kdM
    rw [hg]
    rfl
  rw [ek] at H
  unfold mkM at H
  rw [hg] at H
  simp only [if_true] at H
  have a1 : o + (i + 1) = o + i + 1 := rfl
  have a2 : o + (i + 2) = o + i + 2 := rfl
  have a3 : o + (i + 3) = o + i + 3 := rfl
  unfold wq_Scan_kindBehindBracket
  simp only [i0, i1, nLit, mul_I, add_I, nI_cl]
  refine k_byteAt T he (by omega) (k_byteAt T he (by omega) (k_isDigitB hf ?_))
  rw [a1, a2]
  unfold wb_Scan_kindBehindBracket_35 wb_Scan_kindBehindBracket_66
  simp only [i0, i1, nLit, mul_I, add_I, nI_cl]
  have b35 : (isD (atM f (o + e) (o + i + 1)) = true ∧ atM f (o + e) (o + i + 2) = 62 → False) → wq_Scan_byteAt t (nI (i + 3)) (nI e) h (fun v10 h9 => (v10 = nI 62 → (¬ bvI f (o + e) (o + i + 1) = nI 47 → wq_Scan_isDigit (bvI f (o + e) (o + i + 1)) h9 (fun v17 h16 => (v17 = nI 0 → K (nI 5) h16) ∧ (¬ v17 = nI 0 → (¬ bvI f (o + e) (o + i + 2) = nI 47 → K (nI 5) h16) ∧ (bvI f (o + e) (o + i + 2) = nI 47 → K (nI 4) h16)))) ∧ (bvI f (o + e) (o + i + 1) = nI 47 → wq_Scan_isDigit (bvI f (o + e) (o + i + 2)) h9 (fun v12 h11 => (v12 = nI 0 → wq_Scan_isDigit (bvI f (o + e) (o + i + 1)) h11 (fun v17 h16 => (v17 = nI 0 → K (nI 5) h16) ∧ (¬ v17 = nI 0 → (¬ bvI f (o + e) (o + i + 2) = nI 47 → K (nI 5) h16) ∧ (bvI f (o + e) (o + i + 2) = nI 47 → K (nI 4) h16)))) ∧ (¬ v12 = nI 0 → K (nI 3) h11)))) ∧ (¬ v10 = nI 62 → K (nI 5) h9)) := by
    intro hno
    refine k_byteAt T he (by omega) ?_
    rw [a3]
    simp (disch := first | exact hf | decide) only [bv_eq hf]
    refine ⟨fun c3 => ⟨fun c1 => k_isDigitB hf ?_, fun c1 => k_isDigitB hf ?_⟩, fun c3 => ?_⟩
    · simp only [b2I_eq0, Bool.not_eq_false]
      refine ⟨fun d1 => ?_, fun d1 => ⟨fun c2 => ?_, fun c2 => ?_⟩⟩
      · simpa [c1, d1] using H
      · have : ¬ atM f (o + e) (o + i + 2) = 62 := fun z => hno ⟨d1, z⟩
        simpa [c1, d1, c2, this] using H
      · have : ¬ atM f (o + e) (o + i + 2) = 62 := fun z => hno ⟨d1, z⟩
        simpa [c1, d1, c2, c3] using H
    · simp only [b2I_eq0, Bool.not_eq_false]
      refine ⟨fun d2 => k_isDigitB hf ?_, fun d2 => ?_⟩
      · have d1 : isD (atM f (o + e) (o + i + 1)) = false := by rw [c1]; rfl
        rw [d1]
        refine ⟨fun _ => ?_, fun z => absurd (by first | trivial | rfl) z⟩
        simpa [c1, d2] using H
      · simpa [c1, d2, c3] using H
    · have e3 : ¬ atM f (o + e) (o + i + 3) = 62 := c3
      by_cases c1 : atM f (o + e) (o + i + 1) = 47
      · simpa [c1, e3] using H
      · by_cases d1 : isD (atM f (o + e) (o + i + 1)) = true
        · have : ¬ atM f (o + e) (o + i + 2) = 62 := fun z => hno ⟨d1, z⟩
          simpa [c1, d1, this, e3] using H
        · simpa [c1, d1] using H
  simp only [b2I_eq0, Bool.not_eq_false]
  refine ⟨fun d1 => b35 (fun z => by rw [d1] at z; exact absurd z.1 (by decide)), fun d1 => ?_⟩
  have e62 : (bvI f (o + e) (o + i + 2) = nI 62) = (atM f (o + e) (o + i + 2) = 62) := bv_eq hf (by decide) (by decide)
  rw [e62]
  refine ⟨fun c2 => b35 (fun z => c2 z.2), fun c2 => ?_⟩
  have c1 : ¬ atM f (o + e) (o + i + 1) = 47 := fun z => by rw [z] at d1; exact absurd d1 (by decide)
  simpa [c1, d1, c2] using H
theorem k_kindAt (T : TxO h t A f o n) (he : e ≤ n) (hi : i < e) (H : K (nI (kdM (atM f (o + e)) (o + i))) h) : wq_Scan_kindAt t (nI i) (nI e) h K := by
  have hn := tx_n T
  have hf := T.2.2.2.2.2.2
  unfold wq_Scan_kindAt
  refine k_byteAt T he (by omega) (k_isLetterB hf ?_)
  simp only [i0, i1, nLit, mul_I, add_I, nI_cl, b2I_eq0, Bool.not_eq_false]
  refine ⟨fun c0 => k_isDigitB hf ?_, fun c0 => ?_⟩
  · simp only [b2I_eq0, Bool.not_eq_false]
    have e32 : (bvI f (o + e) (o + i) = nI 32) = (atM f (o + e) (o + i) = 32) := bv_eq hf (by decide) (by decide)
    have e60 : (bvI f (o + e) (o + i) = nI 60) = (atM f (o + e) (o + i) = 60) := bv_eq hf (by decide) (by decide)
    rw [e32, e60]
    refine ⟨fun c1 => ⟨fun c2 => ⟨fun c3 => ?_, fun c3 => k_kindBehind T he hi c3 H⟩, fun c2 => ?_⟩, fun c1 => ?_⟩
    · have em : mkM (atM f (o + e)) (o + i) = 9 := by unfold mkM; rw [if_neg c3]
      simpa [kdM, c0, c1, c2, em] using H
    · simpa [kdM, c0, c1, c2, isLt, isD] using H
    · simpa [kdM, c0, c1] using H
  · simpa [kdM, c0] using H
/-- the end of the piece that begins at i -/
theorem k_endOf (T : TxO h t A f o n) (he : e ≤ n) (hi : i < e) (hp : 0 < pt ∧ pt < 256) (H : ∀ j, o + j = nxM (atM f (o + e)) pt (o + e) (o + i) → K (nI j) h) : wq_Scan_endOf t (nI i) (nI e) (nI (kdM (atM f (o + e)) (o + i))) (nI pt) h K := by
  have hn := tx_n T
  have hz := atM_z f (o + e)
  have h6 := kdM_le (atM f (o + e)) (o + i)
  have hmc := mkM_cases (atM f (o + e)) (o + i)
  unfold wq_Scan_endOf
  simp (disch := omega) only [i0, i1, nLit, mul_I, add_I, nI_cl, eq_I]
  have kd : kdM (atM f (o + e)) (o + i) = if isLt (atM f (o + e) (o + i)) then 0 else if isD (atM f (o + e) (o + i)) then 1 else if atM f (o + e) (o + i) = 32 then 6 else if mkM (atM f (o + e)) (o + i) = 9 then 5 else mkM (atM f (o + e)) (o + i) := rfl
  have nx : nxM (atM f (o + e)) pt (o + e) (o + i) = if isLt (atM f (o + e) (o + i)) then ltE (atM f (o + e)) (o + i + 1) (o + e) else if isD (atM f (o + e) (o + i)) then nmE (atM f (o + e)) pt (o + i) else if atM f (o + e) (o + i) = 32 then blE (atM f (o + e)) (o + i + 1) (o + e) else if mkM (atM f (o + e)) (o + i) = 9 then o + i + 1 else if mkM (atM f (o + e)) (o + i) = 2 then o + i + 3 else o + i + 4 := rfl
  rw [nx] at H
  by_cases c0 : isLt (atM f (o + e) (o + i)) = true
  · rw [if_pos c0] at kd H
    refine ⟨fun z => absurd kd z, fun _ => ?_, fun z => absurd z (by omega), fun z => absurd z (by omega), fun z => absurd z (by omega), fun z => absurd z (by omega), fun z => absurd z (by omega), fun z => absurd z (by omega)⟩
    refine k_lettersEnd_lp (l1 := 0) T he (e - i) i (by omega) (fun j hj => H j ?_)
    rw [hj, show e - i = (e - i - 1) + 1 by omega, ltE, if_pos c0]
    exact ltE_fu hz _ _ _ (by omega) (by omega)
  · rw [if_neg c0] at kd H
    by_cases c1 : isD (atM f (o + e) (o + i)) = true
    · rw [if_pos c1] at kd H
      refine ⟨fun z y => absurd kd y, fun z => absurd z (by omega), fun _ => k_numberEnd T he hi hp H, fun z => absurd z (by omega), fun z => absurd z (by omega), fun z => absurd z (by omega), fun z => absurd z (by omega), fun z => absurd z (by omega)⟩
    · rw [if_neg c1] at kd H
      by_cases c2 : atM f (o + e) (o + i) = 32
      · rw [if_pos c2] at kd H
        refine ⟨fun _ _ _ _ _ _ z => absurd kd z, fun z => absurd z (by omega), fun z => absurd z (by omega), fun z => absurd z (by omega), fun z => absurd z (by omega), fun z => absurd z (by omega), fun z => absurd z (by omega), fun _ => ?_⟩
        refine k_blanksEnd_lp T he (e - i) i (by omega) (fun j hj => H j ?_)
        rw [hj, show e - i = (e - i - 1) + 1 by omega, blE, if_pos c2]
        exact blE_fu hz _ _ _ (by omega) (by omega)
      · rw [if_neg c2] at kd H
        by_cases c3 : mkM (atM f (o + e)) (o + i) = 9
        · rw [if_pos c3] at kd H
          have H1 := H (i + 1) (by omega)
          refine ⟨fun _ _ _ _ _ _ _ => H1, fun z => absurd z (by omega), fun z => absurd z (by omega), fun z => absurd z (by omega), fun z => absurd z (by omega), fun z => absurd z (by omega), fun _ => H1, fun z => absurd z (by omega)⟩
        · rw [if_neg c3] at kd H
          refine ⟨fun _ _ a b c _ _ => by omega, fun z => absurd z (by omega), fun z => absurd z (by omega), fun z => ?_, fun z => ?_, fun z => ?_, fun z => absurd z (by omega), fun z => absurd z (by omega)⟩
          · rw [if_pos (by omega)] at H
            exact H (i + 3) (by omega)
          · rw [if_neg (by omega)] at H
            exact H (i + 4) (by omega)
          · rw [if_neg (by omega)] at H
            exact H (i + 4) (by omega)
end KSC
