def saF (f : Nat → Nat) (a b : Nat) : Nat → Nat → Bool
  | 0, _ => true
  | r + 1, k => decide (f (a + k) = f (b + k)) && saF f a b r (k + 1)
theorem m_same_lp {h : HP} {f : Nat → Nat} {i j a b n : Nat} {K : Int32 → HP → Prop} (B : MBy h f) (hi : i < 1800) (hj : j < 1800) (e1 : gI h 342 i = nI a) (e2 : gI h 343 i = nI n) (e3 : gI h 342 j = nI b) (ha : a + n ≤ 37200) (hb : b + n ≤ 37200) : ∀ (r k : Nat) (is : Bool), k + r = n → K (b2I (is && saF f a b r k)) h → Wp k_M_same 24 [some (.ref 338), some (.int (nI i)), some (.int (nI j)), some (.int (b2I is)), some (.int (nI k))] [] h (0, 0) (QI K)
  | 0, k, is, h1, H => wb_M_same_24_ok (by
      have hM := B.1
      unfold wb_M_same_24
      rw [mR_many hM, nI_cl (n := i) (by omega), e2]
      refine ⟨MSh_o hM, by decide, mL_many hM hi, fun _ => ⟨b2I_01 is, by simpa [saF] using H⟩, fun c => absurd ((le_I (by omega) (by omega)).mpr (by omega)) c⟩)
  | r + 1, k, is, h1, H => wb_M_same_24_ok (by
      have hM := B.1
      have f1 := B.2.2 (a + k)
      have f2 := B.2.2 (b + k)
      unfold wb_M_same_24
      simp only [i0, i1]
      rw [mR_many hM, mR_from hM, mR_bytes hM, nI_cl (n := i) (by omega), nI_cl (n := j) (by omega), e2, e1, e3]
      simp only [add_I]
      rw [nI_cl (n := a + k) (by omega), nI_cl (n := b + k) (by omega), B.2.1 (a + k) (by omega), B.2.1 (b + k) (by omega)]
      refine ⟨MSh_o hM, by decide, mL_many hM hi, fun c => absurd ((le_I (by omega) (by omega)).mp c) (by omega), fun _ => ⟨fun c => ⟨b2I_01 is, ?_⟩, fun c => ⟨MSh_o hM, by decide, MSh_o hM, by decide, mL_from hM hi, mL_bytes hM (by omega), MSh_o hM, by decide, MSh_o hM, by decide, mL_from hM hj, mL_bytes hM (by omega), fun c2 => ?_, fun c2 => ?_⟩⟩⟩
      · have := b2I_0 c
        rw [this] at H ⊢
        exact H
      · rw [eq_I (by omega) (by omega)] at c2
        refine m_same_lp B hi hj e1 e2 e3 ha hb r (k + 1) false (by omega) ?_
        rw [b2I_1 c] at H
        simpa [saF, c2] using H
      · rw [eq_I (by omega) (by omega)] at c2
        refine m_same_lp B hi hj e1 e2 e3 ha hb r (k + 1) true (by omega) ?_
        rw [b2I_1 c] at H
        simpa [saF, c2] using H)
theorem m_same {h : HP} {f : Nat → Nat} {i j a b n m : Nat} {K : Int32 → HP → Prop} (B : MBy h f) (hi : i < 1800) (hj : j < 1800) (e1 : gI h 342 i = nI a) (e2 : gI h 343 i = nI n) (e3 : gI h 342 j = nI b) (e4 : gI h 343 j = nI m) (ha : a + n ≤ 37200) (hb : b + m ≤ 37200) (H : K (b2I (decide (n = m) && saF f a b n 0)) h) : wq_M_same 338 (nI i) (nI j) h K := by
  have hM := B.1
  unfold wq_M_same
  rw [mR_many hM, nI_cl (n := i) (by omega), nI_cl (n := j) (by omega), e2, e4]
  refine ⟨MSh_o hM, by decide, mL_many hM hi, MSh_o hM, by decide, mL_many hM hj, fun c => ?_, fun c => ?_⟩
  · rw [eq_I (by omega) (by omega)] at c
    refine wb_M_same_24_ok ?_
    unfold wb_M_same_24
    rw [mR_many hM]
    have H0 : K (b2I false) h := by simpa [c] using H
    exact ⟨MSh_o hM, by decide, mL_many hM hi, fun _ => ⟨Or.inl rfl, H0⟩, fun _ => ⟨fun _ => ⟨Or.inl rfl, H0⟩, fun z => absurd rfl z⟩⟩
  · rw [eq_I (by omega) (by omega)] at c
    exact m_same_lp B hi hj e1 e2 e3 ha (by omega) n 0 true (by omega) (by simpa [c] using H)
