theorem b2I_01 (b : Bool) : b2I b = nI 0 ∨ b2I b = nI 1 := by cases b; exact Or.inl rfl; exact Or.inr rfl
theorem smN_lt {c : Nat} (h : c < 256) : smN c < 256 := by unfold smN; split <;> omega
/-- r bytes from a + k and b + k on are alike but for small and great -/
def alF (f : Nat → Nat) (a b : Nat) : Nat → Nat → Bool
  | 0, _ => true
  | r + 1, k => decide (smN (f (a + k)) = smN (f (b + k))) && alF f a b r (k + 1)
theorem m_alike_lp {h : HP} {f : Nat → Nat} {a b n : Nat} {K : Int32 → HP → Prop} (B : MBy h f) (ha : a + n ≤ 37200) (hb : b + n ≤ 37200) : ∀ (r k : Nat) (is : Bool), k + r = n → K (b2I (is && alF f a b r k)) h → Wp k_M_alike 16 [some (.ref 338), some (.int (nI a)), some (.int (nI n)), some (.int (nI b)), none, some (.int (b2I is)), some (.int (nI k))] [] h (0, 0) (QI K)
  | 0, k, is, h1, H => wb_M_alike_16_ok (by
      unfold wb_M_alike_16
      refine ⟨fun _ => ⟨b2I_01 is, by simpa [alF] using H⟩, fun c => absurd ((le_I (by omega) (by omega)).mpr (by omega)) c⟩)
  | r + 1, k, is, h1, H => wb_M_alike_16_ok (by
      have hM := B.1
      have f1 := smN_lt (B.2.2 (a + k))
      have f2 := smN_lt (B.2.2 (b + k))
      unfold wb_M_alike_16
      simp only [i0, i1, add_I]
      rw [mR_bytes hM, nI_cl (n := a + k) (by omega), nI_cl (n := b + k) (by omega), B.2.1 _ (by omega)]
      refine ⟨fun c => absurd ((le_I (by omega) (by omega)).mp c) (by omega), fun _ => ⟨fun c => ⟨b2I_01 is, ?_⟩, fun c => ⟨MSh_o hM, by decide, mL_bytes hM (by omega), m_small (B.2.2 _) ?_⟩⟩⟩
      · have := b2I_0 c
        rw [this] at H ⊢
        exact H
      rw [mR_bytes hM, B.2.1 _ (by omega)]
      refine ⟨MSh_o hM, by decide, mL_bytes hM (by omega), m_small (B.2.2 _) ⟨fun c2 => ?_, fun c2 => ?_⟩⟩
      · rw [eq_I (by omega) (by omega)] at c2
        refine m_alike_lp B ha hb r (k + 1) false (by omega) ?_
        rw [b2I_1 c] at H
        simpa [alF, c2] using H
      · rw [eq_I (by omega) (by omega)] at c2
        refine m_alike_lp B ha hb r (k + 1) true (by omega) ?_
        rw [b2I_1 c] at H
        simpa [alF, c2] using H)
theorem m_alike {h : HP} {f : Nat → Nat} {a b n m : Nat} {K : Int32 → HP → Prop} (B : MBy h f) (ha : a + n ≤ 37200) (hb : n = m → b + n ≤ 37200) (hm : m ≤ 37200) (H : K (b2I (decide (n = m) && alF f a b n 0)) h) : wq_M_alike 338 (nI a) (nI n) (nI b) (nI m) h K := by
  unfold wq_M_alike
  refine ⟨fun c => ?_, fun c => ?_⟩
  · rw [eq_I (by omega) (by omega)] at c
    refine wb_M_alike_16_ok ?_
    unfold wb_M_alike_16
    have H0 : K (b2I false) h := by simpa [c] using H
    exact ⟨fun _ => ⟨Or.inl rfl, H0⟩, fun _ => ⟨fun _ => ⟨Or.inl rfl, H0⟩, fun z => absurd rfl z⟩⟩
  · rw [eq_I (by omega) (by omega)] at c
    exact m_alike_lp B ha (hb c) n 0 true (by omega) (by simpa [c] using H)
