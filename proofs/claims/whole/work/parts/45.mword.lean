/-- r letters from q on -/
def iwF (f : Nat → Nat) : Nat → Nat → Bool
  | 0, _ => true
  | r + 1, q => isLt (f q) && iwF f r (q + 1)
theorem m_isWord_lp {h : HP} {f : Nat → Nat} {b n : Nat} {K : Int32 → HP → Prop} (B : MBy h f) (hb : b + n ≤ 37200) : ∀ (r q : Nat) (is : Bool), q + r = b + n → K (b2I (is && iwF f r q)) h → Wp k_M_isWord 11 [some (.ref 338), some (.int (nI b)), some (.int (nI n)), some (.int (b2I is)), some (.int (nI q))] [] h (0, 0) (QI K)
  | 0, q, is, h1, H => wb_M_isWord_11_ok (by
      unfold wb_M_isWord_11
      rw [add_I]
      exact ⟨fun _ => ⟨b2I_01 is, by simpa [iwF] using H⟩, fun c => absurd ((le_I (by omega) (by omega)).mpr (by omega)) c⟩)
  | r + 1, q, is, h1, H => wb_M_isWord_11_ok (by
      have hM := B.1
      unfold wb_M_isWord_11
      simp only [i0, i1, add_I]
      rw [mR_bytes hM, nI_cl (n := q) (by omega), B.2.1 _ (by omega)]
      refine ⟨fun c => absurd ((le_I (by omega) (by omega)).mp c) (by omega), fun _ => ⟨fun c => ⟨b2I_01 is, ?_⟩, fun c => ⟨MSh_o hM, by decide, mL_bytes hM (by omega), m_isLetter (B.2.2 _) ?_⟩⟩⟩
      · rw [b2I_0 c] at H ⊢
        exact H
      · rw [b2I_1 c, Bool.true_and] at H
        exact m_isWord_lp B hb r (q + 1) _ (by omega) H)
def iwM (f : Nat → Nat) (b n : Nat) : Bool := decide (1 ≤ n ∧ n ≤ 8) && iwF f n b
theorem m_isWord {h : HP} {f : Nat → Nat} {b n : Nat} {K : Int32 → HP → Prop} (B : MBy h f) (hb : b + n ≤ 37200) (H : K (b2I (iwM f b n)) h) : wq_M_isWord 338 (nI b) (nI n) h K := by
  unfold wq_M_isWord
  simp only [i1, nLit]
  refine m_in ?_
  simp (disch := omega) only [le_I]
  by_cases c : 1 ≤ n ∧ n ≤ 8
  · rw [if_pos c]
    exact m_isWord_lp B hb n b true (by omega) (by simpa [iwM, c] using H)
  · rw [if_neg c]
    exact m_isWord_lp B hb n b false (by omega) (by simpa [iwM, c] using H)
