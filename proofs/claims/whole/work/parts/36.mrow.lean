/-- row r of the model's bytes has z r of them -/
def MZ (h : HP) (z : Nat → Nat) : Prop := (∀ r, r < 62 → gI h 340 r = nI (z r)) ∧ ∀ r, r < 62 → z r ≤ 600
theorem m_readRow {h : HP} {f z : Nat → Nat} {pl r : Nat} {K : HP → Prop} (B : MBy h f) (Z : MZ h z) (hpl : pl < 3) (hr : r < 62)
    (H : ∀ h', RD h h' pl (600 * r + z r) (pcs (atM f (600 * r + z r)) (if 22 ≤ r ∨ r = 0 then 44 else 46) (600 * r + z r) false 600 (600 * r)) (pct (atM f (600 * r + z r)) (if 22 ≤ r ∨ r = 0 then 44 else 46) (600 * r + z r) 600 (600 * r)) → K h') : wq_M_readRow 338 (nI pl) (nI r) h K := by
  have hM := B.1
  have hz := Z.2 r hr
  unfold wq_M_readRow
  rw [mR_size hM, nI_cl (by omega), Z.1 r hr]
  refine ⟨MSh_o hM, by decide, mL_size hM hr, m_pointOf hr ⟨MSh_o hM, ?_⟩⟩
  simp only [i0, nLit, mul_I]
  exact m_read (bl := false) B hpl (by split <;> decide) (by omega) hz H
/-- segment s begins at b s of the book and has n s bytes -/
def MSg (h : HP) (S : Nat) (b n : Nat → Nat) : Prop := S ≤ 24 ∧ (∀ s, s < S → gI h 349 s = nI (b s) ∧ gI h 350 s = nI (n s)) ∧ ∀ s, s < S → b s + n s ≤ 600
theorem m_readSegment {h : HP} {f b n : Nat → Nat} {S pl s : Nat} {K : HP → Prop} (B : MBy h f) (Z : MSg h S b n) (hpl : pl < 3) (hs : s < S)
    (H : ∀ h', RD h h' pl (600 + b s + n s) (pcs (atM f (600 + b s + n s)) 46 (600 + b s + n s) false 600 (600 + b s)) (pct (atM f (600 + b s + n s)) 46 (600 + b s + n s) 600 (600 + b s)) → K h') : wq_M_readSegment 338 (nI pl) (nI s) h K := by
  have hM := B.1
  obtain ⟨z1, z2, z3⟩ := Z
  have hz := z3 s hs
  unfold wq_M_readSegment
  rw [mR_begins hM, mR_sizes hM, nI_cl (by omega), (z2 s hs).1, (z2 s hs).2]
  refine ⟨MSh_o hM, by decide, mL_begins hM (by omega), MSh_o hM, by decide, mL_sizes hM (by omega), MSh_o hM, ?_⟩
  simp only [i0, nLit, add_I]
  exact m_read (bl := false) B hpl (by decide) (by omega) (by omega) H
