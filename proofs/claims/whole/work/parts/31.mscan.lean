/-! the model's reading of bytes -/
theorem m_in {v a b : Int32} {h : HP} {K : Int32 → HP → Prop} (H : K (if a ≤ v ∧ v ≤ b then 1 else 0) h) : wq_M_in v a b h K := by
  refine ⟨fun q => ?_, fun q => ⟨fun r => ?_, fun r => ?_⟩⟩
  · rwa [if_neg (fun z => Int32.not_lt.mpr z.1 q)] at H
  · rwa [if_neg (fun z => Int32.not_lt.mpr z.2 r)] at H
  · rwa [if_pos ⟨Int32.not_lt.mp q, Int32.not_lt.mp r⟩] at H
def isD (c : Nat) : Bool := decide (48 ≤ c) && decide (c ≤ 57)
def isLt (c : Nat) : Bool := (decide (97 ≤ c) && decide (c ≤ 122)) || (decide (65 ≤ c) && decide (c ≤ 90))
def b2I (b : Bool) : Int32 := if b then 1 else 0
theorem m_isDigit {c : Nat} {h : HP} {K : Int32 → HP → Prop} (hc : c < 256) (H : K (b2I (isD c)) h) : wq_M_isDigit (nI c) h K := by
  simp only [wq_M_isDigit, nLit]
  refine ⟨fun q => ?_, fun q => ⟨fun r => ?_, fun r => ?_⟩⟩ <;> simp (disch := omega) only [lt_I] at *
  · have e : isD c = false := by simp [isD]; omega
    rwa [e] at H
  · have e : isD c = false := by simp [isD]; omega
    rwa [e] at H
  · have e : isD c = true := by simp [isD]; omega
    rwa [e] at H
theorem m_isLetter {c : Nat} {h : HP} {K : Int32 → HP → Prop} (hc : c < 256) (H : K (b2I (isLt c)) h) : wq_M_isLetter (nI c) h K := by
  simp only [wq_M_isLetter, wb_M_isLetter_12, nLit]
  refine ⟨fun q => ?_, fun q => ?_⟩
  all_goals sorry
/-- byte p of the row that is read, 0 behind its end -/
def atM (f : Nat → Nat) (e p : Nat) : Nat := if p < e then f p else 0
/-- the model's bytes are f, the row that is read ends at e -/
def MB (h : HP) (f : Nat → Nat) (e : Nat) : Prop := MSh h ∧ (∀ i, i < 37200 → gI h 339 i = nI (f i)) ∧ (∀ i, f i < 256) ∧ gI h 338 8 = nI e ∧ e ≤ 37200
theorem m_at {h : HP} {f : Nat → Nat} {e p : Nat} {K : Int32 → HP → Prop} (B : MB h f e) (hp : p < 2147483648) (H : K (nI (atM f e p)) h) : wq_M_at 338 (nI p) h K := by
  obtain ⟨hM, hf, hb, he, hl⟩ := B
  unfold wq_M_at
  rw [he, mR_bytes hM]
  refine ⟨MSh_o hM, fun q => ?_, fun q => ⟨MSh_o hM, by decide, ?_⟩⟩ <;> simp (disch := omega) only [le_I] at q
  · have e0 : atM f e p = 0 := by simp [atM]; omega
    rwa [e0] at H
  · have e0 : atM f e p = f p := by simp [atM]; omega
    rw [e0, ← hf p (by omega)] at H
    refine ⟨mL_bytes hM (by omega), ?_⟩
    rw [nI_cl hp]
    exact H
