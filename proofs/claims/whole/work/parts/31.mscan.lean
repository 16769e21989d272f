/-! the model's reading of bytes -/
theorem m_in {v a b : Int32} {h : HP} {K : Int32 → HP → Prop} (H : K (if a ≤ v ∧ v ≤ b then 1 else 0) h) : wq_M_in v a b h K := by
  refine ⟨fun q => ?_, fun q => ⟨fun r => ?_, fun r => ?_⟩⟩
  · rwa [if_neg (fun z => Int32.not_lt.mpr z.1 q)] at H
  · rwa [if_neg (fun z => Int32.not_lt.mpr z.2 r)] at H
  · rwa [if_pos ⟨Int32.not_lt.mp q, Int32.not_lt.mp r⟩] at H
def isD (c : Nat) : Bool := decide (48 ≤ c) && decide (c ≤ 57)
def isLt (c : Nat) : Bool := (decide (97 ≤ c) && decide (c ≤ 122)) || (decide (65 ≤ c) && decide (c ≤ 90))
def b2I (b : Bool) : Int32 := if b then 1 else 0
theorem m_isDigit {c : Nat} {h : HP} {K : Int32 → HP → Prop} (hc : c < 256) (H : K (b2I (isD c)) h) : wq_M_isDigit (nI c) h K := by
  simp only [wq_M_isDigit, nLit]
  refine ⟨fun q => ?_, fun q => ⟨fun r => ?_, fun r => ?_⟩⟩ <;> simp (disch := omega) only [lt_I] at *
  · have e : isD c = false := by simp [isD]; omega
    rwa [e] at H
  · have e : isD c = false := by simp [isD]; omega
    rwa [e] at H
  · have e : isD c = true := by simp [isD]; omega
    rwa [e] at H
theorem b2_0 {b : Bool} {h : HP} {K : Int32 → HP → Prop} (e : b = false) (H : K (b2I b) h) : K (nI 0) h := by rw [e] at H; exact H
theorem b2_1 {b : Bool} {h : HP} {K : Int32 → HP → Prop} (e : b = true) (H : K (b2I b) h) : K (nI 1) h := by rw [e] at H; exact H
theorem b2I_0 {b : Bool} (e : b2I b = nI 0) : b = false := by cases b; rfl; exact absurd e (by decide)
theorem b2I_1 {b : Bool} (e : ¬ b2I b = nI 0) : b = true := by cases b; exact absurd rfl e; rfl
theorem m_isLetter {c : Nat} {h : HP} {K : Int32 → HP → Prop} (hc : c < 256) (H : K (b2I (isLt c)) h) : wq_M_isLetter (nI c) h K := by
  simp only [wq_M_isLetter, wb_M_isLetter_12, nLit]
  simp (disch := omega) only [lt_I, le_I]
  refine ⟨fun q => ⟨fun r => ?_, fun r => ⟨fun t => ?_, fun t => ?_⟩⟩, fun q => ⟨fun r => ?_, fun r => ⟨fun t => ?_, fun t => ⟨fun u => ?_, fun u => ?_⟩⟩⟩⟩
  all_goals first
    | exact b2_0 (by simp [isLt]; omega) H
    | exact b2_1 (by simp [isLt]; omega) H
/-- small letters of great ones -/
def smN (c : Nat) : Nat := if 65 ≤ c ∧ c ≤ 90 then c + 32 else c
theorem m_small {c : Nat} {h : HP} {K : Int32 → HP → Prop} (hc : c < 256) (H : K (nI (smN c)) h) : wq_M_small (nI c) h K := by
  simp only [wq_M_small, nLit, add_I]
  simp (disch := omega) only [lt_I]
  refine ⟨fun q => ?_, fun q => ⟨fun r => ?_, fun r => ?_⟩⟩
  · rwa [show smN c = c by simp [smN]; omega] at H
  · rwa [show smN c = c by simp [smN]; omega] at H
  · rwa [show smN c = c + 32 by simp [smN]; omega] at H
/-- byte p of the row that is read, 0 behind its end -/
def atM (f : Nat → Nat) (e p : Nat) : Nat := if p < e then f p else 0
/-- the model's bytes are f, the row that is read ends at e -/
def MB (h : HP) (f : Nat → Nat) (e : Nat) : Prop := MSh h ∧ (∀ i, i < 37200 → gI h 339 i = nI (f i)) ∧ (∀ i, f i < 256) ∧ gI h 338 8 = nI e ∧ e ≤ 37200
theorem m_at {h : HP} {f : Nat → Nat} {e p : Nat} {K : Int32 → HP → Prop} (B : MB h f e) (hp : p < 2147483648) (H : K (nI (atM f e p)) h) : wq_M_at 338 (nI p) h K := by
  obtain ⟨hM, hf, hb, he, hl⟩ := B
  unfold wq_M_at
  rw [he, mR_bytes hM]
  refine ⟨MSh_o hM, fun q => ?_, fun q => ⟨MSh_o hM, by decide, ?_⟩⟩ <;> simp (disch := omega) only [le_I] at q
  · have e0 : atM f e p = 0 := by simp [atM]; omega
    rwa [e0] at H
  · have e0 : atM f e p = f p := by simp [atM]; omega
    rw [e0, ← hf p (by omega)] at H
    refine ⟨mL_bytes hM (by omega), ?_⟩
    rw [nI_cl hp]
    exact H
theorem atM_lt {h : HP} {f : Nat → Nat} {e : Nat} (B : MB h f e) (p : Nat) : atM f e p < 256 := by
  unfold atM
  split
  · exact B.2.2.1 p
  · decide
theorem eqB {h : HP} {f : Nat → Nat} {e p k : Nat} (B : MB h f e) (hk : k < 256) : (nI (atM f e p) = nI k) = (atM f e p = k) := propext (eq_I (Nat.lt_trans (atM_lt B p) (by decide)) (Nat.lt_trans hk (by decide)))
/-- digits from p on, most at most -/
def dgE (g : Nat → Nat) (p : Nat) : Nat → Nat
  | 0 => p
  | n + 1 => if isD (g p) then dgE g (p + 1) n else p
theorem m_digits_lp {h : HP} {f : Nat → Nat} {e p most : Nat} {K : Int32 → HP → Prop} (B : MB h f e) (hp : p + most < 1000000) : ∀ (k q : Nat), p ≤ q → q - p + k = most → K (nI (dgE (atM f e) q k)) h → Wp k_M_digits 2 [some (.ref 338), some (.int (nI p)), some (.int (nI most)), some (.int (nI q))] [] h (0, 0) (QI K)
  | 0, q, h1, h2, H => wb_M_digits_2_ok (by
      unfold wb_M_digits_2
      rw [sub_I h1]
      exact ⟨fun _ => H, fun c => absurd ((le_I (by omega) (by omega)).mpr (by omega)) c⟩)
  | k + 1, q, h1, h2, H => wb_M_digits_2_ok (by
      unfold wb_M_digits_2
      rw [sub_I h1]
      refine ⟨fun c => absurd ((le_I (by omega) (by omega)).mp c) (by omega), fun _ => ⟨MSh_o B.1, m_at B (by omega) (m_isDigit (atM_lt B q) ⟨fun c => ?_, fun c => ?_⟩)⟩⟩
      · simpa [dgE, b2I_0 c] using H
      · have e1 := b2I_1 c
        rw [i1, add_I]
        exact m_digits_lp B hp k (q + 1) (by omega) (by omega) (by simpa [dgE, e1] using H))
theorem m_digits {h : HP} {f : Nat → Nat} {e p most : Nat} {K : Int32 → HP → Prop} (B : MB h f e) (hp : p + most < 1000000) (H : K (nI (dgE (atM f e) p most)) h) : wq_M_digits 338 (nI p) (nI most) h K := m_digits_lp B hp most p (Nat.le_refl p) (by omega) H
/-- which mark begins at p: 2 OPEN, 3 CLOSE, 4 SINGLE, 9 none -/
def mkM (g : Nat → Nat) (p : Nat) : Nat :=
  if g p = 60 then (if g (p + 1) = 47 then (if isD (g (p + 2)) = true ∧ g (p + 3) = 62 then 3 else 9) else if isD (g (p + 1)) = true then (if g (p + 2) = 62 then 2 else if g (p + 2) = 47 ∧ g (p + 3) = 62 then 4 else 9) else 9) else 9
def mkI (n : Nat) : Int32 := if n = 9 then -nI 1 else nI n
theorem b2I_eq0 (b : Bool) : (b2I b = nI 0) = (b = false) := propext ⟨b2I_0, fun e => by rw [e]; rfl⟩
theorem m_mark {h : HP} {f : Nat → Nat} {e p : Nat} {K : Int32 → HP → Prop} (B : MB h f e) (hp : p < 1000000) (H : K (mkI (mkM (atM f e) p)) h) : wq_M_mark 338 (nI p) h K := by
  unfold wq_M_mark
  simp only [i1, nLit, add_I]
  repeat' first
    | refine ⟨MSh_o B.1, m_at B (by omega) ?_⟩
    | refine m_isDigit (atM_lt B _) ?_
    | refine ⟨fun c => ?_, fun c => ?_⟩
    | fail
  all_goals
    simp (disch := decide) only [eqB B, b2I_eq0, Bool.not_eq_false] at *
    simpa [mkI, mkM, *] using H
