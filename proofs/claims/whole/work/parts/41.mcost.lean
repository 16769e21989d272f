/-- place i of the rows 341, 342, 343 holds the piece x -/
def PE (h : HP) (i : Nat) (x : Nat × Nat × Nat) : Prop := i < 1800 ∧ (gI h 341 i = nI x.1 ∧ gI h 342 i = nI x.2.1 ∧ gI h 343 i = nI x.2.2) ∧ x.1 ≤ 6 ∧ x.2.1 + x.2.2 ≤ 37200
def lcM (x : Nat × Nat × Nat) : Nat := if 2 ≤ x.1 ∧ x.1 ≤ 4 then 4 else 10
theorem m_loneCost {h : HP} {i : Nat} {x : Nat × Nat × Nat} {K : Int32 → HP → Prop} (hM : MSh h) (P : PE h i x) (H : K (nI (lcM x)) h) : wq_M_loneCost 338 (nI i) h K := by
  obtain ⟨p1, p2, p3, p4⟩ := P
  unfold wq_M_loneCost wq_M_isMark
  simp only [i0, i1, nLit]
  rw [mR_kind hM, nI_cl (by omega), p2.1]
  refine ⟨MSh_o hM, by decide, mL_kind hM p1, m_in ?_⟩
  simp (disch := omega) only [le_I]
  by_cases c : 2 ≤ x.1 ∧ x.1 ≤ 4
  · rw [if_pos c]
    have e : lcM x = 4 := if_pos c
    rw [e] at H
    exact ⟨Or.inr rfl, fun z => absurd z (by decide), fun _ => H⟩
  · rw [if_neg c]
    have e : lcM x = 10 := if_neg c
    rw [e] at H
    exact ⟨Or.inl rfl, fun _ => H, fun z => absurd rfl z⟩
def smP (f : Nat → Nat) (x y : Nat × Nat × Nat) : Bool := decide (x.2.2 = y.2.2) && saF f x.2.1 y.2.1 x.2.2 0
def alP (f : Nat → Nat) (x y : Nat × Nat × Nat) : Bool := decide (x.2.2 = y.2.2) && alF f x.2.1 y.2.1 x.2.2 0
def kc2 (f : Nat → Nat) (x y : Nat × Nat × Nat) : Nat := if x.1 = y.1 then (if x.1 = 0 then (if alP f x y = true then 1 else 10) else if x.1 = 5 then 10 else 2) else 10
def kcM (f : Nat → Nat) (x y : Nat × Nat × Nat) : Nat := if x.1 = y.1 ∧ smP f x y = true then 0 else kc2 f x y
theorem m_keepCost_26 {h : HP} {f : Nat → Nat} {i j : Nat} {x y : Nat × Nat × Nat} {K : Int32 → HP → Prop} (B : MBy h f) (P : PE h i x) (R : PE h j y) (H : K (nI (kc2 f x y)) h) : wb_M_keepCost_26 338 (nI i) (nI j) h K := by
  have hM := B.1
  obtain ⟨p1, p2, p3, p4⟩ := P
  obtain ⟨r1, r2, r3, r4⟩ := R
  unfold wb_M_keepCost_26
  simp only [i0, i1, nLit]
  rw [mR_kind hM, mR_from hM, mR_many hM, nI_cl (n := i) (by omega), nI_cl (n := j) (by omega), p2.1, p2.2.1, p2.2.2, r2.1, r2.2.1, r2.2.2]
  refine ⟨MSh_o hM, by decide, mL_kind hM p1, MSh_o hM, by decide, mL_kind hM r1, fun c => ⟨MSh_o hM, by decide, mL_kind hM p1, fun c2 => ⟨MSh_o hM, by decide, mL_kind hM p1, fun c3 => ?_, fun c3 => ?_⟩, fun c2 => ⟨MSh_o hM, by decide, mL_from hM p1, MSh_o hM, by decide, mL_many hM p1, MSh_o hM, by decide, mL_from hM r1, MSh_o hM, by decide, mL_many hM r1, MSh_o hM, m_alike B (by omega) (by omega) (by omega) ⟨fun c3 => ?_, fun c3 => ?_⟩⟩⟩, fun c => ?_⟩
  · rw [eq_I (by omega) (by omega)] at c c2 c3
    simpa [kc2, c2, c3, ← c] using H
  · rw [eq_I (by omega) (by omega)] at c c2 c3
    simpa [kc2, c3, ← c] using H
  · rw [eq_I (by omega) (by omega)] at c c2
    have c4 : alP f x y = false := b2I_0 c3
    simpa [kc2, c2, c4, ← c] using H
  · rw [eq_I (by omega) (by omega)] at c c2
    have c4 : alP f x y = true := b2I_1 c3
    simpa [kc2, c2, c4, ← c] using H
  · rw [eq_I (by omega) (by omega)] at c
    simpa [kc2, c] using H
theorem m_keepCost {h : HP} {f : Nat → Nat} {i j : Nat} {x y : Nat × Nat × Nat} {K : Int32 → HP → Prop} (B : MBy h f) (P : PE h i x) (R : PE h j y) (H : K (nI (kcM f x y)) h) : wq_M_keepCost 338 (nI i) (nI j) h K := by
  have hM := B.1
  obtain ⟨p1, p2, p3, p4⟩ := id P
  obtain ⟨r1, r2, r3, r4⟩ := id R
  unfold wq_M_keepCost
  simp only [i0]
  rw [mR_kind hM, nI_cl (n := i) (by omega), nI_cl (n := j) (by omega), p2.1, r2.1]
  refine ⟨MSh_o hM, by decide, mL_kind hM p1, MSh_o hM, by decide, mL_kind hM r1, fun c => ?_, fun c => ⟨MSh_o hM, m_same B p1 r1 p2.2.1 p2.2.2 r2.2.1 r2.2.2 p4 r4 ⟨fun c2 => ?_, fun c2 => ?_⟩⟩⟩
  · rw [eq_I (by omega) (by omega)] at c
    have e : kcM f x y = kc2 f x y := if_neg (fun z => c z.1)
    rw [e] at H
    exact m_keepCost_26 B P R H
  · have c3 : smP f x y = false := b2I_0 c2
    have e : kcM f x y = kc2 f x y := if_neg (fun z => by rw [c3] at z; exact absurd z.2 (by decide))
    rw [e] at H
    exact m_keepCost_26 B P R H
  · rw [eq_I (by omega) (by omega)] at c
    have c3 : smP f x y = true := b2I_1 c2
    have e : kcM f x y = 0 := if_pos ⟨c, c3⟩
    rw [e] at H
    exact H
