def sgP (f : Nat → Nat) (x y : Nat × Nat × Nat) : Bool := decide (¬ x.1 = 5) || decide (f x.2.1 = f y.2.1)
def wdP (f : Nat → Nat) (x y : Nat × Nat × Nat) : Bool := decide (¬ x.1 = 0) || alP f x y
/-- two pieces are LIKE -/
def lkP1 (f : Nat → Nat) (x y : Nat × Nat × Nat) : Bool := decide (x.1 = y.1) && wdP f x y && sgP f x y
section ML
variable {h : HP} {f : Nat → Nat} {i j k : Nat} {x y : Nat × Nat × Nat} {K : Int32 → HP → Prop}
theorem m_like_114 {s : Bool} (B : MBy h f) (P : PE h i x) (R : PE h j y) (hx : x.2.1 < 37200) (hy : y.2.1 < 37200) (H : Wp k_M_like 23 [some (.ref 338), some (.int (b2I (s && sgP f x y))), some (.int (nI (k + 1))), none, none] [] h (0, 0) (QI K)) : wb_M_like_114 338 (b2I s) (nI k) (nI i) (nI j) h K := by
  have hM := B.1
  obtain ⟨p1, p2, p3, p4⟩ := id P
  obtain ⟨r1, r2, r3, r4⟩ := id R
  have f1 := B.2.2 x.2.1
  have f2 := B.2.2 y.2.1
  unfold wb_M_like_114
  simp only [i0, i1, nLit, add_I]
  rw [mR_kind hM, mR_from hM, mR_bytes hM, nI_cl (n := i) (by omega), nI_cl (n := j) (by omega), p2.1, p2.2.1, r2.2.1, nI_cl (n := x.2.1) (by omega), nI_cl (n := y.2.1) (by omega), B.2.1 _ hx, B.2.1 _ hy]
  refine ⟨fun c => ?_, fun c => ⟨MSh_o hM, by decide, mL_kind hM p1, fun c2 => ?_, fun c2 => ⟨MSh_o hM, by decide, MSh_o hM, by decide, mL_from hM p1, mL_bytes hM hx, MSh_o hM, by decide, MSh_o hM, by decide, mL_from hM r1, mL_bytes hM hy, fun c3 => ?_, fun c3 => ?_⟩⟩⟩
  · rw [b2I_0 c] at H ⊢
    exact H
  · rw [eq_I (by omega) (by omega)] at c2
    rw [b2I_1 c] at H ⊢
    simpa [sgP, c2] using H
  · rw [eq_I (by omega) (by omega)] at c2 c3
    rw [b2I_1 c] at H
    have e : sgP f x y = false := by simp [sgP, c2, c3]
    rw [e] at H
    exact H
  · rw [eq_I (by omega) (by omega)] at c2 c3
    rw [b2I_1 c] at H
    have e : sgP f x y = true := by simp [sgP, c2, c3]
    rw [e] at H
    exact H
theorem m_like_69 {s : Bool} (B : MBy h f) (P : PE h i x) (R : PE h j y) (hx : x.2.1 < 37200) (hy : y.2.1 < 37200) (H : Wp k_M_like 23 [some (.ref 338), some (.int (b2I (s && wdP f x y && sgP f x y))), some (.int (nI (k + 1))), none, none] [] h (0, 0) (QI K)) : wb_M_like_69 338 (nI k) (nI i) (nI j) (b2I s) h K := by
  have hM := B.1
  obtain ⟨p1, p2, p3, p4⟩ := id P
  obtain ⟨r1, r2, r3, r4⟩ := id R
  unfold wb_M_like_69
  simp only [i0]
  rw [mR_kind hM, mR_from hM, mR_many hM, nI_cl (n := i) (by omega), nI_cl (n := j) (by omega), p2.1, p2.2.1, p2.2.2, r2.2.1, r2.2.2]
  refine ⟨fun c => m_like_114 B P R hx hy ?_, fun c => ⟨MSh_o hM, by decide, mL_kind hM p1, fun c2 => m_like_114 B P R hx hy ?_, fun c2 => ⟨MSh_o hM, by decide, mL_from hM p1, MSh_o hM, by decide, mL_many hM p1, MSh_o hM, by decide, mL_from hM r1, MSh_o hM, by decide, mL_many hM r1, MSh_o hM, m_alike B (by omega) (by omega) (by omega) (m_like_114 B P R hx hy ?_)⟩⟩⟩
  · rw [b2I_0 c] at H ⊢
    exact H
  · rw [eq_I (by omega) (by omega)] at c2
    have e : wdP f x y = true := by simp [wdP, c2]
    rw [e, Bool.and_true] at H
    exact H
  · rw [eq_I (by omega) (by omega)] at c2
    have e : wdP f x y = alP f x y := by simp [wdP, c2]
    rw [b2I_1 c, e, Bool.true_and] at H
    exact H
end ML
