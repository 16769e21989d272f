/-! the least sums -/
theorem dec_I (j : Nat) : nI j + -nI 1 = tI j := by
  cases j with
  | zero => rfl
  | succ j => exact pk_m1 j
theorem lcM_le (x : Nat × Nat × Nat) : lcM x ≤ 10 := by unfold lcM; split <;> omega
theorem kcM_le (f : Nat → Nat) (x y : Nat × Nat × Nat) : kcM f x y ≤ 10 := by
  unfold kcM kc2
  repeat' split
  all_goals omega
def wk0 : List (Nat × Nat × Nat) → Nat
  | [] => 0
  | y :: m => wk0 m + lcM y
def wkB (f : Nat → Nat) (x : Nat × Nat × Nat) (pv : List (Nat × Nat × Nat) → Nat) : List (Nat × Nat × Nat) → Nat
  | [] => pv [] + lcM x
  | y :: m => min (min (pv m + kcM f x y) (pv (y :: m) + lcM x)) (wkB f x pv m + lcM y)
/-- the least sum of STEPS -/
def wk (f : Nat → Nat) : List (Nat × Nat × Nat) → List (Nat × Nat × Nat) → Nat
  | [] => wk0
  | x :: l => wkB f x (wk f l)
theorem wk_nc (f : Nat → Nat) (y : Nat × Nat × Nat) (m : List (Nat × Nat × Nat)) : wk f [] (y :: m) = wk f [] m + lcM y := rfl
theorem wk_cn (f : Nat → Nat) (x : Nat × Nat × Nat) (l : List (Nat × Nat × Nat)) : wk f (x :: l) [] = wk f l [] + lcM x := rfl
theorem wk_cc (f : Nat → Nat) (x y : Nat × Nat × Nat) (l m : List (Nat × Nat × Nat)) : wk f (x :: l) (y :: m) = min (min (wk f l m + kcM f x y) (wk f l (y :: m) + lcM x)) (wk f (x :: l) m + lcM y) := rfl
theorem wk_le (f : Nat → Nat) : ∀ (l m : List (Nat × Nat × Nat)), wk f l m ≤ 10 * (l.length + m.length)
  | [], [] => Nat.zero_le _
  | [], y :: m => by
    have := wk_le f [] m
    have := lcM_le y
    rw [wk_nc, List.length_cons]
    rw [List.length_nil] at *
    omega
  | x :: l, m => by
    have a := wk_le f l m
    have := lcM_le x
    cases m with
    | nil =>
      rw [wk_cn, List.length_cons]
      rw [List.length_nil] at *
      omega
    | cons y m =>
      rw [wk_cc, List.length_cons, List.length_cons]
      rw [List.length_cons] at a
      omega
section MWK
variable {h : HP} {f : Nat → Nat} {n m i j b s1 s2 s3 : Nat} {x y : Nat × Nat × Nat} {K : Int32 → HP → Prop}
theorem m_work_141 (hM : MSh h) (hi : i ≤ n) (hj : j ≤ m) (hn : n ≤ 20) (hm : m ≤ 20) (hb : b ≤ 1000000) (R : j < m → PE h (600 + j) y) (S3 : j < m → gI h 354 (21 * i + j + 1) = nI s3) (h3 : s3 ≤ 1000) (H : Wp k_M_work 23 [some (.ref 338), some (.int (nI n)), some (.int (nI m)), some (.int (nI i)), some (.int (tI j)), none, none] [] (stI h 354 (21 * i + j) (nI (if j < m ∧ s3 + lcM y < b then s3 + lcM y else b))) (0, 0) (QI K)) : wb_M_work_141 338 (nI n) (nI m) (nI i) (nI j) (nI (21 * i + j)) (nI b) h K := by
  have hl := lcM_le y
  unfold wb_M_work_141
  simp (disch := omega) only [i0, i1, nLit, mul_I, add_I, nI_cl, isO_stI, isA_stI, isL_stI, gR_stI, gJ_stI, gK_stI, gL_stI, gS_stI, true_and, and_true, forall_eq, implies_true, ps_339, MSh_o hM, mR_sums hM, mL_sums hM, mA_sums hM, le_I, dec_I]
  refine ⟨fun c => ?_, fun c => ⟨mL_sums hM (by omega), m_loneCost hM (R (by omega)) ?_⟩⟩
  · rwa [if_neg (by omega)] at H
  · simp (disch := omega) only [i0, i1, nLit, mul_I, add_I, nI_cl, isO_stI, isA_stI, isL_stI, gR_stI, gJ_stI, gK_stI, gL_stI, gS_stI, true_and, and_true, forall_eq, implies_true, ps_339, MSh_o hM, mR_sums hM, mL_sums hM, mA_sums hM, le_I, dec_I, S3 (by omega)]
    refine ⟨fun c2 => ?_, fun c2 => m_loneCost hM (R (by omega)) ?_⟩
    · rwa [if_neg (by omega)] at H
    · simp (disch := omega) only [i0, i1, nLit, mul_I, add_I, nI_cl, isO_stI, isA_stI, isL_stI, gR_stI, gJ_stI, gK_stI, gL_stI, gS_stI, true_and, and_true, forall_eq, implies_true, ps_339, MSh_o hM, mR_sums hM, mL_sums hM, mA_sums hM, le_I, dec_I, S3 (by omega)]
      rwa [if_pos (by omega)] at H
theorem m_work_93 (hM : MSh h) (hi : i ≤ n) (hj : j ≤ m) (hn : n ≤ 20) (hm : m ≤ 20) (hb : b ≤ 1000000) (P : i < n → PE h (0 + i) x) (S2 : i < n → gI h 354 (21 * i + j + 21) = nI s2) (h2 : s2 ≤ 1000) (H : wb_M_work_141 338 (nI n) (nI m) (nI i) (nI j) (nI (21 * i + j)) (nI (if i < n ∧ s2 + lcM x < b then s2 + lcM x else b)) h K) : wb_M_work_93 338 (nI n) (nI m) (nI i) (nI j) (nI (21 * i + j)) (nI b) h K := by
  have hl := lcM_le x
  unfold wb_M_work_93
  simp (disch := omega) only [i0, i1, nLit, mul_I, add_I, nI_cl, isO_stI, isA_stI, isL_stI, gR_stI, gJ_stI, gK_stI, gL_stI, gS_stI, true_and, and_true, forall_eq, implies_true, ps_339, MSh_o hM, mR_sums hM, mL_sums hM, mA_sums hM, le_I, dec_I]
  refine ⟨fun c => ?_, fun c => ⟨mL_sums hM (by omega), m_loneCost hM (P (by omega)) ?_⟩⟩
  · rwa [if_neg (by omega)] at H
  · simp (disch := omega) only [i0, i1, nLit, mul_I, add_I, nI_cl, isO_stI, isA_stI, isL_stI, gR_stI, gJ_stI, gK_stI, gL_stI, gS_stI, true_and, and_true, forall_eq, implies_true, ps_339, MSh_o hM, mR_sums hM, mL_sums hM, mA_sums hM, le_I, dec_I, S2 (by omega)]
    refine ⟨fun c2 => ?_, fun c2 => m_loneCost hM (P (by omega)) ?_⟩
    · rwa [if_neg (by omega)] at H
    · simp (disch := omega) only [i0, i1, nLit, mul_I, add_I, nI_cl, isO_stI, isA_stI, isL_stI, gR_stI, gJ_stI, gK_stI, gL_stI, gS_stI, true_and, and_true, forall_eq, implies_true, ps_339, MSh_o hM, mR_sums hM, mL_sums hM, mA_sums hM, le_I, dec_I, S2 (by omega)]
      rwa [if_pos (by omega)] at H
theorem m_work_54 (B : MBy h f) (hi : i ≤ n) (hj : j ≤ m) (hn : n ≤ 20) (hm : m ≤ 20) (P : i < n → PE h (0 + i) x) (R : j < m → PE h (600 + j) y) (S1 : i < n → j < m → gI h 354 (21 * i + j + 22) = nI s1) (H : wb_M_work_93 338 (nI n) (nI m) (nI i) (nI j) (nI (21 * i + j)) (nI (if i < n ∧ j < m then s1 + kcM f x y else b)) h K) : wb_M_work_54 338 (nI n) (nI m) (nI i) (nI j) (nI (21 * i + j)) (nI b) h K := by
  have hM := B.1
  unfold wb_M_work_54
  simp (disch := omega) only [i0, i1, nLit, mul_I, add_I, nI_cl, isO_stI, isA_stI, isL_stI, gR_stI, gJ_stI, gK_stI, gL_stI, gS_stI, true_and, and_true, forall_eq, implies_true, ps_339, MSh_o hM, mR_sums hM, mL_sums hM, mA_sums hM, le_I]
  refine ⟨fun c => ?_, fun c => ⟨fun c2 => ?_, fun c2 => ⟨mL_sums hM (by omega), m_keepCost B (P (by omega)) (R (by omega)) ?_⟩⟩⟩
  · rwa [if_neg (by omega)] at H
  · rwa [if_neg (by omega)] at H
  · simp (disch := omega) only [i0, i1, nLit, mul_I, add_I, nI_cl, S1 (by omega) (by omega)]
    rwa [if_pos (by omega)] at H
end MWK
