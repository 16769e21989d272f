/-! patching in the model -/
def ptB (b : Nat) : Nat := if b = 46 then 44 else b
theorem ptB_lt {b : Nat} (h : b < 256) : ptB b < 256 := by unfold ptB; split <;> omega
/-- r bytes from a + k on read as those from b + k on -/
def rdF (f : Nat → Nat) (a b : Nat) : Nat → Nat → Bool
  | 0, _ => true
  | r + 1, k => decide (ptB (f (a + k)) = f (b + k)) && rdF f a b r (k + 1)
def rdN (f : Nat → Nat) (x c : Nat × Nat × Nat) : Bool := decide (x.1 = 1) && decide (x.2.2 = c.2.2) && rdF f x.2.1 c.2.1 c.2.2 0
section MPT
variable {h : HP} {f : Nat → Nat} {i j : Nat} {x c : Nat × Nat × Nat} {K : Int32 → HP → Prop}
theorem m_reads_lp (B : MBy h f) (P : PE h i x) (R : PE h j c) (hl : x.2.1 + c.2.2 ≤ 37200) : ∀ (r k : Nat) (is : Bool), k + r = c.2.2 → K (b2I (is && rdF f x.2.1 c.2.1 r k)) h → Wp k_M_reads 34 [some (.ref 338), some (.int (nI i)), some (.int (nI j)), some (.int (b2I is)), some (.int (nI k)), none] [] h (0, 0) (QI K)
  | 0, k, is, h1, H => wb_M_reads_34_ok (by
      have hM := B.1
      obtain ⟨r1, ⟨r2, r3, r4⟩, r5, r6⟩ := id R
      unfold wb_M_reads_34
      simp (disch := omega) only [i0, i1, nLit, mul_I, add_I, nI_cl, isO_stI, isA_stI, isL_stI, gR_stI, gJ_stI, gK_stI, gL_stI, gS_stI, true_and, and_true, forall_eq, implies_true, ps_339, MSh_o hM, mR_many hM, mL_many hM, mA_many hM, r4, le_I]
      exact ⟨fun _ => ⟨b2I_01 is, by simpa [rdF] using H⟩, fun z => absurd (by omega) z⟩)
  | r + 1, k, is, h1, H => wb_M_reads_34_ok (by
      have hM := B.1
      obtain ⟨p1, ⟨p2, p3, p4⟩, p5, p6⟩ := id P
      obtain ⟨r1, ⟨r2, r3, r4⟩, r5, r6⟩ := id R
      have b1 := B.2.2 (x.2.1 + k)
      have b2 := B.2.2 (c.2.1 + k)
      have go : is = true → ∀ s0, s0 = ptB (f (x.2.1 + k)) → wb_M_reads_79 338 (nI i) (nI j) (nI k) (nI s0) h K := by
        intro hi s0 e0
        have := ptB_lt b1
        unfold wb_M_reads_79
        simp (disch := omega) only [i0, i1, nLit, mul_I, add_I, nI_cl, isO_stI, isA_stI, isL_stI, gR_stI, gJ_stI, gK_stI, gL_stI, gS_stI, true_and, and_true, forall_eq, implies_true, ps_339, MSh_o hM, mR_bytes hM, mL_bytes hM, mA_bytes hM, mR_from hM, mL_from hM, mA_from hM, r3, B.2.1, eq_I]
        rw [hi, Bool.true_and, rdF] at H
        refine ⟨fun c2 => m_reads_lp B P R hl r (k + 1) false (by omega) ?_, fun c2 => m_reads_lp B P R hl r (k + 1) true (by omega) ?_⟩
        · rw [e0] at c2
          simpa [c2] using H
        · rw [e0] at c2
          simpa [c2] using H
      unfold wb_M_reads_34
      simp (disch := omega) only [i0, i1, nLit, mul_I, add_I, nI_cl, isO_stI, isA_stI, isL_stI, gR_stI, gJ_stI, gK_stI, gL_stI, gS_stI, true_and, and_true, forall_eq, implies_true, ps_339, MSh_o hM, mR_many hM, mL_many hM, mA_many hM, mR_bytes hM, mL_bytes hM, mA_bytes hM, mR_from hM, mL_from hM, mA_from hM, r4, p3, B.2.1, le_I, eq_I]
      refine ⟨fun z => absurd z (by omega), fun _ => ⟨fun c => ⟨b2I_01 is, ?_⟩, fun c => ⟨fun c2 => go (b2I_1 c) _ (by rw [ptB, if_neg c2]), fun c2 => go (b2I_1 c) _ (by rw [ptB, if_pos c2])⟩⟩⟩
      rw [b2I_0 c] at H ⊢
      exact H)
theorem m_reads_no (hM : MSh h) (R : PE h j c) (H : K (b2I false) h) : Wp k_M_reads 34 [some (.ref 338), some (.int (nI i)), some (.int (nI j)), some (.int (nI 0)), some (.int (nI 0)), none] [] h (0, 0) (QI K) := wb_M_reads_34_ok (by
  obtain ⟨r1, ⟨r2, r3, r4⟩, r5, r6⟩ := id R
  unfold wb_M_reads_34
  simp (disch := omega) only [i0, i1, nLit, mul_I, add_I, nI_cl, isO_stI, isA_stI, isL_stI, gR_stI, gJ_stI, gK_stI, gL_stI, gS_stI, true_and, and_true, forall_eq, implies_true, ps_339, MSh_o hM, mR_many hM, mL_many hM, mA_many hM, r4, le_I, true_or, or_true, true_imp_iff, not_true_eq_false, not_false_eq_true, false_imp_iff]
  exact ⟨fun _ => H, fun _ => H⟩)
theorem m_reads (B : MBy h f) (P : PE h i x) (R : PE h j c) (H : K (b2I (rdN f x c)) h) : wq_M_reads 338 (nI i) (nI j) h K := by
  have hM := B.1
  obtain ⟨p1, ⟨p2, p3, p4⟩, p5, p6⟩ := id P
  obtain ⟨r1, ⟨r2, r3, r4⟩, r5, r6⟩ := id R
  unfold wq_M_reads
  simp (disch := omega) only [i0, i1, nLit, mul_I, add_I, nI_cl, isO_stI, isA_stI, isL_stI, gR_stI, gJ_stI, gK_stI, gL_stI, gS_stI, true_and, and_true, forall_eq, implies_true, ps_339, MSh_o hM, mR_kind hM, mL_kind hM, mA_kind hM, mR_many hM, mL_many hM, mA_many hM, p2, p4, r4, eq_I]
  refine ⟨fun c => ?_, fun c => ⟨fun c2 => ?_, fun c2 => ?_⟩⟩
  · refine m_reads_no hM R ?_
    simpa [rdN, c] using H
  · refine m_reads_no hM R ?_
    simpa [rdN, c2] using H
  · refine m_reads_lp B P R (by omega) _ 0 true (Nat.zero_add _) ?_
    simpa [rdN, c, c2] using H
end MPT
/-! where digits go -/
def isMk (x : Nat × Nat × Nat) : Bool := decide (2 ≤ x.1) && decide (x.1 ≤ 4)
def dgA (x : Nat × Nat × Nat) : Nat := x.2.1 + if x.1 = 3 then 2 else 1
/-- digits of marks: 0 goes nowhere -/
def mpF (f : Nat → Nat) : PcL → PcL → (Nat → Nat) → Option (Nat → Nat)
  | x :: l, y :: m, g => if isMk x = true then (if g (f (dgA x) - 48) ≠ 0 ∧ g (f (dgA x) - 48) ≠ f (dgA y) then none else mpF f l m (va_up g (f (dgA x) - 48) (f (dgA y)))) else mpF f l m g
  | _, _, g => some g
def mI (n : Nat) : Int32 := if n = 0 then -nI 1 else nI n
def GtO (h : HP) (g : Nat → Nat) : Prop := ∀ d, d < 10 → gI h 359 d = mI (g d) ∧ g d < 256
/-- the digit of a mark is a digit -/
def DgP (f : Nat → Nat) (x : Nat × Nat × Nat) : Prop := isMk x = true → isD (f (dgA x)) = true ∧ dgA x < x.2.1 + x.2.2
theorem isD_r {c : Nat} (h : isD c = true) : 48 ≤ c ∧ c ≤ 57 := by
  unfold isD at h
  rw [Bool.and_eq_true] at h
  exact ⟨of_decide_eq_true h.1, of_decide_eq_true h.2⟩
theorem mI_m1 {n : Nat} (h : n < 256) : (mI n = -nI 1) = (n = 0) := by
  unfold mI
  split
  · rename_i c; simp [c]
  · rename_i c
    have : ¬ nI n = -nI 1 := fun z => by
      have q : (0 : Int32) ≤ nI n := nI_pos' (by omega)
      rw [z] at q
      exact absurd q (by decide)
    simp [c, this]
theorem m_isMark {k : Nat} {h : HP} {K : Int32 → HP → Prop} (hk : k ≤ 6) (H : K (b2I (decide (2 ≤ k) && decide (k ≤ 4))) h) : wq_M_isMark (nI k) h K := by
  unfold wq_M_isMark
  refine m_in ?_
  have e : (if nI 2 ≤ nI k ∧ nI k ≤ nI 4 then (nI 1 : Int32) else nI 0) = b2I (decide (2 ≤ k) && decide (k ≤ 4)) := by
    simp (disch := omega) only [le_I]
    by_cases c : 2 ≤ k ∧ k ≤ 4
    · simp [c]; rfl
    · rw [if_neg c]
      have : (decide (2 ≤ k) && decide (k ≤ 4)) = false := by simp; omega
      rw [this]; rfl
  have e' : (if (2 : Int32) ≤ nI k ∧ nI k ≤ (4 : Int32) then (1 : Int32) else 0) = b2I (decide (2 ≤ k) && decide (k ≤ 4)) := e
  rw [e']
  exact ⟨b2I_01 _, H⟩
section MPM
variable {h0 : HP} {f : Nat → Nat} {LA LB : PcL} {K : Int32 → HP → Prop}
theorem m_maps_23 (B0 : MBy h0 f) (PA : PlR h0 0 LA) (PB : PlR h0 1 LB) (WA : ∀ x ∈ LA, WfP x) (WB : ∀ x ∈ LB, WfP x) (DA : ∀ x ∈ LA, DgP f x) (hl : LA.length = LB.length) (hk : ∀ i (hi : i < LA.length) (hj : i < LB.length), LA[i].1 = LB[i].1) (DB : ∀ x ∈ LB, DgP f x) (G : Option (Nat → Nat))
    (H : ∀ h', FrX [359] h0 h' → (∀ g, G = some g → GtO h' g) → K (b2I G.isSome) h') : ∀ (r k : Nat) (g : Nat → Nat) (h : HP), k + r = LA.length → FrX [359] h0 h → GtO h g → mpF f (LA.drop k) (LB.drop k) g = G → Wp k_M_maps 23 [some (.ref 338), some (.int (nI k)), none, none] [] h (0, 0) (QI K)
  | 0, k, g, h, h1, F, Gt, e => wb_M_maps_23_ok (by
      have B := FrX_MBy F (by decide) B0
      have hM := B.1
      have PA' := FrX_PlR F (by decide) (by decide) (by decide) (by decide) PA
      have la := PA.2.1
      rw [List.drop_of_length_le (by omega)] at e
      unfold wb_M_maps_23
      simp (disch := omega) only [i0, i1, nLit, mul_I, add_I, nI_cl, isO_stI, isA_stI, isL_stI, gR_stI, gJ_stI, gK_stI, gL_stI, gS_stI, true_and, and_true, forall_eq, implies_true, ps_339, MSh_o hM, mR_solid hM, mL_solid hM, mA_solid hM, PA'.1, le_I]
      refine ⟨fun _ => ?_, fun z => absurd (by omega) z⟩
      have e' : G = some g := by rw [← e]; rfl
      have := H h F (fun g' hg => by rw [e'] at hg; cases hg; exact Gt)
      rw [e'] at this
      exact this)
  | r + 1, k, g, h, h1, F, Gt, e => wb_M_maps_23_ok (by
      have B := FrX_MBy F (by decide) B0
      have hM := B.1
      have PA' := FrX_PlR F (by decide) (by decide) (by decide) (by decide) PA
      have PB' := FrX_PlR F (by decide) (by decide) (by decide) (by decide) PB
      have la := PA.2.1
      have ha : k < LA.length := by omega
      have hb : k < LB.length := by omega
      have EA := PlR_PE PA' (by decide) WA ha
      have EB := PlR_PE PB' (by decide) WB hb
      have da := DA _ (List.getElem_mem ha)
      have db := DB _ (List.getElem_mem hb)
      have wa := WA _ (List.getElem_mem ha)
      have wb := WB _ (List.getElem_mem hb)
      have hkk := hk k ha hb
      rw [List.drop_eq_getElem_cons ha, List.drop_eq_getElem_cons hb, mpF] at e
      generalize LA[k] = x at *
      generalize LB[k] = y at *
      obtain ⟨p1, ⟨p2, p3, p4⟩, p5, p6⟩ := EA
      obtain ⟨r1, ⟨r2, r3, r4⟩, r5, r6⟩ := EB
      rw [show 600 * 0 + k = 0 + k by omega] at *
      rw [Nat.mul_one] at *
      unfold wb_M_maps_23
      simp (disch := omega) only [i0, i1, nLit, mul_I, add_I, nI_cl, isO_stI, isA_stI, isL_stI, gR_stI, gJ_stI, gK_stI, gL_stI, gS_stI, true_and, and_true, forall_eq, implies_true, ps_339, MSh_o hM, mR_solid hM, mL_solid hM, mA_solid hM, mR_kind hM, mL_kind hM, mA_kind hM, PA'.1, le_I, p2]
      refine ⟨fun z => absurd z (by omega), fun _ => m_isMark p5 ?_⟩
      have em : (decide (2 ≤ x.1) && decide (x.1 ≤ 4)) = isMk x := rfl
      rw [em, b2I_eq0]
      simp only [Bool.not_eq_false]
      refine ⟨fun cm => ?_, fun cm => ?_⟩
      · simp only [cm, if_true] at e
        have dx := da cm
        have cm2 : isMk y = true := by unfold isMk at cm ⊢; rw [← hkk]; exact cm
        have dy := db cm2
        have d1 := isD_r dx.1
        have d2 := isD_r dy.1
        refine ⟨MSh_o hM, mP_bytes hM, MSh_o hM, m_digitAt hM p1 p2 p3 p5 ?_⟩
        have ex : x.2.1 + (if x.1 = 3 then 2 else 1) = dgA x := rfl
        rw [ex, mR_bytes hM]
        refine ⟨mL_bytes hM (by omega), MSh_o hM, by decide, MSh_o hM, m_digitAt hM r1 r2 r3 r5 ?_⟩
        have ey : y.2.1 + (if y.1 = 3 then 2 else 1) = dgA y := rfl
        rw [ey]
        have gd := Gt (f (dgA x) - 48) (by omega)
        simp (disch := omega) only [i0, i1, nLit, mul_I, add_I, nI_cl, isO_stI, isA_stI, isL_stI, gR_stI, gJ_stI, gK_stI, gL_stI, gS_stI, true_and, and_true, forall_eq, implies_true, ps_339, MSh_o hM, mR_bytes hM, mL_bytes hM, mA_bytes hM, mR_goesTo hM, mL_goesTo hM, mA_goesTo hM, B.2.1, sub_I, gd.1, mI_m1 gd.2]
        have nxt : ¬ (g (f (dgA x) - 48) ≠ 0 ∧ g (f (dgA x) - 48) ≠ f (dgA y)) → Wp k_M_maps 23 [some (.ref 338), some (.int (nI (k + 1))), none, none] [] (stI h 359 (f (dgA x) - 48) (nI (f (dgA y)))) (0, 0) (QI K) := fun hn => by
          rw [if_neg hn] at e
          refine m_maps_23 B0 PA PB WA WB DA hl hk DB G H r (k + 1) _ _ (by omega) (FrX_st F (by decide)) (fun d hd => ?_) e
          rw [gI_stI]
          unfold va_up
          by_cases z : d = f (dgA x) - 48
          · rw [if_pos ⟨rfl, z⟩, if_pos z]
            exact ⟨by rw [mI, if_neg (by omega)], by omega⟩
          · rw [if_neg (fun y => z y.2), if_neg z]
            exact Gt d hd
        refine ⟨fun c => nxt (fun z => z.1 c), fun c => ?_⟩
        have e9 : mI (g (f (dgA x) - 48)) = nI (g (f (dgA x) - 48)) := by rw [mI, if_neg c]
        have lt9 := gd.2
        rw [e9, eq_I (by omega) (by omega)]
        refine ⟨fun c2 => nxt (fun z => z.2 c2), fun c2 => ?_⟩
        rw [if_pos ⟨c, c2⟩] at e
        have := H h F (fun g' hg => by rw [← e] at hg; cases hg)
        rw [← e] at this
        exact this
      · simp only [cm, Bool.false_eq_true, if_false] at e
        exact m_maps_23 B0 PA PB WA WB DA hl hk DB G H r (k + 1) g h (by omega) F Gt e)
theorem m_maps_2 (B0 : MBy h0 f) (H : ∀ h', FrX [359] h0 h' → GtO h' (fun _ => 0) → Wp k_M_maps 23 [some (.ref 338), some (.int (nI 0)), none, none] [] h' (0, 0) (QI K)) : ∀ (r k : Nat) (h : HP), k + r = 10 → FrX [359] h0 h → (∀ d, d < k → gI h 359 d = -nI 1) → Wp k_M_maps 2 [some (.ref 338), some (.int (nI k)), none, none] [] h (0, 0) (QI K)
  | 0, k, h, h1, F, Gt => wb_M_maps_2_ok (by
      unfold wb_M_maps_2
      simp (disch := omega) only [i0, i1, nLit, mul_I, add_I, nI_cl, le_I]
      exact ⟨fun _ => H h F (fun d hd => ⟨Gt d (by omega), (by decide : (0 : Nat) < 256)⟩), fun z => absurd (by omega) z⟩)
  | r + 1, k, h, h1, F, Gt => wb_M_maps_2_ok (by
      have hM := FrX_MSh F B0.1
      unfold wb_M_maps_2
      simp (disch := omega) only [i0, i1, nLit, mul_I, add_I, nI_cl, isO_stI, isA_stI, isL_stI, gR_stI, gJ_stI, gK_stI, gL_stI, gS_stI, true_and, and_true, forall_eq, implies_true, ps_339, MSh_o hM, mR_goesTo hM, mL_goesTo hM, mA_goesTo hM, le_I]
      refine ⟨fun z => absurd z (by omega), fun _ => m_maps_2 B0 H r (k + 1) _ (by omega) (FrX_st F (by decide)) (fun d hd => ?_)⟩
      rw [gI_stI]
      by_cases z : d = k
      · rw [if_pos ⟨rfl, z⟩]
      · rw [if_neg (fun y => z y.2)]
        exact Gt d (by omega))
end MPM
