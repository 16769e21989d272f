def wb_M_wordsOf_4 (l0 : Nat) (l1 : Int32) (l2 : Int32) (l3 : Int32) (h : HP) (K : Int32 → HP → Prop) : Prop :=
  isO h l0 10 ∧ 0 < gR h l0 7 ∧ isL h (gR h l0 7) 100 l1 ∧ (gI h (gR h l0 7) l1.toNatClampNeg ≤ l3 → K l2 h) ∧ (¬ gI h (gR h l0 7) l1.toNatClampNeg ≤ l3 → isO h l0 10 ∧ 0 < gR h l0 3 ∧ isL h (gR h l0 3) 100 (((600 : Int32) * l1) + l3) ∧ (¬ gI h (gR h l0 3) (((600 : Int32) * l1) + l3).toNatClampNeg = 0 → Wp k_M_wordsOf 4 [some (.ref l0), some (.int l1), some (.int (l2 + (0 : Int32))), some (.int (l3 + (1 : Int32)))] [] h (0, 0) (QI K)) ∧ (gI h (gR h l0 3) (((600 : Int32) * l1) + l3).toNatClampNeg = 0 → Wp k_M_wordsOf 4 [some (.ref l0), some (.int l1), some (.int (l2 + (1 : Int32))), some (.int (l3 + (1 : Int32)))] [] h (0, 0) (QI K)))
theorem wb_M_wordsOf_4_ok {l0 : Nat} {l1 : Int32} {l2 : Int32} {l3 : Int32} {h : HP} {K : Int32 → HP → Prop} (H : wb_M_wordsOf_4 l0 l1 l2 l3 h K) : Wp k_M_wordsOf 4 [some (.ref l0), some (.int l1), some (.int l2), some (.int l3)] [] h (0, 0) (QI K) := by
  unfold wb_M_wordsOf_4 at H
  refine wp_iload_n rfl rfl ?_
  refine wp_aload_n rfl rfl ?_
  obtain ⟨g7, g8, H⟩ := H
  refine wp_getR rfl rfl g7 g8 ?_
  refine wp_iload_n rfl rfl ?_
  obtain ⟨g6, H⟩ := H
  refine wp_iald rfl g6 ?_
  refine wp_icmp_ge rfl (lo1 := [some (.ref l0), some (.int l1), some (.int l2), some (.int l3)]) (lo2 := [some (.ref l0), some (.int l1), some (.int l2), some (.int l3)]) rfl rfl (fun q5 => ?_) (fun q5 => ?_)
  · have H := H.1 q5
    refine wp_iload_n rfl rfl ?_
    exact wp_iret rfl rfl H
  · have H := H.2 q5
    refine wp_iload_n rfl rfl ?_
    refine wp_aload_n rfl rfl ?_
    obtain ⟨g3, g4, H⟩ := H
    refine wp_getR rfl rfl g3 g4 ?_
    refine wp_sipush rfl ?_
    refine wp_iload_n rfl rfl ?_
    refine wp_imul rfl ?_
    refine wp_iload_n rfl rfl ?_
    refine wp_iadd rfl ?_
    obtain ⟨g2, H⟩ := H
    refine wp_iald rfl g2 ?_
    refine wp_if_ne rfl (lo1 := [some (.ref l0), some (.int l1), some (.int l2), some (.int l3)]) (lo2 := [some (.ref l0), some (.int l1), some (.int l2), some (.int l3)]) rfl rfl (fun q1 => ?_) (fun q1 => ?_)
    · have H := H.1 q1
      refine wp_iconstk (lo' := [some (.ref l0), some (.int l1), none, some (.int l3)]) rfl rfl ?_
      refine wp_iadd rfl ?_
      refine wp_istore_n rfl rfl (lo' := [some (.ref l0), some (.int l1), some (.int (l2 + (0 : Int32))), some (.int l3)]) rfl ?_
      refine wp_iinc rfl rfl rfl (lo' := [some (.ref l0), some (.int l1), some (.int (l2 + (0 : Int32))), some (.int (l3 + (1 : Int32)))]) rfl ?_
      refine wp_goto rfl (lo' := [some (.ref l0), some (.int l1), some (.int (l2 + (0 : Int32))), some (.int (l3 + (1 : Int32)))]) rfl ?_
      exact H
    · have H := H.2 q1
      refine wp_iconst rfl ?_
      refine wp_goto rfl (lo' := [some (.ref l0), some (.int l1), none, some (.int l3)]) rfl ?_
      refine wp_iadd rfl ?_
      refine wp_istore_n rfl rfl (lo' := [some (.ref l0), some (.int l1), some (.int (l2 + (1 : Int32))), some (.int l3)]) rfl ?_
      refine wp_iinc rfl rfl rfl (lo' := [some (.ref l0), some (.int l1), some (.int (l2 + (1 : Int32))), some (.int (l3 + (1 : Int32)))]) rfl ?_
      refine wp_goto rfl (lo' := [some (.ref l0), some (.int l1), some (.int (l2 + (1 : Int32))), some (.int (l3 + (1 : Int32)))]) rfl ?_
      exact H
def wq_M_wordsOf (p0 : Nat) (p1 : Int32) (h : HP) (K : Int32 → HP → Prop) : Prop :=
  Wp k_M_wordsOf 4 [some (.ref p0), some (.int p1), some (.int (0 : Int32)), some (.int (0 : Int32))] [] h (0, 0) (QI K)
theorem wq_M_wordsOf_ok {p0 : Nat} {p1 : Int32} {h : HP} {K : Int32 → HP → Prop} (H : wq_M_wordsOf p0 p1 h K) : Wp k_M_wordsOf 0 [some (.ref p0), some (.int p1), none, none] [] h (0, 0) (QI K) := by
  unfold wq_M_wordsOf at H
  refine wp_iconst rfl ?_
  refine wp_istore_n rfl rfl (lo' := [some (.ref p0), some (.int p1), some (.int (0 : Int32)), none]) rfl ?_
  refine wp_iconst rfl ?_
  refine wp_istore_n rfl rfl (lo' := [some (.ref p0), some (.int p1), some (.int (0 : Int32)), some (.int (0 : Int32))]) rfl ?_
  exact H
def wb_M_latest_4 (l0 : Nat) (l1 : Int32) (l3 : Int32) (h : HP) (K : Int32 → HP → Prop) : Prop :=
  (l3 < 0 → K l3 h) ∧ (¬ l3 < 0 → isO h l0 10 ∧ 0 < gR h l0 21 ∧ isL h (gR h l0 21) 100 l3 ∧ (gI h (gR h l0 21) l3.toNatClampNeg = l1 → K l3 h) ∧ (¬ gI h (gR h l0 21) l3.toNatClampNeg = l1 → Wp k_M_latest 4 [some (.ref l0), some (.int l1), none, some (.int (l3 + (-1 : Int32)))] [] h (0, 0) (QI K)))
theorem wb_M_latest_4_ok {l0 : Nat} {l1 : Int32} {l3 : Int32} {h : HP} {K : Int32 → HP → Prop} (H : wb_M_latest_4 l0 l1 l3 h K) : Wp k_M_latest 4 [some (.ref l0), some (.int l1), none, some (.int l3)] [] h (0, 0) (QI K) := by
  unfold wb_M_latest_4 at H
  refine wp_iload_n rfl rfl ?_
  refine wp_if_lt rfl (lo1 := [none, none, none, some (.int l3)]) (lo2 := [some (.ref l0), some (.int l1), none, some (.int l3)]) rfl rfl (fun q5 => ?_) (fun q5 => ?_)
  · have H := H.1 q5
    refine wp_iload_n rfl rfl ?_
    exact wp_iret rfl rfl H
  · have H := H.2 q5
    refine wp_aload_n rfl rfl ?_
    obtain ⟨g3, g4, H⟩ := H
    refine wp_getR rfl rfl g3 g4 ?_
    refine wp_iload_n rfl rfl ?_
    obtain ⟨g2, H⟩ := H
    refine wp_iald rfl g2 ?_
    refine wp_iload_n rfl rfl ?_
    refine wp_icmp_eq rfl (lo1 := [none, none, none, some (.int l3)]) (lo2 := [some (.ref l0), some (.int l1), none, some (.int l3)]) rfl rfl (fun q1 => ?_) (fun q1 => ?_)
    · have H := H.1 q1
      refine wp_iload_n rfl rfl ?_
      exact wp_iret rfl rfl H
    · have H := H.2 q1
      refine wp_iinc rfl rfl rfl (lo' := [some (.ref l0), some (.int l1), none, some (.int (l3 + (-1 : Int32)))]) rfl ?_
      refine wp_goto rfl (lo' := [some (.ref l0), some (.int l1), none, some (.int (l3 + (-1 : Int32)))]) rfl ?_
      exact H
def wq_M_latest (p0 : Nat) (p1 : Int32) (p2 : Int32) (h : HP) (K : Int32 → HP → Prop) : Prop :=
  Wp k_M_latest 4 [some (.ref p0), some (.int p1), none, some (.int (p2 - (1 : Int32)))] [] h (0, 0) (QI K)
theorem wq_M_latest_ok {p0 : Nat} {p1 : Int32} {p2 : Int32} {h : HP} {K : Int32 → HP → Prop} (H : wq_M_latest p0 p1 p2 h K) : Wp k_M_latest 0 [some (.ref p0), some (.int p1), some (.int p2), none] [] h (0, 0) (QI K) := by
  unfold wq_M_latest at H
  refine wp_iload_n rfl rfl ?_
  refine wp_iconst rfl ?_
  refine wp_isub rfl ?_
  refine wp_istore_n rfl rfl (lo' := [some (.ref p0), some (.int p1), none, some (.int (p2 - (1 : Int32)))]) rfl ?_
  exact H
def wq_M_step (p0 : Nat) (p1 : Int32) (p2 : Int32) (p3 : Int32) (h : HP) (K : HP → Prop) : Prop :=
  isO h p0 10 ∧ 0 < gR h p0 25 ∧ isO h p0 10 ∧ isA h (gR h p0 25) 100 (gI h p0 28) ∧ (∀ h1 : HP, h1 = stI h (gR h p0 25) (gI h p0 28).toNatClampNeg p1 → isO h1 p0 10 ∧ 0 < gR h1 p0 26 ∧ isO h1 p0 10 ∧ isA h1 (gR h1 p0 26) 100 (gI h1 p0 28) ∧ (∀ h2 : HP, h2 = stI h1 (gR h1 p0 26) (gI h1 p0 28).toNatClampNeg p2 → isO h2 p0 10 ∧ 0 < gR h2 p0 27 ∧ isO h2 p0 10 ∧ isA h2 (gR h2 p0 27) 100 (gI h2 p0 28) ∧ (∀ h3 : HP, h3 = stI h2 (gR h2 p0 27) (gI h2 p0 28).toNatClampNeg p3 → isO h3 p0 10 ∧ isO h3 p0 10 ∧ (∀ h4 : HP, h4 = stI h3 p0 28 ((gI h3 p0 28) + (1 : Int32)) → K h4))))
theorem wq_M_step_ok {p0 : Nat} {p1 : Int32} {p2 : Int32} {p3 : Int32} {h : HP} {K : HP → Prop} (H : wq_M_step p0 p1 p2 p3 h K) : Wp k_M_step 0 [some (.ref p0), some (.int p1), some (.int p2), some (.int p3)] [] h (0, 0) (QV K) := by
  unfold wq_M_step at H
  refine wp_aload_n rfl rfl ?_
  obtain ⟨g21, g22, H⟩ := H
  refine wp_getR rfl rfl g21 g22 ?_
  refine wp_aload_n rfl rfl ?_
  obtain ⟨g20, H⟩ := H
  refine wp_getI rfl rfl g20 ?_
  refine wp_iload_n rfl rfl ?_
  obtain ⟨g18, H⟩ := H
  obtain ⟨h1, e19⟩ : ∃ z : HP, z = stI h (gR h p0 25) (gI h p0 28).toNatClampNeg p1 := ⟨_, rfl⟩
  have H := H h1 e19
  refine wp_iast rfl g18 e19 ?_
  refine wp_aload_n rfl rfl ?_
  obtain ⟨g16, g17, H⟩ := H
  refine wp_getR rfl rfl g16 g17 ?_
  refine wp_aload_n rfl rfl ?_
  obtain ⟨g15, H⟩ := H
  refine wp_getI rfl rfl g15 ?_
  refine wp_iload_n rfl rfl ?_
  obtain ⟨g13, H⟩ := H
  obtain ⟨h2, e14⟩ : ∃ z : HP, z = stI h1 (gR h1 p0 26) (gI h1 p0 28).toNatClampNeg p2 := ⟨_, rfl⟩
  have H := H h2 e14
  refine wp_iast rfl g13 e14 ?_
  refine wp_aload_n rfl rfl ?_
  obtain ⟨g11, g12, H⟩ := H
  refine wp_getR rfl rfl g11 g12 ?_
  refine wp_aload_n rfl rfl ?_
  obtain ⟨g10, H⟩ := H
  refine wp_getI rfl rfl g10 ?_
  refine wp_iload_n rfl rfl ?_
  obtain ⟨g8, H⟩ := H
  obtain ⟨h3, e9⟩ : ∃ z : HP, z = stI h2 (gR h2 p0 27) (gI h2 p0 28).toNatClampNeg p3 := ⟨_, rfl⟩
  have H := H h3 e9
  refine wp_iast rfl g8 e9 ?_
  refine wp_aload_n rfl rfl ?_
  refine wp_dupR rfl ?_
  obtain ⟨g7, H⟩ := H
  refine wp_getI rfl rfl g7 ?_
  refine wp_iconst rfl ?_
  refine wp_iadd rfl ?_
  obtain ⟨g5, H⟩ := H
  obtain ⟨h4, e6⟩ : ∃ z : HP, z = stI h3 p0 28 ((gI h3 p0 28) + (1 : Int32)) := ⟨_, rfl⟩
  have H := H h4 e6
  refine wp_putI rfl rfl g5 e6 ?_
  exact wp_vret rfl rfl H
def wq_M_lay (p0 : Nat) (p1 : Int32) (h : HP) (K : HP → Prop) : Prop :=
  isO h p0 10 ∧ ((600 : Int32) ≤ gI h p0 32 → isO h p0 10 ∧ isO h p0 10 ∧ (∀ h1 : HP, h1 = stI h p0 32 ((gI h p0 32) + (1 : Int32)) → K h1)) ∧ (¬ (600 : Int32) ≤ gI h p0 32 → isO h p0 10 ∧ 0 < gR h p0 31 ∧ isO h p0 10 ∧ isA h (gR h p0 31) 100 (gI h p0 32) ∧ (∀ h5 : HP, h5 = stI h (gR h p0 31) (gI h p0 32).toNatClampNeg p1 → isO h5 p0 10 ∧ isO h5 p0 10 ∧ (∀ h6 : HP, h6 = stI h5 p0 32 ((gI h5 p0 32) + (1 : Int32)) → K h6)))
theorem wq_M_lay_ok {p0 : Nat} {p1 : Int32} {h : HP} {K : HP → Prop} (H : wq_M_lay p0 p1 h K) : Wp k_M_lay 0 [some (.ref p0), some (.int p1)] [] h (0, 0) (QV K) := by
  unfold wq_M_lay at H
  refine wp_aload_n rfl rfl ?_
  obtain ⟨g16, H⟩ := H
  refine wp_getI rfl rfl g16 ?_
  refine wp_sipush rfl ?_
  refine wp_icmp_ge rfl (lo1 := [some (.ref p0), none]) (lo2 := [some (.ref p0), some (.int p1)]) rfl rfl (fun q15 => ?_) (fun q15 => ?_)
  · have H := H.1 q15
    refine wp_aload_n rfl rfl ?_
    refine wp_dupR rfl ?_
    obtain ⟨g4, H⟩ := H
    refine wp_getI rfl rfl g4 ?_
    refine wp_iconst rfl ?_
    refine wp_iadd rfl ?_
    obtain ⟨g2, H⟩ := H
    obtain ⟨h1, e3⟩ : ∃ z : HP, z = stI h p0 32 ((gI h p0 32) + (1 : Int32)) := ⟨_, rfl⟩
    have H := H h1 e3
    refine wp_putI rfl rfl g2 e3 ?_
    exact wp_vret rfl rfl H
  · have H := H.2 q15
    refine wp_aload_n rfl rfl ?_
    obtain ⟨g13, g14, H⟩ := H
    refine wp_getR rfl rfl g13 g14 ?_
    refine wp_aload_n rfl rfl ?_
    obtain ⟨g12, H⟩ := H
    refine wp_getI rfl rfl g12 ?_
    refine wp_iload_n rfl rfl ?_
    obtain ⟨g10, H⟩ := H
    obtain ⟨h5, e11⟩ : ∃ z : HP, z = stI h (gR h p0 31) (gI h p0 32).toNatClampNeg p1 := ⟨_, rfl⟩
    have H := H h5 e11
    refine wp_iastk (lo' := [some (.ref p0), none]) rfl rfl g10 e11 ?_
    refine wp_aload_n rfl rfl ?_
    refine wp_dupR rfl ?_
    obtain ⟨g9, H⟩ := H
    refine wp_getI rfl rfl g9 ?_
    refine wp_iconst rfl ?_
    refine wp_iadd rfl ?_
    obtain ⟨g7, H⟩ := H
    obtain ⟨h6, e8⟩ : ∃ z : HP, z = stI h5 p0 32 ((gI h5 p0 32) + (1 : Int32)) := ⟨_, rfl⟩
    have H := H h6 e8
    refine wp_putI rfl rfl g7 e8 ?_
    exact wp_vret rfl rfl H
def wb_M_reads_79 (l0 : Nat) (l1 : Int32) (l2 : Int32) (l4 : Int32) (s0 : Int32) (h : HP) (K : Int32 → HP → Prop) : Prop :=
  isO h l0 10 ∧ 0 < gR h l0 1 ∧ isO h l0 10 ∧ 0 < gR h l0 4 ∧ isL h (gR h l0 4) 100 l2 ∧ isL h (gR h l0 1) 100 ((gI h (gR h l0 4) l2.toNatClampNeg) + l4) ∧ (¬ s0 = gI h (gR h l0 1) ((gI h (gR h l0 4) l2.toNatClampNeg) + l4).toNatClampNeg → Wp k_M_reads 34 [some (.ref l0), some (.int l1), some (.int l2), some (.int (0 : Int32)), some (.int (l4 + (1 : Int32))), none] [] h (0, 0) (QI K)) ∧ (s0 = gI h (gR h l0 1) ((gI h (gR h l0 4) l2.toNatClampNeg) + l4).toNatClampNeg → Wp k_M_reads 34 [some (.ref l0), some (.int l1), some (.int l2), some (.int (1 : Int32)), some (.int (l4 + (1 : Int32))), none] [] h (0, 0) (QI K))
theorem wb_M_reads_79_ok {l0 : Nat} {l1 : Int32} {l2 : Int32} {l4 : Int32} {s0 : Int32} {h : HP} {K : Int32 → HP → Prop} (H : wb_M_reads_79 l0 l1 l2 l4 s0 h K) : Wp k_M_reads 79 [some (.ref l0), some (.int l1), some (.int l2), none, some (.int l4), none] [.int s0] h (0, 0) (QI K) := by
  unfold wb_M_reads_79 at H
  refine wp_aload_n rfl rfl ?_
  obtain ⟨g29, g30, H⟩ := H
  refine wp_getR rfl rfl g29 g30 ?_
  refine wp_aload_n rfl rfl ?_
  obtain ⟨g27, g28, H⟩ := H
  refine wp_getR rfl rfl g27 g28 ?_
  refine wp_iload_n rfl rfl ?_
  obtain ⟨g26, H⟩ := H
  refine wp_iald rfl g26 ?_
  refine wp_iload rfl rfl ?_
  refine wp_iadd rfl ?_
  obtain ⟨g25, H⟩ := H
  refine wp_iald rfl g25 ?_
  refine wp_icmp_ne rfl (lo1 := [some (.ref l0), some (.int l1), some (.int l2), none, some (.int l4), none]) (lo2 := [some (.ref l0), some (.int l1), some (.int l2), none, some (.int l4), none]) rfl rfl (fun q24 => ?_) (fun q24 => ?_)
  · have H := H.1 q24
    refine wp_iconstk (lo' := [some (.ref l0), some (.int l1), some (.int l2), none, some (.int l4), none]) rfl rfl ?_
    refine wp_istore_n rfl rfl (lo' := [some (.ref l0), some (.int l1), some (.int l2), some (.int (0 : Int32)), some (.int l4), none]) rfl ?_
    refine wp_iinc rfl rfl rfl (lo' := [some (.ref l0), some (.int l1), some (.int l2), some (.int (0 : Int32)), some (.int (l4 + (1 : Int32))), none]) rfl ?_
    refine wp_goto rfl (lo' := [some (.ref l0), some (.int l1), some (.int l2), some (.int (0 : Int32)), some (.int (l4 + (1 : Int32))), none]) rfl ?_
    exact H
  · have H := H.2 q24
    refine wp_iconst rfl ?_
    refine wp_goto rfl (lo' := [some (.ref l0), some (.int l1), some (.int l2), none, some (.int l4), none]) rfl ?_
    refine wp_istore_n rfl rfl (lo' := [some (.ref l0), some (.int l1), some (.int l2), some (.int (1 : Int32)), some (.int l4), none]) rfl ?_
    refine wp_iinc rfl rfl rfl (lo' := [some (.ref l0), some (.int l1), some (.int l2), some (.int (1 : Int32)), some (.int (l4 + (1 : Int32))), none]) rfl ?_
    refine wp_goto rfl (lo' := [some (.ref l0), some (.int l1), some (.int l2), some (.int (1 : Int32)), some (.int (l4 + (1 : Int32))), none]) rfl ?_
    exact H
def wb_M_reads_34 (l0 : Nat) (l1 : Int32) (l2 : Int32) (l3 : Int32) (l4 : Int32) (h : HP) (K : Int32 → HP → Prop) : Prop :=
  isO h l0 10 ∧ 0 < gR h l0 5 ∧ isL h (gR h l0 5) 100 l2 ∧ (gI h (gR h l0 5) l2.toNatClampNeg ≤ l4 → (l3 = 0 ∨ l3 = 1) ∧ K l3 h) ∧ (¬ gI h (gR h l0 5) l2.toNatClampNeg ≤ l4 → (l3 = 0 → (l3 = 0 ∨ l3 = 1) ∧ K l3 h) ∧ (¬ l3 = 0 → isO h l0 10 ∧ 0 < gR h l0 1 ∧ isO h l0 10 ∧ 0 < gR h l0 4 ∧ isL h (gR h l0 4) 100 l1 ∧ isL h (gR h l0 1) 100 ((gI h (gR h l0 4) l1.toNatClampNeg) + l4) ∧ (¬ gI h (gR h l0 1) ((gI h (gR h l0 4) l1.toNatClampNeg) + l4).toNatClampNeg = (46 : Int32) → wb_M_reads_79 l0 l1 l2 l4 (gI h (gR h l0 1) ((gI h (gR h l0 4) l1.toNatClampNeg) + l4).toNatClampNeg) h K) ∧ (gI h (gR h l0 1) ((gI h (gR h l0 4) l1.toNatClampNeg) + l4).toNatClampNeg = (46 : Int32) → wb_M_reads_79 l0 l1 l2 l4 (44 : Int32) h K)))
theorem wb_M_reads_34_ok {l0 : Nat} {l1 : Int32} {l2 : Int32} {l3 : Int32} {l4 : Int32} {h : HP} {K : Int32 → HP → Prop} (H : wb_M_reads_34 l0 l1 l2 l3 l4 h K) : Wp k_M_reads 34 [some (.ref l0), some (.int l1), some (.int l2), some (.int l3), some (.int l4), none] [] h (0, 0) (QI K) := by
  unfold wb_M_reads_34 at H
  refine wp_iload rfl rfl ?_
  refine wp_aload_n rfl rfl ?_
  obtain ⟨g22, g23, H⟩ := H
  refine wp_getR rfl rfl g22 g23 ?_
  refine wp_iload_n rfl rfl ?_
  obtain ⟨g21, H⟩ := H
  refine wp_iald rfl g21 ?_
  refine wp_icmp_ge rfl (lo1 := [none, none, none, some (.int l3), none, none]) (lo2 := [some (.ref l0), some (.int l1), some (.int l2), some (.int l3), some (.int l4), none]) rfl rfl (fun q20 => ?_) (fun q20 => ?_)
  · have H := H.1 q20
    refine wp_iload_n rfl rfl ?_
    exact wp_zret rfl rfl H.1 H.2
  · have H := H.2 q20
    refine wp_iload_n rfl rfl ?_
    refine wp_if_eq rfl (lo1 := [none, none, none, some (.int l3), none, none]) (lo2 := [some (.ref l0), some (.int l1), some (.int l2), some (.int l3), some (.int l4), none]) rfl rfl (fun q19 => ?_) (fun q19 => ?_)
    · have H := H.1 q19
      refine wp_iload_n rfl rfl ?_
      exact wp_zret rfl rfl H.1 H.2
    · have H := H.2 q19
      refine wp_aload_n rfl rfl ?_
      obtain ⟨g17, g18, H⟩ := H
      refine wp_getR rfl rfl g17 g18 ?_
      refine wp_aload_n rfl rfl ?_
      obtain ⟨g15, g16, H⟩ := H
      refine wp_getR rfl rfl g15 g16 ?_
      refine wp_iload_n rfl rfl ?_
      obtain ⟨g14, H⟩ := H
      refine wp_iald rfl g14 ?_
      refine wp_iload rfl rfl ?_
      refine wp_iadd rfl ?_
      obtain ⟨g13, H⟩ := H
      refine wp_iald rfl g13 ?_
      refine wp_istore rfl rfl (lo' := [some (.ref l0), some (.int l1), some (.int l2), some (.int l3), some (.int l4), some (.int (gI h (gR h l0 1) ((gI h (gR h l0 4) l1.toNatClampNeg) + l4).toNatClampNeg))]) rfl ?_
      refine wp_iload rfl rfl ?_
      refine wp_bipush rfl ?_
      refine wp_icmp_ne rfl (lo1 := [some (.ref l0), some (.int l1), some (.int l2), some (.int l3), some (.int l4), some (.int (gI h (gR h l0 1) ((gI h (gR h l0 4) l1.toNatClampNeg) + l4).toNatClampNeg))]) (lo2 := [some (.ref l0), some (.int l1), some (.int l2), some (.int l3), some (.int l4), some (.int (gI h (gR h l0 1) ((gI h (gR h l0 4) l1.toNatClampNeg) + l4).toNatClampNeg))]) rfl rfl (fun q12 => ?_) (fun q12 => ?_)
      · have H := H.1 q12
        refine wp_iloadk (lo' := [some (.ref l0), some (.int l1), some (.int l2), none, some (.int l4), none]) rfl rfl rfl ?_
        exact wb_M_reads_79_ok H
      · have H := H.2 q12
        refine wp_bipush rfl ?_
        refine wp_goto rfl (lo' := [some (.ref l0), some (.int l1), some (.int l2), none, some (.int l4), none]) rfl ?_
        exact wb_M_reads_79_ok H
def wq_M_reads (p0 : Nat) (p1 : Int32) (p2 : Int32) (h : HP) (K : Int32 → HP → Prop) : Prop :=
  isO h p0 10 ∧ 0 < gR h p0 3 ∧ isL h (gR h p0 3) 100 p1 ∧ (¬ gI h (gR h p0 3) p1.toNatClampNeg = (1 : Int32) → Wp k_M_reads 34 [some (.ref p0), some (.int p1), some (.int p2), some (.int (0 : Int32)), some (.int (0 : Int32)), none] [] h (0, 0) (QI K)) ∧ (gI h (gR h p0 3) p1.toNatClampNeg = (1 : Int32) → isO h p0 10 ∧ 0 < gR h p0 5 ∧ isL h (gR h p0 5) 100 p1 ∧ isO h p0 10 ∧ 0 < gR h p0 5 ∧ isL h (gR h p0 5) 100 p2 ∧ (¬ gI h (gR h p0 5) p1.toNatClampNeg = gI h (gR h p0 5) p2.toNatClampNeg → Wp k_M_reads 34 [some (.ref p0), some (.int p1), some (.int p2), some (.int (0 : Int32)), some (.int (0 : Int32)), none] [] h (0, 0) (QI K)) ∧ (gI h (gR h p0 5) p1.toNatClampNeg = gI h (gR h p0 5) p2.toNatClampNeg → Wp k_M_reads 34 [some (.ref p0), some (.int p1), some (.int p2), some (.int (1 : Int32)), some (.int (0 : Int32)), none] [] h (0, 0) (QI K)))
theorem wq_M_reads_ok {p0 : Nat} {p1 : Int32} {p2 : Int32} {h : HP} {K : Int32 → HP → Prop} (H : wq_M_reads p0 p1 p2 h K) : Wp k_M_reads 0 [some (.ref p0), some (.int p1), some (.int p2), none, none, none] [] h (0, 0) (QI K) := by
  unfold wq_M_reads at H
  refine wp_aload_n rfl rfl ?_
  obtain ⟨g10, g11, H⟩ := H
  refine wp_getR rfl rfl g10 g11 ?_
  refine wp_iload_n rfl rfl ?_
  obtain ⟨g9, H⟩ := H
  refine wp_iald rfl g9 ?_
  refine wp_iconst rfl ?_
  refine wp_icmp_ne rfl (lo1 := [some (.ref p0), some (.int p1), some (.int p2), none, none, none]) (lo2 := [some (.ref p0), some (.int p1), some (.int p2), none, none, none]) rfl rfl (fun q8 => ?_) (fun q8 => ?_)
  · have H := H.1 q8
    refine wp_iconstk (lo' := [some (.ref p0), some (.int p1), some (.int p2), none, none, none]) rfl rfl ?_
    refine wp_istore_n rfl rfl (lo' := [some (.ref p0), some (.int p1), some (.int p2), some (.int (0 : Int32)), none, none]) rfl ?_
    refine wp_iconst rfl ?_
    refine wp_istore rfl rfl (lo' := [some (.ref p0), some (.int p1), some (.int p2), some (.int (0 : Int32)), some (.int (0 : Int32)), none]) rfl ?_
    exact H
  · have H := H.2 q8
    refine wp_aload_n rfl rfl ?_
    obtain ⟨g6, g7, H⟩ := H
    refine wp_getR rfl rfl g6 g7 ?_
    refine wp_iload_n rfl rfl ?_
    obtain ⟨g5, H⟩ := H
    refine wp_iald rfl g5 ?_
    refine wp_aload_n rfl rfl ?_
    obtain ⟨g3, g4, H⟩ := H
    refine wp_getR rfl rfl g3 g4 ?_
    refine wp_iload_n rfl rfl ?_
    obtain ⟨g2, H⟩ := H
    refine wp_iald rfl g2 ?_
    refine wp_icmp_ne rfl (lo1 := [some (.ref p0), some (.int p1), some (.int p2), none, none, none]) (lo2 := [some (.ref p0), some (.int p1), some (.int p2), none, none, none]) rfl rfl (fun q1 => ?_) (fun q1 => ?_)
    · have H := H.1 q1
      refine wp_iconstk (lo' := [some (.ref p0), some (.int p1), some (.int p2), none, none, none]) rfl rfl ?_
      refine wp_istore_n rfl rfl (lo' := [some (.ref p0), some (.int p1), some (.int p2), some (.int (0 : Int32)), none, none]) rfl ?_
      refine wp_iconst rfl ?_
      refine wp_istore rfl rfl (lo' := [some (.ref p0), some (.int p1), some (.int p2), some (.int (0 : Int32)), some (.int (0 : Int32)), none]) rfl ?_
      exact H
    · have H := H.2 q1
      refine wp_iconst rfl ?_
      refine wp_goto rfl (lo' := [some (.ref p0), some (.int p1), some (.int p2), none, none, none]) rfl ?_
      refine wp_istore_n rfl rfl (lo' := [some (.ref p0), some (.int p1), some (.int p2), some (.int (1 : Int32)), none, none]) rfl ?_
      refine wp_iconst rfl ?_
      refine wp_istore rfl rfl (lo' := [some (.ref p0), some (.int p1), some (.int p2), some (.int (1 : Int32)), some (.int (0 : Int32)), none]) rfl ?_
      exact H
def wq_M_about (p0 : Nat) (p1 : Int32) (h : HP) (K : Int32 → HP → Prop) : Prop :=
  (¬ p1 = 0 → ¬ p1 = 1 → ¬ p1 = 2 → ¬ p1 = 3 → ¬ p1 = 4 → ¬ p1 = 5 → ¬ p1 = 6 → ¬ p1 = 7 → K (-1 : Int32) h) ∧ (p1 = 0 → isO h p0 10 ∧ K (gI h p0 15) h) ∧ (p1 = 1 → isO h p0 10 ∧ K (gI h p0 19) h) ∧ (p1 = 2 → isO h p0 10 ∧ K (gI h p0 20) h) ∧ (p1 = 3 → isO h p0 10 ∧ K (gI h p0 20) h) ∧ (p1 = 4 → isO h p0 10 ∧ 0 < gR h p0 2 ∧ isL h (gR h p0 2) 100 (0 : Int32) ∧ K (gI h (gR h p0 2) (0 : Int32).toNatClampNeg) h) ∧ (p1 = 5 → isO h p0 10 ∧ K (gI h p0 12) h) ∧ (p1 = 6 → isO h p0 10 ∧ K (gI h p0 13) h) ∧ (p1 = 7 → isO h p0 10 ∧ K (gI h p0 14) h)
theorem wq_M_about_ok {p0 : Nat} {p1 : Int32} {h : HP} {K : Int32 → HP → Prop} (H : wq_M_about p0 p1 h K) : Wp k_M_about 0 [some (.ref p0), some (.int p1)] [] h (0, 0) (QI K) := by
  unfold wq_M_about at H
  refine wp_iload_n rfl rfl ?_
  refine wp_table rfl (lo' := [some (.ref p0), some (.int p1)]) rfl (fun q11 => ?_) (fun i off ho hx => ?_)
  · have H := H.1 (sw_ne q11 (by decide)) (sw_ne q11 (by decide)) (sw_ne q11 (by decide)) (sw_ne q11 (by decide)) (sw_ne q11 (by decide)) (sw_ne q11 (by decide)) (sw_ne q11 (by decide)) (sw_ne q11 (by decide))
    refine wp_iconst rfl ?_
    exact wp_iret rfl rfl H
  · match i, ho, hx with
    | 0, ho, hx =>
      cases ho
      have H := H.2.1 (sw_eq hx (by decide))
      show Wp k_M_about 48 _ _ _ _ _
      refine wp_aload_n rfl rfl ?_
      obtain ⟨g1, H⟩ := H
      refine wp_getI rfl rfl g1 ?_
      exact wp_iret rfl rfl H
    | 1, ho, hx =>
      cases ho
      have H := H.2.2.1 (sw_eq hx (by decide))
      show Wp k_M_about 53 _ _ _ _ _
      refine wp_aload_n rfl rfl ?_
      obtain ⟨g2, H⟩ := H
      refine wp_getI rfl rfl g2 ?_
      exact wp_iret rfl rfl H
    | 2, ho, hx =>
      cases ho
      have H := H.2.2.2.1 (sw_eq hx (by decide))
      show Wp k_M_about 58 _ _ _ _ _
      refine wp_aload_n rfl rfl ?_
      obtain ⟨g3, H⟩ := H
      refine wp_getI rfl rfl g3 ?_
      exact wp_iret rfl rfl H
    | 3, ho, hx =>
      cases ho
      have H := H.2.2.2.2.1 (sw_eq hx (by decide))
      show Wp k_M_about 63 _ _ _ _ _
      refine wp_aload_n rfl rfl ?_
      obtain ⟨g4, H⟩ := H
      refine wp_getI rfl rfl g4 ?_
      exact wp_iret rfl rfl H
    | 4, ho, hx =>
      cases ho
      have H := H.2.2.2.2.2.1 (sw_eq hx (by decide))
      show Wp k_M_about 68 _ _ _ _ _
      refine wp_aload_n rfl rfl ?_
      obtain ⟨g6, g7, H⟩ := H
      refine wp_getR rfl rfl g6 g7 ?_
      refine wp_iconst rfl ?_
      obtain ⟨g5, H⟩ := H
      refine wp_iald rfl g5 ?_
      exact wp_iret rfl rfl H
    | 5, ho, hx =>
      cases ho
      have H := H.2.2.2.2.2.2.1 (sw_eq hx (by decide))
      show Wp k_M_about 75 _ _ _ _ _
      refine wp_aload_n rfl rfl ?_
      obtain ⟨g8, H⟩ := H
      refine wp_getI rfl rfl g8 ?_
      exact wp_iret rfl rfl H
    | 6, ho, hx =>
      cases ho
      have H := H.2.2.2.2.2.2.2.1 (sw_eq hx (by decide))
      show Wp k_M_about 80 _ _ _ _ _
      refine wp_aload_n rfl rfl ?_
      obtain ⟨g9, H⟩ := H
      refine wp_getI rfl rfl g9 ?_
      exact wp_iret rfl rfl H
    | 7, ho, hx =>
      cases ho
      have H := H.2.2.2.2.2.2.2.2 (sw_eq hx (by decide))
      show Wp k_M_about 85 _ _ _ _ _
      refine wp_aload_n rfl rfl ?_
      obtain ⟨g10, H⟩ := H
      refine wp_getI rfl rfl g10 ?_
      exact wp_iret rfl rfl H
    | i + 8, ho, _ => exact absurd ho (by simp)
def wb_Arrays_fill_5 (l0 : Nat) (l1 : Int32) (l2 : Int32) (l3 : Int32) (h : HP) (K : HP → Prop) : Prop :=
  (l3 ≤ l2 → K h) ∧ (¬ l3 ≤ l2 → isA h l0 100 l2 ∧ (∀ h2 : HP, h2 = stI h l0 l2.toNatClampNeg l1 → Wp k_Arrays_fill 5 [some (.ref l0), some (.int l1), some (.int (l2 + (1 : Int32))), some (.int l3)] [] h2 (0, 0) (QV K)))
theorem wb_Arrays_fill_5_ok {l0 : Nat} {l1 : Int32} {l2 : Int32} {l3 : Int32} {h : HP} {K : HP → Prop} (H : wb_Arrays_fill_5 l0 l1 l2 l3 h K) : Wp k_Arrays_fill 5 [some (.ref l0), some (.int l1), some (.int l2), some (.int l3)] [] h (0, 0) (QV K) := by
  unfold wb_Arrays_fill_5 at H
  refine wp_iload_n rfl rfl ?_
  refine wp_iload_n rfl rfl ?_
  refine wp_icmp_ge rfl (lo1 := [some (.ref l0), some (.int l1), some (.int l2), some (.int l3)]) (lo2 := [some (.ref l0), some (.int l1), some (.int l2), some (.int l3)]) rfl rfl (fun q5 => ?_) (fun q5 => ?_)
  · have H := H.1 q5
    exact wp_vret rfl rfl H
  · have H := H.2 q5
    refine wp_aload_n rfl rfl ?_
    refine wp_iload_n rfl rfl ?_
    refine wp_iload_n rfl rfl ?_
    obtain ⟨g3, H⟩ := H
    obtain ⟨h2, e4⟩ : ∃ z : HP, z = stI h l0 l2.toNatClampNeg l1 := ⟨_, rfl⟩
    have H := H h2 e4
    refine wp_iast rfl g3 e4 ?_
    refine wp_iinc rfl rfl rfl (lo' := [some (.ref l0), some (.int l1), some (.int (l2 + (1 : Int32))), some (.int l3)]) rfl ?_
    refine wp_goto rfl (lo' := [some (.ref l0), some (.int l1), some (.int (l2 + (1 : Int32))), some (.int l3)]) rfl ?_
    exact H
def wq_Arrays_fill (p0 : Nat) (p1 : Int32) (h : HP) (K : HP → Prop) : Prop :=
  (p0 < gS h ∧ 100 ≤ gK h p0 ∧ gK h p0 ≤ 105 ∧ (p0 = 0 → gK h p0 = 100)) ∧ Wp k_Arrays_fill 5 [some (.ref p0), some (.int p1), some (.int (0 : Int32)), some (.int (nI (gL h p0)))] [] h (0, 0) (QV K)
theorem wq_Arrays_fill_ok {p0 : Nat} {p1 : Int32} {h : HP} {K : HP → Prop} (H : wq_Arrays_fill p0 p1 h K) : Wp k_Arrays_fill 0 [some (.ref p0), some (.int p1), none, none] [] h (0, 0) (QV K) := by
  unfold wq_Arrays_fill at H
  refine wp_iconst rfl ?_
  refine wp_istore_n rfl rfl (lo' := [some (.ref p0), some (.int p1), some (.int (0 : Int32)), none]) rfl ?_
  refine wp_aload_n rfl rfl ?_
  obtain ⟨g1, H⟩ := H
  refine wp_alen rfl g1 ?_
  refine wp_istore_n rfl rfl (lo' := [some (.ref p0), some (.int p1), some (.int (0 : Int32)), some (.int (nI (gL h p0)))]) rfl ?_
  exact H
def wb_Book_init_35 (l0 : Nat) (l1 : Int32) (h : HP) (bc bs : Nat) (K : HP → Prop) : Prop :=
  ((24 : Int32) ≤ l1 → K h) ∧ (¬ (24 : Int32) ≤ l1 → isO h l0 0 ∧ 0 < gR h l0 1 ∧ (1 ≤ bc ∧ 9 ≤ bs) ∧ (∀ h20 : HP, h20 = nwC h 6 0 → isO h20 l0 0 ∧ 0 < gR h20 l0 0 ∧ (3 ≤ bc - 1 ∧ 1800 ≤ bs - 9) ∧ wq_Row_init (gS h) (gR h20 l0 0) (20 : Int32) h20 (fun h22 => ((gK h22 (gR h l0 1) = 104 ∧ isO h22 (gS h) 6) ∨ (gK h22 (gR h l0 1) = 105 ∧ isO h22 (gS h) 7)) ∧ 0 < gR h l0 1 ∧ gR h l0 1 < gS h22 ∧ vp_in l1 (gL h22 (gR h l0 1)) ∧ (∀ h23 : HP, h23 = stR h22 (gR h l0 1) l1.toNatClampNeg (gS h) → Wp k_Book_init 35 [some (.ref l0), some (.int (l1 + (1 : Int32)))] [] h23 (bc - 1 - 3, bs - 9 - 1800) (QV K)))))
theorem wb_Book_init_35_ok {l0 : Nat} {l1 : Int32} {h : HP} {bc bs : Nat} {K : HP → Prop} (H : wb_Book_init_35 l0 l1 h bc bs K) : Wp k_Book_init 35 [some (.ref l0), some (.int l1)] [] h (bc, bs) (QV K) := by
  unfold wb_Book_init_35 at H
  refine wp_iload_n rfl rfl ?_
  refine wp_bipush rfl ?_
  refine wp_icmp_ge rfl (lo1 := [some (.ref l0), some (.int l1)]) (lo2 := [some (.ref l0), some (.int l1)]) rfl rfl (fun q35 => ?_) (fun q35 => ?_)
  · have H := H.1 q35
    exact wp_vret rfl rfl H
  · have H := H.2 q35
    refine wp_aload_n rfl rfl ?_
    obtain ⟨g33, g34, H⟩ := H
    refine wp_getR rfl rfl g33 g34 ?_
    refine wp_iload_n rfl rfl ?_
    obtain ⟨g32, H⟩ := H
    obtain ⟨h20, e21⟩ : ∃ z : HP, z = nwC h 6 0 := ⟨_, rfl⟩
    have H := H h20 e21
    refine wp_newL (lo' := [some (.ref l0), some (.int l1)]) (bd' := (bc - 1, bs - 9)) rfl g32 rfl rfl e21 ?_
    refine wp_dupR rfl ?_
    refine wp_aload_n rfl rfl ?_
    obtain ⟨g30, g31, H⟩ := H
    refine wp_getR rfl rfl g30 g31 ?_
    refine wp_bipush rfl ?_
    obtain ⟨g29, H⟩ := H
    refine wp_callxV rfl rfl rfl rfl (lo' := [some (.ref l0), some (.int l1)]) rfl ⟨Nat.le_of_ble_eq_true rfl, g29.1, g29.2, Nat.le_of_ble_eq_true rfl⟩ (bd' := (bc - 1 - 3, bs - 9 - 1800)) rfl ?_
    refine (wq_Row_init_ok H).conV (fun h22 H => ?_)
    obtain ⟨g24, g25, g26, g27, H⟩ := H
    obtain ⟨h23, e28⟩ : ∃ z : HP, z = stR h22 (gR h l0 1) l1.toNatClampNeg (gS h) := ⟨_, rfl⟩
    have H := H h23 e28
    refine wp_aast rfl g24 g25 g26 g27 e28 ?_
    refine wp_iinc rfl rfl rfl (lo' := [some (.ref l0), some (.int (l1 + (1 : Int32)))]) rfl ?_
    refine wp_goto rfl (lo' := [some (.ref l0), some (.int (l1 + (1 : Int32)))]) rfl ?_
    exact H
def wq_Book_init (p0 : Nat) (h : HP) (K : HP → Prop) : Prop :=
  ∀ h1 : HP, h1 = nwC h 7 0 → wq_Text_init (gS h) (0 : Int32) h1 (fun h3 => isO h3 p0 0 ∧ 0 < gS h ∧ (∀ h4 : HP, h4 = stR h3 p0 0 (gS h) → ∀ h5 : HP, h5 = nwC h4 104 24 → isO h5 p0 0 ∧ 0 < gS h4 ∧ (∀ h7 : HP, h7 = stR h5 p0 1 (gS h4) → ∀ h8 : HP, h8 = nwC h7 100 24 → isO h8 p0 0 ∧ 0 < gS h7 ∧ (∀ h10 : HP, h10 = stR h8 p0 2 (gS h7) → Wp k_Book_init 35 [some (.ref p0), some (.int (0 : Int32))] [] h10 (96, 43416) (QV K)))))
theorem wq_Book_init_ok {p0 : Nat} {h : HP} {K : HP → Prop} (H : wq_Book_init p0 h K) : Wp k_Book_init 0 [some (.ref p0), none] [] h (100, 44346) (QV K) := by
  unfold wq_Book_init at H
  refine wp_aload_n rfl rfl ?_
  refine wp_objI rfl (Nat.le_of_ble_eq_true rfl) (lo' := [some (.ref p0), none]) rfl ?_
  refine wp_aload_n rfl rfl ?_
  obtain ⟨h1, e2⟩ : ∃ z : HP, z = nwC h 7 0 := ⟨_, rfl⟩
  have H := H h1 e2
  refine wp_newL (lo' := [some (.ref p0), none]) (bd' := (99, 44344)) rfl ⟨by decide, by decide⟩ rfl rfl e2 ?_
  refine wp_dupR rfl ?_
  refine wp_iconst rfl ?_
  refine wp_callxV rfl rfl rfl rfl (lo' := [some (.ref p0), none]) rfl ⟨Nat.le_of_ble_eq_true rfl, Nat.le_of_ble_eq_true rfl, Nat.le_of_ble_eq_true rfl, Nat.le_of_ble_eq_true rfl⟩ (bd' := (98, 43464)) rfl ?_
  refine (wq_Text_init_ok H).conV (fun h3 H => ?_)
  obtain ⟨g17, g18, H⟩ := H
  obtain ⟨h4, e19⟩ : ∃ z : HP, z = stR h3 p0 0 (gS h) := ⟨_, rfl⟩
  have H := H h4 e19
  refine wp_putR rfl rfl g17 g18 e19 ?_
  refine wp_aload_n rfl rfl ?_
  refine wp_bipush rfl ?_
  obtain ⟨h5, e6⟩ : ∃ z : HP, z = nwC h4 104 24 := ⟨_, rfl⟩
  have H := H h5 e6
  refine wp_anewL (N := 24) (lo' := [some (.ref p0), none]) (bd' := (97, 43440)) rfl ⟨by decide, by decide⟩ ⟨by decide, by decide, by decide⟩ rfl rfl e6 ?_
  obtain ⟨g14, g15, H⟩ := H
  obtain ⟨h7, e16⟩ : ∃ z : HP, z = stR h5 p0 1 (gS h4) := ⟨_, rfl⟩
  have H := H h7 e16
  refine wp_putR rfl rfl g14 g15 e16 ?_
  refine wp_aload_n rfl rfl ?_
  refine wp_bipush rfl ?_
  obtain ⟨h8, e9⟩ : ∃ z : HP, z = nwC h7 100 24 := ⟨_, rfl⟩
  have H := H h8 e9
  refine wp_newaL (N := 24) (lo' := [some (.ref p0), none]) (bd' := (96, 43416)) rfl ⟨by decide, by decide⟩ ⟨by decide, by decide, by decide⟩ rfl rfl e9 ?_
  obtain ⟨g11, g12, H⟩ := H
  obtain ⟨h10, e13⟩ : ∃ z : HP, z = stR h8 p0 2 (gS h7) := ⟨_, rfl⟩
  have H := H h10 e13
  refine wp_putR rfl rfl g11 g12 e13 ?_
  refine wp_iconst rfl ?_
  refine wp_istore_n rfl rfl (lo' := [some (.ref p0), some (.int (0 : Int32))]) rfl ?_
  exact H
def wq_Book_isBlankOrEnd (p0 : Nat) (p1 : Int32) (h : HP) (K : Int32 → HP → Prop) : Prop :=
  isO h p0 7 ∧ (gI h p0 1 ≤ p1 → K (1 : Int32) h) ∧ (¬ gI h p0 1 ≤ p1 → isO h p0 7 ∧ wq_Text_at p0 p1 h (fun v2 h1 => (¬ v2 = (32 : Int32) → K (0 : Int32) h1) ∧ (v2 = (32 : Int32) → K (1 : Int32) h1)))
theorem wq_Book_isBlankOrEnd_ok {p0 : Nat} {p1 : Int32} {h : HP} {K : Int32 → HP → Prop} (H : wq_Book_isBlankOrEnd p0 p1 h K) : Wp k_Book_isBlankOrEnd 0 [some (.ref p0), some (.int p1)] [] h (0, 0) (QI K) := by
  unfold wq_Book_isBlankOrEnd at H
  refine wp_iload_n rfl rfl ?_
  refine wp_aload_n rfl rfl ?_
  obtain ⟨g6, H⟩ := H
  refine wp_getI rfl rfl g6 ?_
  refine wp_icmp_ge rfl (lo1 := [none, none]) (lo2 := [some (.ref p0), some (.int p1)]) rfl rfl (fun q5 => ?_) (fun q5 => ?_)
  · have H := H.1 q5
    refine wp_iconst rfl ?_
    refine wp_goto rfl (lo' := [none, none]) rfl ?_
    exact wp_zret rfl rfl (by decide) H
  · have H := H.2 q5
    refine wp_aload_n rfl rfl ?_
    refine wp_iload_n rfl rfl ?_
    obtain ⟨g4, H⟩ := H
    refine wp_callvI rfl rfl (Or.inl rfl) (lo' := [some (.ref p0), some (.int p1)]) rfl g4 ⟨Nat.le_of_ble_eq_true rfl, Nat.le_of_ble_eq_true rfl, Nat.le_of_ble_eq_true rfl, Nat.le_of_ble_eq_true rfl⟩ (bd' := (0, 0)) rfl ?_
    refine (wq_Text_at_ok H).conI (fun v2 h1 H => ?_)
    refine wp_bipush rfl ?_
    refine wp_icmp_ne rfl (lo1 := [some (.ref p0), some (.int p1)]) (lo2 := [none, none]) rfl rfl (fun q3 => ?_) (fun q3 => ?_)
    · have H := H.1 q3
      refine wp_iconstk (lo' := [none, none]) rfl rfl ?_
      exact wp_zret rfl rfl (by decide) H
    · have H := H.2 q3
      refine wp_iconst rfl ?_
      refine wp_goto rfl (lo' := [none, none]) rfl ?_
      exact wp_zret rfl rfl (by decide) H
def wb_Memory_init_57 (l0 : Nat) (l1 : Int32) (h : HP) (bc bs : Nat) (K : HP → Prop) : Prop :=
  ((20 : Int32) ≤ l1 → Wp k_Memory_init 106 [some (.ref l0), some (.int (0 : Int32))] [] h (bc, bs) (QV K)) ∧ (¬ (20 : Int32) ≤ l1 → isO h l0 2 ∧ 0 < gR h l0 0 ∧ (1 ≤ bc ∧ 2 ≤ bs) ∧ (∀ h37 : HP, h37 = nwC h 7 0 → (1 ≤ bc - 1 ∧ 880 ≤ bs - 2) ∧ wq_Text_init (gS h) (0 : Int32) h37 (fun h39 => ((gK h39 (gR h l0 0) = 104 ∧ isO h39 (gS h) 6) ∨ (gK h39 (gR h l0 0) = 105 ∧ isO h39 (gS h) 7)) ∧ 0 < gR h l0 0 ∧ gR h l0 0 < gS h39 ∧ vp_in l1 (gL h39 (gR h l0 0)) ∧ (∀ h40 : HP, h40 = stR h39 (gR h l0 0) l1.toNatClampNeg (gS h) → isO h40 l0 2 ∧ 0 < gR h40 l0 1 ∧ (1 ≤ bc - 1 - 1 ∧ 9 ≤ bs - 2 - 880) ∧ (∀ h41 : HP, h41 = nwC h40 6 0 → isO h41 l0 2 ∧ 0 < gR h41 l0 0 ∧ 0 < gR h41 l0 0 ∧ gR h41 l0 0 < gS h41 ∧ (gK h41 (gR h41 l0 0) = 104 ∨ gK h41 (gR h41 l0 0) = 105) ∧ vp_in l1 (gL h41 (gR h41 l0 0)) ∧ 0 < gR h41 (gR h41 l0 0) l1.toNatClampNeg ∧ (3 ≤ bc - 1 - 1 - 1 ∧ 1800 ≤ bs - 2 - 880 - 9) ∧ wq_Row_init (gS h40) (gR h41 (gR h41 l0 0) l1.toNatClampNeg) (20 : Int32) h41 (fun h43 => ((gK h43 (gR h40 l0 1) = 104 ∧ isO h43 (gS h40) 6) ∨ (gK h43 (gR h40 l0 1) = 105 ∧ isO h43 (gS h40) 7)) ∧ 0 < gR h40 l0 1 ∧ gR h40 l0 1 < gS h43 ∧ vp_in l1 (gL h43 (gR h40 l0 1)) ∧ (∀ h44 : HP, h44 = stR h43 (gR h40 l0 1) l1.toNatClampNeg (gS h40) → Wp k_Memory_init 57 [some (.ref l0), some (.int (l1 + (1 : Int32)))] [] h44 (bc - 1 - 1 - 1 - 3, bs - 2 - 880 - 9 - 1800) (QV K))))))))
theorem wb_Memory_init_57_ok {l0 : Nat} {l1 : Int32} {h : HP} {bc bs : Nat} {K : HP → Prop} (H : wb_Memory_init_57 l0 l1 h bc bs K) : Wp k_Memory_init 57 [some (.ref l0), some (.int l1)] [] h (bc, bs) (QV K) := by
  unfold wb_Memory_init_57 at H
  refine wp_iload_n rfl rfl ?_
  refine wp_bipush rfl ?_
  refine wp_icmp_ge rfl (lo1 := [some (.ref l0), some (.int l1)]) (lo2 := [some (.ref l0), some (.int l1)]) rfl rfl (fun q70 => ?_) (fun q70 => ?_)
  · have H := H.1 q70
    refine wp_iconst rfl ?_
    refine wp_istore_n rfl rfl (lo' := [some (.ref l0), some (.int (0 : Int32))]) rfl ?_
    exact H
  · have H := H.2 q70
    refine wp_aload_n rfl rfl ?_
    obtain ⟨g68, g69, H⟩ := H
    refine wp_getR rfl rfl g68 g69 ?_
    refine wp_iload_n rfl rfl ?_
    obtain ⟨g67, H⟩ := H
    obtain ⟨h37, e38⟩ : ∃ z : HP, z = nwC h 7 0 := ⟨_, rfl⟩
    have H := H h37 e38
    refine wp_newL (lo' := [some (.ref l0), some (.int l1)]) (bd' := (bc - 1, bs - 2)) rfl g67 rfl rfl e38 ?_
    refine wp_dupR rfl ?_
    refine wp_iconst rfl ?_
    obtain ⟨g66, H⟩ := H
    refine wp_callxV rfl rfl rfl rfl (lo' := [some (.ref l0), some (.int l1)]) rfl ⟨Nat.le_of_ble_eq_true rfl, g66.1, g66.2, Nat.le_of_ble_eq_true rfl⟩ (bd' := (bc - 1 - 1, bs - 2 - 880)) rfl ?_
    refine (wq_Text_init_ok H).conV (fun h39 H => ?_)
    obtain ⟨g61, g62, g63, g64, H⟩ := H
    obtain ⟨h40, e65⟩ : ∃ z : HP, z = stR h39 (gR h l0 0) l1.toNatClampNeg (gS h) := ⟨_, rfl⟩
    have H := H h40 e65
    refine wp_aast rfl g61 g62 g63 g64 e65 ?_
    refine wp_aload_n rfl rfl ?_
    obtain ⟨g59, g60, H⟩ := H
    refine wp_getR rfl rfl g59 g60 ?_
    refine wp_iload_n rfl rfl ?_
    obtain ⟨g58, H⟩ := H
    obtain ⟨h41, e42⟩ : ∃ z : HP, z = nwC h40 6 0 := ⟨_, rfl⟩
    have H := H h41 e42
    refine wp_newL (lo' := [some (.ref l0), some (.int l1)]) (bd' := (bc - 1 - 1 - 1, bs - 2 - 880 - 9)) rfl g58 rfl rfl e42 ?_
    refine wp_dupR rfl ?_
    refine wp_aload_n rfl rfl ?_
    obtain ⟨g56, g57, H⟩ := H
    refine wp_getR rfl rfl g56 g57 ?_
    refine wp_iload_n rfl rfl ?_
    obtain ⟨g51, g52, g53, g54, g55, H⟩ := H
    refine wp_aald rfl g51 g52 g53 g54 g55 ?_
    refine wp_bipush rfl ?_
    obtain ⟨g50, H⟩ := H
    refine wp_callxV rfl rfl rfl rfl (lo' := [some (.ref l0), some (.int l1)]) rfl ⟨Nat.le_of_ble_eq_true rfl, g50.1, g50.2, Nat.le_of_ble_eq_true rfl⟩ (bd' := (bc - 1 - 1 - 1 - 3, bs - 2 - 880 - 9 - 1800)) rfl ?_
    refine (wq_Row_init_ok H).conV (fun h43 H => ?_)
    obtain ⟨g45, g46, g47, g48, H⟩ := H
    obtain ⟨h44, e49⟩ : ∃ z : HP, z = stR h43 (gR h40 l0 1) l1.toNatClampNeg (gS h40) := ⟨_, rfl⟩
    have H := H h44 e49
    refine wp_aast rfl g45 g46 g47 g48 e49 ?_
    refine wp_iinc rfl rfl rfl (lo' := [some (.ref l0), some (.int (l1 + (1 : Int32)))]) rfl ?_
    refine wp_goto rfl (lo' := [some (.ref l0), some (.int (l1 + (1 : Int32)))]) rfl ?_
    exact H
def wb_Memory_init_106 (l0 : Nat) (l1 : Int32) (h : HP) (bc bs : Nat) (K : HP → Prop) : Prop :=
  ((40 : Int32) ≤ l1 → K h) ∧ (¬ (40 : Int32) ≤ l1 → isO h l0 2 ∧ 0 < gR h l0 3 ∧ (1 ≤ bc ∧ 2 ≤ bs) ∧ (∀ h71 : HP, h71 = nwC h 7 0 → (1 ≤ bc - 1 ∧ 880 ≤ bs - 2) ∧ wq_Text_init (gS h) (0 : Int32) h71 (fun h73 => ((gK h73 (gR h l0 3) = 104 ∧ isO h73 (gS h) 6) ∨ (gK h73 (gR h l0 3) = 105 ∧ isO h73 (gS h) 7)) ∧ 0 < gR h l0 3 ∧ gR h l0 3 < gS h73 ∧ vp_in l1 (gL h73 (gR h l0 3)) ∧ (∀ h74 : HP, h74 = stR h73 (gR h l0 3) l1.toNatClampNeg (gS h) → Wp k_Memory_init 106 [some (.ref l0), some (.int (l1 + (1 : Int32)))] [] h74 (bc - 1 - 1, bs - 2 - 880) (QV K)))))
theorem wb_Memory_init_106_ok {l0 : Nat} {l1 : Int32} {h : HP} {bc bs : Nat} {K : HP → Prop} (H : wb_Memory_init_106 l0 l1 h bc bs K) : Wp k_Memory_init 106 [some (.ref l0), some (.int l1)] [] h (bc, bs) (QV K) := by
  unfold wb_Memory_init_106 at H
  refine wp_iload_n rfl rfl ?_
  refine wp_bipush rfl ?_
  refine wp_icmp_ge rfl (lo1 := [some (.ref l0), some (.int l1)]) (lo2 := [some (.ref l0), some (.int l1)]) rfl rfl (fun q84 => ?_) (fun q84 => ?_)
  · have H := H.1 q84
    exact wp_vret rfl rfl H
  · have H := H.2 q84
    refine wp_aload_n rfl rfl ?_
    obtain ⟨g82, g83, H⟩ := H
    refine wp_getR rfl rfl g82 g83 ?_
    refine wp_iload_n rfl rfl ?_
    obtain ⟨g81, H⟩ := H
    obtain ⟨h71, e72⟩ : ∃ z : HP, z = nwC h 7 0 := ⟨_, rfl⟩
    have H := H h71 e72
    refine wp_newL (lo' := [some (.ref l0), some (.int l1)]) (bd' := (bc - 1, bs - 2)) rfl g81 rfl rfl e72 ?_
    refine wp_dupR rfl ?_
    refine wp_iconst rfl ?_
    obtain ⟨g80, H⟩ := H
    refine wp_callxV rfl rfl rfl rfl (lo' := [some (.ref l0), some (.int l1)]) rfl ⟨Nat.le_of_ble_eq_true rfl, g80.1, g80.2, Nat.le_of_ble_eq_true rfl⟩ (bd' := (bc - 1 - 1, bs - 2 - 880)) rfl ?_
    refine (wq_Text_init_ok H).conV (fun h73 H => ?_)
    obtain ⟨g75, g76, g77, g78, H⟩ := H
    obtain ⟨h74, e79⟩ : ∃ z : HP, z = stR h73 (gR h l0 3) l1.toNatClampNeg (gS h) := ⟨_, rfl⟩
    have H := H h74 e79
    refine wp_aast rfl g75 g76 g77 g78 e79 ?_
    refine wp_iinc rfl rfl rfl (lo' := [some (.ref l0), some (.int (l1 + (1 : Int32)))]) rfl ?_
    refine wp_goto rfl (lo' := [some (.ref l0), some (.int (l1 + (1 : Int32)))]) rfl ?_
    exact H
def wq_Memory_init (p0 : Nat) (h : HP) (K : HP → Prop) : Prop :=
  ∀ h1 : HP, h1 = nwC h 105 20 → isO h1 p0 2 ∧ 0 < gS h ∧ (∀ h3 : HP, h3 = stR h1 p0 0 (gS h) → ∀ h4 : HP, h4 = nwC h3 104 20 → isO h4 p0 2 ∧ 0 < gS h3 ∧ (∀ h6 : HP, h6 = stR h4 p0 1 (gS h3) → ∀ h7 : HP, h7 = nwC h6 100 20 → isO h7 p0 2 ∧ 0 < gS h6 ∧ (∀ h9 : HP, h9 = stR h7 p0 2 (gS h6) → ∀ h10 : HP, h10 = nwC h9 105 40 → isO h10 p0 2 ∧ 0 < gS h9 ∧ (∀ h12 : HP, h12 = stR h10 p0 3 (gS h9) → ∀ h13 : HP, h13 = nwC h12 100 40 → isO h13 p0 2 ∧ 0 < gS h12 ∧ (∀ h15 : HP, h15 = stR h13 p0 4 (gS h12) → ∀ h16 : HP, h16 = nwC h15 100 40 → isO h16 p0 2 ∧ 0 < gS h15 ∧ (∀ h18 : HP, h18 = stR h16 p0 5 (gS h15) → Wp k_Memory_init 57 [some (.ref p0), some (.int (0 : Int32))] [] h18 (200, 89100) (QV K)))))))
theorem wq_Memory_init_ok {p0 : Nat} {h : HP} {K : HP → Prop} (H : wq_Memory_init p0 h K) : Wp k_Memory_init 0 [some (.ref p0), none] [] h (206, 89280) (QV K) := by
  unfold wq_Memory_init at H
  refine wp_aload_n rfl rfl ?_
  refine wp_objI rfl (Nat.le_of_ble_eq_true rfl) (lo' := [some (.ref p0), none]) rfl ?_
  refine wp_aload_n rfl rfl ?_
  refine wp_bipush rfl ?_
  obtain ⟨h1, e2⟩ : ∃ z : HP, z = nwC h 105 20 := ⟨_, rfl⟩
  have H := H h1 e2
  refine wp_anewL (N := 20) (lo' := [some (.ref p0), none]) (bd' := (205, 89260)) rfl ⟨by decide, by decide⟩ ⟨by decide, by decide, by decide⟩ rfl rfl e2 ?_
  obtain ⟨g34, g35, H⟩ := H
  obtain ⟨h3, e36⟩ : ∃ z : HP, z = stR h1 p0 0 (gS h) := ⟨_, rfl⟩
  have H := H h3 e36
  refine wp_putR rfl rfl g34 g35 e36 ?_
  refine wp_aload_n rfl rfl ?_
  refine wp_bipush rfl ?_
  obtain ⟨h4, e5⟩ : ∃ z : HP, z = nwC h3 104 20 := ⟨_, rfl⟩
  have H := H h4 e5
  refine wp_anewL (N := 20) (lo' := [some (.ref p0), none]) (bd' := (204, 89240)) rfl ⟨by decide, by decide⟩ ⟨by decide, by decide, by decide⟩ rfl rfl e5 ?_
  obtain ⟨g31, g32, H⟩ := H
  obtain ⟨h6, e33⟩ : ∃ z : HP, z = stR h4 p0 1 (gS h3) := ⟨_, rfl⟩
  have H := H h6 e33
  refine wp_putR rfl rfl g31 g32 e33 ?_
  refine wp_aload_n rfl rfl ?_
  refine wp_bipush rfl ?_
  obtain ⟨h7, e8⟩ : ∃ z : HP, z = nwC h6 100 20 := ⟨_, rfl⟩
  have H := H h7 e8
  refine wp_newaL (N := 20) (lo' := [some (.ref p0), none]) (bd' := (203, 89220)) rfl ⟨by decide, by decide⟩ ⟨by decide, by decide, by decide⟩ rfl rfl e8 ?_
  obtain ⟨g28, g29, H⟩ := H
  obtain ⟨h9, e30⟩ : ∃ z : HP, z = stR h7 p0 2 (gS h6) := ⟨_, rfl⟩
  have H := H h9 e30
  refine wp_putR rfl rfl g28 g29 e30 ?_
  refine wp_aload_n rfl rfl ?_
  refine wp_bipush rfl ?_
  obtain ⟨h10, e11⟩ : ∃ z : HP, z = nwC h9 105 40 := ⟨_, rfl⟩
  have H := H h10 e11
  refine wp_anewL (N := 40) (lo' := [some (.ref p0), none]) (bd' := (202, 89180)) rfl ⟨by decide, by decide⟩ ⟨by decide, by decide, by decide⟩ rfl rfl e11 ?_
  obtain ⟨g25, g26, H⟩ := H
  obtain ⟨h12, e27⟩ : ∃ z : HP, z = stR h10 p0 3 (gS h9) := ⟨_, rfl⟩
  have H := H h12 e27
  refine wp_putR rfl rfl g25 g26 e27 ?_
  refine wp_aload_n rfl rfl ?_
  refine wp_bipush rfl ?_
  obtain ⟨h13, e14⟩ : ∃ z : HP, z = nwC h12 100 40 := ⟨_, rfl⟩
  have H := H h13 e14
  refine wp_newaL (N := 40) (lo' := [some (.ref p0), none]) (bd' := (201, 89140)) rfl ⟨by decide, by decide⟩ ⟨by decide, by decide, by decide⟩ rfl rfl e14 ?_
  obtain ⟨g22, g23, H⟩ := H
  obtain ⟨h15, e24⟩ : ∃ z : HP, z = stR h13 p0 4 (gS h12) := ⟨_, rfl⟩
  have H := H h15 e24
  refine wp_putR rfl rfl g22 g23 e24 ?_
  refine wp_aload_n rfl rfl ?_
  refine wp_bipush rfl ?_
  obtain ⟨h16, e17⟩ : ∃ z : HP, z = nwC h15 100 40 := ⟨_, rfl⟩
  have H := H h16 e17
  refine wp_newaL (N := 40) (lo' := [some (.ref p0), none]) (bd' := (200, 89100)) rfl ⟨by decide, by decide⟩ ⟨by decide, by decide, by decide⟩ rfl rfl e17 ?_
  obtain ⟨g19, g20, H⟩ := H
  obtain ⟨h18, e21⟩ : ∃ z : HP, z = stR h16 p0 5 (gS h15) := ⟨_, rfl⟩
  have H := H h18 e21
  refine wp_putR rfl rfl g19 g20 e21 ?_
  refine wp_iconst rfl ?_
  refine wp_istore_n rfl rfl (lo' := [some (.ref p0), some (.int (0 : Int32))]) rfl ?_
  exact H
def wq_Memory_addRendering (p0 : Nat) (p1 : Int32) (p2 : Nat) (p3 : Int32) (h : HP) (K : HP → Prop) : Prop :=
  isO h p0 2 ∧ 0 < gR h p0 3 ∧ isO h p0 2 ∧ 0 < gR h p0 3 ∧ gR h p0 3 < gS h ∧ (gK h (gR h p0 3) = 104 ∨ gK h (gR h p0 3) = 105) ∧ vp_in (gI h p0 7) (gL h (gR h p0 3)) ∧ 0 < gR h (gR h p0 3) (gI h p0 7).toNatClampNeg ∧ isO h p2 7 ∧ isO h (gR h (gR h p0 3) (gI h p0 7).toNatClampNeg) 7 ∧ wq_Text_take (gR h (gR h p0 3) (gI h p0 7).toNatClampNeg) p2 (0 : Int32) (gI h p2 1) h (fun h1 => isO h1 p0 2 ∧ 0 < gR h1 p0 4 ∧ isO h1 p0 2 ∧ isA h1 (gR h1 p0 4) 100 (gI h1 p0 7) ∧ (∀ h2 : HP, h2 = stI h1 (gR h1 p0 4) (gI h1 p0 7).toNatClampNeg p1 → isO h2 p0 2 ∧ 0 < gR h2 p0 5 ∧ isO h2 p0 2 ∧ isA h2 (gR h2 p0 5) 100 (gI h2 p0 7) ∧ (∀ h3 : HP, h3 = stI h2 (gR h2 p0 5) (gI h2 p0 7).toNatClampNeg p3 → isO h3 p0 2 ∧ 0 < gR h3 p0 2 ∧ isO h3 p0 2 ∧ isA h3 (gR h3 p0 2) 100 p1 ∧ (∀ h4 : HP, h4 = stI h3 (gR h3 p0 2) p1.toNatClampNeg (gI h3 p0 7) → isO h4 p0 2 ∧ isO h4 p0 2 ∧ (∀ h5 : HP, h5 = stI h4 p0 7 ((gI h4 p0 7) + (1 : Int32)) → K h5)))))
theorem wq_Memory_addRendering_ok {p0 : Nat} {p1 : Int32} {p2 : Nat} {p3 : Int32} {h : HP} {K : HP → Prop} (H : wq_Memory_addRendering p0 p1 p2 p3 h K) : Wp k_Memory_addRendering 0 [some (.ref p0), some (.int p1), some (.ref p2), some (.int p3)] [] h (1, 640) (QV K) := by
  unfold wq_Memory_addRendering at H
  refine wp_aload_n rfl rfl ?_
  obtain ⟨g32, g33, H⟩ := H
  refine wp_getR rfl rfl g32 g33 ?_
  refine wp_aload_n rfl rfl ?_
  obtain ⟨g31, H⟩ := H
  refine wp_getI rfl rfl g31 ?_
  obtain ⟨g26, g27, g28, g29, g30, H⟩ := H
  refine wp_aald rfl g26 g27 g28 g29 g30 ?_
  refine wp_aload_n rfl rfl ?_
  refine wp_iconst rfl ?_
  refine wp_aload_n rfl rfl ?_
  obtain ⟨g25, H⟩ := H
  refine wp_getI rfl rfl g25 ?_
  obtain ⟨g24, H⟩ := H
  refine wp_callvV rfl rfl rfl (lo' := [some (.ref p0), some (.int p1), some (.ref p2), some (.int p3)]) rfl g24 ⟨Nat.le_of_ble_eq_true rfl, Nat.le_of_ble_eq_true rfl, Nat.le_of_ble_eq_true rfl, Nat.le_of_ble_eq_true rfl⟩ (bd' := (0, 0)) rfl ?_
  refine (wq_Text_take_ok H).conV (fun h1 H => ?_)
  refine wp_aload_n rfl rfl ?_
  obtain ⟨g22, g23, H⟩ := H
  refine wp_getR rfl rfl g22 g23 ?_
  refine wp_aload_n rfl rfl ?_
  obtain ⟨g21, H⟩ := H
  refine wp_getI rfl rfl g21 ?_
  refine wp_iload_n rfl rfl ?_
  obtain ⟨g19, H⟩ := H
  obtain ⟨h2, e20⟩ : ∃ z : HP, z = stI h1 (gR h1 p0 4) (gI h1 p0 7).toNatClampNeg p1 := ⟨_, rfl⟩
  have H := H h2 e20
  refine wp_iast rfl g19 e20 ?_
  refine wp_aload_n rfl rfl ?_
  obtain ⟨g17, g18, H⟩ := H
  refine wp_getR rfl rfl g17 g18 ?_
  refine wp_aload_n rfl rfl ?_
  obtain ⟨g16, H⟩ := H
  refine wp_getI rfl rfl g16 ?_
  refine wp_iload_n rfl rfl ?_
  obtain ⟨g14, H⟩ := H
  obtain ⟨h3, e15⟩ : ∃ z : HP, z = stI h2 (gR h2 p0 5) (gI h2 p0 7).toNatClampNeg p3 := ⟨_, rfl⟩
  have H := H h3 e15
  refine wp_iast rfl g14 e15 ?_
  refine wp_aload_n rfl rfl ?_
  obtain ⟨g12, g13, H⟩ := H
  refine wp_getR rfl rfl g12 g13 ?_
  refine wp_iload_n rfl rfl ?_
  refine wp_aload_n rfl rfl ?_
  obtain ⟨g11, H⟩ := H
  refine wp_getI rfl rfl g11 ?_
  obtain ⟨g9, H⟩ := H
  obtain ⟨h4, e10⟩ : ∃ z : HP, z = stI h3 (gR h3 p0 2) p1.toNatClampNeg (gI h3 p0 7) := ⟨_, rfl⟩
  have H := H h4 e10
  refine wp_iast rfl g9 e10 ?_
  refine wp_aload_n rfl rfl ?_
  refine wp_dupR rfl ?_
  obtain ⟨g8, H⟩ := H
  refine wp_getI rfl rfl g8 ?_
  refine wp_iconst rfl ?_
  refine wp_iadd rfl ?_
  obtain ⟨g6, H⟩ := H
  obtain ⟨h5, e7⟩ : ∃ z : HP, z = stI h4 p0 7 ((gI h4 p0 7) + (1 : Int32)) := ⟨_, rfl⟩
  have H := H h5 e7
  refine wp_putI rfl rfl g6 e7 ?_
  exact wp_vret rfl rfl H
def wq_Memory_takeBack (p0 : Nat) (h : HP) (K : Int32 → HP → Prop) : Prop :=
  isO h p0 2 ∧ isO h p0 2 ∧ (∀ h1 : HP, h1 = stI h p0 7 ((gI h p0 7) - (1 : Int32)) → isO h1 p0 2 ∧ 0 < gR h1 p0 4 ∧ isO h1 p0 2 ∧ isL h1 (gR h1 p0 4) 100 (gI h1 p0 7) ∧ isO h1 p0 2 ∧ isO h1 p0 2 ∧ wq_Memory_renderingAt p0 (gI h1 (gR h1 p0 4) (gI h1 p0 7).toNatClampNeg) (gI h1 p0 7) h1 (fun v3 h2 => (0 ≤ v3 → isO h2 p0 2 ∧ 0 < gR h2 p0 2 ∧ isA h2 (gR h2 p0 2) 100 (gI h1 (gR h1 p0 4) (gI h1 p0 7).toNatClampNeg) ∧ (∀ h4 : HP, h4 = stI h2 (gR h2 p0 2) (gI h1 (gR h1 p0 4) (gI h1 p0 7).toNatClampNeg).toNatClampNeg v3 → K (gI h1 (gR h1 p0 4) (gI h1 p0 7).toNatClampNeg) h4)) ∧ (¬ 0 ≤ v3 → isO h2 p0 2 ∧ isO h2 p0 2 ∧ (∀ h9 : HP, h9 = stI h2 p0 6 ((gI h2 p0 6) - (1 : Int32)) → K (gI h1 (gR h1 p0 4) (gI h1 p0 7).toNatClampNeg) h9))))
theorem wq_Memory_takeBack_ok {p0 : Nat} {h : HP} {K : Int32 → HP → Prop} (H : wq_Memory_takeBack p0 h K) : Wp k_Memory_takeBack 0 [some (.ref p0), none, none] [] h (0, 0) (QI K) := by
  unfold wq_Memory_takeBack at H
  refine wp_aload_n rfl rfl ?_
  refine wp_dupR rfl ?_
  obtain ⟨g22, H⟩ := H
  refine wp_getI rfl rfl g22 ?_
  refine wp_iconst rfl ?_
  refine wp_isub rfl ?_
  obtain ⟨g20, H⟩ := H
  obtain ⟨h1, e21⟩ : ∃ z : HP, z = stI h p0 7 ((gI h p0 7) - (1 : Int32)) := ⟨_, rfl⟩
  have H := H h1 e21
  refine wp_putI rfl rfl g20 e21 ?_
  refine wp_aload_n rfl rfl ?_
  obtain ⟨g18, g19, H⟩ := H
  refine wp_getR rfl rfl g18 g19 ?_
  refine wp_aload_n rfl rfl ?_
  obtain ⟨g17, H⟩ := H
  refine wp_getI rfl rfl g17 ?_
  obtain ⟨g16, H⟩ := H
  refine wp_iald rfl g16 ?_
  refine wp_istore_n rfl rfl (lo' := [some (.ref p0), some (.int (gI h1 (gR h1 p0 4) (gI h1 p0 7).toNatClampNeg)), none]) rfl ?_
  refine wp_aload_n rfl rfl ?_
  refine wp_iload_n rfl rfl ?_
  refine wp_aload_n rfl rfl ?_
  obtain ⟨g15, H⟩ := H
  refine wp_getI rfl rfl g15 ?_
  obtain ⟨g14, H⟩ := H
  refine wp_callvI rfl rfl (Or.inl rfl) (lo' := [some (.ref p0), some (.int (gI h1 (gR h1 p0 4) (gI h1 p0 7).toNatClampNeg)), none]) rfl g14 ⟨Nat.le_of_ble_eq_true rfl, Nat.le_of_ble_eq_true rfl, Nat.le_of_ble_eq_true rfl, Nat.le_of_ble_eq_true rfl⟩ (bd' := (0, 0)) rfl ?_
  refine (wq_Memory_renderingAt_ok H).conI (fun v3 h2 H => ?_)
  refine wp_istore_n rfl rfl (lo' := [some (.ref p0), some (.int (gI h1 (gR h1 p0 4) (gI h1 p0 7).toNatClampNeg)), some (.int v3)]) rfl ?_
  refine wp_iload_n rfl rfl ?_
  refine wp_if_ge rfl (lo1 := [some (.ref p0), some (.int (gI h1 (gR h1 p0 4) (gI h1 p0 7).toNatClampNeg)), some (.int v3)]) (lo2 := [some (.ref p0), some (.int (gI h1 (gR h1 p0 4) (gI h1 p0 7).toNatClampNeg)), some (.int v3)]) rfl rfl (fun q13 => ?_) (fun q13 => ?_)
  · have H := H.1 q13
    refine wp_aload_n rfl rfl ?_
    obtain ⟨g7, g8, H⟩ := H
    refine wp_getR rfl rfl g7 g8 ?_
    refine wp_iload_n rfl rfl ?_
    refine wp_iload_n rfl rfl ?_
    obtain ⟨g5, H⟩ := H
    obtain ⟨h4, e6⟩ : ∃ z : HP, z = stI h2 (gR h2 p0 2) (gI h1 (gR h1 p0 4) (gI h1 p0 7).toNatClampNeg).toNatClampNeg v3 := ⟨_, rfl⟩
    have H := H h4 e6
    refine wp_iastk (lo' := [none, some (.int (gI h1 (gR h1 p0 4) (gI h1 p0 7).toNatClampNeg)), none]) rfl rfl g5 e6 ?_
    refine wp_iload_n rfl rfl ?_
    exact wp_iret rfl rfl H
  · have H := H.2 q13
    refine wp_aload_n rfl rfl ?_
    refine wp_dupR rfl ?_
    obtain ⟨g12, H⟩ := H
    refine wp_getI rfl rfl g12 ?_
    refine wp_iconst rfl ?_
    refine wp_isub rfl ?_
    obtain ⟨g10, H⟩ := H
    obtain ⟨h9, e11⟩ : ∃ z : HP, z = stI h2 p0 6 ((gI h2 p0 6) - (1 : Int32)) := ⟨_, rfl⟩
    have H := H h9 e11
    refine wp_putI rfl rfl g10 e11 ?_
    refine wp_goto rfl (lo' := [none, some (.int (gI h1 (gR h1 p0 4) (gI h1 p0 7).toNatClampNeg)), none]) rfl ?_
    refine wp_iload_n rfl rfl ?_
    exact wp_iret rfl rfl H
def wq_Near_forgetAll (p0 : Nat) (h : HP) (K : HP → Prop) : Prop :=
  isO h p0 3 ∧ 0 < gR h p0 0 ∧ wq_Arrays_fill (gR h p0 0) (-1 : Int32) h (fun h1 => K h1)
theorem wq_Near_forgetAll_ok {p0 : Nat} {h : HP} {K : HP → Prop} (H : wq_Near_forgetAll p0 h K) : Wp k_Near_forgetAll 0 [some (.ref p0)] [] h (0, 0) (QV K) := by
  unfold wq_Near_forgetAll at H
  refine wp_aload_n rfl rfl ?_
  obtain ⟨g2, g3, H⟩ := H
  refine wp_getR rfl rfl g2 g3 ?_
  refine wp_iconst rfl ?_
  refine wp_callsV rfl rfl rfl rfl (lo' := [some (.ref p0)]) rfl ⟨Nat.le_of_ble_eq_true rfl, Nat.le_of_ble_eq_true rfl, Nat.le_of_ble_eq_true rfl, Nat.le_of_ble_eq_true rfl⟩ (bd' := (0, 0)) rfl ?_
  refine (wq_Arrays_fill_ok H).conV (fun h1 H => ?_)
  exact wp_vret rfl rfl H
def wq_Patch_init (p0 : Nat) (h : HP) (K : HP → Prop) : Prop :=
  ∀ h1 : HP, h1 = nwC h 7 0 → wq_Text_init (gS h) (880 : Int32) h1 (fun h3 => isO h3 p0 5 ∧ 0 < gS h ∧ (∀ h4 : HP, h4 = stR h3 p0 0 (gS h) → ∀ h5 : HP, h5 = nwC h4 100 10 → isO h5 p0 5 ∧ 0 < gS h4 ∧ (∀ h7 : HP, h7 = stR h5 p0 1 (gS h4) → ∀ h8 : HP, h8 = nwC h7 102 20 → isO h8 p0 5 ∧ 0 < gS h7 ∧ (∀ h10 : HP, h10 = stR h8 p0 2 (gS h7) → K h10))))
theorem wq_Patch_init_ok {p0 : Nat} {h : HP} {K : HP → Prop} (H : wq_Patch_init p0 h K) : Wp k_Patch_init 0 [some (.ref p0)] [] h (4, 912) (QV K) := by
  unfold wq_Patch_init at H
  refine wp_aload_n rfl rfl ?_
  refine wp_objI rfl (Nat.le_of_ble_eq_true rfl) (lo' := [some (.ref p0)]) rfl ?_
  refine wp_aload_n rfl rfl ?_
  obtain ⟨h1, e2⟩ : ∃ z : HP, z = nwC h 7 0 := ⟨_, rfl⟩
  have H := H h1 e2
  refine wp_newL (lo' := [some (.ref p0)]) (bd' := (3, 910)) rfl ⟨by decide, by decide⟩ rfl rfl e2 ?_
  refine wp_dupR rfl ?_
  refine wp_sipush rfl ?_
  refine wp_callxV rfl rfl rfl rfl (lo' := [some (.ref p0)]) rfl ⟨Nat.le_of_ble_eq_true rfl, Nat.le_of_ble_eq_true rfl, Nat.le_of_ble_eq_true rfl, Nat.le_of_ble_eq_true rfl⟩ (bd' := (2, 30)) rfl ?_
  refine (wq_Text_init_ok H).conV (fun h3 H => ?_)
  obtain ⟨g17, g18, H⟩ := H
  obtain ⟨h4, e19⟩ : ∃ z : HP, z = stR h3 p0 0 (gS h) := ⟨_, rfl⟩
  have H := H h4 e19
  refine wp_putR rfl rfl g17 g18 e19 ?_
  refine wp_aload_n rfl rfl ?_
  refine wp_bipush rfl ?_
  obtain ⟨h5, e6⟩ : ∃ z : HP, z = nwC h4 100 10 := ⟨_, rfl⟩
  have H := H h5 e6
  refine wp_newaL (N := 10) (lo' := [some (.ref p0)]) (bd' := (1, 20)) rfl ⟨by decide, by decide⟩ ⟨by decide, by decide, by decide⟩ rfl rfl e6 ?_
  obtain ⟨g14, g15, H⟩ := H
  obtain ⟨h7, e16⟩ : ∃ z : HP, z = stR h5 p0 1 (gS h4) := ⟨_, rfl⟩
  have H := H h7 e16
  refine wp_putR rfl rfl g14 g15 e16 ?_
  refine wp_aload_n rfl rfl ?_
  refine wp_bipush rfl ?_
  obtain ⟨h8, e9⟩ : ∃ z : HP, z = nwC h7 102 20 := ⟨_, rfl⟩
  have H := H h8 e9
  refine wp_newaL (N := 20) (lo' := [some (.ref p0)]) (bd' := (0, 0)) rfl ⟨by decide, by decide⟩ ⟨by decide, by decide, by decide⟩ rfl rfl e9 ?_
  obtain ⟨g11, g12, H⟩ := H
  obtain ⟨h10, e13⟩ : ∃ z : HP, z = stR h8 p0 2 (gS h7) := ⟨_, rfl⟩
  have H := H h10 e13
  refine wp_putR rfl rfl g11 g12 e13 ?_
  exact wp_vret rfl rfl H
def wb_Patch_copy_3 (l0 : Nat) (l1 : Nat) (l3 : Int32) (l4 : Int32) (h : HP) (K : HP → Prop) : Prop :=
  (l3 ≤ l4 → K h) ∧ (¬ l3 ≤ l4 → isO h l0 5 ∧ 0 < gR h l0 0 ∧ isO h l1 7 ∧ wq_Text_at l1 l4 h (fun v2 h1 => isO h1 (gR h l0 0) 7 ∧ wq_Text_put (gR h l0 0) v2 h1 (fun h3 => Wp k_Patch_copy 3 [some (.ref l0), some (.ref l1), none, some (.int l3), some (.int (l4 + (1 : Int32)))] [] h3 (0, 0) (QV K))))
theorem wb_Patch_copy_3_ok {l0 : Nat} {l1 : Nat} {l3 : Int32} {l4 : Int32} {h : HP} {K : HP → Prop} (H : wb_Patch_copy_3 l0 l1 l3 l4 h K) : Wp k_Patch_copy 3 [some (.ref l0), some (.ref l1), none, some (.int l3), some (.int l4)] [] h (0, 0) (QV K) := by
  unfold wb_Patch_copy_3 at H
  refine wp_iload rfl rfl ?_
  refine wp_iload_n rfl rfl ?_
  refine wp_icmp_ge rfl (lo1 := [some (.ref l0), some (.ref l1), none, some (.int l3), some (.int l4)]) (lo2 := [some (.ref l0), some (.ref l1), none, some (.int l3), some (.int l4)]) rfl rfl (fun q8 => ?_) (fun q8 => ?_)
  · have H := H.1 q8
    exact wp_vret rfl rfl H
  · have H := H.2 q8
    refine wp_aload_n rfl rfl ?_
    obtain ⟨g6, g7, H⟩ := H
    refine wp_getR rfl rfl g6 g7 ?_
    refine wp_aload_n rfl rfl ?_
    refine wp_iload rfl rfl ?_
    obtain ⟨g5, H⟩ := H
    refine wp_callvI rfl rfl (Or.inl rfl) (lo' := [some (.ref l0), some (.ref l1), none, some (.int l3), some (.int l4)]) rfl g5 ⟨Nat.le_of_ble_eq_true rfl, Nat.le_of_ble_eq_true rfl, Nat.le_of_ble_eq_true rfl, Nat.le_of_ble_eq_true rfl⟩ (bd' := (0, 0)) rfl ?_
    refine (wq_Text_at_ok H).conI (fun v2 h1 H => ?_)
    obtain ⟨g4, H⟩ := H
    refine wp_callvV rfl rfl rfl (lo' := [some (.ref l0), some (.ref l1), none, some (.int l3), some (.int l4)]) rfl g4 ⟨Nat.le_of_ble_eq_true rfl, Nat.le_of_ble_eq_true rfl, Nat.le_of_ble_eq_true rfl, Nat.le_of_ble_eq_true rfl⟩ (bd' := (0, 0)) rfl ?_
    refine (wq_Text_put_ok H).conV (fun h3 H => ?_)
    refine wp_iinc rfl rfl rfl (lo' := [some (.ref l0), some (.ref l1), none, some (.int l3), some (.int (l4 + (1 : Int32)))]) rfl ?_
    refine wp_goto rfl (lo' := [some (.ref l0), some (.ref l1), none, some (.int l3), some (.int (l4 + (1 : Int32)))]) rfl ?_
    exact H
def wq_Patch_copy (p0 : Nat) (p1 : Nat) (p2 : Int32) (p3 : Int32) (h : HP) (K : HP → Prop) : Prop :=
  Wp k_Patch_copy 3 [some (.ref p0), some (.ref p1), none, some (.int p3), some (.int p2)] [] h (0, 0) (QV K)
theorem wq_Patch_copy_ok {p0 : Nat} {p1 : Nat} {p2 : Int32} {p3 : Int32} {h : HP} {K : HP → Prop} (H : wq_Patch_copy p0 p1 p2 p3 h K) : Wp k_Patch_copy 0 [some (.ref p0), some (.ref p1), some (.int p2), some (.int p3), none] [] h (0, 0) (QV K) := by
  unfold wq_Patch_copy at H
  refine wp_iload_n rfl rfl ?_
  refine wp_istore rfl rfl (lo' := [some (.ref p0), some (.ref p1), none, some (.int p3), some (.int p2)]) rfl ?_
  exact H
def wb_Patch_readsSame_20 (l0 : Nat) (l1 : Int32) (l2 : Nat) (l3 : Int32) (l4 : Int32) (h : HP) (K : Int32 → HP → Prop) : Prop :=
  isO h l2 6 ∧ 0 < gR h l2 2 ∧ isL h (gR h l2 2) 100 l3 ∧ (gI h (gR h l2 2) l3.toNatClampNeg ≤ l4 → K (1 : Int32) h) ∧ (¬ gI h (gR h l2 2) l3.toNatClampNeg ≤ l4 → isO h l2 6 ∧ 0 < gR h l2 3 ∧ isO h l2 6 ∧ 0 < gR h l2 1 ∧ isL h (gR h l2 1) 100 l3 ∧ isO h (gR h l2 3) 7 ∧ wq_Text_at (gR h l2 3) ((gI h (gR h l2 1) l3.toNatClampNeg) + l4) h (fun v9 h8 => wq_Patch_inRendering v9 h8 (fun v11 h10 => isO h10 l0 6 ∧ 0 < gR h10 l0 3 ∧ isO h10 l0 6 ∧ 0 < gR h10 l0 1 ∧ isL h10 (gR h10 l0 1) 100 l1 ∧ isO h10 (gR h10 l0 3) 7 ∧ wq_Text_at (gR h10 l0 3) ((gI h10 (gR h10 l0 1) l1.toNatClampNeg) + l4) h10 (fun v13 h12 => (v13 = v11 → Wp k_Patch_readsSame 20 [some (.ref l0), some (.int l1), some (.ref l2), some (.int l3), some (.int (l4 + (1 : Int32))), none] [] h12 (0, 0) (QI K)) ∧ (¬ v13 = v11 → K (0 : Int32) h12)))))
theorem wb_Patch_readsSame_20_ok {l0 : Nat} {l1 : Int32} {l2 : Nat} {l3 : Int32} {l4 : Int32} {h : HP} {K : Int32 → HP → Prop} (H : wb_Patch_readsSame_20 l0 l1 l2 l3 l4 h K) : Wp k_Patch_readsSame 20 [some (.ref l0), some (.int l1), some (.ref l2), some (.int l3), some (.int l4), none] [] h (0, 0) (QI K) := by
  unfold wb_Patch_readsSame_20 at H
  refine wp_iload rfl rfl ?_
  refine wp_aload_n rfl rfl ?_
  obtain ⟨g29, g30, H⟩ := H
  refine wp_getR rfl rfl g29 g30 ?_
  refine wp_iload_n rfl rfl ?_
  obtain ⟨g28, H⟩ := H
  refine wp_iald rfl g28 ?_
  refine wp_icmp_ge rfl (lo1 := [some (.ref l0), some (.int l1), some (.ref l2), some (.int l3), some (.int l4), none]) (lo2 := [some (.ref l0), some (.int l1), some (.ref l2), some (.int l3), some (.int l4), none]) rfl rfl (fun q27 => ?_) (fun q27 => ?_)
  · have H := H.1 q27
    refine wp_iconst rfl ?_
    exact wp_zret rfl rfl (by decide) H
  · have H := H.2 q27
    refine wp_aload_n rfl rfl ?_
    obtain ⟨g25, g26, H⟩ := H
    refine wp_getR rfl rfl g25 g26 ?_
    refine wp_aload_n rfl rfl ?_
    obtain ⟨g23, g24, H⟩ := H
    refine wp_getR rfl rfl g23 g24 ?_
    refine wp_iload_n rfl rfl ?_
    obtain ⟨g22, H⟩ := H
    refine wp_iald rfl g22 ?_
    refine wp_iload rfl rfl ?_
    refine wp_iadd rfl ?_
    obtain ⟨g21, H⟩ := H
    refine wp_callvI rfl rfl (Or.inl rfl) (lo' := [some (.ref l0), some (.int l1), some (.ref l2), some (.int l3), some (.int l4), none]) rfl g21 ⟨Nat.le_of_ble_eq_true rfl, Nat.le_of_ble_eq_true rfl, Nat.le_of_ble_eq_true rfl, Nat.le_of_ble_eq_true rfl⟩ (bd' := (0, 0)) rfl ?_
    refine (wq_Text_at_ok H).conI (fun v9 h8 H => ?_)
    refine wp_callsI rfl rfl rfl (Or.inl rfl) (lo' := [some (.ref l0), some (.int l1), some (.ref l2), some (.int l3), some (.int l4), none]) rfl ⟨Nat.le_of_ble_eq_true rfl, Nat.le_of_ble_eq_true rfl, Nat.le_of_ble_eq_true rfl, Nat.le_of_ble_eq_true rfl⟩ (bd' := (0, 0)) rfl ?_
    refine (wq_Patch_inRendering_ok H).conI (fun v11 h10 H => ?_)
    refine wp_istore rfl rfl (lo' := [some (.ref l0), some (.int l1), some (.ref l2), some (.int l3), some (.int l4), some (.int v11)]) rfl ?_
    refine wp_aload_n rfl rfl ?_
    obtain ⟨g19, g20, H⟩ := H
    refine wp_getR rfl rfl g19 g20 ?_
    refine wp_aload_n rfl rfl ?_
    obtain ⟨g17, g18, H⟩ := H
    refine wp_getR rfl rfl g17 g18 ?_
    refine wp_iload_n rfl rfl ?_
    obtain ⟨g16, H⟩ := H
    refine wp_iald rfl g16 ?_
    refine wp_iload rfl rfl ?_
    refine wp_iadd rfl ?_
    obtain ⟨g15, H⟩ := H
    refine wp_callvI rfl rfl (Or.inl rfl) (lo' := [some (.ref l0), some (.int l1), some (.ref l2), some (.int l3), some (.int l4), some (.int v11)]) rfl g15 ⟨Nat.le_of_ble_eq_true rfl, Nat.le_of_ble_eq_true rfl, Nat.le_of_ble_eq_true rfl, Nat.le_of_ble_eq_true rfl⟩ (bd' := (0, 0)) rfl ?_
    refine (wq_Text_at_ok H).conI (fun v13 h12 H => ?_)
    refine wp_iload rfl rfl ?_
    refine wp_icmp_eq rfl (lo1 := [some (.ref l0), some (.int l1), some (.ref l2), some (.int l3), some (.int l4), some (.int v11)]) (lo2 := [some (.ref l0), some (.int l1), some (.ref l2), some (.int l3), some (.int l4), some (.int v11)]) rfl rfl (fun q14 => ?_) (fun q14 => ?_)
    · have H := H.1 q14
      refine wp_iinc rfl rfl rfl (lo' := [some (.ref l0), some (.int l1), some (.ref l2), some (.int l3), some (.int (l4 + (1 : Int32))), some (.int v11)]) rfl ?_
      refine wp_goto rfl (lo' := [some (.ref l0), some (.int l1), some (.ref l2), some (.int l3), some (.int (l4 + (1 : Int32))), none]) rfl ?_
      exact H
    · have H := H.2 q14
      refine wp_iconst rfl ?_
      exact wp_zret rfl rfl (by decide) H
def wq_Patch_readsSame (p0 : Nat) (p1 : Int32) (p2 : Nat) (p3 : Int32) (h : HP) (K : Int32 → HP → Prop) : Prop :=
  isO h p0 6 ∧ 0 < gR h p0 2 ∧ isL h (gR h p0 2) 100 p1 ∧ isO h p2 6 ∧ 0 < gR h p2 2 ∧ isL h (gR h p2 2) 100 p3 ∧ (gI h (gR h p0 2) p1.toNatClampNeg = gI h (gR h p2 2) p3.toNatClampNeg → Wp k_Patch_readsSame 20 [some (.ref p0), some (.int p1), some (.ref p2), some (.int p3), some (.int (0 : Int32)), none] [] h (0, 0) (QI K)) ∧ (¬ gI h (gR h p0 2) p1.toNatClampNeg = gI h (gR h p2 2) p3.toNatClampNeg → K (0 : Int32) h)
theorem wq_Patch_readsSame_ok {p0 : Nat} {p1 : Int32} {p2 : Nat} {p3 : Int32} {h : HP} {K : Int32 → HP → Prop} (H : wq_Patch_readsSame p0 p1 p2 p3 h K) : Wp k_Patch_readsSame 0 [some (.ref p0), some (.int p1), some (.ref p2), some (.int p3), none, none] [] h (0, 0) (QI K) := by
  unfold wq_Patch_readsSame at H
  refine wp_aload_n rfl rfl ?_
  obtain ⟨g6, g7, H⟩ := H
  refine wp_getR rfl rfl g6 g7 ?_
  refine wp_iload_n rfl rfl ?_
  obtain ⟨g5, H⟩ := H
  refine wp_iald rfl g5 ?_
  refine wp_aload_n rfl rfl ?_
  obtain ⟨g3, g4, H⟩ := H
  refine wp_getR rfl rfl g3 g4 ?_
  refine wp_iload_n rfl rfl ?_
  obtain ⟨g2, H⟩ := H
  refine wp_iald rfl g2 ?_
  refine wp_icmp_eq rfl (lo1 := [some (.ref p0), some (.int p1), some (.ref p2), some (.int p3), none, none]) (lo2 := [some (.ref p0), some (.int p1), some (.ref p2), some (.int p3), none, none]) rfl rfl (fun q1 => ?_) (fun q1 => ?_)
  · have H := H.1 q1
    refine wp_iconst rfl ?_
    refine wp_istore rfl rfl (lo' := [some (.ref p0), some (.int p1), some (.ref p2), some (.int p3), some (.int (0 : Int32)), none]) rfl ?_
    exact H
  · have H := H.2 q1
    refine wp_iconst rfl ?_
    exact wp_zret rfl rfl (by decide) H
def wb_Patch_copyNumber_2 (l0 : Nat) (l1 : Nat) (l2 : Int32) (l3 : Int32) (h : HP) (K : HP → Prop) : Prop :=
  isO h l1 6 ∧ 0 < gR h l1 2 ∧ isL h (gR h l1 2) 100 l2 ∧ (gI h (gR h l1 2) l2.toNatClampNeg ≤ l3 → K h) ∧ (¬ gI h (gR h l1 2) l2.toNatClampNeg ≤ l3 → isO h l0 5 ∧ 0 < gR h l0 0 ∧ isO h l1 6 ∧ 0 < gR h l1 3 ∧ isO h l1 6 ∧ 0 < gR h l1 1 ∧ isL h (gR h l1 1) 100 l2 ∧ isO h (gR h l1 3) 7 ∧ wq_Text_at (gR h l1 3) ((gI h (gR h l1 1) l2.toNatClampNeg) + l3) h (fun v2 h1 => wq_Patch_inRendering v2 h1 (fun v4 h3 => isO h3 (gR h l0 0) 7 ∧ wq_Text_put (gR h l0 0) v4 h3 (fun h5 => Wp k_Patch_copyNumber 2 [some (.ref l0), some (.ref l1), some (.int l2), some (.int (l3 + (1 : Int32)))] [] h5 (0, 0) (QV K)))))
theorem wb_Patch_copyNumber_2_ok {l0 : Nat} {l1 : Nat} {l2 : Int32} {l3 : Int32} {h : HP} {K : HP → Prop} (H : wb_Patch_copyNumber_2 l0 l1 l2 l3 h K) : Wp k_Patch_copyNumber 2 [some (.ref l0), some (.ref l1), some (.int l2), some (.int l3)] [] h (0, 0) (QV K) := by
  unfold wb_Patch_copyNumber_2 at H
  refine wp_iload_n rfl rfl ?_
  refine wp_aload_n rfl rfl ?_
  obtain ⟨g17, g18, H⟩ := H
  refine wp_getR rfl rfl g17 g18 ?_
  refine wp_iload_n rfl rfl ?_
  obtain ⟨g16, H⟩ := H
  refine wp_iald rfl g16 ?_
  refine wp_icmp_ge rfl (lo1 := [some (.ref l0), some (.ref l1), some (.int l2), some (.int l3)]) (lo2 := [some (.ref l0), some (.ref l1), some (.int l2), some (.int l3)]) rfl rfl (fun q15 => ?_) (fun q15 => ?_)
  · have H := H.1 q15
    exact wp_vret rfl rfl H
  · have H := H.2 q15
    refine wp_aload_n rfl rfl ?_
    obtain ⟨g13, g14, H⟩ := H
    refine wp_getR rfl rfl g13 g14 ?_
    refine wp_aload_n rfl rfl ?_
    obtain ⟨g11, g12, H⟩ := H
    refine wp_getR rfl rfl g11 g12 ?_
    refine wp_aload_n rfl rfl ?_
    obtain ⟨g9, g10, H⟩ := H
    refine wp_getR rfl rfl g9 g10 ?_
    refine wp_iload_n rfl rfl ?_
    obtain ⟨g8, H⟩ := H
    refine wp_iald rfl g8 ?_
    refine wp_iload_n rfl rfl ?_
    refine wp_iadd rfl ?_
    obtain ⟨g7, H⟩ := H
    refine wp_callvI rfl rfl (Or.inl rfl) (lo' := [some (.ref l0), some (.ref l1), some (.int l2), some (.int l3)]) rfl g7 ⟨Nat.le_of_ble_eq_true rfl, Nat.le_of_ble_eq_true rfl, Nat.le_of_ble_eq_true rfl, Nat.le_of_ble_eq_true rfl⟩ (bd' := (0, 0)) rfl ?_
    refine (wq_Text_at_ok H).conI (fun v2 h1 H => ?_)
    refine wp_callsI rfl rfl rfl (Or.inl rfl) (lo' := [some (.ref l0), some (.ref l1), some (.int l2), some (.int l3)]) rfl ⟨Nat.le_of_ble_eq_true rfl, Nat.le_of_ble_eq_true rfl, Nat.le_of_ble_eq_true rfl, Nat.le_of_ble_eq_true rfl⟩ (bd' := (0, 0)) rfl ?_
    refine (wq_Patch_inRendering_ok H).conI (fun v4 h3 H => ?_)
    obtain ⟨g6, H⟩ := H
    refine wp_callvV rfl rfl rfl (lo' := [some (.ref l0), some (.ref l1), some (.int l2), some (.int l3)]) rfl g6 ⟨Nat.le_of_ble_eq_true rfl, Nat.le_of_ble_eq_true rfl, Nat.le_of_ble_eq_true rfl, Nat.le_of_ble_eq_true rfl⟩ (bd' := (0, 0)) rfl ?_
    refine (wq_Text_put_ok H).conV (fun h5 H => ?_)
    refine wp_iinc rfl rfl rfl (lo' := [some (.ref l0), some (.ref l1), some (.int l2), some (.int (l3 + (1 : Int32)))]) rfl ?_
    refine wp_goto rfl (lo' := [some (.ref l0), some (.ref l1), some (.int l2), some (.int (l3 + (1 : Int32)))]) rfl ?_
    exact H
def wq_Patch_copyNumber (p0 : Nat) (p1 : Nat) (p2 : Int32) (h : HP) (K : HP → Prop) : Prop :=
  Wp k_Patch_copyNumber 2 [some (.ref p0), some (.ref p1), some (.int p2), some (.int (0 : Int32))] [] h (0, 0) (QV K)
theorem wq_Patch_copyNumber_ok {p0 : Nat} {p1 : Nat} {p2 : Int32} {h : HP} {K : HP → Prop} (H : wq_Patch_copyNumber p0 p1 p2 h K) : Wp k_Patch_copyNumber 0 [some (.ref p0), some (.ref p1), some (.int p2), none] [] h (0, 0) (QV K) := by
  unfold wq_Patch_copyNumber at H
  refine wp_iconst rfl ?_
  refine wp_istore_n rfl rfl (lo' := [some (.ref p0), some (.ref p1), some (.int p2), some (.int (0 : Int32))]) rfl ?_
  exact H
def wq_Row_digit (p0 : Nat) (p1 : Int32) (h : HP) (K : Int32 → HP → Prop) : Prop :=
  isO h p0 6 ∧ 0 < gR h p0 3 ∧ isO h p0 6 ∧ wq_Row_digitPlace p0 p1 h (fun v2 h1 => isO h1 (gR h p0 3) 7 ∧ wq_Text_at (gR h p0 3) v2 h1 (fun v4 h3 => K (v4 - (48 : Int32)) h3))
theorem wq_Row_digit_ok {p0 : Nat} {p1 : Int32} {h : HP} {K : Int32 → HP → Prop} (H : wq_Row_digit p0 p1 h K) : Wp k_Row_digit 0 [some (.ref p0), some (.int p1)] [] h (0, 0) (QI K) := by
  unfold wq_Row_digit at H
  refine wp_aload_n rfl rfl ?_
  obtain ⟨g7, g8, H⟩ := H
  refine wp_getR rfl rfl g7 g8 ?_
  refine wp_aload_n rfl rfl ?_
  refine wp_iload_n rfl rfl ?_
  obtain ⟨g6, H⟩ := H
  refine wp_callvI rfl rfl (Or.inl rfl) (lo' := [some (.ref p0), some (.int p1)]) rfl g6 ⟨Nat.le_of_ble_eq_true rfl, Nat.le_of_ble_eq_true rfl, Nat.le_of_ble_eq_true rfl, Nat.le_of_ble_eq_true rfl⟩ (bd' := (0, 0)) rfl ?_
  refine (wq_Row_digitPlace_ok H).conI (fun v2 h1 H => ?_)
  obtain ⟨g5, H⟩ := H
  refine wp_callvI rfl rfl (Or.inl rfl) (lo' := [some (.ref p0), some (.int p1)]) rfl g5 ⟨Nat.le_of_ble_eq_true rfl, Nat.le_of_ble_eq_true rfl, Nat.le_of_ble_eq_true rfl, Nat.le_of_ble_eq_true rfl⟩ (bd' := (0, 0)) rfl ?_
  refine (wq_Text_at_ok H).conI (fun v4 h3 H => ?_)
  refine wp_bipush rfl ?_
  refine wp_isub rfl ?_
  exact wp_iret rfl rfl H
def wq_Row_isPieceLike (p0 : Nat) (p1 : Int32) (p2 : Nat) (h : HP) (K : Int32 → HP → Prop) : Prop :=
  isO h p0 6 ∧ 0 < gR h p0 0 ∧ isL h (gR h p0 0) 100 p1 ∧ isO h p2 6 ∧ 0 < gR h p2 0 ∧ isL h (gR h p2 0) 100 p1 ∧ (gI h (gR h p0 0) p1.toNatClampNeg = gI h (gR h p2 0) p1.toNatClampNeg → isO h p0 6 ∧ 0 < gR h p0 0 ∧ isL h (gR h p0 0) 100 p1 ∧ (gI h (gR h p0 0) p1.toNatClampNeg = 0 → isO h p0 6 ∧ wq_Row_hasLettersOf p0 p1 p2 p1 h (fun v2 h1 => (v2 = 0 ∨ v2 = 1) ∧ K v2 h1)) ∧ (gI h (gR h p0 0) p1.toNatClampNeg = 5 → isO h p0 6 ∧ wq_Row_hasBytesOf p0 p1 p2 p1 h (fun v5 h4 => (v5 = 0 ∨ v5 = 1) ∧ K v5 h4)) ∧ (¬ gI h (gR h p0 0) p1.toNatClampNeg = 0 → ¬ gI h (gR h p0 0) p1.toNatClampNeg = 5 → K (1 : Int32) h)) ∧ (¬ gI h (gR h p0 0) p1.toNatClampNeg = gI h (gR h p2 0) p1.toNatClampNeg → K (0 : Int32) h)
theorem wq_Row_isPieceLike_ok {p0 : Nat} {p1 : Int32} {p2 : Nat} {h : HP} {K : Int32 → HP → Prop} (H : wq_Row_isPieceLike p0 p1 p2 h K) : Wp k_Row_isPieceLike 0 [some (.ref p0), some (.int p1), some (.ref p2)] [] h (0, 0) (QI K) := by
  unfold wq_Row_isPieceLike at H
  refine wp_aload_n rfl rfl ?_
  obtain ⟨g17, g18, H⟩ := H
  refine wp_getR rfl rfl g17 g18 ?_
  refine wp_iload_n rfl rfl ?_
  obtain ⟨g16, H⟩ := H
  refine wp_iald rfl g16 ?_
  refine wp_aload_n rfl rfl ?_
  obtain ⟨g14, g15, H⟩ := H
  refine wp_getR rfl rfl g14 g15 ?_
  refine wp_iload_n rfl rfl ?_
  obtain ⟨g13, H⟩ := H
  refine wp_iald rfl g13 ?_
  refine wp_icmp_eq rfl (lo1 := [some (.ref p0), some (.int p1), some (.ref p2)]) (lo2 := [some (.ref p0), some (.int p1), some (.ref p2)]) rfl rfl (fun q12 => ?_) (fun q12 => ?_)
  · have H := H.1 q12
    refine wp_aload_n rfl rfl ?_
    obtain ⟨g10, g11, H⟩ := H
    refine wp_getR rfl rfl g10 g11 ?_
    refine wp_iload_n rfl rfl ?_
    obtain ⟨g9, H⟩ := H
    refine wp_iald rfl g9 ?_
    refine wp_lookup rfl (lo' := [some (.ref p0), some (.int p1), some (.ref p2)]) rfl ?_
    by_cases q7 : gI h (gR h p0 0) p1.toNatClampNeg = 0
    · have H := H.1 q7
      rw [lsw_a (v := 0) q7 (by decide)]
      show Wp k_Row_isPieceLike 48 _ _ _ _ _
      refine wp_aload_n rfl rfl ?_
      refine wp_iload_n rfl rfl ?_
      refine wp_aload_n rfl rfl ?_
      refine wp_iload_n rfl rfl ?_
      obtain ⟨g3, H⟩ := H
      refine wp_callvI rfl rfl (Or.inr rfl) (lo' := [some (.ref p0), some (.int p1), some (.ref p2)]) rfl g3 ⟨Nat.le_of_ble_eq_true rfl, Nat.le_of_ble_eq_true rfl, Nat.le_of_ble_eq_true rfl, Nat.le_of_ble_eq_true rfl⟩ (bd' := (0, 0)) rfl ?_
      refine (wq_Row_hasLettersOf_ok H).conI (fun v2 h1 H => ?_)
      exact wp_zret rfl rfl H.1 H.2
    · by_cases q8 : gI h (gR h p0 0) p1.toNatClampNeg = 5
      · have H := H.2.1 q8
        rw [lsw_b (v := 0) (w := 5) q7 q8 (by decide) (by decide)]
        show Wp k_Row_isPieceLike 56 _ _ _ _ _
        refine wp_aload_n rfl rfl ?_
        refine wp_iload_n rfl rfl ?_
        refine wp_aload_n rfl rfl ?_
        refine wp_iload_n rfl rfl ?_
        obtain ⟨g6, H⟩ := H
        refine wp_callvI rfl rfl (Or.inr rfl) (lo' := [some (.ref p0), some (.int p1), some (.ref p2)]) rfl g6 ⟨Nat.le_of_ble_eq_true rfl, Nat.le_of_ble_eq_true rfl, Nat.le_of_ble_eq_true rfl, Nat.le_of_ble_eq_true rfl⟩ (bd' := (0, 0)) rfl ?_
        refine (wq_Row_hasBytesOf_ok H).conI (fun v5 h4 H => ?_)
        exact wp_zret rfl rfl H.1 H.2
      · have H := H.2.2 q7 q8
        rw [lsw_c (v := 0) (w := 5) q7 q8 (by decide) (by decide)]
        show Wp k_Row_isPieceLike 64 _ _ _ _ _
        refine wp_iconst rfl ?_
        exact wp_zret rfl rfl (by decide) H
  · have H := H.2 q12
    refine wp_iconst rfl ?_
    exact wp_zret rfl rfl (by decide) H
def wq_Row_changeCost (p0 : Nat) (p1 : Int32) (p2 : Nat) (p3 : Int32) (h : HP) (K : Int32 → HP → Prop) : Prop :=
  isO h p0 6 ∧ 0 < gR h p0 0 ∧ isL h (gR h p0 0) 100 p1 ∧ isO h p2 6 ∧ 0 < gR h p2 0 ∧ isL h (gR h p2 0) 100 p3 ∧ (gI h (gR h p0 0) p1.toNatClampNeg = gI h (gR h p2 0) p3.toNatClampNeg → isO h p0 6 ∧ wq_Row_hasBytesOf p0 p1 p2 p3 h (fun v2 h1 => (v2 = 0 → isO h1 p0 6 ∧ 0 < gR h1 p0 0 ∧ isL h1 (gR h1 p0 0) 100 p1 ∧ (gI h1 (gR h1 p0 0) p1.toNatClampNeg = 0 → isO h1 p0 6 ∧ wq_Row_hasLettersOf p0 p1 p2 p3 h1 (fun v4 h3 => (v4 = 0 → K (10 : Int32) h3) ∧ (¬ v4 = 0 → K (1 : Int32) h3))) ∧ (gI h1 (gR h1 p0 0) p1.toNatClampNeg = 5 → K (10 : Int32) h1) ∧ (¬ gI h1 (gR h1 p0 0) p1.toNatClampNeg = 0 → ¬ gI h1 (gR h1 p0 0) p1.toNatClampNeg = 5 → K (2 : Int32) h1)) ∧ (¬ v2 = 0 → K (0 : Int32) h1))) ∧ (¬ gI h (gR h p0 0) p1.toNatClampNeg = gI h (gR h p2 0) p3.toNatClampNeg → K (10 : Int32) h)
theorem wq_Row_changeCost_ok {p0 : Nat} {p1 : Int32} {p2 : Nat} {p3 : Int32} {h : HP} {K : Int32 → HP → Prop} (H : wq_Row_changeCost p0 p1 p2 p3 h K) : Wp k_Row_changeCost 0 [some (.ref p0), some (.int p1), some (.ref p2), some (.int p3)] [] h (0, 0) (QI K) := by
  unfold wq_Row_changeCost at H
  refine wp_aload_n rfl rfl ?_
  obtain ⟨g19, g20, H⟩ := H
  refine wp_getR rfl rfl g19 g20 ?_
  refine wp_iload_n rfl rfl ?_
  obtain ⟨g18, H⟩ := H
  refine wp_iald rfl g18 ?_
  refine wp_aload_n rfl rfl ?_
  obtain ⟨g16, g17, H⟩ := H
  refine wp_getR rfl rfl g16 g17 ?_
  refine wp_iload_n rfl rfl ?_
  obtain ⟨g15, H⟩ := H
  refine wp_iald rfl g15 ?_
  refine wp_icmp_eq rfl (lo1 := [some (.ref p0), some (.int p1), some (.ref p2), some (.int p3)]) (lo2 := [some (.ref p0), some (.int p1), some (.ref p2), some (.int p3)]) rfl rfl (fun q14 => ?_) (fun q14 => ?_)
  · have H := H.1 q14
    refine wp_aload_n rfl rfl ?_
    refine wp_iload_n rfl rfl ?_
    refine wp_aload_n rfl rfl ?_
    refine wp_iload_n rfl rfl ?_
    obtain ⟨g13, H⟩ := H
    refine wp_callvI rfl rfl (Or.inr rfl) (lo' := [some (.ref p0), some (.int p1), some (.ref p2), some (.int p3)]) rfl g13 ⟨Nat.le_of_ble_eq_true rfl, Nat.le_of_ble_eq_true rfl, Nat.le_of_ble_eq_true rfl, Nat.le_of_ble_eq_true rfl⟩ (bd' := (0, 0)) rfl ?_
    refine (wq_Row_hasBytesOf_ok H).conI (fun v2 h1 H => ?_)
    refine wp_if_eq rfl (lo1 := [some (.ref p0), some (.int p1), some (.ref p2), some (.int p3)]) (lo2 := [some (.ref p0), some (.int p1), some (.ref p2), some (.int p3)]) rfl rfl (fun q12 => ?_) (fun q12 => ?_)
    · have H := H.1 q12
      refine wp_aload_n rfl rfl ?_
      obtain ⟨g10, g11, H⟩ := H
      refine wp_getR rfl rfl g10 g11 ?_
      refine wp_iload_n rfl rfl ?_
      obtain ⟨g9, H⟩ := H
      refine wp_iald rfl g9 ?_
      refine wp_lookup rfl (lo' := [some (.ref p0), some (.int p1), some (.ref p2), some (.int p3)]) rfl ?_
      by_cases q7 : gI h1 (gR h1 p0 0) p1.toNatClampNeg = 0
      · have H := H.1 q7
        rw [lsw_a (v := 0) q7 (by decide)]
        show Wp k_Row_changeCost 64 _ _ _ _ _
        refine wp_aload_n rfl rfl ?_
        refine wp_iload_n rfl rfl ?_
        refine wp_aload_n rfl rfl ?_
        refine wp_iload_n rfl rfl ?_
        obtain ⟨g6, H⟩ := H
        refine wp_callvI rfl rfl (Or.inr rfl) (lo' := [some (.ref p0), some (.int p1), some (.ref p2), some (.int p3)]) rfl g6 ⟨Nat.le_of_ble_eq_true rfl, Nat.le_of_ble_eq_true rfl, Nat.le_of_ble_eq_true rfl, Nat.le_of_ble_eq_true rfl⟩ (bd' := (0, 0)) rfl ?_
        refine (wq_Row_hasLettersOf_ok H).conI (fun v4 h3 H => ?_)
        refine wp_if_eq rfl (lo1 := [some (.ref p0), some (.int p1), some (.ref p2), some (.int p3)]) (lo2 := [some (.ref p0), some (.int p1), some (.ref p2), some (.int p3)]) rfl rfl (fun q5 => ?_) (fun q5 => ?_)
        · have H := H.1 q5
          refine wp_bipushk (lo' := [none, none, none, none]) rfl rfl ?_
          exact wp_iret rfl rfl H
        · have H := H.2 q5
          refine wp_iconst rfl ?_
          refine wp_goto rfl (lo' := [none, none, none, none]) rfl ?_
          exact wp_iret rfl rfl H
      · by_cases q8 : gI h1 (gR h1 p0 0) p1.toNatClampNeg = 5
        · have H := H.2.1 q8
          rw [lsw_b (v := 0) (w := 5) q7 q8 (by decide) (by decide)]
          show Wp k_Row_changeCost 81 _ _ _ _ _
          refine wp_bipush rfl ?_
          exact wp_iret rfl rfl H
        · have H := H.2.2 q7 q8
          rw [lsw_c (v := 0) (w := 5) q7 q8 (by decide) (by decide)]
          show Wp k_Row_changeCost 84 _ _ _ _ _
          refine wp_iconst rfl ?_
          exact wp_iret rfl rfl H
    · have H := H.2 q12
      refine wp_iconst rfl ?_
      exact wp_iret rfl rfl H
  · have H := H.2 q14
    refine wp_bipush rfl ?_
    exact wp_iret rfl rfl H
def wq_Row_aloneCost (p0 : Nat) (p1 : Int32) (h : HP) (K : Int32 → HP → Prop) : Prop :=
  isO h p0 6 ∧ wq_Row_isMark p0 p1 h (fun v2 h1 => (v2 = 0 → K (10 : Int32) h1) ∧ (¬ v2 = 0 → K (4 : Int32) h1))
theorem wq_Row_aloneCost_ok {p0 : Nat} {p1 : Int32} {h : HP} {K : Int32 → HP → Prop} (H : wq_Row_aloneCost p0 p1 h K) : Wp k_Row_aloneCost 0 [some (.ref p0), some (.int p1)] [] h (0, 0) (QI K) := by
  unfold wq_Row_aloneCost at H
  refine wp_aload_n rfl rfl ?_
  refine wp_iload_n rfl rfl ?_
  obtain ⟨g4, H⟩ := H
  refine wp_callvI rfl rfl (Or.inr rfl) (lo' := [some (.ref p0), some (.int p1)]) rfl g4 ⟨Nat.le_of_ble_eq_true rfl, Nat.le_of_ble_eq_true rfl, Nat.le_of_ble_eq_true rfl, Nat.le_of_ble_eq_true rfl⟩ (bd' := (0, 0)) rfl ?_
  refine (wq_Row_isMark_ok H).conI (fun v2 h1 H => ?_)
  refine wp_if_eq rfl (lo1 := [some (.ref p0), some (.int p1)]) (lo2 := [some (.ref p0), some (.int p1)]) rfl rfl (fun q3 => ?_) (fun q3 => ?_)
  · have H := H.1 q3
    refine wp_bipushk (lo' := [none, none]) rfl rfl ?_
    exact wp_iret rfl rfl H
  · have H := H.2 q3
    refine wp_iconst rfl ?_
    refine wp_goto rfl (lo' := [none, none]) rfl ?_
    exact wp_iret rfl rfl H
def wq_Scan_byteAt (p0 : Nat) (p1 : Int32) (p2 : Int32) (h : HP) (K : Int32 → HP → Prop) : Prop :=
  (p2 ≤ p1 → K (-1 : Int32) h) ∧ (¬ p2 ≤ p1 → isO h p0 7 ∧ wq_Text_at p0 p1 h (fun v2 h1 => K v2 h1))
theorem wq_Scan_byteAt_ok {p0 : Nat} {p1 : Int32} {p2 : Int32} {h : HP} {K : Int32 → HP → Prop} (H : wq_Scan_byteAt p0 p1 p2 h K) : Wp k_Scan_byteAt 0 [some (.ref p0), some (.int p1), some (.int p2)] [] h (0, 0) (QI K) := by
  unfold wq_Scan_byteAt at H
  refine wp_iload_n rfl rfl ?_
  refine wp_iload_n rfl rfl ?_
  refine wp_icmp_ge rfl (lo1 := [some (.ref p0), some (.int p1), some (.int p2)]) (lo2 := [some (.ref p0), some (.int p1), some (.int p2)]) rfl rfl (fun q4 => ?_) (fun q4 => ?_)
  · have H := H.1 q4
    refine wp_iconstk (lo' := [none, none, none]) rfl rfl ?_
    exact wp_iret rfl rfl H
  · have H := H.2 q4
    refine wp_aload_n rfl rfl ?_
    refine wp_iload_n rfl rfl ?_
    obtain ⟨g3, H⟩ := H
    refine wp_callvI rfl rfl (Or.inl rfl) (lo' := [some (.ref p0), some (.int p1), some (.int p2)]) rfl g3 ⟨Nat.le_of_ble_eq_true rfl, Nat.le_of_ble_eq_true rfl, Nat.le_of_ble_eq_true rfl, Nat.le_of_ble_eq_true rfl⟩ (bd' := (0, 0)) rfl ?_
    refine (wq_Text_at_ok H).conI (fun v2 h1 H => ?_)
    refine wp_goto rfl (lo' := [none, none, none]) rfl ?_
    exact wp_iret rfl rfl H
def wb_Scan_lettersEnd_2 (l0 : Nat) (l2 : Int32) (l3 : Int32) (h : HP) (K : Int32 → HP → Prop) : Prop :=
  (l2 ≤ l3 → K l3 h) ∧ (¬ l2 ≤ l3 → isO h l0 7 ∧ wq_Text_at l0 l3 h (fun v2 h1 => wq_Scan_isLetter v2 h1 (fun v4 h3 => (v4 = 0 → K l3 h3) ∧ (¬ v4 = 0 → Wp k_Scan_lettersEnd 2 [some (.ref l0), none, some (.int l2), some (.int (l3 + (1 : Int32)))] [] h3 (0, 0) (QI K)))))
theorem wb_Scan_lettersEnd_2_ok {l0 : Nat} {l2 : Int32} {l3 : Int32} {h : HP} {K : Int32 → HP → Prop} (H : wb_Scan_lettersEnd_2 l0 l2 l3 h K) : Wp k_Scan_lettersEnd 2 [some (.ref l0), none, some (.int l2), some (.int l3)] [] h (0, 0) (QI K) := by
  unfold wb_Scan_lettersEnd_2 at H
  refine wp_iload_n rfl rfl ?_
  refine wp_iload_n rfl rfl ?_
  refine wp_icmp_ge rfl (lo1 := [none, none, none, some (.int l3)]) (lo2 := [some (.ref l0), none, some (.int l2), some (.int l3)]) rfl rfl (fun q7 => ?_) (fun q7 => ?_)
  · have H := H.1 q7
    refine wp_iload_n rfl rfl ?_
    exact wp_iret rfl rfl H
  · have H := H.2 q7
    refine wp_aload_n rfl rfl ?_
    refine wp_iload_n rfl rfl ?_
    obtain ⟨g6, H⟩ := H
    refine wp_callvI rfl rfl (Or.inl rfl) (lo' := [some (.ref l0), none, some (.int l2), some (.int l3)]) rfl g6 ⟨Nat.le_of_ble_eq_true rfl, Nat.le_of_ble_eq_true rfl, Nat.le_of_ble_eq_true rfl, Nat.le_of_ble_eq_true rfl⟩ (bd' := (0, 0)) rfl ?_
    refine (wq_Text_at_ok H).conI (fun v2 h1 H => ?_)
    refine wp_callsI rfl rfl rfl (Or.inr rfl) (lo' := [some (.ref l0), none, some (.int l2), some (.int l3)]) rfl ⟨Nat.le_of_ble_eq_true rfl, Nat.le_of_ble_eq_true rfl, Nat.le_of_ble_eq_true rfl, Nat.le_of_ble_eq_true rfl⟩ (bd' := (0, 0)) rfl ?_
    refine (wq_Scan_isLetter_ok H).conI (fun v4 h3 H => ?_)
    refine wp_if_eq rfl (lo1 := [none, none, none, some (.int l3)]) (lo2 := [some (.ref l0), none, some (.int l2), some (.int l3)]) rfl rfl (fun q5 => ?_) (fun q5 => ?_)
    · have H := H.1 q5
      refine wp_iload_n rfl rfl ?_
      exact wp_iret rfl rfl H
    · have H := H.2 q5
      refine wp_iinc rfl rfl rfl (lo' := [some (.ref l0), none, some (.int l2), some (.int (l3 + (1 : Int32)))]) rfl ?_
      refine wp_goto rfl (lo' := [some (.ref l0), none, some (.int l2), some (.int (l3 + (1 : Int32)))]) rfl ?_
      exact H
def wq_Scan_lettersEnd (p0 : Nat) (p1 : Int32) (p2 : Int32) (h : HP) (K : Int32 → HP → Prop) : Prop :=
  Wp k_Scan_lettersEnd 2 [some (.ref p0), none, some (.int p2), some (.int p1)] [] h (0, 0) (QI K)
theorem wq_Scan_lettersEnd_ok {p0 : Nat} {p1 : Int32} {p2 : Int32} {h : HP} {K : Int32 → HP → Prop} (H : wq_Scan_lettersEnd p0 p1 p2 h K) : Wp k_Scan_lettersEnd 0 [some (.ref p0), some (.int p1), some (.int p2), none] [] h (0, 0) (QI K) := by
  unfold wq_Scan_lettersEnd at H
  refine wp_iload_n rfl rfl ?_
  refine wp_istore_n rfl rfl (lo' := [some (.ref p0), none, some (.int p2), some (.int p1)]) rfl ?_
  exact H
def wb_Scan_blanksEnd_2 (l0 : Nat) (l2 : Int32) (l3 : Int32) (h : HP) (K : Int32 → HP → Prop) : Prop :=
  (l2 ≤ l3 → K l3 h) ∧ (¬ l2 ≤ l3 → isO h l0 7 ∧ wq_Text_at l0 l3 h (fun v2 h1 => (¬ v2 = (32 : Int32) → K l3 h1) ∧ (v2 = (32 : Int32) → Wp k_Scan_blanksEnd 2 [some (.ref l0), none, some (.int l2), some (.int (l3 + (1 : Int32)))] [] h1 (0, 0) (QI K))))
theorem wb_Scan_blanksEnd_2_ok {l0 : Nat} {l2 : Int32} {l3 : Int32} {h : HP} {K : Int32 → HP → Prop} (H : wb_Scan_blanksEnd_2 l0 l2 l3 h K) : Wp k_Scan_blanksEnd 2 [some (.ref l0), none, some (.int l2), some (.int l3)] [] h (0, 0) (QI K) := by
  unfold wb_Scan_blanksEnd_2 at H
  refine wp_iload_n rfl rfl ?_
  refine wp_iload_n rfl rfl ?_
  refine wp_icmp_ge rfl (lo1 := [none, none, none, some (.int l3)]) (lo2 := [some (.ref l0), none, some (.int l2), some (.int l3)]) rfl rfl (fun q5 => ?_) (fun q5 => ?_)
  · have H := H.1 q5
    refine wp_iload_n rfl rfl ?_
    exact wp_iret rfl rfl H
  · have H := H.2 q5
    refine wp_aload_n rfl rfl ?_
    refine wp_iload_n rfl rfl ?_
    obtain ⟨g4, H⟩ := H
    refine wp_callvI rfl rfl (Or.inl rfl) (lo' := [some (.ref l0), none, some (.int l2), some (.int l3)]) rfl g4 ⟨Nat.le_of_ble_eq_true rfl, Nat.le_of_ble_eq_true rfl, Nat.le_of_ble_eq_true rfl, Nat.le_of_ble_eq_true rfl⟩ (bd' := (0, 0)) rfl ?_
    refine (wq_Text_at_ok H).conI (fun v2 h1 H => ?_)
    refine wp_bipush rfl ?_
    refine wp_icmp_ne rfl (lo1 := [none, none, none, some (.int l3)]) (lo2 := [some (.ref l0), none, some (.int l2), some (.int l3)]) rfl rfl (fun q3 => ?_) (fun q3 => ?_)
    · have H := H.1 q3
      refine wp_iload_n rfl rfl ?_
      exact wp_iret rfl rfl H
    · have H := H.2 q3
      refine wp_iinc rfl rfl rfl (lo' := [some (.ref l0), none, some (.int l2), some (.int (l3 + (1 : Int32)))]) rfl ?_
      refine wp_goto rfl (lo' := [some (.ref l0), none, some (.int l2), some (.int (l3 + (1 : Int32)))]) rfl ?_
      exact H
def wq_Scan_blanksEnd (p0 : Nat) (p1 : Int32) (p2 : Int32) (h : HP) (K : Int32 → HP → Prop) : Prop :=
  Wp k_Scan_blanksEnd 2 [some (.ref p0), none, some (.int p2), some (.int p1)] [] h (0, 0) (QI K)
theorem wq_Scan_blanksEnd_ok {p0 : Nat} {p1 : Int32} {p2 : Int32} {h : HP} {K : Int32 → HP → Prop} (H : wq_Scan_blanksEnd p0 p1 p2 h K) : Wp k_Scan_blanksEnd 0 [some (.ref p0), some (.int p1), some (.int p2), none] [] h (0, 0) (QI K) := by
  unfold wq_Scan_blanksEnd at H
  refine wp_iload_n rfl rfl ?_
  refine wp_istore_n rfl rfl (lo' := [some (.ref p0), none, some (.int p2), some (.int p1)]) rfl ?_
  exact H
def wb_Scan_digitsEnd_3 (l0 : Nat) (l1 : Int32) (l2 : Int32) (l3 : Int32) (l4 : Int32) (h : HP) (K : Int32 → HP → Prop) : Prop :=
  (l2 ≤ l4 → K l4 h) ∧ (¬ l2 ≤ l4 → (l1 + l3 ≤ l4 → K l4 h) ∧ (¬ l1 + l3 ≤ l4 → isO h l0 7 ∧ wq_Text_at l0 l4 h (fun v2 h1 => wq_Scan_isDigit v2 h1 (fun v4 h3 => (v4 = 0 → K l4 h3) ∧ (¬ v4 = 0 → Wp k_Scan_digitsEnd 3 [some (.ref l0), some (.int l1), some (.int l2), some (.int l3), some (.int (l4 + (1 : Int32)))] [] h3 (0, 0) (QI K))))))
theorem wb_Scan_digitsEnd_3_ok {l0 : Nat} {l1 : Int32} {l2 : Int32} {l3 : Int32} {l4 : Int32} {h : HP} {K : Int32 → HP → Prop} (H : wb_Scan_digitsEnd_3 l0 l1 l2 l3 l4 h K) : Wp k_Scan_digitsEnd 3 [some (.ref l0), some (.int l1), some (.int l2), some (.int l3), some (.int l4)] [] h (0, 0) (QI K) := by
  unfold wb_Scan_digitsEnd_3 at H
  refine wp_iload rfl rfl ?_
  refine wp_iload_n rfl rfl ?_
  refine wp_icmp_ge rfl (lo1 := [none, none, none, none, some (.int l4)]) (lo2 := [some (.ref l0), some (.int l1), some (.int l2), some (.int l3), some (.int l4)]) rfl rfl (fun q8 => ?_) (fun q8 => ?_)
  · have H := H.1 q8
    refine wp_iload rfl rfl ?_
    exact wp_iret rfl rfl H
  · have H := H.2 q8
    refine wp_iload rfl rfl ?_
    refine wp_iload_n rfl rfl ?_
    refine wp_iload_n rfl rfl ?_
    refine wp_iadd rfl ?_
    refine wp_icmp_ge rfl (lo1 := [none, none, none, none, some (.int l4)]) (lo2 := [some (.ref l0), some (.int l1), some (.int l2), some (.int l3), some (.int l4)]) rfl rfl (fun q7 => ?_) (fun q7 => ?_)
    · have H := H.1 q7
      refine wp_iload rfl rfl ?_
      exact wp_iret rfl rfl H
    · have H := H.2 q7
      refine wp_aload_n rfl rfl ?_
      refine wp_iload rfl rfl ?_
      obtain ⟨g6, H⟩ := H
      refine wp_callvI rfl rfl (Or.inl rfl) (lo' := [some (.ref l0), some (.int l1), some (.int l2), some (.int l3), some (.int l4)]) rfl g6 ⟨Nat.le_of_ble_eq_true rfl, Nat.le_of_ble_eq_true rfl, Nat.le_of_ble_eq_true rfl, Nat.le_of_ble_eq_true rfl⟩ (bd' := (0, 0)) rfl ?_
      refine (wq_Text_at_ok H).conI (fun v2 h1 H => ?_)
      refine wp_callsI rfl rfl rfl (Or.inr rfl) (lo' := [some (.ref l0), some (.int l1), some (.int l2), some (.int l3), some (.int l4)]) rfl ⟨Nat.le_of_ble_eq_true rfl, Nat.le_of_ble_eq_true rfl, Nat.le_of_ble_eq_true rfl, Nat.le_of_ble_eq_true rfl⟩ (bd' := (0, 0)) rfl ?_
      refine (wq_Scan_isDigit_ok H).conI (fun v4 h3 H => ?_)
      refine wp_if_eq rfl (lo1 := [none, none, none, none, some (.int l4)]) (lo2 := [some (.ref l0), some (.int l1), some (.int l2), some (.int l3), some (.int l4)]) rfl rfl (fun q5 => ?_) (fun q5 => ?_)
      · have H := H.1 q5
        refine wp_iload rfl rfl ?_
        exact wp_iret rfl rfl H
      · have H := H.2 q5
        refine wp_iinc rfl rfl rfl (lo' := [some (.ref l0), some (.int l1), some (.int l2), some (.int l3), some (.int (l4 + (1 : Int32)))]) rfl ?_
        refine wp_goto rfl (lo' := [some (.ref l0), some (.int l1), some (.int l2), some (.int l3), some (.int (l4 + (1 : Int32)))]) rfl ?_
        exact H
def wq_Scan_digitsEnd (p0 : Nat) (p1 : Int32) (p2 : Int32) (p3 : Int32) (h : HP) (K : Int32 → HP → Prop) : Prop :=
  Wp k_Scan_digitsEnd 3 [some (.ref p0), some (.int p1), some (.int p2), some (.int p3), some (.int p1)] [] h (0, 0) (QI K)
theorem wq_Scan_digitsEnd_ok {p0 : Nat} {p1 : Int32} {p2 : Int32} {p3 : Int32} {h : HP} {K : Int32 → HP → Prop} (H : wq_Scan_digitsEnd p0 p1 p2 p3 h K) : Wp k_Scan_digitsEnd 0 [some (.ref p0), some (.int p1), some (.int p2), some (.int p3), none] [] h (0, 0) (QI K) := by
  unfold wq_Scan_digitsEnd at H
  refine wp_iload_n rfl rfl ?_
  refine wp_istore rfl rfl (lo' := [some (.ref p0), some (.int p1), some (.int p2), some (.int p3), some (.int p1)]) rfl ?_
  exact H
def wb_Words_packed_20 (l0 : Nat) (l2 : Int32) (l3 : Int64) (l5 : Int32) (h : HP) (K : Int64 → HP → Prop) : Prop :=
  (l2 ≤ l5 → K l3 h) ∧ (¬ l2 ≤ l5 → isO h l0 7 ∧ wq_Text_at l0 l5 h (fun v4 h3 => wq_Scan_isLetter v4 h3 (fun v6 h5 => (¬ v6 = 0 → Wp k_Words_packed 20 [some (.ref l0), none, some (.int l2), some (.long (((l3 <<< ((8 : Int32).toInt64 &&& 63)) ||| v4.toInt64) ||| (lN 32))), none, some (.int (l5 + (1 : Int32))), none] [] h5 (0, 0) (QJ K)) ∧ (v6 = 0 → K (lN 0) h5))))
theorem wb_Words_packed_20_ok {l0 : Nat} {l2 : Int32} {l3 : Int64} {l5 : Int32} {h : HP} {K : Int64 → HP → Prop} (H : wb_Words_packed_20 l0 l2 l3 l5 h K) : Wp k_Words_packed 20 [some (.ref l0), none, some (.int l2), some (.long l3), none, some (.int l5), none] [] h (0, 0) (QJ K) := by
  unfold wb_Words_packed_20 at H
  refine wp_iload rfl rfl ?_
  refine wp_iload_n rfl rfl ?_
  refine wp_icmp_ge rfl (lo1 := [some (.ref l0), none, some (.int l2), some (.long l3), none, some (.int l5), none]) (lo2 := [some (.ref l0), none, some (.int l2), some (.long l3), none, some (.int l5), none]) rfl rfl (fun q9 => ?_) (fun q9 => ?_)
  · have H := H.1 q9
    refine wp_lload_n rfl rfl ?_
    exact wp_jret rfl rfl H
  · have H := H.2 q9
    refine wp_aload_n rfl rfl ?_
    refine wp_iload rfl rfl ?_
    obtain ⟨g8, H⟩ := H
    refine wp_callvI rfl rfl (Or.inl rfl) (lo' := [some (.ref l0), none, some (.int l2), some (.long l3), none, some (.int l5), none]) rfl g8 ⟨Nat.le_of_ble_eq_true rfl, Nat.le_of_ble_eq_true rfl, Nat.le_of_ble_eq_true rfl, Nat.le_of_ble_eq_true rfl⟩ (bd' := (0, 0)) rfl ?_
    refine (wq_Text_at_ok H).conI (fun v4 h3 H => ?_)
    refine wp_istore rfl rfl (lo' := [some (.ref l0), none, some (.int l2), some (.long l3), none, some (.int l5), some (.int v4)]) rfl ?_
    refine wp_iload rfl rfl ?_
    refine wp_callsI rfl rfl rfl (Or.inr rfl) (lo' := [some (.ref l0), none, some (.int l2), some (.long l3), none, some (.int l5), some (.int v4)]) rfl ⟨Nat.le_of_ble_eq_true rfl, Nat.le_of_ble_eq_true rfl, Nat.le_of_ble_eq_true rfl, Nat.le_of_ble_eq_true rfl⟩ (bd' := (0, 0)) rfl ?_
    refine (wq_Scan_isLetter_ok H).conI (fun v6 h5 H => ?_)
    refine wp_if_ne rfl (lo1 := [some (.ref l0), none, some (.int l2), some (.long l3), none, some (.int l5), some (.int v4)]) (lo2 := [some (.ref l0), none, some (.int l2), some (.long l3), none, some (.int l5), some (.int v4)]) rfl rfl (fun q7 => ?_) (fun q7 => ?_)
    · have H := H.1 q7
      refine wp_lload_n rfl rfl ?_
      refine wp_bipush rfl ?_
      refine wp_lshl rfl ?_
      refine wp_iload rfl rfl ?_
      refine wp_i2l rfl ?_
      refine wp_lor rfl ?_
      refine wp_ldc2 rfl ?_
      refine wp_lor rfl ?_
      refine wp_lstore_n rfl rfl (lo' := [some (.ref l0), none, some (.int l2), some (.long (((l3 <<< ((8 : Int32).toInt64 &&& 63)) ||| v4.toInt64) ||| (lN 32))), none, some (.int l5), some (.int v4)]) rfl ?_
      refine wp_iinc rfl rfl rfl (lo' := [some (.ref l0), none, some (.int l2), some (.long (((l3 <<< ((8 : Int32).toInt64 &&& 63)) ||| v4.toInt64) ||| (lN 32))), none, some (.int (l5 + (1 : Int32))), some (.int v4)]) rfl ?_
      refine wp_goto rfl (lo' := [some (.ref l0), none, some (.int l2), some (.long (((l3 <<< ((8 : Int32).toInt64 &&& 63)) ||| v4.toInt64) ||| (lN 32))), none, some (.int (l5 + (1 : Int32))), none]) rfl ?_
      exact H
    · have H := H.2 q7
      refine wp_lconst rfl ?_
      exact wp_jret rfl rfl H
def wq_Words_packed (p0 : Nat) (p1 : Int32) (p2 : Int32) (h : HP) (K : Int64 → HP → Prop) : Prop :=
  (p2 ≤ p1 → K (lN 0) h) ∧ (¬ p2 ≤ p1 → (p2 - p1 ≤ (8 : Int32) → Wp k_Words_packed 20 [some (.ref p0), none, some (.int p2), some (.long (lN 0)), none, some (.int p1), none] [] h (0, 0) (QJ K)) ∧ (¬ p2 - p1 ≤ (8 : Int32) → K (lN 0) h))
theorem wq_Words_packed_ok {p0 : Nat} {p1 : Int32} {p2 : Int32} {h : HP} {K : Int64 → HP → Prop} (H : wq_Words_packed p0 p1 p2 h K) : Wp k_Words_packed 0 [some (.ref p0), some (.int p1), some (.int p2), none, none, none, none] [] h (0, 0) (QJ K) := by
  unfold wq_Words_packed at H
  refine wp_iload_n rfl rfl ?_
  refine wp_iload_n rfl rfl ?_
  refine wp_icmp_le rfl (lo1 := [none, none, none, none, none, none, none]) (lo2 := [some (.ref p0), some (.int p1), some (.int p2), none, none, none, none]) rfl rfl (fun q2 => ?_) (fun q2 => ?_)
  · have H := H.1 q2
    refine wp_lconst rfl ?_
    exact wp_jret rfl rfl H
  · have H := H.2 q2
    refine wp_iload_n rfl rfl ?_
    refine wp_iload_n rfl rfl ?_
    refine wp_isub rfl ?_
    refine wp_bipush rfl ?_
    refine wp_icmp_le rfl (lo1 := [some (.ref p0), some (.int p1), some (.int p2), none, none, none, none]) (lo2 := [none, none, none, none, none, none, none]) rfl rfl (fun q1 => ?_) (fun q1 => ?_)
    · have H := H.1 q1
      refine wp_lconst rfl ?_
      refine wp_lstore_n rfl rfl (lo' := [some (.ref p0), some (.int p1), some (.int p2), some (.long (lN 0)), none, none, none]) rfl ?_
      refine wp_iload_n rfl rfl ?_
      refine wp_istore rfl rfl (lo' := [some (.ref p0), none, some (.int p2), some (.long (lN 0)), none, some (.int p1), none]) rfl ?_
      exact H
    · have H := H.2 q1
      refine wp_lconst rfl ?_
      exact wp_jret rfl rfl H
def wq_Words_add (p0 : Nat) (p1 : Int64) (h : HP) (K : HP → Prop) : Prop :=
  isO h p0 8 ∧ wq_Words_isFull p0 h (fun v2 h1 => (¬ v2 = 0 → K h1) ∧ (v2 = 0 → isO h1 p0 8 ∧ 0 < gR h1 p0 0 ∧ isO h1 p0 8 ∧ isA h1 (gR h1 p0 0) 103 (gI h1 p0 1) ∧ (∀ h3 : HP, h3 = stJ h1 (gR h1 p0 0) (gI h1 p0 1).toNatClampNeg p1 → isO h3 p0 8 ∧ isO h3 p0 8 ∧ (∀ h4 : HP, h4 = stI h3 p0 1 ((gI h3 p0 1) + (1 : Int32)) → K h4))))
theorem wq_Words_add_ok {p0 : Nat} {p1 : Int64} {h : HP} {K : HP → Prop} (H : wq_Words_add p0 p1 h K) : Wp k_Words_add 0 [some (.ref p0), some (.long p1), none] [] h (0, 0) (QV K) := by
  unfold wq_Words_add at H
  refine wp_aload_n rfl rfl ?_
  obtain ⟨g14, H⟩ := H
  refine wp_callvI rfl rfl (Or.inr rfl) (lo' := [some (.ref p0), some (.long p1), none]) rfl g14 ⟨Nat.le_of_ble_eq_true rfl, Nat.le_of_ble_eq_true rfl, Nat.le_of_ble_eq_true rfl, Nat.le_of_ble_eq_true rfl⟩ (bd' := (0, 0)) rfl ?_
  refine (wq_Words_isFull_ok H).conI (fun v2 h1 H => ?_)
  refine wp_if_ne rfl (lo1 := [none, none, none]) (lo2 := [some (.ref p0), some (.long p1), none]) rfl rfl (fun q13 => ?_) (fun q13 => ?_)
  · have H := H.1 q13
    exact wp_vret rfl rfl H
  · have H := H.2 q13
    refine wp_aload_n rfl rfl ?_
    obtain ⟨g11, g12, H⟩ := H
    refine wp_getR rfl rfl g11 g12 ?_
    refine wp_aload_n rfl rfl ?_
    obtain ⟨g10, H⟩ := H
    refine wp_getI rfl rfl g10 ?_
    refine wp_lload_n rfl rfl ?_
    obtain ⟨g8, H⟩ := H
    obtain ⟨h3, e9⟩ : ∃ z : HP, z = stJ h1 (gR h1 p0 0) (gI h1 p0 1).toNatClampNeg p1 := ⟨_, rfl⟩
    have H := H h3 e9
    refine wp_last rfl g8 e9 ?_
    refine wp_aload_n rfl rfl ?_
    refine wp_dupR rfl ?_
    obtain ⟨g7, H⟩ := H
    refine wp_getI rfl rfl g7 ?_
    refine wp_iconst rfl ?_
    refine wp_iadd rfl ?_
    obtain ⟨g5, H⟩ := H
    obtain ⟨h4, e6⟩ : ∃ z : HP, z = stI h3 p0 1 ((gI h3 p0 1) + (1 : Int32)) := ⟨_, rfl⟩
    have H := H h4 e6
    refine wp_putIk (lo' := [none, none, none]) rfl rfl rfl g5 e6 ?_
    exact wp_vret rfl rfl H
def wb_K_feed_37 (l0 : Nat) (l1 : Int64) (l4 : Int32) (h : HP) (K : Int32 → HP → Prop) : Prop :=
  (l4 < 0 → isO h l0 9 ∧ 0 < gR h l0 0 ∧ isO h (gR h l0 0) 7 ∧ K (gI h (gR h l0 0) 1) h) ∧ (¬ l4 < 0 → isO h l0 9 ∧ 0 < gR h l0 0 ∧ isO h (gR h l0 0) 7 ∧ wq_Text_put (gR h l0 0) (((l1.toUInt64 >>> (((8 : Int32) * l4).toInt64.toUInt64 &&& Int64.toUInt64 63)).toInt64).toInt32) h (fun h10 => Wp k_K_feed 37 [some (.ref l0), some (.long l1), none, none, some (.int (l4 + (-1 : Int32)))] [] h10 (0, 0) (QI K)))
theorem wb_K_feed_37_ok {l0 : Nat} {l1 : Int64} {l4 : Int32} {h : HP} {K : Int32 → HP → Prop} (H : wb_K_feed_37 l0 l1 l4 h K) : Wp k_K_feed 37 [some (.ref l0), some (.long l1), none, none, some (.int l4)] [] h (0, 0) (QI K) := by
  unfold wb_K_feed_37 at H
  refine wp_iload rfl rfl ?_
  refine wp_if_lt rfl (lo1 := [some (.ref l0), some (.long l1), none, none, some (.int l4)]) (lo2 := [some (.ref l0), some (.long l1), none, none, some (.int l4)]) rfl rfl (fun q14 => ?_) (fun q14 => ?_)
  · have H := H.1 q14
    refine wp_aload_n rfl rfl ?_
    obtain ⟨g8, g9, H⟩ := H
    refine wp_getR rfl rfl g8 g9 ?_
    obtain ⟨g7, H⟩ := H
    refine wp_getI rfl rfl g7 ?_
    exact wp_iret rfl rfl H
  · have H := H.2 q14
    refine wp_aload_n rfl rfl ?_
    obtain ⟨g12, g13, H⟩ := H
    refine wp_getR rfl rfl g12 g13 ?_
    refine wp_lload_n rfl rfl ?_
    refine wp_bipush rfl ?_
    refine wp_iload rfl rfl ?_
    refine wp_imul rfl ?_
    refine wp_lushr rfl ?_
    refine wp_l2i rfl ?_
    obtain ⟨g11, H⟩ := H
    refine wp_callvV rfl rfl rfl (lo' := [some (.ref l0), some (.long l1), none, none, some (.int l4)]) rfl g11 ⟨Nat.le_of_ble_eq_true rfl, Nat.le_of_ble_eq_true rfl, Nat.le_of_ble_eq_true rfl, Nat.le_of_ble_eq_true rfl⟩ (bd' := (0, 0)) rfl ?_
    refine (wq_Text_put_ok H).conV (fun h10 H => ?_)
    refine wp_iinc rfl rfl rfl (lo' := [some (.ref l0), some (.long l1), none, none, some (.int (l4 + (-1 : Int32)))]) rfl ?_
    refine wp_goto rfl (lo' := [some (.ref l0), some (.long l1), none, none, some (.int (l4 + (-1 : Int32)))]) rfl ?_
    exact H
def wq_K_feed (p0 : Nat) (p1 : Int64) (p2 : Int32) (h : HP) (K : Int32 → HP → Prop) : Prop :=
  (p2 < (1 : Int32) → K (-2 : Int32) h) ∧ (¬ p2 < (1 : Int32) → (p2 ≤ (8 : Int32) → isO h p0 9 ∧ 0 < gR h p0 0 ∧ isO h (gR h p0 0) 7 ∧ ((gI h (gR h p0 0) 1) + p2 ≤ (600 : Int32) → Wp k_K_feed 37 [some (.ref p0), some (.long p1), none, none, some (.int (p2 - (1 : Int32)))] [] h (0, 0) (QI K)) ∧ (¬ (gI h (gR h p0 0) 1) + p2 ≤ (600 : Int32) → K (-5 : Int32) h)) ∧ (¬ p2 ≤ (8 : Int32) → K (-2 : Int32) h))
theorem wq_K_feed_ok {p0 : Nat} {p1 : Int64} {p2 : Int32} {h : HP} {K : Int32 → HP → Prop} (H : wq_K_feed p0 p1 p2 h K) : Wp k_K_feed 0 [some (.ref p0), some (.long p1), none, some (.int p2), none] [] h (0, 0) (QI K) := by
  unfold wq_K_feed at H
  refine wp_iload_n rfl rfl ?_
  refine wp_iconst rfl ?_
  refine wp_icmp_lt rfl (lo1 := [none, none, none, none, none]) (lo2 := [some (.ref p0), some (.long p1), none, some (.int p2), none]) rfl rfl (fun q6 => ?_) (fun q6 => ?_)
  · have H := H.1 q6
    refine wp_bipush rfl ?_
    exact wp_iret rfl rfl H
  · have H := H.2 q6
    refine wp_iload_n rfl rfl ?_
    refine wp_bipush rfl ?_
    refine wp_icmp_le rfl (lo1 := [some (.ref p0), some (.long p1), none, some (.int p2), none]) (lo2 := [none, none, none, none, none]) rfl rfl (fun q5 => ?_) (fun q5 => ?_)
    · have H := H.1 q5
      refine wp_aload_n rfl rfl ?_
      obtain ⟨g3, g4, H⟩ := H
      refine wp_getR rfl rfl g3 g4 ?_
      obtain ⟨g2, H⟩ := H
      refine wp_getI rfl rfl g2 ?_
      refine wp_iload_n rfl rfl ?_
      refine wp_iadd rfl ?_
      refine wp_sipush rfl ?_
      refine wp_icmp_le rfl (lo1 := [some (.ref p0), some (.long p1), none, some (.int p2), none]) (lo2 := [some (.ref p0), some (.long p1), none, some (.int p2), none]) rfl rfl (fun q1 => ?_) (fun q1 => ?_)
      · have H := H.1 q1
        refine wp_iload_n rfl rfl ?_
        refine wp_iconst rfl ?_
        refine wp_isub rfl ?_
        refine wp_istore rfl rfl (lo' := [some (.ref p0), some (.long p1), none, none, some (.int (p2 - (1 : Int32)))]) rfl ?_
        exact H
      · have H := H.2 q1
        refine wp_bipush rfl ?_
        exact wp_iret rfl rfl H
    · have H := H.2 q5
      refine wp_bipush rfl ?_
      exact wp_iret rfl rfl H
def wq_K_tape (p0 : Nat) (p1 : Int32) (h : HP) (K : Int32 → HP → Prop) : Prop :=
  isO h p0 9 ∧ 0 < gR h p0 0 ∧ isO h (gR h p0 0) 7 ∧ wq_Text_at (gR h p0 0) p1 h (fun v2 h1 => K v2 h1)
theorem wq_K_tape_ok {p0 : Nat} {p1 : Int32} {h : HP} {K : Int32 → HP → Prop} (H : wq_K_tape p0 p1 h K) : Wp k_K_tape 0 [some (.ref p0), some (.int p1)] [] h (0, 0) (QI K) := by
  unfold wq_K_tape at H
  refine wp_aload_n rfl rfl ?_
  obtain ⟨g4, g5, H⟩ := H
  refine wp_getR rfl rfl g4 g5 ?_
  refine wp_iload_n rfl rfl ?_
  obtain ⟨g3, H⟩ := H
  refine wp_callvI rfl rfl (Or.inl rfl) (lo' := [some (.ref p0), some (.int p1)]) rfl g3 ⟨Nat.le_of_ble_eq_true rfl, Nat.le_of_ble_eq_true rfl, Nat.le_of_ble_eq_true rfl, Nat.le_of_ble_eq_true rfl⟩ (bd' := (0, 0)) rfl ?_
  refine (wq_Text_at_ok H).conI (fun v2 h1 H => ?_)
  exact wp_iret rfl rfl H
def wq_K_piece (p0 : Nat) (p1 : Int32) (p2 : Int32) (p3 : Int32) (h : HP) (K : Int32 → HP → Prop) : Prop :=
  isO h p0 9 ∧ wq_K_isSegment p0 p1 h (fun v2 h1 => (¬ v2 = 0 → isO h1 p0 9 ∧ 0 < gR h1 p0 1 ∧ isO h1 (gR h1 p0 1) 0 ∧ 0 < gR h1 (gR h1 p0 1) 1 ∧ 0 < gR h1 (gR h1 p0 1) 1 ∧ gR h1 (gR h1 p0 1) 1 < gS h1 ∧ (gK h1 (gR h1 (gR h1 p0 1) 1) = 104 ∨ gK h1 (gR h1 (gR h1 p0 1) 1) = 105) ∧ vp_in p1 (gL h1 (gR h1 (gR h1 p0 1) 1)) ∧ 0 < gR h1 (gR h1 (gR h1 p0 1) 1) p1.toNatClampNeg ∧ (p2 < 0 → K (-1 : Int32) h1) ∧ (¬ p2 < 0 → isO h1 (gR h1 (gR h1 (gR h1 p0 1) 1) p1.toNatClampNeg) 6 ∧ (p2 < gI h1 (gR h1 (gR h1 (gR h1 p0 1) 1) p1.toNatClampNeg) 7 → (¬ p3 = 0 → ¬ p3 = 1 → ¬ p3 = 2 → K (-1 : Int32) h1) ∧ (p3 = 0 → isO h1 (gR h1 (gR h1 (gR h1 p0 1) 1) p1.toNatClampNeg) 6 ∧ 0 < gR h1 (gR h1 (gR h1 (gR h1 p0 1) 1) p1.toNatClampNeg) 0 ∧ isL h1 (gR h1 (gR h1 (gR h1 (gR h1 p0 1) 1) p1.toNatClampNeg) 0) 100 p2 ∧ K (gI h1 (gR h1 (gR h1 (gR h1 (gR h1 p0 1) 1) p1.toNatClampNeg) 0) p2.toNatClampNeg) h1) ∧ (p3 = 1 → isO h1 (gR h1 (gR h1 (gR h1 p0 1) 1) p1.toNatClampNeg) 6 ∧ 0 < gR h1 (gR h1 (gR h1 (gR h1 p0 1) 1) p1.toNatClampNeg) 1 ∧ isL h1 (gR h1 (gR h1 (gR h1 (gR h1 p0 1) 1) p1.toNatClampNeg) 1) 100 p2 ∧ K (gI h1 (gR h1 (gR h1 (gR h1 (gR h1 p0 1) 1) p1.toNatClampNeg) 1) p2.toNatClampNeg) h1) ∧ (p3 = 2 → isO h1 (gR h1 (gR h1 (gR h1 p0 1) 1) p1.toNatClampNeg) 6 ∧ 0 < gR h1 (gR h1 (gR h1 (gR h1 p0 1) 1) p1.toNatClampNeg) 2 ∧ isL h1 (gR h1 (gR h1 (gR h1 (gR h1 p0 1) 1) p1.toNatClampNeg) 2) 100 p2 ∧ K (gI h1 (gR h1 (gR h1 (gR h1 (gR h1 p0 1) 1) p1.toNatClampNeg) 2) p2.toNatClampNeg) h1)) ∧ (¬ p2 < gI h1 (gR h1 (gR h1 (gR h1 p0 1) 1) p1.toNatClampNeg) 7 → K (-1 : Int32) h1))) ∧ (v2 = 0 → K (-1 : Int32) h1))
set_option maxRecDepth 100000 in
set_option maxHeartbeats 4000000 in
theorem wq_K_piece_ok {p0 : Nat} {p1 : Int32} {p2 : Int32} {p3 : Int32} {h : HP} {K : Int32 → HP → Prop} (H : wq_K_piece p0 p1 p2 p3 h K) : Wp k_K_piece 0 [some (.ref p0), some (.int p1), some (.int p2), some (.int p3), none] [] h (0, 0) (QI K) := by
  unfold wq_K_piece at H
  refine wp_aload_n rfl rfl ?_
  refine wp_iload_n rfl rfl ?_
  obtain ⟨g26, H⟩ := H
  refine wp_callvI rfl rfl (Or.inr rfl) (lo' := [some (.ref p0), some (.int p1), some (.int p2), some (.int p3), none]) rfl g26 ⟨Nat.le_of_ble_eq_true rfl, Nat.le_of_ble_eq_true rfl, Nat.le_of_ble_eq_true rfl, Nat.le_of_ble_eq_true rfl⟩ (bd' := (0, 0)) rfl ?_
  refine (wq_K_isSegment_ok H).conI (fun v2 h1 H => ?_)
  refine wp_if_ne rfl (lo1 := [some (.ref p0), some (.int p1), some (.int p2), some (.int p3), none]) (lo2 := [some (.ref p0), some (.int p1), some (.int p2), some (.int p3), none]) rfl rfl (fun q25 => ?_) (fun q25 => ?_)
  · have H := H.1 q25
    refine wp_aload_n rfl rfl ?_
    obtain ⟨g23, g24, H⟩ := H
    refine wp_getR rfl rfl g23 g24 ?_
    obtain ⟨g21, g22, H⟩ := H
    refine wp_getR rfl rfl g21 g22 ?_
    refine wp_iload_n rfl rfl ?_
    obtain ⟨g16, g17, g18, g19, g20, H⟩ := H
    refine wp_aald rfl g16 g17 g18 g19 g20 ?_
    refine wp_astore rfl rfl (lo' := [some (.ref p0), some (.int p1), some (.int p2), some (.int p3), some (.ref (gR h1 (gR h1 (gR h1 p0 1) 1) p1.toNatClampNeg))]) rfl ?_
    refine wp_iload_n rfl rfl ?_
    refine wp_if_lt rfl (lo1 := [none, none, none, none, none]) (lo2 := [some (.ref p0), some (.int p1), some (.int p2), some (.int p3), some (.ref (gR h1 (gR h1 (gR h1 p0 1) 1) p1.toNatClampNeg))]) rfl rfl (fun q15 => ?_) (fun q15 => ?_)
    · have H := H.1 q15
      refine wp_iconst rfl ?_
      exact wp_iret rfl rfl H
    · have H := H.2 q15
      refine wp_iload_n rfl rfl ?_
      refine wp_aload rfl rfl ?_
      obtain ⟨g14, H⟩ := H
      refine wp_getI rfl rfl g14 ?_
      refine wp_icmp_lt rfl (lo1 := [some (.ref p0), some (.int p1), some (.int p2), some (.int p3), some (.ref (gR h1 (gR h1 (gR h1 p0 1) 1) p1.toNatClampNeg))]) (lo2 := [none, none, none, none, none]) rfl rfl (fun q13 => ?_) (fun q13 => ?_)
      · have H := H.1 q13
        refine wp_iload_n rfl rfl ?_
        refine wp_table rfl (lo' := [some (.ref p0), some (.int p1), some (.int p2), some (.int p3), some (.ref (gR h1 (gR h1 (gR h1 p0 1) 1) p1.toNatClampNeg))]) rfl (fun q12 => ?_) (fun i off ho hx => ?_)
        · have H := H.1 (sw_ne q12 (by decide)) (sw_ne q12 (by decide)) (sw_ne q12 (by decide))
          refine wp_iconst rfl ?_
          exact wp_iret rfl rfl H
        · match i, ho, hx with
          | 0, ho, hx =>
            cases ho
            have H := H.2.1 (sw_eq hx (by decide))
            show Wp k_K_piece 64 _ _ _ _ _
            refine wp_aload rfl rfl ?_
            obtain ⟨g4, g5, H⟩ := H
            refine wp_getR rfl rfl g4 g5 ?_
            refine wp_iload_n rfl rfl ?_
            obtain ⟨g3, H⟩ := H
            refine wp_iald rfl g3 ?_
            exact wp_iret rfl rfl H
          | 1, ho, hx =>
            cases ho
            have H := H.2.2.1 (sw_eq hx (by decide))
            show Wp k_K_piece 72 _ _ _ _ _
            refine wp_aload rfl rfl ?_
            obtain ⟨g7, g8, H⟩ := H
            refine wp_getR rfl rfl g7 g8 ?_
            refine wp_iload_n rfl rfl ?_
            obtain ⟨g6, H⟩ := H
            refine wp_iald rfl g6 ?_
            exact wp_iret rfl rfl H
          | 2, ho, hx =>
            cases ho
            have H := H.2.2.2 (sw_eq hx (by decide))
            show Wp k_K_piece 80 _ _ _ _ _
            refine wp_aload rfl rfl ?_
            obtain ⟨g10, g11, H⟩ := H
            refine wp_getR rfl rfl g10 g11 ?_
            refine wp_iload_n rfl rfl ?_
            obtain ⟨g9, H⟩ := H
            refine wp_iald rfl g9 ?_
            exact wp_iret rfl rfl H
          | i + 3, ho, _ => exact absurd ho (by simp)
      · have H := H.2 q13
        refine wp_iconst rfl ?_
        exact wp_iret rfl rfl H
  · have H := H.2 q25
    refine wp_iconst rfl ?_
    exact wp_iret rfl rfl H
def wq_K_pair (p0 : Nat) (p1 : Int32) (p2 : Int32) (h : HP) (K : Int32 → HP → Prop) : Prop :=
  isO h p0 9 ∧ wq_K_isPair p0 p1 h (fun v2 h1 => (¬ v2 = 0 → isO h1 p0 9 ∧ 0 < gR h1 p0 2 ∧ isO h1 (gR h1 p0 2) 2 ∧ 0 < gR h1 (gR h1 p0 2) 2 ∧ isL h1 (gR h1 (gR h1 p0 2) 2) 100 p1 ∧ (¬ p2 = 0 → ¬ p2 = 1 → ¬ p2 = 2 → ¬ p2 = 3 → ¬ p2 = 4 → K (-1 : Int32) h1) ∧ (p2 = 0 → isO h1 p0 9 ∧ 0 < gR h1 p0 2 ∧ isO h1 (gR h1 p0 2) 2 ∧ 0 < gR h1 (gR h1 p0 2) 0 ∧ 0 < gR h1 (gR h1 p0 2) 0 ∧ gR h1 (gR h1 p0 2) 0 < gS h1 ∧ (gK h1 (gR h1 (gR h1 p0 2) 0) = 104 ∨ gK h1 (gR h1 (gR h1 p0 2) 0) = 105) ∧ vp_in p1 (gL h1 (gR h1 (gR h1 p0 2) 0)) ∧ 0 < gR h1 (gR h1 (gR h1 p0 2) 0) p1.toNatClampNeg ∧ isO h1 (gR h1 (gR h1 (gR h1 p0 2) 0) p1.toNatClampNeg) 7 ∧ K (gI h1 (gR h1 (gR h1 (gR h1 p0 2) 0) p1.toNatClampNeg) 1) h1) ∧ (p2 = 1 → isO h1 p0 9 ∧ 0 < gR h1 p0 2 ∧ isO h1 (gR h1 p0 2) 2 ∧ 0 < gR h1 (gR h1 p0 2) 3 ∧ 0 < gR h1 (gR h1 p0 2) 3 ∧ gR h1 (gR h1 p0 2) 3 < gS h1 ∧ (gK h1 (gR h1 (gR h1 p0 2) 3) = 104 ∨ gK h1 (gR h1 (gR h1 p0 2) 3) = 105) ∧ vp_in (gI h1 (gR h1 (gR h1 p0 2) 2) p1.toNatClampNeg) (gL h1 (gR h1 (gR h1 p0 2) 3)) ∧ 0 < gR h1 (gR h1 (gR h1 p0 2) 3) (gI h1 (gR h1 (gR h1 p0 2) 2) p1.toNatClampNeg).toNatClampNeg ∧ isO h1 (gR h1 (gR h1 (gR h1 p0 2) 3) (gI h1 (gR h1 (gR h1 p0 2) 2) p1.toNatClampNeg).toNatClampNeg) 7 ∧ K (gI h1 (gR h1 (gR h1 (gR h1 p0 2) 3) (gI h1 (gR h1 (gR h1 p0 2) 2) p1.toNatClampNeg).toNatClampNeg) 1) h1) ∧ (p2 = 2 → isO h1 p0 9 ∧ 0 < gR h1 p0 2 ∧ isO h1 (gR h1 p0 2) 2 ∧ wq_Memory_renderingsOf (gR h1 p0 2) p1 h1 (fun v24 h23 => K v24 h23)) ∧ (p2 = 3 → isO h1 p0 9 ∧ 0 < gR h1 p0 2 ∧ isO h1 (gR h1 p0 2) 2 ∧ 0 < gR h1 (gR h1 p0 2) 5 ∧ isL h1 (gR h1 (gR h1 p0 2) 5) 100 (gI h1 (gR h1 (gR h1 p0 2) 2) p1.toNatClampNeg) ∧ K (gI h1 (gR h1 (gR h1 p0 2) 5) (gI h1 (gR h1 (gR h1 p0 2) 2) p1.toNatClampNeg).toNatClampNeg) h1) ∧ (p2 = 4 → K ((gI h1 (gR h1 (gR h1 p0 2) 2) p1.toNatClampNeg) + (1 : Int32)) h1)) ∧ (v2 = 0 → K (-1 : Int32) h1))
set_option maxRecDepth 100000 in
set_option maxHeartbeats 4000000 in
theorem wq_K_pair_ok {p0 : Nat} {p1 : Int32} {p2 : Int32} {h : HP} {K : Int32 → HP → Prop} (H : wq_K_pair p0 p1 p2 h K) : Wp k_K_pair 0 [some (.ref p0), some (.int p1), some (.int p2), none] [] h (0, 0) (QI K) := by
  unfold wq_K_pair at H
  refine wp_aload_n rfl rfl ?_
  refine wp_iload_n rfl rfl ?_
  obtain ⟨g40, H⟩ := H
  refine wp_callvI rfl rfl (Or.inr rfl) (lo' := [some (.ref p0), some (.int p1), some (.int p2), none]) rfl g40 ⟨Nat.le_of_ble_eq_true rfl, Nat.le_of_ble_eq_true rfl, Nat.le_of_ble_eq_true rfl, Nat.le_of_ble_eq_true rfl⟩ (bd' := (0, 0)) rfl ?_
  refine (wq_K_isPair_ok H).conI (fun v2 h1 H => ?_)
  refine wp_if_ne rfl (lo1 := [some (.ref p0), some (.int p1), some (.int p2), none]) (lo2 := [some (.ref p0), some (.int p1), some (.int p2), none]) rfl rfl (fun q39 => ?_) (fun q39 => ?_)
  · have H := H.1 q39
    refine wp_aload_n rfl rfl ?_
    obtain ⟨g37, g38, H⟩ := H
    refine wp_getR rfl rfl g37 g38 ?_
    obtain ⟨g35, g36, H⟩ := H
    refine wp_getR rfl rfl g35 g36 ?_
    refine wp_iload_n rfl rfl ?_
    obtain ⟨g34, H⟩ := H
    refine wp_iald rfl g34 ?_
    refine wp_istore_n rfl rfl (lo' := [some (.ref p0), some (.int p1), some (.int p2), some (.int (gI h1 (gR h1 (gR h1 p0 2) 2) p1.toNatClampNeg))]) rfl ?_
    refine wp_iload_n rfl rfl ?_
    refine wp_table rfl (lo' := [some (.ref p0), some (.int p1), some (.int p2), some (.int (gI h1 (gR h1 (gR h1 p0 2) 2) p1.toNatClampNeg))]) rfl (fun q33 => ?_) (fun i off ho hx => ?_)
    · have H := H.1 (sw_ne q33 (by decide)) (sw_ne q33 (by decide)) (sw_ne q33 (by decide)) (sw_ne q33 (by decide)) (sw_ne q33 (by decide))
      refine wp_iconst rfl ?_
      exact wp_iret rfl rfl H
    · match i, ho, hx with
      | 0, ho, hx =>
        cases ho
        have H := H.2.1 (sw_eq hx (by decide))
        show Wp k_K_pair 56 _ _ _ _ _
        refine wp_aload_n rfl rfl ?_
        obtain ⟨g11, g12, H⟩ := H
        refine wp_getR rfl rfl g11 g12 ?_
        obtain ⟨g9, g10, H⟩ := H
        refine wp_getR rfl rfl g9 g10 ?_
        refine wp_iload_n rfl rfl ?_
        obtain ⟨g4, g5, g6, g7, g8, H⟩ := H
        refine wp_aald rfl g4 g5 g6 g7 g8 ?_
        obtain ⟨g3, H⟩ := H
        refine wp_getI rfl rfl g3 ?_
        exact wp_iret rfl rfl H
      | 1, ho, hx =>
        cases ho
        have H := H.2.2.1 (sw_eq hx (by decide))
        show Wp k_K_pair 69 _ _ _ _ _
        refine wp_aload_n rfl rfl ?_
        obtain ⟨g21, g22, H⟩ := H
        refine wp_getR rfl rfl g21 g22 ?_
        obtain ⟨g19, g20, H⟩ := H
        refine wp_getR rfl rfl g19 g20 ?_
        refine wp_iload_n rfl rfl ?_
        obtain ⟨g14, g15, g16, g17, g18, H⟩ := H
        refine wp_aald rfl g14 g15 g16 g17 g18 ?_
        obtain ⟨g13, H⟩ := H
        refine wp_getI rfl rfl g13 ?_
        exact wp_iret rfl rfl H
      | 2, ho, hx =>
        cases ho
        have H := H.2.2.2.1 (sw_eq hx (by decide))
        show Wp k_K_pair 82 _ _ _ _ _
        refine wp_aload_n rfl rfl ?_
        obtain ⟨g26, g27, H⟩ := H
        refine wp_getR rfl rfl g26 g27 ?_
        refine wp_iload_n rfl rfl ?_
        obtain ⟨g25, H⟩ := H
        refine wp_callvI rfl rfl (Or.inl rfl) (lo' := [some (.ref p0), some (.int p1), some (.int p2), some (.int (gI h1 (gR h1 (gR h1 p0 2) 2) p1.toNatClampNeg))]) rfl g25 ⟨Nat.le_of_ble_eq_true rfl, Nat.le_of_ble_eq_true rfl, Nat.le_of_ble_eq_true rfl, Nat.le_of_ble_eq_true rfl⟩ (bd' := (0, 0)) rfl ?_
        refine (wq_Memory_renderingsOf_ok H).conI (fun v24 h23 H => ?_)
        exact wp_iret rfl rfl H
      | 3, ho, hx =>
        cases ho
        have H := H.2.2.2.2.1 (sw_eq hx (by decide))
        show Wp k_K_pair 91 _ _ _ _ _
        refine wp_aload_n rfl rfl ?_
        obtain ⟨g31, g32, H⟩ := H
        refine wp_getR rfl rfl g31 g32 ?_
        obtain ⟨g29, g30, H⟩ := H
        refine wp_getR rfl rfl g29 g30 ?_
        refine wp_iload_n rfl rfl ?_
        obtain ⟨g28, H⟩ := H
        refine wp_iald rfl g28 ?_
        exact wp_iret rfl rfl H
      | 4, ho, hx =>
        cases ho
        have H := H.2.2.2.2.2 (sw_eq hx (by decide))
        show Wp k_K_pair 101 _ _ _ _ _
        refine wp_iload_n rfl rfl ?_
        refine wp_iconst rfl ?_
        refine wp_iadd rfl ?_
        exact wp_iret rfl rfl H
      | i + 5, ho, _ => exact absurd ho (by simp)
  · have H := H.2 q39
    refine wp_iconst rfl ?_
    exact wp_iret rfl rfl H
def wq_K_rendered (p0 : Nat) (p1 : Int32) (p2 : Int32) (p3 : Int32) (h : HP) (K : Int32 → HP → Prop) : Prop :=
  isO h p0 9 ∧ wq_K_isPair p0 p1 h (fun v2 h1 => (v2 = 0 → K (-1 : Int32) h1) ∧ (¬ v2 = 0 → (p2 < (-1 : Int32) → K (-1 : Int32) h1) ∧ (¬ p2 < (-1 : Int32) → isO h1 p0 9 ∧ 0 < gR h1 p0 2 ∧ isO h1 (gR h1 p0 2) 2 ∧ (p2 ≤ gI h1 (gR h1 p0 2) 7 → (¬ p2 = (-1 : Int32) → isO h1 p0 9 ∧ 0 < gR h1 p0 2 ∧ isO h1 (gR h1 p0 2) 2 ∧ wq_Memory_renderingAt (gR h1 p0 2) p1 p2 h1 (fun v4 h3 => (0 ≤ v4 → isO h3 p0 9 ∧ 0 < gR h3 p0 2 ∧ isO h3 (gR h3 p0 2) 2 ∧ 0 < gR h3 (gR h3 p0 2) 3 ∧ 0 < gR h3 (gR h3 p0 2) 3 ∧ gR h3 (gR h3 p0 2) 3 < gS h3 ∧ (gK h3 (gR h3 (gR h3 p0 2) 3) = 104 ∨ gK h3 (gR h3 (gR h3 p0 2) 3) = 105) ∧ vp_in v4 (gL h3 (gR h3 (gR h3 p0 2) 3)) ∧ 0 < gR h3 (gR h3 (gR h3 p0 2) 3) v4.toNatClampNeg ∧ isO h3 (gR h3 (gR h3 (gR h3 p0 2) 3) v4.toNatClampNeg) 7 ∧ wq_Text_at (gR h3 (gR h3 (gR h3 p0 2) 3) v4.toNatClampNeg) p3 h3 (fun v6 h5 => K v6 h5)) ∧ (¬ 0 ≤ v4 → K (-1 : Int32) h3))) ∧ (p2 = (-1 : Int32) → isO h1 p0 9 ∧ 0 < gR h1 p0 2 ∧ isO h1 (gR h1 p0 2) 2 ∧ 0 < gR h1 (gR h1 p0 2) 0 ∧ 0 < gR h1 (gR h1 p0 2) 0 ∧ gR h1 (gR h1 p0 2) 0 < gS h1 ∧ (gK h1 (gR h1 (gR h1 p0 2) 0) = 104 ∨ gK h1 (gR h1 (gR h1 p0 2) 0) = 105) ∧ vp_in p1 (gL h1 (gR h1 (gR h1 p0 2) 0)) ∧ 0 < gR h1 (gR h1 (gR h1 p0 2) 0) p1.toNatClampNeg ∧ isO h1 (gR h1 (gR h1 (gR h1 p0 2) 0) p1.toNatClampNeg) 7 ∧ wq_Text_at (gR h1 (gR h1 (gR h1 p0 2) 0) p1.toNatClampNeg) p3 h1 (fun v22 h21 => K v22 h21))) ∧ (¬ p2 ≤ gI h1 (gR h1 p0 2) 7 → K (-1 : Int32) h1))))
set_option maxRecDepth 100000 in
set_option maxHeartbeats 4000000 in
theorem wq_K_rendered_ok {p0 : Nat} {p1 : Int32} {p2 : Int32} {p3 : Int32} {h : HP} {K : Int32 → HP → Prop} (H : wq_K_rendered p0 p1 p2 p3 h K) : Wp k_K_rendered 0 [some (.ref p0), some (.int p1), some (.int p2), some (.int p3), none] [] h (0, 0) (QI K) := by
  unfold wq_K_rendered at H
  refine wp_aload_n rfl rfl ?_
  refine wp_iload_n rfl rfl ?_
  obtain ⟨g40, H⟩ := H
  refine wp_callvI rfl rfl (Or.inr rfl) (lo' := [some (.ref p0), some (.int p1), some (.int p2), some (.int p3), none]) rfl g40 ⟨Nat.le_of_ble_eq_true rfl, Nat.le_of_ble_eq_true rfl, Nat.le_of_ble_eq_true rfl, Nat.le_of_ble_eq_true rfl⟩ (bd' := (0, 0)) rfl ?_
  refine (wq_K_isPair_ok H).conI (fun v2 h1 H => ?_)
  refine wp_if_eq rfl (lo1 := [none, none, none, none, none]) (lo2 := [some (.ref p0), some (.int p1), some (.int p2), some (.int p3), none]) rfl rfl (fun q39 => ?_) (fun q39 => ?_)
  · have H := H.1 q39
    refine wp_iconst rfl ?_
    exact wp_iret rfl rfl H
  · have H := H.2 q39
    refine wp_iload_n rfl rfl ?_
    refine wp_iconst rfl ?_
    refine wp_icmp_lt rfl (lo1 := [none, none, none, none, none]) (lo2 := [some (.ref p0), some (.int p1), some (.int p2), some (.int p3), none]) rfl rfl (fun q38 => ?_) (fun q38 => ?_)
    · have H := H.1 q38
      refine wp_iconst rfl ?_
      exact wp_iret rfl rfl H
    · have H := H.2 q38
      refine wp_iload_n rfl rfl ?_
      refine wp_aload_n rfl rfl ?_
      obtain ⟨g36, g37, H⟩ := H
      refine wp_getR rfl rfl g36 g37 ?_
      obtain ⟨g35, H⟩ := H
      refine wp_getI rfl rfl g35 ?_
      refine wp_icmp_le rfl (lo1 := [some (.ref p0), some (.int p1), some (.int p2), some (.int p3), none]) (lo2 := [none, none, none, none, none]) rfl rfl (fun q34 => ?_) (fun q34 => ?_)
      · have H := H.1 q34
        refine wp_iload_n rfl rfl ?_
        refine wp_iconst rfl ?_
        refine wp_icmp_ne rfl (lo1 := [some (.ref p0), some (.int p1), some (.int p2), some (.int p3), none]) (lo2 := [some (.ref p0), some (.int p1), some (.int p2), some (.int p3), none]) rfl rfl (fun q33 => ?_) (fun q33 => ?_)
        · have H := H.1 q33
          refine wp_aload_n rfl rfl ?_
          obtain ⟨g19, g20, H⟩ := H
          refine wp_getR rfl rfl g19 g20 ?_
          refine wp_iload_n rfl rfl ?_
          refine wp_iload_n rfl rfl ?_
          obtain ⟨g18, H⟩ := H
          refine wp_callvI rfl rfl (Or.inl rfl) (lo' := [some (.ref p0), some (.int p1), some (.int p2), some (.int p3), none]) rfl g18 ⟨Nat.le_of_ble_eq_true rfl, Nat.le_of_ble_eq_true rfl, Nat.le_of_ble_eq_true rfl, Nat.le_of_ble_eq_true rfl⟩ (bd' := (0, 0)) rfl ?_
          refine (wq_Memory_renderingAt_ok H).conI (fun v4 h3 H => ?_)
          refine wp_istore rfl rfl (lo' := [some (.ref p0), some (.int p1), some (.int p2), some (.int p3), some (.int v4)]) rfl ?_
          refine wp_iload rfl rfl ?_
          refine wp_if_ge rfl (lo1 := [some (.ref p0), some (.int p1), some (.int p2), some (.int p3), some (.int v4)]) (lo2 := [some (.ref p0), some (.int p1), some (.int p2), some (.int p3), some (.int v4)]) rfl rfl (fun q17 => ?_) (fun q17 => ?_)
          · have H := H.1 q17
            refine wp_aload_n rfl rfl ?_
            obtain ⟨g15, g16, H⟩ := H
            refine wp_getR rfl rfl g15 g16 ?_
            obtain ⟨g13, g14, H⟩ := H
            refine wp_getR rfl rfl g13 g14 ?_
            refine wp_iload rfl rfl ?_
            obtain ⟨g8, g9, g10, g11, g12, H⟩ := H
            refine wp_aald rfl g8 g9 g10 g11 g12 ?_
            refine wp_iload_n rfl rfl ?_
            obtain ⟨g7, H⟩ := H
            refine wp_callvI rfl rfl (Or.inl rfl) (lo' := [none, none, none, none, none]) rfl g7 ⟨Nat.le_of_ble_eq_true rfl, Nat.le_of_ble_eq_true rfl, Nat.le_of_ble_eq_true rfl, Nat.le_of_ble_eq_true rfl⟩ (bd' := (0, 0)) rfl ?_
            refine (wq_Text_at_ok H).conI (fun v6 h5 H => ?_)
            exact wp_iret rfl rfl H
          · have H := H.2 q17
            refine wp_iconst rfl ?_
            refine wp_goto rfl (lo' := [none, none, none, none, none]) rfl ?_
            exact wp_iret rfl rfl H
        · have H := H.2 q33
          refine wp_aload_n rfl rfl ?_
          obtain ⟨g31, g32, H⟩ := H
          refine wp_getR rfl rfl g31 g32 ?_
          obtain ⟨g29, g30, H⟩ := H
          refine wp_getR rfl rfl g29 g30 ?_
          refine wp_iload_n rfl rfl ?_
          obtain ⟨g24, g25, g26, g27, g28, H⟩ := H
          refine wp_aald rfl g24 g25 g26 g27 g28 ?_
          refine wp_iload_n rfl rfl ?_
          obtain ⟨g23, H⟩ := H
          refine wp_callvI rfl rfl (Or.inl rfl) (lo' := [some (.ref p0), some (.int p1), some (.int p2), some (.int p3), none]) rfl g23 ⟨Nat.le_of_ble_eq_true rfl, Nat.le_of_ble_eq_true rfl, Nat.le_of_ble_eq_true rfl, Nat.le_of_ble_eq_true rfl⟩ (bd' := (0, 0)) rfl ?_
          refine (wq_Text_at_ok H).conI (fun v22 h21 H => ?_)
          exact wp_iret rfl rfl H
      · have H := H.2 q34
        refine wp_iconst rfl ?_
        exact wp_iret rfl rfl H
