def wb_M_faults_37 (l0 : Nat) (l2 : Int32) (h : HP) (K : Int32 → HP → Prop) : Prop :=
  isO h l0 10 ∧ (gI h l0 13 ≤ l2 → Wp k_M_faults 76 [some (.ref l0), none, some (.int (0 : Int32))] [] h (0, 0) (QI K)) ∧ (¬ gI h l0 13 ≤ l2 → isO h l0 10 ∧ wq_M_often l0 (0 : Int32) ((8 : Int32) + l2) h (fun v14 h13 => isO h13 l0 10 ∧ wq_M_often l0 (2 : Int32) ((18 : Int32) + l2) h13 (fun v16 h15 => (v14 = v16 → Wp k_M_faults 37 [some (.ref l0), none, some (.int (l2 + (1 : Int32)))] [] h15 (0, 0) (QI K)) ∧ (¬ v14 = v16 → K l2 h15))))
theorem wb_M_faults_37_ok {l0 : Nat} {l2 : Int32} {h : HP} {K : Int32 → HP → Prop} (H : wb_M_faults_37 l0 l2 h K) : Wp k_M_faults 37 [some (.ref l0), none, some (.int l2)] [] h (0, 0) (QI K) := by
  unfold wb_M_faults_37 at H
  refine wp_iload_n rfl rfl ?_
  refine wp_aload_n rfl rfl ?_
  obtain ⟨g21, H⟩ := H
  refine wp_getI rfl rfl g21 ?_
  refine wp_icmp_ge rfl (lo1 := [some (.ref l0), none, some (.int l2)]) (lo2 := [some (.ref l0), none, some (.int l2)]) rfl rfl (fun q20 => ?_) (fun q20 => ?_)
  · have H := H.1 q20
    refine wp_iconst rfl ?_
    refine wp_istore_n rfl rfl (lo' := [some (.ref l0), none, some (.int (0 : Int32))]) rfl ?_
    exact H
  · have H := H.2 q20
    refine wp_aload_n rfl rfl ?_
    refine wp_iconst rfl ?_
    refine wp_bipush rfl ?_
    refine wp_iload_n rfl rfl ?_
    refine wp_iadd rfl ?_
    obtain ⟨g19, H⟩ := H
    refine wp_callvI rfl rfl (Or.inl rfl) (lo' := [some (.ref l0), none, some (.int l2)]) rfl g19 ⟨Nat.le_of_ble_eq_true rfl, Nat.le_of_ble_eq_true rfl, Nat.le_of_ble_eq_true rfl, Nat.le_of_ble_eq_true rfl⟩ (bd' := (0, 0)) rfl ?_
    refine (wq_M_often_ok H).conI (fun v14 h13 H => ?_)
    refine wp_aload_n rfl rfl ?_
    refine wp_iconst rfl ?_
    refine wp_bipush rfl ?_
    refine wp_iload_n rfl rfl ?_
    refine wp_iadd rfl ?_
    obtain ⟨g18, H⟩ := H
    refine wp_callvI rfl rfl (Or.inl rfl) (lo' := [some (.ref l0), none, some (.int l2)]) rfl g18 ⟨Nat.le_of_ble_eq_true rfl, Nat.le_of_ble_eq_true rfl, Nat.le_of_ble_eq_true rfl, Nat.le_of_ble_eq_true rfl⟩ (bd' := (0, 0)) rfl ?_
    refine (wq_M_often_ok H).conI (fun v16 h15 H => ?_)
    refine wp_icmp_eq rfl (lo1 := [some (.ref l0), none, some (.int l2)]) (lo2 := [some (.ref l0), none, some (.int l2)]) rfl rfl (fun q17 => ?_) (fun q17 => ?_)
    · have H := H.1 q17
      refine wp_iinc rfl rfl rfl (lo' := [some (.ref l0), none, some (.int (l2 + (1 : Int32)))]) rfl ?_
      refine wp_goto rfl (lo' := [some (.ref l0), none, some (.int (l2 + (1 : Int32)))]) rfl ?_
      exact H
    · have H := H.2 q17
      refine wp_iload_n rfl rfl ?_
      exact wp_iret rfl rfl H
def wb_M_faults_76 (l0 : Nat) (l2 : Int32) (h : HP) (K : Int32 → HP → Prop) : Prop :=
  isO h l0 10 ∧ (gI h l0 14 ≤ l2 → K (200 : Int32) h) ∧ (¬ gI h l0 14 ≤ l2 → isO h l0 10 ∧ wq_M_often l0 (2 : Int32) ((28 : Int32) + l2) h (fun v23 h22 => (v23 ≤ 0 → Wp k_M_faults 76 [some (.ref l0), none, some (.int (l2 + (1 : Int32)))] [] h22 (0, 0) (QI K)) ∧ (¬ v23 ≤ 0 → K ((100 : Int32) + l2) h22)))
theorem wb_M_faults_76_ok {l0 : Nat} {l2 : Int32} {h : HP} {K : Int32 → HP → Prop} (H : wb_M_faults_76 l0 l2 h K) : Wp k_M_faults 76 [some (.ref l0), none, some (.int l2)] [] h (0, 0) (QI K) := by
  unfold wb_M_faults_76 at H
  refine wp_iload_n rfl rfl ?_
  refine wp_aload_n rfl rfl ?_
  obtain ⟨g27, H⟩ := H
  refine wp_getI rfl rfl g27 ?_
  refine wp_icmp_ge rfl (lo1 := [some (.ref l0), none, some (.int l2)]) (lo2 := [some (.ref l0), none, some (.int l2)]) rfl rfl (fun q26 => ?_) (fun q26 => ?_)
  · have H := H.1 q26
    refine wp_sipush rfl ?_
    exact wp_iret rfl rfl H
  · have H := H.2 q26
    refine wp_aload_n rfl rfl ?_
    refine wp_iconst rfl ?_
    refine wp_bipush rfl ?_
    refine wp_iload_n rfl rfl ?_
    refine wp_iadd rfl ?_
    obtain ⟨g25, H⟩ := H
    refine wp_callvI rfl rfl (Or.inl rfl) (lo' := [some (.ref l0), none, some (.int l2)]) rfl g25 ⟨Nat.le_of_ble_eq_true rfl, Nat.le_of_ble_eq_true rfl, Nat.le_of_ble_eq_true rfl, Nat.le_of_ble_eq_true rfl⟩ (bd' := (0, 0)) rfl ?_
    refine (wq_M_often_ok H).conI (fun v23 h22 H => ?_)
    refine wp_if_le rfl (lo1 := [some (.ref l0), none, some (.int l2)]) (lo2 := [some (.ref l0), none, some (.int l2)]) rfl rfl (fun q24 => ?_) (fun q24 => ?_)
    · have H := H.1 q24
      refine wp_iinc rfl rfl rfl (lo' := [some (.ref l0), none, some (.int (l2 + (1 : Int32)))]) rfl ?_
      refine wp_goto rfl (lo' := [some (.ref l0), none, some (.int (l2 + (1 : Int32)))]) rfl ?_
      exact H
    · have H := H.2 q24
      refine wp_bipush rfl ?_
      refine wp_iload_n rfl rfl ?_
      refine wp_iadd rfl ?_
      exact wp_iret rfl rfl H
def wq_M_faults (p0 : Nat) (p1 : Int32) (h : HP) (K : Int32 → HP → Prop) : Prop :=
  isO h p0 10 ∧ wq_M_isPair p0 p1 h (fun v2 h1 => (¬ v2 = 0 → isO h1 p0 10 ∧ wq_M_readRow p0 (0 : Int32) ((2 : Int32) + p1) h1 (fun h3 => isO h3 p0 10 ∧ isO h3 p0 10 ∧ wq_M_latest p0 p1 (gI h3 p0 20) h3 (fun v5 h4 => isO h4 p0 10 ∧ wq_M_readRow p0 (2 : Int32) ((22 : Int32) + v5) h4 (fun h6 => Wp k_M_faults 37 [some (.ref p0), none, some (.int (0 : Int32))] [] h6 (0, 0) (QI K))))) ∧ (v2 = 0 → K (-1 : Int32) h1))
theorem wq_M_faults_ok {p0 : Nat} {p1 : Int32} {h : HP} {K : Int32 → HP → Prop} (H : wq_M_faults p0 p1 h K) : Wp k_M_faults 0 [some (.ref p0), some (.int p1), none] [] h (0, 0) (QI K) := by
  unfold wq_M_faults at H
  refine wp_aload_n rfl rfl ?_
  refine wp_iload_n rfl rfl ?_
  obtain ⟨g12, H⟩ := H
  refine wp_callvI rfl rfl (Or.inr rfl) (lo' := [some (.ref p0), some (.int p1), none]) rfl g12 ⟨Nat.le_of_ble_eq_true rfl, Nat.le_of_ble_eq_true rfl, Nat.le_of_ble_eq_true rfl, Nat.le_of_ble_eq_true rfl⟩ (bd' := (0, 0)) rfl ?_
  refine (wq_M_isPair_ok H).conI (fun v2 h1 H => ?_)
  refine wp_if_ne rfl (lo1 := [some (.ref p0), some (.int p1), none]) (lo2 := [some (.ref p0), some (.int p1), none]) rfl rfl (fun q11 => ?_) (fun q11 => ?_)
  · have H := H.1 q11
    refine wp_aload_n rfl rfl ?_
    refine wp_iconst rfl ?_
    refine wp_iconst rfl ?_
    refine wp_iload_n rfl rfl ?_
    refine wp_iadd rfl ?_
    obtain ⟨g10, H⟩ := H
    refine wp_callvV rfl rfl rfl (lo' := [some (.ref p0), some (.int p1), none]) rfl g10 ⟨Nat.le_of_ble_eq_true rfl, Nat.le_of_ble_eq_true rfl, Nat.le_of_ble_eq_true rfl, Nat.le_of_ble_eq_true rfl⟩ (bd' := (0, 0)) rfl ?_
    refine (wq_M_readRow_ok H).conV (fun h3 H => ?_)
    refine wp_aload_n rfl rfl ?_
    refine wp_iconst rfl ?_
    refine wp_bipush rfl ?_
    refine wp_aload_n rfl rfl ?_
    refine wp_iload_n rfl rfl ?_
    refine wp_aload_n rfl rfl ?_
    obtain ⟨g9, H⟩ := H
    refine wp_getI rfl rfl g9 ?_
    obtain ⟨g8, H⟩ := H
    refine wp_callvI rfl rfl (Or.inl rfl) (lo' := [some (.ref p0), some (.int p1), none]) rfl g8 ⟨Nat.le_of_ble_eq_true rfl, Nat.le_of_ble_eq_true rfl, Nat.le_of_ble_eq_true rfl, Nat.le_of_ble_eq_true rfl⟩ (bd' := (0, 0)) rfl ?_
    refine (wq_M_latest_ok H).conI (fun v5 h4 H => ?_)
    refine wp_iadd rfl ?_
    obtain ⟨g7, H⟩ := H
    refine wp_callvV rfl rfl rfl (lo' := [some (.ref p0), some (.int p1), none]) rfl g7 ⟨Nat.le_of_ble_eq_true rfl, Nat.le_of_ble_eq_true rfl, Nat.le_of_ble_eq_true rfl, Nat.le_of_ble_eq_true rfl⟩ (bd' := (0, 0)) rfl ?_
    refine (wq_M_readRow_ok H).conV (fun h6 H => ?_)
    refine wp_iconst rfl ?_
    refine wp_istore_n rfl rfl (lo' := [some (.ref p0), none, some (.int (0 : Int32))]) rfl ?_
    exact H
  · have H := H.2 q11
    refine wp_iconst rfl ?_
    exact wp_iret rfl rfl H
def wb_Book_become_32 (l0 : Nat) (l3 : Int32) (l4 : Int32) (l5 : Int32) (h : HP) (bc bs : Nat) (K : Int32 → HP → Prop) : Prop :=
  (l3 ≤ l5 → isO h l0 0 ∧ (∀ h10 : HP, h10 = stI h l0 3 l3 → K l3 h10)) ∧ (¬ l3 ≤ l5 → isO h l0 0 ∧ 0 < gR h l0 1 ∧ 0 < gR h l0 1 ∧ gR h l0 1 < gS h ∧ (gK h (gR h l0 1) = 104 ∨ gK h (gR h l0 1) = 105) ∧ vp_in l5 (gL h (gR h l0 1)) ∧ 0 < gR h (gR h l0 1) l5.toNatClampNeg ∧ isO h l0 0 ∧ 0 < gR h l0 0 ∧ isO h l0 0 ∧ 0 < gR h l0 2 ∧ isL h (gR h l0 2) 100 l5 ∧ isO h (gR h (gR h l0 1) l5.toNatClampNeg) 6 ∧ wq_Row_read (gR h (gR h l0 1) l5.toNatClampNeg) (gR h l0 0) l4 (gI h (gR h l0 2) l5.toNatClampNeg) (46 : Int32) h (fun h13 => isO h13 l0 0 ∧ 0 < gR h13 l0 2 ∧ isL h13 (gR h13 l0 2) 100 l5 ∧ Wp k_Book_become 32 [some (.ref l0), none, none, some (.int l3), some (.int (gI h13 (gR h13 l0 2) l5.toNatClampNeg)), some (.int (l5 + (1 : Int32)))] [] h13 (bc, bs) (QI K)))
theorem wb_Book_become_32_ok {l0 : Nat} {l3 : Int32} {l4 : Int32} {l5 : Int32} {h : HP} {bc bs : Nat} {K : Int32 → HP → Prop} (H : wb_Book_become_32 l0 l3 l4 l5 h bc bs K) : Wp k_Book_become 32 [some (.ref l0), none, none, some (.int l3), some (.int l4), some (.int l5)] [] h (bc, bs) (QI K) := by
  unfold wb_Book_become_32 at H
  refine wp_iload rfl rfl ?_
  refine wp_iload_n rfl rfl ?_
  refine wp_icmp_ge rfl (lo1 := [some (.ref l0), none, none, some (.int l3), some (.int l4), some (.int l5)]) (lo2 := [some (.ref l0), none, none, some (.int l3), some (.int l4), some (.int l5)]) rfl rfl (fun q30 => ?_) (fun q30 => ?_)
  · have H := H.1 q30
    refine wp_aload_n rfl rfl ?_
    refine wp_iload_n rfl rfl ?_
    obtain ⟨g11, H⟩ := H
    obtain ⟨h10, e12⟩ : ∃ z : HP, z = stI h l0 3 l3 := ⟨_, rfl⟩
    have H := H h10 e12
    refine wp_putI rfl rfl g11 e12 ?_
    refine wp_iload_n rfl rfl ?_
    exact wp_iret rfl rfl H
  · have H := H.2 q30
    refine wp_aload_n rfl rfl ?_
    obtain ⟨g28, g29, H⟩ := H
    refine wp_getR rfl rfl g28 g29 ?_
    refine wp_iload rfl rfl ?_
    obtain ⟨g23, g24, g25, g26, g27, H⟩ := H
    refine wp_aald rfl g23 g24 g25 g26 g27 ?_
    refine wp_aload_n rfl rfl ?_
    obtain ⟨g21, g22, H⟩ := H
    refine wp_getR rfl rfl g21 g22 ?_
    refine wp_iload rfl rfl ?_
    refine wp_aload_n rfl rfl ?_
    obtain ⟨g19, g20, H⟩ := H
    refine wp_getR rfl rfl g19 g20 ?_
    refine wp_iload rfl rfl ?_
    obtain ⟨g18, H⟩ := H
    refine wp_iald rfl g18 ?_
    refine wp_bipush rfl ?_
    obtain ⟨g17, H⟩ := H
    refine wp_callvV rfl rfl rfl (lo' := [some (.ref l0), none, none, some (.int l3), some (.int l4), some (.int l5)]) rfl g17 ⟨Nat.le_of_ble_eq_true rfl, Nat.zero_le _, Nat.zero_le _, Nat.le_of_ble_eq_true rfl⟩ (bd' := (bc, bs)) rfl ?_
    refine (wq_Row_read_ok H).conV (fun h13 H => ?_)
    refine wp_aload_n rfl rfl ?_
    obtain ⟨g15, g16, H⟩ := H
    refine wp_getR rfl rfl g15 g16 ?_
    refine wp_iload rfl rfl ?_
    obtain ⟨g14, H⟩ := H
    refine wp_iald rfl g14 ?_
    refine wp_istore rfl rfl (lo' := [some (.ref l0), none, none, some (.int l3), some (.int (gI h13 (gR h13 l0 2) l5.toNatClampNeg)), some (.int l5)]) rfl ?_
    refine wp_iinc rfl rfl rfl (lo' := [some (.ref l0), none, none, some (.int l3), some (.int (gI h13 (gR h13 l0 2) l5.toNatClampNeg)), some (.int (l5 + (1 : Int32)))]) rfl ?_
    refine wp_goto rfl (lo' := [some (.ref l0), none, none, some (.int l3), some (.int (gI h13 (gR h13 l0 2) l5.toNatClampNeg)), some (.int (l5 + (1 : Int32)))]) rfl ?_
    exact H
def wq_Book_become (p0 : Nat) (p1 : Nat) (p2 : Nat) (h : HP) (K : Int32 → HP → Prop) : Prop :=
  isO h p0 0 ∧ wq_Book_findEnds p0 p1 p2 h (fun v2 h1 => (0 ≤ v2 → isO h1 p0 0 ∧ 0 < gR h1 p0 0 ∧ isO h1 p1 7 ∧ isO h1 (gR h1 p0 0) 7 ∧ wq_Text_take (gR h1 p0 0) p1 (0 : Int32) (gI h1 p1 1) h1 (fun h3 => Wp k_Book_become 32 [some (.ref p0), none, none, some (.int v2), some (.int (0 : Int32)), some (.int (0 : Int32))] [] h3 (0, 0) (QI K))) ∧ (¬ 0 ≤ v2 → K v2 h1))
theorem wq_Book_become_ok {p0 : Nat} {p1 : Nat} {p2 : Nat} {h : HP} {K : Int32 → HP → Prop} (H : wq_Book_become p0 p1 p2 h K) : Wp k_Book_become 0 [some (.ref p0), some (.ref p1), some (.ref p2), none, none, none] [] h (1, 640) (QI K) := by
  unfold wq_Book_become at H
  refine wp_aload_n rfl rfl ?_
  refine wp_aload_n rfl rfl ?_
  refine wp_aload_n rfl rfl ?_
  obtain ⟨g9, H⟩ := H
  refine wp_callvI rfl rfl (Or.inl rfl) (lo' := [some (.ref p0), some (.ref p1), some (.ref p2), none, none, none]) rfl g9 ⟨Nat.le_of_ble_eq_true rfl, Nat.le_of_ble_eq_true rfl, Nat.le_of_ble_eq_true rfl, Nat.le_of_ble_eq_true rfl⟩ (bd' := (1, 640)) rfl ?_
  refine (wq_Book_findEnds_ok H).conI (fun v2 h1 H => ?_)
  refine wp_istore_n rfl rfl (lo' := [some (.ref p0), some (.ref p1), some (.ref p2), some (.int v2), none, none]) rfl ?_
  refine wp_iload_n rfl rfl ?_
  refine wp_if_ge rfl (lo1 := [some (.ref p0), some (.ref p1), some (.ref p2), some (.int v2), none, none]) (lo2 := [some (.ref p0), some (.ref p1), some (.ref p2), some (.int v2), none, none]) rfl rfl (fun q8 => ?_) (fun q8 => ?_)
  · have H := H.1 q8
    refine wp_aload_n rfl rfl ?_
    obtain ⟨g6, g7, H⟩ := H
    refine wp_getR rfl rfl g6 g7 ?_
    refine wp_aload_n rfl rfl ?_
    refine wp_iconst rfl ?_
    refine wp_aload_n rfl rfl ?_
    obtain ⟨g5, H⟩ := H
    refine wp_getI rfl rfl g5 ?_
    obtain ⟨g4, H⟩ := H
    refine wp_callvV rfl rfl rfl (lo' := [some (.ref p0), some (.ref p1), some (.ref p2), some (.int v2), none, none]) rfl g4 ⟨Nat.le_of_ble_eq_true rfl, Nat.le_of_ble_eq_true rfl, Nat.le_of_ble_eq_true rfl, Nat.le_of_ble_eq_true rfl⟩ (bd' := (0, 0)) rfl ?_
    refine (wq_Text_take_ok H).conV (fun h3 H => ?_)
    refine wp_iconst rfl ?_
    refine wp_istore rfl rfl (lo' := [some (.ref p0), some (.ref p1), some (.ref p2), some (.int v2), some (.int (0 : Int32)), none]) rfl ?_
    refine wp_iconst rfl ?_
    refine wp_istore rfl rfl (lo' := [some (.ref p0), none, none, some (.int v2), some (.int (0 : Int32)), some (.int (0 : Int32))]) rfl ?_
    exact H
  · have H := H.2 q8
    refine wp_iload_n rfl rfl ?_
    exact wp_iret rfl rfl H
def wq_Memory_addPair (p0 : Nat) (p1 : Nat) (h : HP) (K : Int32 → HP → Prop) : Prop :=
  isO h p0 2 ∧ isO h p0 2 ∧ 0 < gR h p0 0 ∧ 0 < gR h p0 0 ∧ gR h p0 0 < gS h ∧ (gK h (gR h p0 0) = 104 ∨ gK h (gR h p0 0) = 105) ∧ vp_in (gI h p0 6) (gL h (gR h p0 0)) ∧ 0 < gR h (gR h p0 0) (gI h p0 6).toNatClampNeg ∧ isO h p1 6 ∧ 0 < gR h p1 3 ∧ isO h p1 6 ∧ isO h p1 6 ∧ isO h (gR h (gR h p0 0) (gI h p0 6).toNatClampNeg) 7 ∧ wq_Text_take (gR h (gR h p0 0) (gI h p0 6).toNatClampNeg) (gR h p1 3) (gI h p1 4) (gI h p1 5) h (fun h1 => isO h1 p0 2 ∧ 0 < gR h1 p0 1 ∧ 0 < gR h1 p0 1 ∧ gR h1 p0 1 < gS h1 ∧ (gK h1 (gR h1 p0 1) = 104 ∨ gK h1 (gR h1 p0 1) = 105) ∧ vp_in (gI h p0 6) (gL h1 (gR h1 p0 1)) ∧ 0 < gR h1 (gR h1 p0 1) (gI h p0 6).toNatClampNeg ∧ isO h1 p0 2 ∧ 0 < gR h1 p0 0 ∧ 0 < gR h1 p0 0 ∧ gR h1 p0 0 < gS h1 ∧ (gK h1 (gR h1 p0 0) = 104 ∨ gK h1 (gR h1 p0 0) = 105) ∧ vp_in (gI h p0 6) (gL h1 (gR h1 p0 0)) ∧ 0 < gR h1 (gR h1 p0 0) (gI h p0 6).toNatClampNeg ∧ isO h1 p0 2 ∧ 0 < gR h1 p0 0 ∧ 0 < gR h1 p0 0 ∧ gR h1 p0 0 < gS h1 ∧ (gK h1 (gR h1 p0 0) = 104 ∨ gK h1 (gR h1 p0 0) = 105) ∧ vp_in (gI h p0 6) (gL h1 (gR h1 p0 0)) ∧ 0 < gR h1 (gR h1 p0 0) (gI h p0 6).toNatClampNeg ∧ isO h1 (gR h1 (gR h1 p0 0) (gI h p0 6).toNatClampNeg) 7 ∧ isO h1 (gR h1 (gR h1 p0 1) (gI h p0 6).toNatClampNeg) 6 ∧ wq_Row_read (gR h1 (gR h1 p0 1) (gI h p0 6).toNatClampNeg) (gR h1 (gR h1 p0 0) (gI h p0 6).toNatClampNeg) (0 : Int32) (gI h1 (gR h1 (gR h1 p0 0) (gI h p0 6).toNatClampNeg) 1) (46 : Int32) h1 (fun h2 => isO h2 p0 2 ∧ isO h2 p0 2 ∧ (∀ h3 : HP, h3 = stI h2 p0 6 ((gI h2 p0 6) + (1 : Int32)) → K (gI h p0 6) h3)))
theorem wq_Memory_addPair_ok {p0 : Nat} {p1 : Nat} {h : HP} {K : Int32 → HP → Prop} (H : wq_Memory_addPair p0 p1 h K) : Wp k_Memory_addPair 0 [some (.ref p0), some (.ref p1), none] [] h (1, 640) (QI K) := by
  unfold wq_Memory_addPair at H
  refine wp_aload_n rfl rfl ?_
  obtain ⟨g42, H⟩ := H
  refine wp_getI rfl rfl g42 ?_
  refine wp_istore_n rfl rfl (lo' := [some (.ref p0), some (.ref p1), some (.int (gI h p0 6))]) rfl ?_
  refine wp_aload_n rfl rfl ?_
  obtain ⟨g40, g41, H⟩ := H
  refine wp_getR rfl rfl g40 g41 ?_
  refine wp_iload_n rfl rfl ?_
  obtain ⟨g35, g36, g37, g38, g39, H⟩ := H
  refine wp_aald rfl g35 g36 g37 g38 g39 ?_
  refine wp_aload_n rfl rfl ?_
  obtain ⟨g33, g34, H⟩ := H
  refine wp_getR rfl rfl g33 g34 ?_
  refine wp_aload_n rfl rfl ?_
  obtain ⟨g32, H⟩ := H
  refine wp_getI rfl rfl g32 ?_
  refine wp_aload_n rfl rfl ?_
  obtain ⟨g31, H⟩ := H
  refine wp_getI rfl rfl g31 ?_
  obtain ⟨g30, H⟩ := H
  refine wp_callvV rfl rfl rfl (lo' := [some (.ref p0), some (.ref p1), some (.int (gI h p0 6))]) rfl g30 ⟨Nat.le_of_ble_eq_true rfl, Nat.le_of_ble_eq_true rfl, Nat.le_of_ble_eq_true rfl, Nat.le_of_ble_eq_true rfl⟩ (bd' := (0, 0)) rfl ?_
  refine (wq_Text_take_ok H).conV (fun h1 H => ?_)
  refine wp_aload_n rfl rfl ?_
  obtain ⟨g28, g29, H⟩ := H
  refine wp_getR rfl rfl g28 g29 ?_
  refine wp_iload_n rfl rfl ?_
  obtain ⟨g23, g24, g25, g26, g27, H⟩ := H
  refine wp_aald rfl g23 g24 g25 g26 g27 ?_
  refine wp_aload_n rfl rfl ?_
  obtain ⟨g21, g22, H⟩ := H
  refine wp_getR rfl rfl g21 g22 ?_
  refine wp_iload_n rfl rfl ?_
  obtain ⟨g16, g17, g18, g19, g20, H⟩ := H
  refine wp_aald rfl g16 g17 g18 g19 g20 ?_
  refine wp_iconst rfl ?_
  refine wp_aload_n rfl rfl ?_
  obtain ⟨g14, g15, H⟩ := H
  refine wp_getR rfl rfl g14 g15 ?_
  refine wp_iload_n rfl rfl ?_
  obtain ⟨g9, g10, g11, g12, g13, H⟩ := H
  refine wp_aald rfl g9 g10 g11 g12 g13 ?_
  obtain ⟨g8, H⟩ := H
  refine wp_getI rfl rfl g8 ?_
  refine wp_bipush rfl ?_
  obtain ⟨g7, H⟩ := H
  refine wp_callvV rfl rfl rfl (lo' := [some (.ref p0), some (.ref p1), some (.int (gI h p0 6))]) rfl g7 ⟨Nat.le_of_ble_eq_true rfl, Nat.le_of_ble_eq_true rfl, Nat.le_of_ble_eq_true rfl, Nat.le_of_ble_eq_true rfl⟩ (bd' := (0, 0)) rfl ?_
  refine (wq_Row_read_ok H).conV (fun h2 H => ?_)
  refine wp_aload_n rfl rfl ?_
  refine wp_dupR rfl ?_
  obtain ⟨g6, H⟩ := H
  refine wp_getI rfl rfl g6 ?_
  refine wp_iconst rfl ?_
  refine wp_iadd rfl ?_
  obtain ⟨g4, H⟩ := H
  obtain ⟨h3, e5⟩ : ∃ z : HP, z = stI h2 p0 6 ((gI h2 p0 6) + (1 : Int32)) := ⟨_, rfl⟩
  have H := H h3 e5
  refine wp_putI rfl rfl g4 e5 ?_
  refine wp_iload_n rfl rfl ?_
  exact wp_iret rfl rfl H
def wq_K_score (p0 : Nat) (p1 : Int32) (p2 : Int32) (h : HP) (K : Int32 → HP → Prop) : Prop :=
  isO h p0 9 ∧ wq_K_isSegment p0 p1 h (fun v2 h1 => (v2 = 0 → K (-1 : Int32) h1) ∧ (¬ v2 = 0 → isO h1 p0 9 ∧ wq_K_isPair p0 p2 h1 (fun v4 h3 => (v4 = 0 → K (-1 : Int32) h3) ∧ (¬ v4 = 0 → isO h3 p0 9 ∧ wq_K_scoreOf p0 p1 p2 h3 (fun v6 h5 => K v6 h5)))))
theorem wq_K_score_ok {p0 : Nat} {p1 : Int32} {p2 : Int32} {h : HP} {K : Int32 → HP → Prop} (H : wq_K_score p0 p1 p2 h K) : Wp k_K_score 0 [some (.ref p0), some (.int p1), some (.int p2)] [] h (0, 0) (QI K) := by
  unfold wq_K_score at H
  refine wp_aload_n rfl rfl ?_
  refine wp_iload_n rfl rfl ?_
  obtain ⟨g11, H⟩ := H
  refine wp_callvI rfl rfl (Or.inr rfl) (lo' := [some (.ref p0), some (.int p1), some (.int p2)]) rfl g11 ⟨Nat.le_of_ble_eq_true rfl, Nat.le_of_ble_eq_true rfl, Nat.le_of_ble_eq_true rfl, Nat.le_of_ble_eq_true rfl⟩ (bd' := (0, 0)) rfl ?_
  refine (wq_K_isSegment_ok H).conI (fun v2 h1 H => ?_)
  refine wp_if_eq rfl (lo1 := [none, none, none]) (lo2 := [some (.ref p0), some (.int p1), some (.int p2)]) rfl rfl (fun q10 => ?_) (fun q10 => ?_)
  · have H := H.1 q10
    refine wp_iconstk (lo' := [none, none, none]) rfl rfl ?_
    exact wp_iret rfl rfl H
  · have H := H.2 q10
    refine wp_aload_n rfl rfl ?_
    refine wp_iload_n rfl rfl ?_
    obtain ⟨g9, H⟩ := H
    refine wp_callvI rfl rfl (Or.inr rfl) (lo' := [some (.ref p0), some (.int p1), some (.int p2)]) rfl g9 ⟨Nat.le_of_ble_eq_true rfl, Nat.le_of_ble_eq_true rfl, Nat.le_of_ble_eq_true rfl, Nat.le_of_ble_eq_true rfl⟩ (bd' := (0, 0)) rfl ?_
    refine (wq_K_isPair_ok H).conI (fun v4 h3 H => ?_)
    refine wp_if_eq rfl (lo1 := [none, none, none]) (lo2 := [some (.ref p0), some (.int p1), some (.int p2)]) rfl rfl (fun q8 => ?_) (fun q8 => ?_)
    · have H := H.1 q8
      refine wp_iconstk (lo' := [none, none, none]) rfl rfl ?_
      exact wp_iret rfl rfl H
    · have H := H.2 q8
      refine wp_aload_n rfl rfl ?_
      refine wp_iload_n rfl rfl ?_
      refine wp_iload_n rfl rfl ?_
      obtain ⟨g7, H⟩ := H
      refine wp_callvI rfl rfl (Or.inl rfl) (lo' := [some (.ref p0), some (.int p1), some (.int p2)]) rfl g7 ⟨Nat.le_of_ble_eq_true rfl, Nat.le_of_ble_eq_true rfl, Nat.le_of_ble_eq_true rfl, Nat.le_of_ble_eq_true rfl⟩ (bd' := (0, 0)) rfl ?_
      refine (wq_K_scoreOf_ok H).conI (fun v6 h5 H => ?_)
      refine wp_goto rfl (lo' := [none, none, none]) rfl ?_
      exact wp_iret rfl rfl H
def wq_K_isTapeTorn (p0 : Nat) (h : HP) (K : Int32 → HP → Prop) : Prop :=
  isO h p0 9 ∧ 0 < gR h p0 7 ∧ isO h p0 9 ∧ 0 < gR h p0 0 ∧ isO h p0 9 ∧ 0 < gR h p0 0 ∧ isO h (gR h p0 0) 7 ∧ isO h (gR h p0 7) 6 ∧ wq_Row_read (gR h p0 7) (gR h p0 0) (0 : Int32) (gI h (gR h p0 0) 1) (44 : Int32) h (fun h1 => isO h1 p0 9 ∧ 0 < gR h1 p0 6 ∧ isO h1 p0 9 ∧ 0 < gR h1 p0 7 ∧ isO h1 (gR h1 p0 6) 4 ∧ wq_Nest_isTorn (gR h1 p0 6) (gR h1 p0 7) h1 (fun v3 h2 => (v3 = 0 ∨ v3 = 1) ∧ K v3 h2))
theorem wq_K_isTapeTorn_ok {p0 : Nat} {h : HP} {K : Int32 → HP → Prop} (H : wq_K_isTapeTorn p0 h K) : Wp k_K_isTapeTorn 0 [some (.ref p0)] [] h (0, 0) (QI K) := by
  unfold wq_K_isTapeTorn at H
  refine wp_aload_n rfl rfl ?_
  obtain ⟨g15, g16, H⟩ := H
  refine wp_getR rfl rfl g15 g16 ?_
  refine wp_aload_n rfl rfl ?_
  obtain ⟨g13, g14, H⟩ := H
  refine wp_getR rfl rfl g13 g14 ?_
  refine wp_iconst rfl ?_
  refine wp_aload_n rfl rfl ?_
  obtain ⟨g11, g12, H⟩ := H
  refine wp_getR rfl rfl g11 g12 ?_
  obtain ⟨g10, H⟩ := H
  refine wp_getI rfl rfl g10 ?_
  refine wp_bipush rfl ?_
  obtain ⟨g9, H⟩ := H
  refine wp_callvV rfl rfl rfl (lo' := [some (.ref p0)]) rfl g9 ⟨Nat.le_of_ble_eq_true rfl, Nat.le_of_ble_eq_true rfl, Nat.le_of_ble_eq_true rfl, Nat.le_of_ble_eq_true rfl⟩ (bd' := (0, 0)) rfl ?_
  refine (wq_Row_read_ok H).conV (fun h1 H => ?_)
  refine wp_aload_n rfl rfl ?_
  obtain ⟨g7, g8, H⟩ := H
  refine wp_getR rfl rfl g7 g8 ?_
  refine wp_aload_n rfl rfl ?_
  obtain ⟨g5, g6, H⟩ := H
  refine wp_getR rfl rfl g5 g6 ?_
  obtain ⟨g4, H⟩ := H
  refine wp_callvI rfl rfl (Or.inr rfl) (lo' := [some (.ref p0)]) rfl g4 ⟨Nat.le_of_ble_eq_true rfl, Nat.le_of_ble_eq_true rfl, Nat.le_of_ble_eq_true rfl, Nat.le_of_ble_eq_true rfl⟩ (bd' := (0, 0)) rfl ?_
  refine (wq_Nest_isTorn_ok H).conI (fun v3 h2 H => ?_)
  exact wp_zret rfl rfl H.1 H.2
def wq_K_readRenderingOf (p0 : Nat) (p1 : Int32) (h : HP) (K : HP → Prop) : Prop :=
  isO h p0 9 ∧ 0 < gR h p0 2 ∧ isO h (gR h p0 2) 2 ∧ 0 < gR h (gR h p0 2) 3 ∧ isO h p0 9 ∧ 0 < gR h p0 2 ∧ isO h (gR h p0 2) 2 ∧ 0 < gR h (gR h p0 2) 2 ∧ isL h (gR h (gR h p0 2) 2) 100 p1 ∧ 0 < gR h (gR h p0 2) 3 ∧ gR h (gR h p0 2) 3 < gS h ∧ (gK h (gR h (gR h p0 2) 3) = 104 ∨ gK h (gR h (gR h p0 2) 3) = 105) ∧ vp_in (gI h (gR h (gR h p0 2) 2) p1.toNatClampNeg) (gL h (gR h (gR h p0 2) 3)) ∧ 0 < gR h (gR h (gR h p0 2) 3) (gI h (gR h (gR h p0 2) 2) p1.toNatClampNeg).toNatClampNeg ∧ isO h p0 9 ∧ 0 < gR h p0 7 ∧ isO h (gR h (gR h (gR h p0 2) 3) (gI h (gR h (gR h p0 2) 2) p1.toNatClampNeg).toNatClampNeg) 7 ∧ isO h (gR h p0 7) 6 ∧ wq_Row_read (gR h p0 7) (gR h (gR h (gR h p0 2) 3) (gI h (gR h (gR h p0 2) 2) p1.toNatClampNeg).toNatClampNeg) (0 : Int32) (gI h (gR h (gR h (gR h p0 2) 3) (gI h (gR h (gR h p0 2) 2) p1.toNatClampNeg).toNatClampNeg) 1) (44 : Int32) h (fun h1 => K h1)
theorem wq_K_readRenderingOf_ok {p0 : Nat} {p1 : Int32} {h : HP} {K : HP → Prop} (H : wq_K_readRenderingOf p0 p1 h K) : Wp k_K_readRenderingOf 0 [some (.ref p0), some (.int p1), none] [] h (0, 0) (QV K) := by
  unfold wq_K_readRenderingOf at H
  refine wp_aload_n rfl rfl ?_
  obtain ⟨g18, g19, H⟩ := H
  refine wp_getR rfl rfl g18 g19 ?_
  obtain ⟨g16, g17, H⟩ := H
  refine wp_getR rfl rfl g16 g17 ?_
  refine wp_aload_n rfl rfl ?_
  obtain ⟨g14, g15, H⟩ := H
  refine wp_getR rfl rfl g14 g15 ?_
  obtain ⟨g12, g13, H⟩ := H
  refine wp_getR rfl rfl g12 g13 ?_
  refine wp_iload_n rfl rfl ?_
  obtain ⟨g11, H⟩ := H
  refine wp_iald rfl g11 ?_
  obtain ⟨g6, g7, g8, g9, g10, H⟩ := H
  refine wp_aald rfl g6 g7 g8 g9 g10 ?_
  refine wp_astore_n rfl rfl (lo' := [some (.ref p0), some (.int p1), some (.ref (gR h (gR h (gR h p0 2) 3) (gI h (gR h (gR h p0 2) 2) p1.toNatClampNeg).toNatClampNeg))]) rfl ?_
  refine wp_aload_n rfl rfl ?_
  obtain ⟨g4, g5, H⟩ := H
  refine wp_getR rfl rfl g4 g5 ?_
  refine wp_aload_n rfl rfl ?_
  refine wp_iconst rfl ?_
  refine wp_aload_n rfl rfl ?_
  obtain ⟨g3, H⟩ := H
  refine wp_getI rfl rfl g3 ?_
  refine wp_bipush rfl ?_
  obtain ⟨g2, H⟩ := H
  refine wp_callvV rfl rfl rfl (lo' := [some (.ref p0), some (.int p1), some (.ref (gR h (gR h (gR h p0 2) 3) (gI h (gR h (gR h p0 2) 2) p1.toNatClampNeg).toNatClampNeg))]) rfl g2 ⟨Nat.le_of_ble_eq_true rfl, Nat.le_of_ble_eq_true rfl, Nat.le_of_ble_eq_true rfl, Nat.le_of_ble_eq_true rfl⟩ (bd' := (0, 0)) rfl ?_
  refine (wq_Row_read_ok H).conV (fun h1 H => ?_)
  exact wp_vret rfl rfl H
def wb_K_aheadOf_13 (l0 : Nat) (l1 : Int32) (l2 : Int32) (l3 : Int32) (l4 : Int32) (l5 : Int32) (h : HP) (K : Int32 → HP → Prop) : Prop :=
  isO h l0 9 ∧ 0 < gR h l0 2 ∧ isO h (gR h l0 2) 2 ∧ (gI h (gR h l0 2) 6 ≤ l5 → K l4 h) ∧ (¬ gI h (gR h l0 2) 6 ≤ l5 → isO h l0 9 ∧ wq_K_scoreOf l0 l2 l5 h (fun v5 h4 => (l3 < v5 → Wp k_K_aheadOf 13 [some (.ref l0), some (.int l1), some (.int l2), some (.int l3), some (.int (l4 + (1 : Int32))), some (.int (l5 + (1 : Int32))), none] [] h4 (0, 0) (QI K)) ∧ (¬ l3 < v5 → (¬ v5 = l3 → Wp k_K_aheadOf 13 [some (.ref l0), some (.int l1), some (.int l2), some (.int l3), some (.int l4), some (.int (l5 + (1 : Int32))), none] [] h4 (0, 0) (QI K)) ∧ (v5 = l3 → isO h4 l0 9 ∧ 0 < gR h4 l0 2 ∧ isO h4 (gR h4 l0 2) 2 ∧ 0 < gR h4 (gR h4 l0 2) 2 ∧ isL h4 (gR h4 (gR h4 l0 2) 2) 100 l5 ∧ isO h4 l0 9 ∧ 0 < gR h4 l0 2 ∧ isO h4 (gR h4 l0 2) 2 ∧ 0 < gR h4 (gR h4 l0 2) 2 ∧ isL h4 (gR h4 (gR h4 l0 2) 2) 100 l1 ∧ (gI h4 (gR h4 (gR h4 l0 2) 2) l5.toNatClampNeg ≤ gI h4 (gR h4 (gR h4 l0 2) 2) l1.toNatClampNeg → Wp k_K_aheadOf 13 [some (.ref l0), some (.int l1), some (.int l2), some (.int l3), some (.int l4), some (.int (l5 + (1 : Int32))), none] [] h4 (0, 0) (QI K)) ∧ (¬ gI h4 (gR h4 (gR h4 l0 2) 2) l5.toNatClampNeg ≤ gI h4 (gR h4 (gR h4 l0 2) 2) l1.toNatClampNeg → Wp k_K_aheadOf 13 [some (.ref l0), some (.int l1), some (.int l2), some (.int l3), some (.int (l4 + (1 : Int32))), some (.int (l5 + (1 : Int32))), none] [] h4 (0, 0) (QI K))))))
set_option maxRecDepth 100000 in
set_option maxHeartbeats 4000000 in
theorem wb_K_aheadOf_13_ok {l0 : Nat} {l1 : Int32} {l2 : Int32} {l3 : Int32} {l4 : Int32} {l5 : Int32} {h : HP} {K : Int32 → HP → Prop} (H : wb_K_aheadOf_13 l0 l1 l2 l3 l4 l5 h K) : Wp k_K_aheadOf 13 [some (.ref l0), some (.int l1), some (.int l2), some (.int l3), some (.int l4), some (.int l5), none] [] h (0, 0) (QI K) := by
  unfold wb_K_aheadOf_13 at H
  refine wp_iload rfl rfl ?_
  refine wp_aload_n rfl rfl ?_
  obtain ⟨g22, g23, H⟩ := H
  refine wp_getR rfl rfl g22 g23 ?_
  obtain ⟨g21, H⟩ := H
  refine wp_getI rfl rfl g21 ?_
  refine wp_icmp_ge rfl (lo1 := [some (.ref l0), some (.int l1), some (.int l2), some (.int l3), some (.int l4), some (.int l5), none]) (lo2 := [some (.ref l0), some (.int l1), some (.int l2), some (.int l3), some (.int l4), some (.int l5), none]) rfl rfl (fun q20 => ?_) (fun q20 => ?_)
  · have H := H.1 q20
    refine wp_iload rfl rfl ?_
    exact wp_iret rfl rfl H
  · have H := H.2 q20
    refine wp_aload_n rfl rfl ?_
    refine wp_iload_n rfl rfl ?_
    refine wp_iload rfl rfl ?_
    obtain ⟨g19, H⟩ := H
    refine wp_callvI rfl rfl (Or.inl rfl) (lo' := [some (.ref l0), some (.int l1), some (.int l2), some (.int l3), some (.int l4), some (.int l5), none]) rfl g19 ⟨Nat.le_of_ble_eq_true rfl, Nat.le_of_ble_eq_true rfl, Nat.le_of_ble_eq_true rfl, Nat.le_of_ble_eq_true rfl⟩ (bd' := (0, 0)) rfl ?_
    refine (wq_K_scoreOf_ok H).conI (fun v5 h4 H => ?_)
    refine wp_istore rfl rfl (lo' := [some (.ref l0), some (.int l1), some (.int l2), some (.int l3), some (.int l4), some (.int l5), some (.int v5)]) rfl ?_
    refine wp_iload rfl rfl ?_
    refine wp_iload_n rfl rfl ?_
    refine wp_icmp_gt rfl (lo1 := [some (.ref l0), some (.int l1), some (.int l2), some (.int l3), some (.int l4), some (.int l5), none]) (lo2 := [some (.ref l0), some (.int l1), some (.int l2), some (.int l3), some (.int l4), some (.int l5), some (.int v5)]) rfl rfl (fun q18 => ?_) (fun q18 => ?_)
    · have H := H.1 q18
      refine wp_iinc rfl rfl rfl (lo' := [some (.ref l0), some (.int l1), some (.int l2), some (.int l3), some (.int (l4 + (1 : Int32))), some (.int l5), none]) rfl ?_
      refine wp_iinc rfl rfl rfl (lo' := [some (.ref l0), some (.int l1), some (.int l2), some (.int l3), some (.int (l4 + (1 : Int32))), some (.int (l5 + (1 : Int32))), none]) rfl ?_
      refine wp_goto rfl (lo' := [some (.ref l0), some (.int l1), some (.int l2), some (.int l3), some (.int (l4 + (1 : Int32))), some (.int (l5 + (1 : Int32))), none]) rfl ?_
      exact H
    · have H := H.2 q18
      refine wp_iload rfl rfl ?_
      refine wp_iload_n rfl rfl ?_
      refine wp_icmp_ne rfl (lo1 := [some (.ref l0), some (.int l1), some (.int l2), some (.int l3), some (.int l4), some (.int l5), none]) (lo2 := [some (.ref l0), some (.int l1), some (.int l2), some (.int l3), some (.int l4), some (.int l5), some (.int v5)]) rfl rfl (fun q17 => ?_) (fun q17 => ?_)
      · have H := H.1 q17
        refine wp_iinc rfl rfl rfl (lo' := [some (.ref l0), some (.int l1), some (.int l2), some (.int l3), some (.int l4), some (.int (l5 + (1 : Int32))), none]) rfl ?_
        refine wp_goto rfl (lo' := [some (.ref l0), some (.int l1), some (.int l2), some (.int l3), some (.int l4), some (.int (l5 + (1 : Int32))), none]) rfl ?_
        exact H
      · have H := H.2 q17
        refine wp_aload_n rfl rfl ?_
        obtain ⟨g15, g16, H⟩ := H
        refine wp_getR rfl rfl g15 g16 ?_
        obtain ⟨g13, g14, H⟩ := H
        refine wp_getR rfl rfl g13 g14 ?_
        refine wp_iload rfl rfl ?_
        obtain ⟨g12, H⟩ := H
        refine wp_iald rfl g12 ?_
        refine wp_aload_n rfl rfl ?_
        obtain ⟨g10, g11, H⟩ := H
        refine wp_getR rfl rfl g10 g11 ?_
        obtain ⟨g8, g9, H⟩ := H
        refine wp_getR rfl rfl g8 g9 ?_
        refine wp_iload_n rfl rfl ?_
        obtain ⟨g7, H⟩ := H
        refine wp_iald rfl g7 ?_
        refine wp_icmp_le rfl (lo1 := [some (.ref l0), some (.int l1), some (.int l2), some (.int l3), some (.int l4), some (.int l5), none]) (lo2 := [some (.ref l0), some (.int l1), some (.int l2), some (.int l3), some (.int l4), some (.int l5), none]) rfl rfl (fun q6 => ?_) (fun q6 => ?_)
        · have H := H.1 q6
          refine wp_iinc rfl rfl rfl (lo' := [some (.ref l0), some (.int l1), some (.int l2), some (.int l3), some (.int l4), some (.int (l5 + (1 : Int32))), none]) rfl ?_
          refine wp_goto rfl (lo' := [some (.ref l0), some (.int l1), some (.int l2), some (.int l3), some (.int l4), some (.int (l5 + (1 : Int32))), none]) rfl ?_
          exact H
        · have H := H.2 q6
          refine wp_iinc rfl rfl rfl (lo' := [some (.ref l0), some (.int l1), some (.int l2), some (.int l3), some (.int (l4 + (1 : Int32))), some (.int l5), none]) rfl ?_
          refine wp_iinc rfl rfl rfl (lo' := [some (.ref l0), some (.int l1), some (.int l2), some (.int l3), some (.int (l4 + (1 : Int32))), some (.int (l5 + (1 : Int32))), none]) rfl ?_
          refine wp_goto rfl (lo' := [some (.ref l0), some (.int l1), some (.int l2), some (.int l3), some (.int (l4 + (1 : Int32))), some (.int (l5 + (1 : Int32))), none]) rfl ?_
          exact H
def wq_K_aheadOf (p0 : Nat) (p1 : Int32) (p2 : Int32) (h : HP) (K : Int32 → HP → Prop) : Prop :=
  isO h p0 9 ∧ wq_K_scoreOf p0 p2 p1 h (fun v2 h1 => Wp k_K_aheadOf 13 [some (.ref p0), some (.int p1), some (.int p2), some (.int v2), some (.int (0 : Int32)), some (.int (0 : Int32)), none] [] h1 (0, 0) (QI K))
theorem wq_K_aheadOf_ok {p0 : Nat} {p1 : Int32} {p2 : Int32} {h : HP} {K : Int32 → HP → Prop} (H : wq_K_aheadOf p0 p1 p2 h K) : Wp k_K_aheadOf 0 [some (.ref p0), some (.int p1), some (.int p2), none, none, none, none] [] h (0, 0) (QI K) := by
  unfold wq_K_aheadOf at H
  refine wp_aload_n rfl rfl ?_
  refine wp_iload_n rfl rfl ?_
  refine wp_iload_n rfl rfl ?_
  obtain ⟨g3, H⟩ := H
  refine wp_callvI rfl rfl (Or.inl rfl) (lo' := [some (.ref p0), some (.int p1), some (.int p2), none, none, none, none]) rfl g3 ⟨Nat.le_of_ble_eq_true rfl, Nat.le_of_ble_eq_true rfl, Nat.le_of_ble_eq_true rfl, Nat.le_of_ble_eq_true rfl⟩ (bd' := (0, 0)) rfl ?_
  refine (wq_K_scoreOf_ok H).conI (fun v2 h1 H => ?_)
  refine wp_istore_n rfl rfl (lo' := [some (.ref p0), some (.int p1), some (.int p2), some (.int v2), none, none, none]) rfl ?_
  refine wp_iconst rfl ?_
  refine wp_istore rfl rfl (lo' := [some (.ref p0), some (.int p1), some (.int p2), some (.int v2), some (.int (0 : Int32)), none, none]) rfl ?_
  refine wp_iconst rfl ?_
  refine wp_istore rfl rfl (lo' := [some (.ref p0), some (.int p1), some (.int p2), some (.int v2), some (.int (0 : Int32)), some (.int (0 : Int32)), none]) rfl ?_
  exact H
def wb_K_kindCounted_2 (l0 : Nat) (l1 : Int32) (l2 : Int32) (h : HP) (K : Int32 → HP → Prop) : Prop :=
  (l1 ≤ l2 → Wp k_K_kindCounted 43 [some (.ref l0), some (.int l1), some (.int (0 : Int32)), some (.int (0 : Int32))] [] h (0, 0) (QI K)) ∧ (¬ l1 ≤ l2 → isO h l0 9 ∧ 0 < gR h l0 1 ∧ isO h (gR h l0 1) 0 ∧ 0 < gR h (gR h l0 1) 1 ∧ 0 < gR h (gR h l0 1) 1 ∧ gR h (gR h l0 1) 1 < gS h ∧ (gK h (gR h (gR h l0 1) 1) = 104 ∨ gK h (gR h (gR h l0 1) 1) = 105) ∧ vp_in l1 (gL h (gR h (gR h l0 1) 1)) ∧ 0 < gR h (gR h (gR h l0 1) 1) l1.toNatClampNeg ∧ isO h l0 9 ∧ 0 < gR h l0 1 ∧ isO h (gR h l0 1) 0 ∧ 0 < gR h (gR h l0 1) 1 ∧ 0 < gR h (gR h l0 1) 1 ∧ gR h (gR h l0 1) 1 < gS h ∧ (gK h (gR h (gR h l0 1) 1) = 104 ∨ gK h (gR h (gR h l0 1) 1) = 105) ∧ vp_in l2 (gL h (gR h (gR h l0 1) 1)) ∧ 0 < gR h (gR h (gR h l0 1) 1) l2.toNatClampNeg ∧ isO h (gR h (gR h (gR h l0 1) 1) l1.toNatClampNeg) 6 ∧ wq_Row_isLike (gR h (gR h (gR h l0 1) 1) l1.toNatClampNeg) (gR h (gR h (gR h l0 1) 1) l2.toNatClampNeg) h (fun v2 h1 => (v2 = 0 → Wp k_K_kindCounted 2 [some (.ref l0), some (.int l1), some (.int (l2 + (1 : Int32))), none] [] h1 (0, 0) (QI K)) ∧ (¬ v2 = 0 → K (0 : Int32) h1)))
theorem wb_K_kindCounted_2_ok {l0 : Nat} {l1 : Int32} {l2 : Int32} {h : HP} {K : Int32 → HP → Prop} (H : wb_K_kindCounted_2 l0 l1 l2 h K) : Wp k_K_kindCounted 2 [some (.ref l0), some (.int l1), some (.int l2), none] [] h (0, 0) (QI K) := by
  unfold wb_K_kindCounted_2 at H
  refine wp_iload_n rfl rfl ?_
  refine wp_iload_n rfl rfl ?_
  refine wp_icmp_ge rfl (lo1 := [some (.ref l0), some (.int l1), some (.int l2), none]) (lo2 := [some (.ref l0), some (.int l1), some (.int l2), none]) rfl rfl (fun q23 => ?_) (fun q23 => ?_)
  · have H := H.1 q23
    refine wp_iconst rfl ?_
    refine wp_istore_n rfl rfl (lo' := [some (.ref l0), some (.int l1), some (.int (0 : Int32)), none]) rfl ?_
    refine wp_iconst rfl ?_
    refine wp_istore_n rfl rfl (lo' := [some (.ref l0), some (.int l1), some (.int (0 : Int32)), some (.int (0 : Int32))]) rfl ?_
    exact H
  · have H := H.2 q23
    refine wp_aload_n rfl rfl ?_
    obtain ⟨g21, g22, H⟩ := H
    refine wp_getR rfl rfl g21 g22 ?_
    obtain ⟨g19, g20, H⟩ := H
    refine wp_getR rfl rfl g19 g20 ?_
    refine wp_iload_n rfl rfl ?_
    obtain ⟨g14, g15, g16, g17, g18, H⟩ := H
    refine wp_aald rfl g14 g15 g16 g17 g18 ?_
    refine wp_aload_n rfl rfl ?_
    obtain ⟨g12, g13, H⟩ := H
    refine wp_getR rfl rfl g12 g13 ?_
    obtain ⟨g10, g11, H⟩ := H
    refine wp_getR rfl rfl g10 g11 ?_
    refine wp_iload_n rfl rfl ?_
    obtain ⟨g5, g6, g7, g8, g9, H⟩ := H
    refine wp_aald rfl g5 g6 g7 g8 g9 ?_
    obtain ⟨g4, H⟩ := H
    refine wp_callvI rfl rfl (Or.inr rfl) (lo' := [some (.ref l0), some (.int l1), some (.int l2), none]) rfl g4 ⟨Nat.le_of_ble_eq_true rfl, Nat.le_of_ble_eq_true rfl, Nat.le_of_ble_eq_true rfl, Nat.le_of_ble_eq_true rfl⟩ (bd' := (0, 0)) rfl ?_
    refine (wq_Row_isLike_ok H).conI (fun v2 h1 H => ?_)
    refine wp_if_eq rfl (lo1 := [some (.ref l0), some (.int l1), some (.int l2), none]) (lo2 := [some (.ref l0), some (.int l1), some (.int l2), none]) rfl rfl (fun q3 => ?_) (fun q3 => ?_)
    · have H := H.1 q3
      refine wp_iinc rfl rfl rfl (lo' := [some (.ref l0), some (.int l1), some (.int (l2 + (1 : Int32))), none]) rfl ?_
      refine wp_goto rfl (lo' := [some (.ref l0), some (.int l1), some (.int (l2 + (1 : Int32))), none]) rfl ?_
      exact H
    · have H := H.2 q3
      refine wp_iconst rfl ?_
      exact wp_iret rfl rfl H
def wb_K_kindCounted_43 (l0 : Nat) (l1 : Int32) (l2 : Int32) (l3 : Int32) (h : HP) (K : Int32 → HP → Prop) : Prop :=
  isO h l0 9 ∧ 0 < gR h l0 2 ∧ isO h (gR h l0 2) 2 ∧ (gI h (gR h l0 2) 6 ≤ l3 → (l2 < (75 : Int32) → (l2 < (50 : Int32) → K (4 : Int32) h) ∧ (¬ l2 < (50 : Int32) → K (3 : Int32) h)) ∧ (¬ l2 < (75 : Int32) → K (2 : Int32) h)) ∧ (¬ gI h (gR h l0 2) 6 ≤ l3 → isO h l0 9 ∧ wq_K_isLikeSource l0 l1 l3 h (fun v27 h26 => (v27 = 0 → isO h26 l0 9 ∧ wq_K_scoreOf l0 l1 l3 h26 (fun v29 h28 => Wp k_K_kindCounted 43 [some (.ref l0), some (.int l1), some (.int (if l2 < v29 then v29 else l2)), some (.int (l3 + (1 : Int32)))] [] h28 (0, 0) (QI K))) ∧ (¬ v27 = 0 → K (1 : Int32) h26)))
theorem wb_K_kindCounted_43_ok {l0 : Nat} {l1 : Int32} {l2 : Int32} {l3 : Int32} {h : HP} {K : Int32 → HP → Prop} (H : wb_K_kindCounted_43 l0 l1 l2 l3 h K) : Wp k_K_kindCounted 43 [some (.ref l0), some (.int l1), some (.int l2), some (.int l3)] [] h (0, 0) (QI K) := by
  unfold wb_K_kindCounted_43 at H
  refine wp_iload_n rfl rfl ?_
  refine wp_aload_n rfl rfl ?_
  obtain ⟨g35, g36, H⟩ := H
  refine wp_getR rfl rfl g35 g36 ?_
  obtain ⟨g34, H⟩ := H
  refine wp_getI rfl rfl g34 ?_
  refine wp_icmp_ge rfl (lo1 := [some (.ref l0), some (.int l1), some (.int l2), some (.int l3)]) (lo2 := [some (.ref l0), some (.int l1), some (.int l2), some (.int l3)]) rfl rfl (fun q33 => ?_) (fun q33 => ?_)
  · have H := H.1 q33
    refine wp_iload_n rfl rfl ?_
    refine wp_bipush rfl ?_
    refine wp_icmp_lt rfl (lo1 := [some (.ref l0), some (.int l1), some (.int l2), some (.int l3)]) (lo2 := [some (.ref l0), some (.int l1), some (.int l2), some (.int l3)]) rfl rfl (fun q25 => ?_) (fun q25 => ?_)
    · have H := H.1 q25
      refine wp_iload_n rfl rfl ?_
      refine wp_bipush rfl ?_
      refine wp_icmp_lt rfl (lo1 := [some (.ref l0), some (.int l1), some (.int l2), some (.int l3)]) (lo2 := [some (.ref l0), some (.int l1), some (.int l2), some (.int l3)]) rfl rfl (fun q24 => ?_) (fun q24 => ?_)
      · have H := H.1 q24
        refine wp_iconstk (lo' := [none, none, none, none]) rfl rfl ?_
        exact wp_iret rfl rfl H
      · have H := H.2 q24
        refine wp_iconst rfl ?_
        refine wp_goto rfl (lo' := [none, none, none, none]) rfl ?_
        exact wp_iret rfl rfl H
    · have H := H.2 q25
      refine wp_iconst rfl ?_
      exact wp_iret rfl rfl H
  · have H := H.2 q33
    refine wp_aload_n rfl rfl ?_
    refine wp_iload_n rfl rfl ?_
    refine wp_iload_n rfl rfl ?_
    obtain ⟨g32, H⟩ := H
    refine wp_callvI rfl rfl (Or.inr rfl) (lo' := [some (.ref l0), some (.int l1), some (.int l2), some (.int l3)]) rfl g32 ⟨Nat.le_of_ble_eq_true rfl, Nat.le_of_ble_eq_true rfl, Nat.le_of_ble_eq_true rfl, Nat.le_of_ble_eq_true rfl⟩ (bd' := (0, 0)) rfl ?_
    refine (wq_K_isLikeSource_ok H).conI (fun v27 h26 H => ?_)
    refine wp_if_eq rfl (lo1 := [some (.ref l0), some (.int l1), some (.int l2), some (.int l3)]) (lo2 := [some (.ref l0), some (.int l1), some (.int l2), some (.int l3)]) rfl rfl (fun q31 => ?_) (fun q31 => ?_)
    · have H := H.1 q31
      refine wp_iload_n rfl rfl ?_
      refine wp_aload_n rfl rfl ?_
      refine wp_iload_n rfl rfl ?_
      refine wp_iload_n rfl rfl ?_
      obtain ⟨g30, H⟩ := H
      refine wp_callvI rfl rfl (Or.inl rfl) (lo' := [some (.ref l0), some (.int l1), some (.int l2), some (.int l3)]) rfl g30 ⟨Nat.le_of_ble_eq_true rfl, Nat.le_of_ble_eq_true rfl, Nat.le_of_ble_eq_true rfl, Nat.le_of_ble_eq_true rfl⟩ (bd' := (0, 0)) rfl ?_
      refine (wq_K_scoreOf_ok H).conI (fun v29 h28 H => ?_)
      refine wp_max rfl (Nat.le_of_ble_eq_true rfl) (lo' := [some (.ref l0), some (.int l1), some (.int l2), some (.int l3)]) rfl ?_
      refine wp_istore_n rfl rfl (lo' := [some (.ref l0), some (.int l1), some (.int (if l2 < v29 then v29 else l2)), some (.int l3)]) rfl ?_
      refine wp_iinc rfl rfl rfl (lo' := [some (.ref l0), some (.int l1), some (.int (if l2 < v29 then v29 else l2)), some (.int (l3 + (1 : Int32)))]) rfl ?_
      refine wp_goto rfl (lo' := [some (.ref l0), some (.int l1), some (.int (if l2 < v29 then v29 else l2)), some (.int (l3 + (1 : Int32)))]) rfl ?_
      exact H
    · have H := H.2 q31
      refine wp_iconst rfl ?_
      exact wp_iret rfl rfl H
def wq_K_kindCounted (p0 : Nat) (p1 : Int32) (h : HP) (K : Int32 → HP → Prop) : Prop :=
  Wp k_K_kindCounted 2 [some (.ref p0), some (.int p1), some (.int (0 : Int32)), none] [] h (0, 0) (QI K)
theorem wq_K_kindCounted_ok {p0 : Nat} {p1 : Int32} {h : HP} {K : Int32 → HP → Prop} (H : wq_K_kindCounted p0 p1 h K) : Wp k_K_kindCounted 0 [some (.ref p0), some (.int p1), none, none] [] h (0, 0) (QI K) := by
  unfold wq_K_kindCounted at H
  refine wp_iconst rfl ?_
  refine wp_istore_n rfl rfl (lo' := [some (.ref p0), some (.int p1), some (.int (0 : Int32)), none]) rfl ?_
  exact H
def wq_M_like2 (p0 : Nat) (p1 : Int32) (p2 : Int32) (h : HP) (K : Int32 → HP → Prop) : Prop :=
  isO h p0 10 ∧ wq_M_isSegment p0 p1 h (fun v2 h1 => (v2 = 0 → K (-1 : Int32) h1) ∧ (¬ v2 = 0 → isO h1 p0 10 ∧ wq_M_isPair p0 p2 h1 (fun v4 h3 => (¬ v4 = 0 → isO h3 p0 10 ∧ wq_M_readBoth p0 p1 p2 h3 (fun h5 => isO h5 p0 10 ∧ wq_M_like p0 h5 (fun v7 h6 => (v7 = 0 → K (0 : Int32) h6) ∧ (¬ v7 = 0 → K (1 : Int32) h6)))) ∧ (v4 = 0 → K (-1 : Int32) h3))))
theorem wq_M_like2_ok {p0 : Nat} {p1 : Int32} {p2 : Int32} {h : HP} {K : Int32 → HP → Prop} (H : wq_M_like2 p0 p1 p2 h K) : Wp k_M_like2 0 [some (.ref p0), some (.int p1), some (.int p2)] [] h (0, 0) (QI K) := by
  unfold wq_M_like2 at H
  refine wp_aload_n rfl rfl ?_
  refine wp_iload_n rfl rfl ?_
  obtain ⟨g14, H⟩ := H
  refine wp_callvI rfl rfl (Or.inr rfl) (lo' := [some (.ref p0), some (.int p1), some (.int p2)]) rfl g14 ⟨Nat.le_of_ble_eq_true rfl, Nat.le_of_ble_eq_true rfl, Nat.le_of_ble_eq_true rfl, Nat.le_of_ble_eq_true rfl⟩ (bd' := (0, 0)) rfl ?_
  refine (wq_M_isSegment_ok H).conI (fun v2 h1 H => ?_)
  refine wp_if_eq rfl (lo1 := [none, none, none]) (lo2 := [some (.ref p0), some (.int p1), some (.int p2)]) rfl rfl (fun q13 => ?_) (fun q13 => ?_)
  · have H := H.1 q13
    refine wp_iconst rfl ?_
    exact wp_iret rfl rfl H
  · have H := H.2 q13
    refine wp_aload_n rfl rfl ?_
    refine wp_iload_n rfl rfl ?_
    obtain ⟨g12, H⟩ := H
    refine wp_callvI rfl rfl (Or.inr rfl) (lo' := [some (.ref p0), some (.int p1), some (.int p2)]) rfl g12 ⟨Nat.le_of_ble_eq_true rfl, Nat.le_of_ble_eq_true rfl, Nat.le_of_ble_eq_true rfl, Nat.le_of_ble_eq_true rfl⟩ (bd' := (0, 0)) rfl ?_
    refine (wq_M_isPair_ok H).conI (fun v4 h3 H => ?_)
    refine wp_if_ne rfl (lo1 := [some (.ref p0), some (.int p1), some (.int p2)]) (lo2 := [none, none, none]) rfl rfl (fun q11 => ?_) (fun q11 => ?_)
    · have H := H.1 q11
      refine wp_aload_n rfl rfl ?_
      refine wp_iload_n rfl rfl ?_
      refine wp_iload_n rfl rfl ?_
      obtain ⟨g10, H⟩ := H
      refine wp_callvV rfl rfl rfl (lo' := [some (.ref p0), some (.int p1), some (.int p2)]) rfl g10 ⟨Nat.le_of_ble_eq_true rfl, Nat.le_of_ble_eq_true rfl, Nat.le_of_ble_eq_true rfl, Nat.le_of_ble_eq_true rfl⟩ (bd' := (0, 0)) rfl ?_
      refine (wq_M_readBoth_ok H).conV (fun h5 H => ?_)
      refine wp_aload_n rfl rfl ?_
      obtain ⟨g9, H⟩ := H
      refine wp_callvI rfl rfl (Or.inr rfl) (lo' := [some (.ref p0), some (.int p1), some (.int p2)]) rfl g9 ⟨Nat.le_of_ble_eq_true rfl, Nat.le_of_ble_eq_true rfl, Nat.le_of_ble_eq_true rfl, Nat.le_of_ble_eq_true rfl⟩ (bd' := (0, 0)) rfl ?_
      refine (wq_M_like_ok H).conI (fun v7 h6 H => ?_)
      refine wp_if_eq rfl (lo1 := [some (.ref p0), some (.int p1), some (.int p2)]) (lo2 := [some (.ref p0), some (.int p1), some (.int p2)]) rfl rfl (fun q8 => ?_) (fun q8 => ?_)
      · have H := H.1 q8
        refine wp_iconstk (lo' := [none, none, none]) rfl rfl ?_
        exact wp_iret rfl rfl H
      · have H := H.2 q8
        refine wp_iconst rfl ?_
        refine wp_goto rfl (lo' := [none, none, none]) rfl ?_
        exact wp_iret rfl rfl H
    · have H := H.2 q11
      refine wp_iconst rfl ?_
      exact wp_iret rfl rfl H
def wb_M_scoreOf_36 (l0 : Nat) (s0 : Int32) (h : HP) (K : Int32 → HP → Prop) : Prop :=
  (¬ s0 = 0 → isO h l0 10 ∧ wq_M_work l0 h (fun v17 h16 => ¬ s0 = 0 ∧ (0 ≤ (100 : Int32) - (((10 : Int32) * v17) / s0) → K ((100 : Int32) - (((10 : Int32) * v17) / s0)) h16) ∧ (¬ 0 ≤ (100 : Int32) - (((10 : Int32) * v17) / s0) → K (0 : Int32) h16))) ∧ (s0 = 0 → K (100 : Int32) h)
theorem wb_M_scoreOf_36_ok {l0 : Nat} {s0 : Int32} {h : HP} {K : Int32 → HP → Prop} (H : wb_M_scoreOf_36 l0 s0 h K) : Wp k_M_scoreOf 36 [some (.ref l0), none, none, none, none] [.int s0] h (0, 0) (QI K) := by
  unfold wb_M_scoreOf_36 at H
  refine wp_istore_n rfl rfl (lo' := [some (.ref l0), none, none, some (.int s0), none]) rfl ?_
  refine wp_iload_n rfl rfl ?_
  refine wp_if_ne rfl (lo1 := [some (.ref l0), none, none, some (.int s0), none]) (lo2 := [some (.ref l0), none, none, some (.int s0), none]) rfl rfl (fun q21 => ?_) (fun q21 => ?_)
  · have H := H.1 q21
    refine wp_bipush rfl ?_
    refine wp_bipush rfl ?_
    refine wp_aload_n rfl rfl ?_
    obtain ⟨g20, H⟩ := H
    refine wp_callvI rfl rfl (Or.inl rfl) (lo' := [some (.ref l0), none, none, some (.int s0), none]) rfl g20 ⟨Nat.le_of_ble_eq_true rfl, Nat.le_of_ble_eq_true rfl, Nat.le_of_ble_eq_true rfl, Nat.le_of_ble_eq_true rfl⟩ (bd' := (0, 0)) rfl ?_
    refine (wq_M_work_ok H).conI (fun v17 h16 H => ?_)
    refine wp_imul rfl ?_
    refine wp_iload_n rfl rfl ?_
    obtain ⟨g19, H⟩ := H
    refine wp_idiv rfl g19 ?_
    refine wp_isub rfl ?_
    refine wp_istore rfl rfl (lo' := [some (.ref l0), none, none, some (.int s0), some (.int ((100 : Int32) - (((10 : Int32) * v17) / s0)))]) rfl ?_
    refine wp_iload rfl rfl ?_
    refine wp_if_ge rfl (lo1 := [some (.ref l0), none, none, some (.int s0), some (.int ((100 : Int32) - (((10 : Int32) * v17) / s0)))]) (lo2 := [some (.ref l0), none, none, some (.int s0), some (.int ((100 : Int32) - (((10 : Int32) * v17) / s0)))]) rfl rfl (fun q18 => ?_) (fun q18 => ?_)
    · have H := H.1 q18
      refine wp_iloadk (lo' := [none, none, none, none, none]) rfl rfl rfl ?_
      exact wp_iret rfl rfl H
    · have H := H.2 q18
      refine wp_iconst rfl ?_
      refine wp_goto rfl (lo' := [none, none, none, none, none]) rfl ?_
      exact wp_iret rfl rfl H
  · have H := H.2 q21
    refine wp_bipush rfl ?_
    exact wp_iret rfl rfl H
def wq_M_scoreOf (p0 : Nat) (p1 : Int32) (p2 : Int32) (h : HP) (K : Int32 → HP → Prop) : Prop :=
  isO h p0 10 ∧ wq_M_readBoth p0 p1 p2 h (fun h1 => isO h1 p0 10 ∧ 0 < gR h1 p0 7 ∧ isL h1 (gR h1 p0 7) 100 (0 : Int32) ∧ isO h1 p0 10 ∧ 0 < gR h1 p0 7 ∧ isL h1 (gR h1 p0 7) 100 (1 : Int32) ∧ (gI h1 (gR h1 p0 7) (0 : Int32).toNatClampNeg ≤ gI h1 (gR h1 p0 7) (1 : Int32).toNatClampNeg → isO h1 p0 10 ∧ 0 < gR h1 p0 7 ∧ isL h1 (gR h1 p0 7) 100 (1 : Int32) ∧ wb_M_scoreOf_36 p0 (gI h1 (gR h1 p0 7) (1 : Int32).toNatClampNeg) h1 K) ∧ (¬ gI h1 (gR h1 p0 7) (0 : Int32).toNatClampNeg ≤ gI h1 (gR h1 p0 7) (1 : Int32).toNatClampNeg → isO h1 p0 10 ∧ 0 < gR h1 p0 7 ∧ isL h1 (gR h1 p0 7) 100 (0 : Int32) ∧ wb_M_scoreOf_36 p0 (gI h1 (gR h1 p0 7) (0 : Int32).toNatClampNeg) h1 K))
theorem wq_M_scoreOf_ok {p0 : Nat} {p1 : Int32} {p2 : Int32} {h : HP} {K : Int32 → HP → Prop} (H : wq_M_scoreOf p0 p1 p2 h K) : Wp k_M_scoreOf 0 [some (.ref p0), some (.int p1), some (.int p2), none, none] [] h (0, 0) (QI K) := by
  unfold wq_M_scoreOf at H
  refine wp_aload_n rfl rfl ?_
  refine wp_iload_n rfl rfl ?_
  refine wp_iload_n rfl rfl ?_
  obtain ⟨g15, H⟩ := H
  refine wp_callvV rfl rfl rfl (lo' := [some (.ref p0), some (.int p1), some (.int p2), none, none]) rfl g15 ⟨Nat.le_of_ble_eq_true rfl, Nat.le_of_ble_eq_true rfl, Nat.le_of_ble_eq_true rfl, Nat.le_of_ble_eq_true rfl⟩ (bd' := (0, 0)) rfl ?_
  refine (wq_M_readBoth_ok H).conV (fun h1 H => ?_)
  refine wp_aload_n rfl rfl ?_
  obtain ⟨g13, g14, H⟩ := H
  refine wp_getR rfl rfl g13 g14 ?_
  refine wp_iconst rfl ?_
  obtain ⟨g12, H⟩ := H
  refine wp_iald rfl g12 ?_
  refine wp_aload_n rfl rfl ?_
  obtain ⟨g10, g11, H⟩ := H
  refine wp_getR rfl rfl g10 g11 ?_
  refine wp_iconst rfl ?_
  obtain ⟨g9, H⟩ := H
  refine wp_iald rfl g9 ?_
  refine wp_icmp_le rfl (lo1 := [some (.ref p0), some (.int p1), some (.int p2), none, none]) (lo2 := [some (.ref p0), some (.int p1), some (.int p2), none, none]) rfl rfl (fun q8 => ?_) (fun q8 => ?_)
  · have H := H.1 q8
    refine wp_aload_n rfl rfl ?_
    obtain ⟨g3, g4, H⟩ := H
    refine wp_getR rfl rfl g3 g4 ?_
    refine wp_iconst rfl ?_
    obtain ⟨g2, H⟩ := H
    refine wp_ialdk (lo' := [some (.ref p0), none, none, none, none]) rfl rfl g2 ?_
    exact wb_M_scoreOf_36_ok H
  · have H := H.2 q8
    refine wp_aload_n rfl rfl ?_
    obtain ⟨g6, g7, H⟩ := H
    refine wp_getR rfl rfl g6 g7 ?_
    refine wp_iconst rfl ?_
    obtain ⟨g5, H⟩ := H
    refine wp_iald rfl g5 ?_
    refine wp_goto rfl (lo' := [some (.ref p0), none, none, none, none]) rfl ?_
    exact wb_M_scoreOf_36_ok H
def wb_M_differ_181 (l0 : Nat) (l4 : Int32) (l5 : Int32) (l6 : Int32) (h : HP) (K : Int32 → HP → Prop) : Prop :=
  isO h l0 10 ∧ 0 < gR h l0 7 ∧ isL h (gR h l0 7) 100 (0 : Int32) ∧ (gI h (gR h l0 7) (0 : Int32).toNatClampNeg ≤ l4 → isO h l0 10 ∧ wq_M_step l0 (3 : Int32) (-1 : Int32) l5 h (fun h51 => Wp k_M_differ 40 [some (.ref l0), none, none, none, some (.int l4), some (.int (l5 + (1 : Int32))), none, none, none] [] h51 (0, 0) (QI K))) ∧ (¬ gI h (gR h l0 7) (0 : Int32).toNatClampNeg ≤ l4 → isO h l0 10 ∧ 0 < gR h l0 23 ∧ isL h (gR h l0 23) 100 l6 ∧ isO h l0 10 ∧ 0 < gR h l0 23 ∧ isL h (gR h l0 23) 100 (l6 + (21 : Int32)) ∧ isO h l0 10 ∧ wq_M_loneCost l0 ((0 : Int32) + l4) h (fun v54 h53 => (¬ gI h (gR h l0 23) l6.toNatClampNeg = (gI h (gR h l0 23) (l6 + (21 : Int32)).toNatClampNeg) + v54 → isO h53 l0 10 ∧ wq_M_step l0 (3 : Int32) (-1 : Int32) l5 h53 (fun h55 => Wp k_M_differ 40 [some (.ref l0), none, none, none, some (.int l4), some (.int (l5 + (1 : Int32))), none, none, none] [] h55 (0, 0) (QI K))) ∧ (gI h (gR h l0 23) l6.toNatClampNeg = (gI h (gR h l0 23) (l6 + (21 : Int32)).toNatClampNeg) + v54 → isO h53 l0 10 ∧ wq_M_step l0 (2 : Int32) l4 (-1 : Int32) h53 (fun h57 => Wp k_M_differ 40 [some (.ref l0), none, none, none, some (.int (l4 + (1 : Int32))), some (.int l5), none, none, none] [] h57 (0, 0) (QI K)))))
set_option maxRecDepth 100000 in
set_option maxHeartbeats 4000000 in
theorem wb_M_differ_181_ok {l0 : Nat} {l4 : Int32} {l5 : Int32} {l6 : Int32} {h : HP} {K : Int32 → HP → Prop} (H : wb_M_differ_181 l0 l4 l5 l6 h K) : Wp k_M_differ 181 [some (.ref l0), none, none, none, some (.int l4), some (.int l5), some (.int l6), none, none] [] h (0, 0) (QI K) := by
  unfold wb_M_differ_181 at H
  refine wp_iload rfl rfl ?_
  refine wp_aload_n rfl rfl ?_
  obtain ⟨g69, g70, H⟩ := H
  refine wp_getR rfl rfl g69 g70 ?_
  refine wp_iconst rfl ?_
  obtain ⟨g68, H⟩ := H
  refine wp_iald rfl g68 ?_
  refine wp_icmp_ge rfl (lo1 := [some (.ref l0), none, none, none, some (.int l4), some (.int l5), none, none, none]) (lo2 := [some (.ref l0), none, none, none, some (.int l4), some (.int l5), some (.int l6), none, none]) rfl rfl (fun q67 => ?_) (fun q67 => ?_)
  · have H := H.1 q67
    refine wp_aload_n rfl rfl ?_
    refine wp_iconst rfl ?_
    refine wp_iconst rfl ?_
    refine wp_iload rfl rfl ?_
    obtain ⟨g52, H⟩ := H
    refine wp_callvV rfl rfl rfl (lo' := [some (.ref l0), none, none, none, some (.int l4), some (.int l5), none, none, none]) rfl g52 ⟨Nat.le_of_ble_eq_true rfl, Nat.le_of_ble_eq_true rfl, Nat.le_of_ble_eq_true rfl, Nat.le_of_ble_eq_true rfl⟩ (bd' := (0, 0)) rfl ?_
    refine (wq_M_step_ok H).conV (fun h51 H => ?_)
    refine wp_iinc rfl rfl rfl (lo' := [some (.ref l0), none, none, none, some (.int l4), some (.int (l5 + (1 : Int32))), none, none, none]) rfl ?_
    refine wp_goto rfl (lo' := [some (.ref l0), none, none, none, some (.int l4), some (.int (l5 + (1 : Int32))), none, none, none]) rfl ?_
    exact H
  · have H := H.2 q67
    refine wp_aload_n rfl rfl ?_
    obtain ⟨g65, g66, H⟩ := H
    refine wp_getR rfl rfl g65 g66 ?_
    refine wp_iload rfl rfl ?_
    obtain ⟨g64, H⟩ := H
    refine wp_iald rfl g64 ?_
    refine wp_aload_n rfl rfl ?_
    obtain ⟨g62, g63, H⟩ := H
    refine wp_getR rfl rfl g62 g63 ?_
    refine wp_iload rfl rfl ?_
    refine wp_bipush rfl ?_
    refine wp_iadd rfl ?_
    obtain ⟨g61, H⟩ := H
    refine wp_iald rfl g61 ?_
    refine wp_aload_n rfl rfl ?_
    refine wp_iconst rfl ?_
    refine wp_iload rfl rfl ?_
    refine wp_iadd rfl ?_
    obtain ⟨g60, H⟩ := H
    refine wp_callvI rfl rfl (Or.inl rfl) (lo' := [some (.ref l0), none, none, none, some (.int l4), some (.int l5), some (.int l6), none, none]) rfl g60 ⟨Nat.le_of_ble_eq_true rfl, Nat.le_of_ble_eq_true rfl, Nat.le_of_ble_eq_true rfl, Nat.le_of_ble_eq_true rfl⟩ (bd' := (0, 0)) rfl ?_
    refine (wq_M_loneCost_ok H).conI (fun v54 h53 H => ?_)
    refine wp_iadd rfl ?_
    refine wp_icmp_ne rfl (lo1 := [some (.ref l0), none, none, none, some (.int l4), some (.int l5), none, none, none]) (lo2 := [some (.ref l0), none, none, none, some (.int l4), some (.int l5), some (.int l6), none, none]) rfl rfl (fun q59 => ?_) (fun q59 => ?_)
    · have H := H.1 q59
      refine wp_aload_n rfl rfl ?_
      refine wp_iconst rfl ?_
      refine wp_iconst rfl ?_
      refine wp_iload rfl rfl ?_
      obtain ⟨g56, H⟩ := H
      refine wp_callvV rfl rfl rfl (lo' := [some (.ref l0), none, none, none, some (.int l4), some (.int l5), none, none, none]) rfl g56 ⟨Nat.le_of_ble_eq_true rfl, Nat.le_of_ble_eq_true rfl, Nat.le_of_ble_eq_true rfl, Nat.le_of_ble_eq_true rfl⟩ (bd' := (0, 0)) rfl ?_
      refine (wq_M_step_ok H).conV (fun h55 H => ?_)
      refine wp_iinc rfl rfl rfl (lo' := [some (.ref l0), none, none, none, some (.int l4), some (.int (l5 + (1 : Int32))), none, none, none]) rfl ?_
      refine wp_goto rfl (lo' := [some (.ref l0), none, none, none, some (.int l4), some (.int (l5 + (1 : Int32))), none, none, none]) rfl ?_
      exact H
    · have H := H.2 q59
      refine wp_aload_n rfl rfl ?_
      refine wp_iconst rfl ?_
      refine wp_iload rfl rfl ?_
      refine wp_iconst rfl ?_
      obtain ⟨g58, H⟩ := H
      refine wp_callvV rfl rfl rfl (lo' := [some (.ref l0), none, none, none, some (.int l4), some (.int l5), some (.int l6), none, none]) rfl g58 ⟨Nat.le_of_ble_eq_true rfl, Nat.le_of_ble_eq_true rfl, Nat.le_of_ble_eq_true rfl, Nat.le_of_ble_eq_true rfl⟩ (bd' := (0, 0)) rfl ?_
      refine (wq_M_step_ok H).conV (fun h57 H => ?_)
      refine wp_iinc rfl rfl rfl (lo' := [some (.ref l0), none, none, none, some (.int (l4 + (1 : Int32))), some (.int l5), some (.int l6), none, none]) rfl ?_
      refine wp_goto rfl (lo' := [some (.ref l0), none, none, none, some (.int (l4 + (1 : Int32))), some (.int l5), none, none, none]) rfl ?_
      refine wp_goto rfl (lo' := [some (.ref l0), none, none, none, some (.int (l4 + (1 : Int32))), some (.int l5), none, none, none]) rfl ?_
      exact H
def wb_M_differ_124 (l0 : Nat) (l4 : Int32) (l5 : Int32) (l6 : Int32) (l7 : Int32) (s0 : Int32) (h : HP) (K : Int32 → HP → Prop) : Prop :=
  (l7 = 0 → wb_M_differ_181 l0 l4 l5 l6 h K) ∧ (¬ l7 = 0 → isO h l0 10 ∧ 0 < gR h l0 23 ∧ isL h (gR h l0 23) 100 l6 ∧ isO h l0 10 ∧ 0 < gR h l0 23 ∧ isL h (gR h l0 23) 100 (l6 + (22 : Int32)) ∧ (¬ gI h (gR h l0 23) l6.toNatClampNeg = (gI h (gR h l0 23) (l6 + (22 : Int32)).toNatClampNeg) + s0 → wb_M_differ_181 l0 l4 l5 l6 h K) ∧ (gI h (gR h l0 23) l6.toNatClampNeg = (gI h (gR h l0 23) (l6 + (22 : Int32)).toNatClampNeg) + s0 → (¬ s0 = 0 → isO h l0 10 ∧ wq_M_step l0 (1 : Int32) l4 l5 h (fun h38 => Wp k_M_differ 40 [some (.ref l0), none, none, none, some (.int (l4 + (1 : Int32))), some (.int (l5 + (1 : Int32))), none, none, none] [] h38 (0, 0) (QI K))) ∧ (s0 = 0 → isO h l0 10 ∧ wq_M_step l0 (0 : Int32) l4 l5 h (fun h40 => Wp k_M_differ 40 [some (.ref l0), none, none, none, some (.int (l4 + (1 : Int32))), some (.int (l5 + (1 : Int32))), none, none, none] [] h40 (0, 0) (QI K)))))
set_option maxRecDepth 100000 in
set_option maxHeartbeats 4000000 in
theorem wb_M_differ_124_ok {l0 : Nat} {l4 : Int32} {l5 : Int32} {l6 : Int32} {l7 : Int32} {s0 : Int32} {h : HP} {K : Int32 → HP → Prop} (H : wb_M_differ_124 l0 l4 l5 l6 l7 s0 h K) : Wp k_M_differ 124 [some (.ref l0), none, none, none, some (.int l4), some (.int l5), some (.int l6), some (.int l7), none] [.int s0] h (0, 0) (QI K) := by
  unfold wb_M_differ_124 at H
  refine wp_istore rfl rfl (lo' := [some (.ref l0), none, none, none, some (.int l4), some (.int l5), some (.int l6), some (.int l7), some (.int s0)]) rfl ?_
  refine wp_iload rfl rfl ?_
  refine wp_if_eq rfl (lo1 := [some (.ref l0), none, none, none, some (.int l4), some (.int l5), some (.int l6), none, none]) (lo2 := [some (.ref l0), none, none, none, some (.int l4), some (.int l5), some (.int l6), some (.int l7), some (.int s0)]) rfl rfl (fun q50 => ?_) (fun q50 => ?_)
  · have H := H.1 q50
    exact wb_M_differ_181_ok H
  · have H := H.2 q50
    refine wp_aload_n rfl rfl ?_
    obtain ⟨g48, g49, H⟩ := H
    refine wp_getR rfl rfl g48 g49 ?_
    refine wp_iload rfl rfl ?_
    obtain ⟨g47, H⟩ := H
    refine wp_iald rfl g47 ?_
    refine wp_aload_n rfl rfl ?_
    obtain ⟨g45, g46, H⟩ := H
    refine wp_getR rfl rfl g45 g46 ?_
    refine wp_iload rfl rfl ?_
    refine wp_bipush rfl ?_
    refine wp_iadd rfl ?_
    obtain ⟨g44, H⟩ := H
    refine wp_iald rfl g44 ?_
    refine wp_iload rfl rfl ?_
    refine wp_iadd rfl ?_
    refine wp_icmp_ne rfl (lo1 := [some (.ref l0), none, none, none, some (.int l4), some (.int l5), some (.int l6), none, none]) (lo2 := [some (.ref l0), none, none, none, some (.int l4), some (.int l5), some (.int l6), some (.int l7), some (.int s0)]) rfl rfl (fun q43 => ?_) (fun q43 => ?_)
    · have H := H.1 q43
      exact wb_M_differ_181_ok H
    · have H := H.2 q43
      refine wp_aload_n rfl rfl ?_
      refine wp_iload rfl rfl ?_
      refine wp_if_ne rfl (lo1 := [some (.ref l0), none, none, none, some (.int l4), some (.int l5), some (.int l6), some (.int l7), some (.int s0)]) (lo2 := [some (.ref l0), none, none, none, some (.int l4), some (.int l5), some (.int l6), some (.int l7), some (.int s0)]) rfl rfl (fun q42 => ?_) (fun q42 => ?_)
      · have H := H.1 q42
        refine wp_iconstk (lo' := [some (.ref l0), none, none, none, some (.int l4), some (.int l5), none, none, none]) rfl rfl ?_
        refine wp_iload rfl rfl ?_
        refine wp_iload rfl rfl ?_
        obtain ⟨g39, H⟩ := H
        refine wp_callvV rfl rfl rfl (lo' := [some (.ref l0), none, none, none, some (.int l4), some (.int l5), none, none, none]) rfl g39 ⟨Nat.le_of_ble_eq_true rfl, Nat.le_of_ble_eq_true rfl, Nat.le_of_ble_eq_true rfl, Nat.le_of_ble_eq_true rfl⟩ (bd' := (0, 0)) rfl ?_
        refine (wq_M_step_ok H).conV (fun h38 H => ?_)
        refine wp_iinc rfl rfl rfl (lo' := [some (.ref l0), none, none, none, some (.int (l4 + (1 : Int32))), some (.int l5), none, none, none]) rfl ?_
        refine wp_iinc rfl rfl rfl (lo' := [some (.ref l0), none, none, none, some (.int (l4 + (1 : Int32))), some (.int (l5 + (1 : Int32))), none, none, none]) rfl ?_
        refine wp_goto rfl (lo' := [some (.ref l0), none, none, none, some (.int (l4 + (1 : Int32))), some (.int (l5 + (1 : Int32))), none, none, none]) rfl ?_
        refine wp_goto rfl (lo' := [some (.ref l0), none, none, none, some (.int (l4 + (1 : Int32))), some (.int (l5 + (1 : Int32))), none, none, none]) rfl ?_
        exact H
      · have H := H.2 q42
        refine wp_iconst rfl ?_
        refine wp_goto rfl (lo' := [some (.ref l0), none, none, none, some (.int l4), some (.int l5), none, none, none]) rfl ?_
        refine wp_iload rfl rfl ?_
        refine wp_iload rfl rfl ?_
        obtain ⟨g41, H⟩ := H
        refine wp_callvV rfl rfl rfl (lo' := [some (.ref l0), none, none, none, some (.int l4), some (.int l5), none, none, none]) rfl g41 ⟨Nat.le_of_ble_eq_true rfl, Nat.le_of_ble_eq_true rfl, Nat.le_of_ble_eq_true rfl, Nat.le_of_ble_eq_true rfl⟩ (bd' := (0, 0)) rfl ?_
        refine (wq_M_step_ok H).conV (fun h40 H => ?_)
        refine wp_iinc rfl rfl rfl (lo' := [some (.ref l0), none, none, none, some (.int (l4 + (1 : Int32))), some (.int l5), none, none, none]) rfl ?_
        refine wp_iinc rfl rfl rfl (lo' := [some (.ref l0), none, none, none, some (.int (l4 + (1 : Int32))), some (.int (l5 + (1 : Int32))), none, none, none]) rfl ?_
        refine wp_goto rfl (lo' := [some (.ref l0), none, none, none, some (.int (l4 + (1 : Int32))), some (.int (l5 + (1 : Int32))), none, none, none]) rfl ?_
        refine wp_goto rfl (lo' := [some (.ref l0), none, none, none, some (.int (l4 + (1 : Int32))), some (.int (l5 + (1 : Int32))), none, none, none]) rfl ?_
        exact H
def wb_M_differ_99 (l0 : Nat) (l4 : Int32) (l5 : Int32) (l6 : Int32) (s0 : Int32) (h : HP) (K : Int32 → HP → Prop) : Prop :=
  (s0 = 0 → wb_M_differ_124 l0 l4 l5 l6 s0 (0 : Int32) h K) ∧ (¬ s0 = 0 → isO h l0 10 ∧ wq_M_keepCost l0 ((0 : Int32) + l4) ((600 : Int32) + l5) h (fun v35 h34 => wb_M_differ_124 l0 l4 l5 l6 s0 v35 h34 K))
theorem wb_M_differ_99_ok {l0 : Nat} {l4 : Int32} {l5 : Int32} {l6 : Int32} {s0 : Int32} {h : HP} {K : Int32 → HP → Prop} (H : wb_M_differ_99 l0 l4 l5 l6 s0 h K) : Wp k_M_differ 99 [some (.ref l0), none, none, none, some (.int l4), some (.int l5), some (.int l6), none, none] [.int s0] h (0, 0) (QI K) := by
  unfold wb_M_differ_99 at H
  refine wp_istore rfl rfl (lo' := [some (.ref l0), none, none, none, some (.int l4), some (.int l5), some (.int l6), some (.int s0), none]) rfl ?_
  refine wp_iload rfl rfl ?_
  refine wp_if_eq rfl (lo1 := [some (.ref l0), none, none, none, some (.int l4), some (.int l5), some (.int l6), some (.int s0), none]) (lo2 := [some (.ref l0), none, none, none, some (.int l4), some (.int l5), some (.int l6), some (.int s0), none]) rfl rfl (fun q37 => ?_) (fun q37 => ?_)
  · have H := H.1 q37
    refine wp_iconstk (lo' := [some (.ref l0), none, none, none, some (.int l4), some (.int l5), some (.int l6), some (.int s0), none]) rfl rfl ?_
    exact wb_M_differ_124_ok H
  · have H := H.2 q37
    refine wp_aload_n rfl rfl ?_
    refine wp_iconst rfl ?_
    refine wp_iload rfl rfl ?_
    refine wp_iadd rfl ?_
    refine wp_sipush rfl ?_
    refine wp_iload rfl rfl ?_
    refine wp_iadd rfl ?_
    obtain ⟨g36, H⟩ := H
    refine wp_callvI rfl rfl (Or.inl rfl) (lo' := [some (.ref l0), none, none, none, some (.int l4), some (.int l5), some (.int l6), some (.int s0), none]) rfl g36 ⟨Nat.le_of_ble_eq_true rfl, Nat.le_of_ble_eq_true rfl, Nat.le_of_ble_eq_true rfl, Nat.le_of_ble_eq_true rfl⟩ (bd' := (0, 0)) rfl ?_
    refine (wq_M_keepCost_ok H).conI (fun v35 h34 H => ?_)
    refine wp_goto rfl (lo' := [some (.ref l0), none, none, none, some (.int l4), some (.int l5), some (.int l6), some (.int s0), none]) rfl ?_
    exact wb_M_differ_124_ok H
def wb_M_differ_62 (l0 : Nat) (l4 : Int32) (l5 : Int32) (h : HP) (K : Int32 → HP → Prop) : Prop :=
  isO h l0 10 ∧ 0 < gR h l0 7 ∧ isL h (gR h l0 7) 100 (0 : Int32) ∧ (gI h (gR h l0 7) (0 : Int32).toNatClampNeg ≤ l4 → wb_M_differ_99 l0 l4 l5 (((21 : Int32) * l4) + l5) (0 : Int32) h K) ∧ (¬ gI h (gR h l0 7) (0 : Int32).toNatClampNeg ≤ l4 → isO h l0 10 ∧ 0 < gR h l0 7 ∧ isL h (gR h l0 7) 100 (1 : Int32) ∧ (gI h (gR h l0 7) (1 : Int32).toNatClampNeg ≤ l5 → wb_M_differ_99 l0 l4 l5 (((21 : Int32) * l4) + l5) (0 : Int32) h K) ∧ (¬ gI h (gR h l0 7) (1 : Int32).toNatClampNeg ≤ l5 → wb_M_differ_99 l0 l4 l5 (((21 : Int32) * l4) + l5) (1 : Int32) h K))
theorem wb_M_differ_62_ok {l0 : Nat} {l4 : Int32} {l5 : Int32} {h : HP} {K : Int32 → HP → Prop} (H : wb_M_differ_62 l0 l4 l5 h K) : Wp k_M_differ 62 [some (.ref l0), none, none, none, some (.int l4), some (.int l5), none, none, none] [] h (0, 0) (QI K) := by
  unfold wb_M_differ_62 at H
  refine wp_bipush rfl ?_
  refine wp_iload rfl rfl ?_
  refine wp_imul rfl ?_
  refine wp_iload rfl rfl ?_
  refine wp_iadd rfl ?_
  refine wp_istore rfl rfl (lo' := [some (.ref l0), none, none, none, some (.int l4), some (.int l5), some (.int (((21 : Int32) * l4) + l5)), none, none]) rfl ?_
  refine wp_iload rfl rfl ?_
  refine wp_aload_n rfl rfl ?_
  obtain ⟨g32, g33, H⟩ := H
  refine wp_getR rfl rfl g32 g33 ?_
  refine wp_iconst rfl ?_
  obtain ⟨g31, H⟩ := H
  refine wp_iald rfl g31 ?_
  refine wp_icmp_ge rfl (lo1 := [some (.ref l0), none, none, none, some (.int l4), some (.int l5), some (.int (((21 : Int32) * l4) + l5)), none, none]) (lo2 := [some (.ref l0), none, none, none, some (.int l4), some (.int l5), some (.int (((21 : Int32) * l4) + l5)), none, none]) rfl rfl (fun q30 => ?_) (fun q30 => ?_)
  · have H := H.1 q30
    refine wp_iconstk (lo' := [some (.ref l0), none, none, none, some (.int l4), some (.int l5), some (.int (((21 : Int32) * l4) + l5)), none, none]) rfl rfl ?_
    exact wb_M_differ_99_ok H
  · have H := H.2 q30
    refine wp_iload rfl rfl ?_
    refine wp_aload_n rfl rfl ?_
    obtain ⟨g28, g29, H⟩ := H
    refine wp_getR rfl rfl g28 g29 ?_
    refine wp_iconst rfl ?_
    obtain ⟨g27, H⟩ := H
    refine wp_iald rfl g27 ?_
    refine wp_icmp_ge rfl (lo1 := [some (.ref l0), none, none, none, some (.int l4), some (.int l5), some (.int (((21 : Int32) * l4) + l5)), none, none]) (lo2 := [some (.ref l0), none, none, none, some (.int l4), some (.int l5), some (.int (((21 : Int32) * l4) + l5)), none, none]) rfl rfl (fun q26 => ?_) (fun q26 => ?_)
    · have H := H.1 q26
      refine wp_iconstk (lo' := [some (.ref l0), none, none, none, some (.int l4), some (.int l5), some (.int (((21 : Int32) * l4) + l5)), none, none]) rfl rfl ?_
      exact wb_M_differ_99_ok H
    · have H := H.2 q26
      refine wp_iconst rfl ?_
      refine wp_goto rfl (lo' := [some (.ref l0), none, none, none, some (.int l4), some (.int l5), some (.int (((21 : Int32) * l4) + l5)), none, none]) rfl ?_
      exact wb_M_differ_99_ok H
def wb_M_differ_40 (l0 : Nat) (l4 : Int32) (l5 : Int32) (h : HP) (K : Int32 → HP → Prop) : Prop :=
  isO h l0 10 ∧ 0 < gR h l0 7 ∧ isL h (gR h l0 7) 100 (0 : Int32) ∧ (l4 < gI h (gR h l0 7) (0 : Int32).toNatClampNeg → wb_M_differ_62 l0 l4 l5 h K) ∧ (¬ l4 < gI h (gR h l0 7) (0 : Int32).toNatClampNeg → isO h l0 10 ∧ 0 < gR h l0 7 ∧ isL h (gR h l0 7) 100 (1 : Int32) ∧ (gI h (gR h l0 7) (1 : Int32).toNatClampNeg ≤ l5 → isO h l0 10 ∧ K (gI h l0 28) h) ∧ (¬ gI h (gR h l0 7) (1 : Int32).toNatClampNeg ≤ l5 → wb_M_differ_62 l0 l4 l5 h K))
theorem wb_M_differ_40_ok {l0 : Nat} {l4 : Int32} {l5 : Int32} {h : HP} {K : Int32 → HP → Prop} (H : wb_M_differ_40 l0 l4 l5 h K) : Wp k_M_differ 40 [some (.ref l0), none, none, none, some (.int l4), some (.int l5), none, none, none] [] h (0, 0) (QI K) := by
  unfold wb_M_differ_40 at H
  refine wp_iload rfl rfl ?_
  refine wp_aload_n rfl rfl ?_
  obtain ⟨g24, g25, H⟩ := H
  refine wp_getR rfl rfl g24 g25 ?_
  refine wp_iconst rfl ?_
  obtain ⟨g23, H⟩ := H
  refine wp_iald rfl g23 ?_
  refine wp_icmp_lt rfl (lo1 := [some (.ref l0), none, none, none, some (.int l4), some (.int l5), none, none, none]) (lo2 := [some (.ref l0), none, none, none, some (.int l4), some (.int l5), none, none, none]) rfl rfl (fun q22 => ?_) (fun q22 => ?_)
  · have H := H.1 q22
    exact wb_M_differ_62_ok H
  · have H := H.2 q22
    refine wp_iload rfl rfl ?_
    refine wp_aload_n rfl rfl ?_
    obtain ⟨g20, g21, H⟩ := H
    refine wp_getR rfl rfl g20 g21 ?_
    refine wp_iconst rfl ?_
    obtain ⟨g19, H⟩ := H
    refine wp_iald rfl g19 ?_
    refine wp_icmp_ge rfl (lo1 := [some (.ref l0), none, none, none, some (.int l4), some (.int l5), none, none, none]) (lo2 := [some (.ref l0), none, none, none, some (.int l4), some (.int l5), none, none, none]) rfl rfl (fun q18 => ?_) (fun q18 => ?_)
    · have H := H.1 q18
      refine wp_aload_n rfl rfl ?_
      obtain ⟨g17, H⟩ := H
      refine wp_getI rfl rfl g17 ?_
      exact wp_iret rfl rfl H
    · have H := H.2 q18
      exact wb_M_differ_62_ok H
def wq_M_differ (p0 : Nat) (p1 : Int32) (p2 : Int32) (h : HP) (K : Int32 → HP → Prop) : Prop :=
  isO h p0 10 ∧ wq_M_isPair p0 p1 h (fun v2 h1 => (v2 = 0 → K (-1 : Int32) h1) ∧ (¬ v2 = 0 → isO h1 p0 10 ∧ wq_M_isSegment p0 p2 h1 (fun v4 h3 => (¬ v4 = 0 → isO h3 p0 10 ∧ wq_M_readBoth p0 p2 p1 h3 (fun h5 => isO h5 p0 10 ∧ wq_M_work p0 h5 (fun v7 h6 => isO h6 p0 10 ∧ (∀ h8 : HP, h8 = stI h6 p0 28 (0 : Int32) → Wp k_M_differ 40 [some (.ref p0), none, none, none, some (.int (0 : Int32)), some (.int (0 : Int32)), none, none, none] [] h8 (0, 0) (QI K))))) ∧ (v4 = 0 → K (-1 : Int32) h3))))
theorem wq_M_differ_ok {p0 : Nat} {p1 : Int32} {p2 : Int32} {h : HP} {K : Int32 → HP → Prop} (H : wq_M_differ p0 p1 p2 h K) : Wp k_M_differ 0 [some (.ref p0), some (.int p1), some (.int p2), none, none, none, none, none, none] [] h (0, 0) (QI K) := by
  unfold wq_M_differ at H
  refine wp_aload_n rfl rfl ?_
  refine wp_iload_n rfl rfl ?_
  obtain ⟨g16, H⟩ := H
  refine wp_callvI rfl rfl (Or.inr rfl) (lo' := [some (.ref p0), some (.int p1), some (.int p2), none, none, none, none, none, none]) rfl g16 ⟨Nat.le_of_ble_eq_true rfl, Nat.le_of_ble_eq_true rfl, Nat.le_of_ble_eq_true rfl, Nat.le_of_ble_eq_true rfl⟩ (bd' := (0, 0)) rfl ?_
  refine (wq_M_isPair_ok H).conI (fun v2 h1 H => ?_)
  refine wp_if_eq rfl (lo1 := [none, none, none, none, none, none, none, none, none]) (lo2 := [some (.ref p0), some (.int p1), some (.int p2), none, none, none, none, none, none]) rfl rfl (fun q15 => ?_) (fun q15 => ?_)
  · have H := H.1 q15
    refine wp_iconst rfl ?_
    exact wp_iret rfl rfl H
  · have H := H.2 q15
    refine wp_aload_n rfl rfl ?_
    refine wp_iload_n rfl rfl ?_
    obtain ⟨g14, H⟩ := H
    refine wp_callvI rfl rfl (Or.inr rfl) (lo' := [some (.ref p0), some (.int p1), some (.int p2), none, none, none, none, none, none]) rfl g14 ⟨Nat.le_of_ble_eq_true rfl, Nat.le_of_ble_eq_true rfl, Nat.le_of_ble_eq_true rfl, Nat.le_of_ble_eq_true rfl⟩ (bd' := (0, 0)) rfl ?_
    refine (wq_M_isSegment_ok H).conI (fun v4 h3 H => ?_)
    refine wp_if_ne rfl (lo1 := [some (.ref p0), some (.int p1), some (.int p2), none, none, none, none, none, none]) (lo2 := [none, none, none, none, none, none, none, none, none]) rfl rfl (fun q13 => ?_) (fun q13 => ?_)
    · have H := H.1 q13
      refine wp_aload_n rfl rfl ?_
      refine wp_iload_n rfl rfl ?_
      refine wp_iload_n rfl rfl ?_
      obtain ⟨g12, H⟩ := H
      refine wp_callvV rfl rfl rfl (lo' := [some (.ref p0), some (.int p1), some (.int p2), none, none, none, none, none, none]) rfl g12 ⟨Nat.le_of_ble_eq_true rfl, Nat.le_of_ble_eq_true rfl, Nat.le_of_ble_eq_true rfl, Nat.le_of_ble_eq_true rfl⟩ (bd' := (0, 0)) rfl ?_
      refine (wq_M_readBoth_ok H).conV (fun h5 H => ?_)
      refine wp_aload_n rfl rfl ?_
      obtain ⟨g11, H⟩ := H
      refine wp_callvI rfl rfl (Or.inl rfl) (lo' := [some (.ref p0), some (.int p1), some (.int p2), none, none, none, none, none, none]) rfl g11 ⟨Nat.le_of_ble_eq_true rfl, Nat.le_of_ble_eq_true rfl, Nat.le_of_ble_eq_true rfl, Nat.le_of_ble_eq_true rfl⟩ (bd' := (0, 0)) rfl ?_
      refine (wq_M_work_ok H).conI (fun v7 h6 H => ?_)
      refine wp_istore_n rfl rfl (lo' := [some (.ref p0), some (.int p1), some (.int p2), some (.int v7), none, none, none, none, none]) rfl ?_
      refine wp_aload_n rfl rfl ?_
      refine wp_iconst rfl ?_
      obtain ⟨g9, H⟩ := H
      obtain ⟨h8, e10⟩ : ∃ z : HP, z = stI h6 p0 28 (0 : Int32) := ⟨_, rfl⟩
      have H := H h8 e10
      refine wp_putI rfl rfl g9 e10 ?_
      refine wp_iconst rfl ?_
      refine wp_istore rfl rfl (lo' := [some (.ref p0), some (.int p1), some (.int p2), some (.int v7), some (.int (0 : Int32)), none, none, none, none]) rfl ?_
      refine wp_iconst rfl ?_
      refine wp_istore rfl rfl (lo' := [some (.ref p0), none, none, none, some (.int (0 : Int32)), some (.int (0 : Int32)), none, none, none]) rfl ?_
      exact H
    · have H := H.2 q13
      refine wp_iconst rfl ?_
      exact wp_iret rfl rfl H
def wb_M_patch_81 (l0 : Nat) (l4 : Int32) (h : HP) (K : Int32 → HP → Prop) : Prop :=
  isO h l0 10 ∧ 0 < gR h l0 7 ∧ isL h (gR h l0 7) 100 (0 : Int32) ∧ (gI h (gR h l0 7) (0 : Int32).toNatClampNeg ≤ l4 → Wp k_M_patch 109 [some (.ref l0), none, none, none, some (.int (0 : Int32))] [] h (0, 0) (QI K)) ∧ (¬ gI h (gR h l0 7) (0 : Int32).toNatClampNeg ≤ l4 → isO h l0 10 ∧ 0 < gR h l0 30 ∧ isA h (gR h l0 30) 102 l4 ∧ (∀ h31 : HP, h31 = stI h (gR h l0 30) l4.toNatClampNeg (narB 102 (0 : Int32)) → Wp k_M_patch 81 [some (.ref l0), none, none, none, some (.int (l4 + (1 : Int32)))] [] h31 (0, 0) (QI K)))
theorem wb_M_patch_81_ok {l0 : Nat} {l4 : Int32} {h : HP} {K : Int32 → HP → Prop} (H : wb_M_patch_81 l0 l4 h K) : Wp k_M_patch 81 [some (.ref l0), none, none, none, some (.int l4)] [] h (0, 0) (QI K) := by
  unfold wb_M_patch_81 at H
  refine wp_iload rfl rfl ?_
  refine wp_aload_n rfl rfl ?_
  obtain ⟨g38, g39, H⟩ := H
  refine wp_getR rfl rfl g38 g39 ?_
  refine wp_iconst rfl ?_
  obtain ⟨g37, H⟩ := H
  refine wp_iald rfl g37 ?_
  refine wp_icmp_ge rfl (lo1 := [some (.ref l0), none, none, none, some (.int l4)]) (lo2 := [some (.ref l0), none, none, none, some (.int l4)]) rfl rfl (fun q36 => ?_) (fun q36 => ?_)
  · have H := H.1 q36
    refine wp_iconst rfl ?_
    refine wp_istore rfl rfl (lo' := [some (.ref l0), none, none, none, some (.int (0 : Int32))]) rfl ?_
    exact H
  · have H := H.2 q36
    refine wp_aload_n rfl rfl ?_
    obtain ⟨g34, g35, H⟩ := H
    refine wp_getR rfl rfl g34 g35 ?_
    refine wp_iload rfl rfl ?_
    refine wp_iconst rfl ?_
    obtain ⟨g32, H⟩ := H
    obtain ⟨h31, e33⟩ : ∃ z : HP, z = stI h (gR h l0 30) l4.toNatClampNeg (narB 102 (0 : Int32)) := ⟨_, rfl⟩
    have H := H h31 e33
    refine wp_bast rfl g32 e33 ?_
    refine wp_iinc rfl rfl rfl (lo' := [some (.ref l0), none, none, none, some (.int (l4 + (1 : Int32)))]) rfl ?_
    refine wp_goto rfl (lo' := [some (.ref l0), none, none, none, some (.int (l4 + (1 : Int32)))]) rfl ?_
    exact H
def wb_M_patch_109 (l0 : Nat) (l4 : Int32) (h : HP) (K : Int32 → HP → Prop) : Prop :=
  isO h l0 10 ∧ 0 < gR h l0 7 ∧ isL h (gR h l0 7) 100 (2 : Int32) ∧ (gI h (gR h l0 7) (2 : Int32).toNatClampNeg ≤ l4 → Wp k_M_patch 145 [some (.ref l0), none, none, none, some (.int (0 : Int32))] [] h (0, 0) (QI K)) ∧ (¬ gI h (gR h l0 7) (2 : Int32).toNatClampNeg ≤ l4 → isO h l0 10 ∧ wq_M_patches l0 ((1200 : Int32) + l4) h (fun v41 h40 => (¬ v41 = 0 → Wp k_M_patch 109 [some (.ref l0), none, none, none, some (.int (l4 + (1 : Int32)))] [] h40 (0, 0) (QI K)) ∧ (v41 = 0 → K (-4 : Int32) h40)))
theorem wb_M_patch_109_ok {l0 : Nat} {l4 : Int32} {h : HP} {K : Int32 → HP → Prop} (H : wb_M_patch_109 l0 l4 h K) : Wp k_M_patch 109 [some (.ref l0), none, none, none, some (.int l4)] [] h (0, 0) (QI K) := by
  unfold wb_M_patch_109 at H
  refine wp_iload rfl rfl ?_
  refine wp_aload_n rfl rfl ?_
  obtain ⟨g46, g47, H⟩ := H
  refine wp_getR rfl rfl g46 g47 ?_
  refine wp_iconst rfl ?_
  obtain ⟨g45, H⟩ := H
  refine wp_iald rfl g45 ?_
  refine wp_icmp_ge rfl (lo1 := [some (.ref l0), none, none, none, some (.int l4)]) (lo2 := [some (.ref l0), none, none, none, some (.int l4)]) rfl rfl (fun q44 => ?_) (fun q44 => ?_)
  · have H := H.1 q44
    refine wp_iconst rfl ?_
    refine wp_istore rfl rfl (lo' := [some (.ref l0), none, none, none, some (.int (0 : Int32))]) rfl ?_
    exact H
  · have H := H.2 q44
    refine wp_aload_n rfl rfl ?_
    refine wp_sipush rfl ?_
    refine wp_iload rfl rfl ?_
    refine wp_iadd rfl ?_
    obtain ⟨g43, H⟩ := H
    refine wp_callvI rfl rfl (Or.inr rfl) (lo' := [some (.ref l0), none, none, none, some (.int l4)]) rfl g43 ⟨Nat.le_of_ble_eq_true rfl, Nat.le_of_ble_eq_true rfl, Nat.le_of_ble_eq_true rfl, Nat.le_of_ble_eq_true rfl⟩ (bd' := (0, 0)) rfl ?_
    refine (wq_M_patches_ok H).conI (fun v41 h40 H => ?_)
    refine wp_if_ne rfl (lo1 := [some (.ref l0), none, none, none, some (.int l4)]) (lo2 := [some (.ref l0), none, none, none, some (.int l4)]) rfl rfl (fun q42 => ?_) (fun q42 => ?_)
    · have H := H.1 q42
      refine wp_iinc rfl rfl rfl (lo' := [some (.ref l0), none, none, none, some (.int (l4 + (1 : Int32)))]) rfl ?_
      refine wp_goto rfl (lo' := [some (.ref l0), none, none, none, some (.int (l4 + (1 : Int32)))]) rfl ?_
      exact H
    · have H := H.2 q42
      refine wp_bipush rfl ?_
      exact wp_iret rfl rfl H
def wb_M_patch_145 (l0 : Nat) (l4 : Int32) (h : HP) (K : Int32 → HP → Prop) : Prop :=
  isO h l0 10 ∧ 0 < gR h l0 7 ∧ isL h (gR h l0 7) 100 (0 : Int32) ∧ (gI h (gR h l0 7) (0 : Int32).toNatClampNeg ≤ l4 → isO h l0 10 ∧ (gI h l0 32 ≤ (600 : Int32) → Wp k_M_patch 204 [some (.ref l0), none, none, none, some (.int (0 : Int32))] [] h (0, 0) (QI K)) ∧ (¬ gI h l0 32 ≤ (600 : Int32) → K (-5 : Int32) h)) ∧ (¬ gI h (gR h l0 7) (0 : Int32).toNatClampNeg ≤ l4 → isO h l0 10 ∧ 0 < gR h l0 3 ∧ isL h (gR h l0 3) 100 ((0 : Int32) + l4) ∧ (¬ gI h (gR h l0 3) ((0 : Int32) + l4).toNatClampNeg = (1 : Int32) → Wp k_M_patch 145 [some (.ref l0), none, none, none, some (.int (l4 + (1 : Int32)))] [] h (0, 0) (QI K)) ∧ (gI h (gR h l0 3) ((0 : Int32) + l4).toNatClampNeg = (1 : Int32) → isO h l0 10 ∧ 0 < gR h l0 30 ∧ isA h (gR h l0 30) 102 l4 ∧ (¬ gI h (gR h l0 30) l4.toNatClampNeg = 0 → Wp k_M_patch 145 [some (.ref l0), none, none, none, some (.int (l4 + (1 : Int32)))] [] h (0, 0) (QI K)) ∧ (gI h (gR h l0 30) l4.toNatClampNeg = 0 → K (-4 : Int32) h)))
theorem wb_M_patch_145_ok {l0 : Nat} {l4 : Int32} {h : HP} {K : Int32 → HP → Prop} (H : wb_M_patch_145 l0 l4 h K) : Wp k_M_patch 145 [some (.ref l0), none, none, none, some (.int l4)] [] h (0, 0) (QI K) := by
  unfold wb_M_patch_145 at H
  refine wp_iload rfl rfl ?_
  refine wp_aload_n rfl rfl ?_
  obtain ⟨g60, g61, H⟩ := H
  refine wp_getR rfl rfl g60 g61 ?_
  refine wp_iconst rfl ?_
  obtain ⟨g59, H⟩ := H
  refine wp_iald rfl g59 ?_
  refine wp_icmp_ge rfl (lo1 := [some (.ref l0), none, none, none, some (.int l4)]) (lo2 := [some (.ref l0), none, none, none, some (.int l4)]) rfl rfl (fun q58 => ?_) (fun q58 => ?_)
  · have H := H.1 q58
    refine wp_aload_n rfl rfl ?_
    obtain ⟨g49, H⟩ := H
    refine wp_getI rfl rfl g49 ?_
    refine wp_sipush rfl ?_
    refine wp_icmp_le rfl (lo1 := [some (.ref l0), none, none, none, some (.int l4)]) (lo2 := [some (.ref l0), none, none, none, some (.int l4)]) rfl rfl (fun q48 => ?_) (fun q48 => ?_)
    · have H := H.1 q48
      refine wp_iconst rfl ?_
      refine wp_istore rfl rfl (lo' := [some (.ref l0), none, none, none, some (.int (0 : Int32))]) rfl ?_
      exact H
    · have H := H.2 q48
      refine wp_bipush rfl ?_
      exact wp_iret rfl rfl H
  · have H := H.2 q58
    refine wp_aload_n rfl rfl ?_
    obtain ⟨g56, g57, H⟩ := H
    refine wp_getR rfl rfl g56 g57 ?_
    refine wp_iconst rfl ?_
    refine wp_iload rfl rfl ?_
    refine wp_iadd rfl ?_
    obtain ⟨g55, H⟩ := H
    refine wp_iald rfl g55 ?_
    refine wp_iconst rfl ?_
    refine wp_icmp_ne rfl (lo1 := [some (.ref l0), none, none, none, some (.int l4)]) (lo2 := [some (.ref l0), none, none, none, some (.int l4)]) rfl rfl (fun q54 => ?_) (fun q54 => ?_)
    · have H := H.1 q54
      refine wp_iinc rfl rfl rfl (lo' := [some (.ref l0), none, none, none, some (.int (l4 + (1 : Int32)))]) rfl ?_
      refine wp_goto rfl (lo' := [some (.ref l0), none, none, none, some (.int (l4 + (1 : Int32)))]) rfl ?_
      exact H
    · have H := H.2 q54
      refine wp_aload_n rfl rfl ?_
      obtain ⟨g52, g53, H⟩ := H
      refine wp_getR rfl rfl g52 g53 ?_
      refine wp_iload rfl rfl ?_
      obtain ⟨g51, H⟩ := H
      refine wp_bald rfl g51 ?_
      refine wp_if_ne rfl (lo1 := [some (.ref l0), none, none, none, some (.int l4)]) (lo2 := [some (.ref l0), none, none, none, some (.int l4)]) rfl rfl (fun q50 => ?_) (fun q50 => ?_)
      · have H := H.1 q50
        refine wp_iinc rfl rfl rfl (lo' := [some (.ref l0), none, none, none, some (.int (l4 + (1 : Int32)))]) rfl ?_
        refine wp_goto rfl (lo' := [some (.ref l0), none, none, none, some (.int (l4 + (1 : Int32)))]) rfl ?_
        exact H
      · have H := H.2 q50
        refine wp_bipush rfl ?_
        exact wp_iret rfl rfl H
def wb_M_patch_204 (l0 : Nat) (l4 : Int32) (h : HP) (K : Int32 → HP → Prop) : Prop :=
  isO h l0 10 ∧ (gI h l0 32 ≤ l4 → isO h l0 10 ∧ 0 < gR h l0 2 ∧ isO h l0 10 ∧ isA h (gR h l0 2) 100 (0 : Int32) ∧ (∀ h62 : HP, h62 = stI h (gR h l0 2) (0 : Int32).toNatClampNeg (gI h l0 32) → isO h62 l0 10 ∧ K (gI h62 l0 32) h62)) ∧ (¬ gI h l0 32 ≤ l4 → isO h l0 10 ∧ 0 < gR h l0 1 ∧ isO h l0 10 ∧ 0 < gR h l0 31 ∧ isL h (gR h l0 31) 100 l4 ∧ isA h (gR h l0 1) 100 l4 ∧ (∀ h69 : HP, h69 = stI h (gR h l0 1) l4.toNatClampNeg (gI h (gR h l0 31) l4.toNatClampNeg) → Wp k_M_patch 204 [some (.ref l0), none, none, none, some (.int (l4 + (1 : Int32)))] [] h69 (0, 0) (QI K)))
theorem wb_M_patch_204_ok {l0 : Nat} {l4 : Int32} {h : HP} {K : Int32 → HP → Prop} (H : wb_M_patch_204 l0 l4 h K) : Wp k_M_patch 204 [some (.ref l0), none, none, none, some (.int l4)] [] h (0, 0) (QI K) := by
  unfold wb_M_patch_204 at H
  refine wp_iload rfl rfl ?_
  refine wp_aload_n rfl rfl ?_
  obtain ⟨g78, H⟩ := H
  refine wp_getI rfl rfl g78 ?_
  refine wp_icmp_ge rfl (lo1 := [some (.ref l0), none, none, none, some (.int l4)]) (lo2 := [some (.ref l0), none, none, none, some (.int l4)]) rfl rfl (fun q77 => ?_) (fun q77 => ?_)
  · have H := H.1 q77
    refine wp_aload_n rfl rfl ?_
    obtain ⟨g67, g68, H⟩ := H
    refine wp_getR rfl rfl g67 g68 ?_
    refine wp_iconst rfl ?_
    refine wp_aload_n rfl rfl ?_
    obtain ⟨g66, H⟩ := H
    refine wp_getI rfl rfl g66 ?_
    obtain ⟨g64, H⟩ := H
    obtain ⟨h62, e65⟩ : ∃ z : HP, z = stI h (gR h l0 2) (0 : Int32).toNatClampNeg (gI h l0 32) := ⟨_, rfl⟩
    have H := H h62 e65
    refine wp_iast rfl g64 e65 ?_
    refine wp_aload_n rfl rfl ?_
    obtain ⟨g63, H⟩ := H
    refine wp_getI rfl rfl g63 ?_
    exact wp_iret rfl rfl H
  · have H := H.2 q77
    refine wp_aload_n rfl rfl ?_
    obtain ⟨g75, g76, H⟩ := H
    refine wp_getR rfl rfl g75 g76 ?_
    refine wp_iload rfl rfl ?_
    refine wp_aload_n rfl rfl ?_
    obtain ⟨g73, g74, H⟩ := H
    refine wp_getR rfl rfl g73 g74 ?_
    refine wp_iload rfl rfl ?_
    obtain ⟨g72, H⟩ := H
    refine wp_iald rfl g72 ?_
    obtain ⟨g70, H⟩ := H
    obtain ⟨h69, e71⟩ : ∃ z : HP, z = stI h (gR h l0 1) l4.toNatClampNeg (gI h (gR h l0 31) l4.toNatClampNeg) := ⟨_, rfl⟩
    have H := H h69 e71
    refine wp_iast rfl g70 e71 ?_
    refine wp_iinc rfl rfl rfl (lo' := [some (.ref l0), none, none, none, some (.int (l4 + (1 : Int32)))]) rfl ?_
    refine wp_goto rfl (lo' := [some (.ref l0), none, none, none, some (.int (l4 + (1 : Int32)))]) rfl ?_
    exact H
def wq_M_patch (p0 : Nat) (p1 : Int32) (p2 : Int32) (h : HP) (K : Int32 → HP → Prop) : Prop :=
  isO h p0 10 ∧ wq_M_isSegment p0 p1 h (fun v2 h1 => (v2 = 0 → K (-1 : Int32) h1) ∧ (¬ v2 = 0 → isO h1 p0 10 ∧ wq_M_isPair p0 p2 h1 (fun v4 h3 => (¬ v4 = 0 → isO h3 p0 10 ∧ wq_M_readBoth p0 p1 p2 h3 (fun h5 => isO h5 p0 10 ∧ isO h5 p0 10 ∧ wq_M_latest p0 p2 (gI h5 p0 20) h5 (fun v7 h6 => isO h6 p0 10 ∧ 0 < gR h6 p0 2 ∧ isL h6 (gR h6 p0 2) 100 ((22 : Int32) + v7) ∧ isO h6 p0 10 ∧ wq_M_read p0 (2 : Int32) ((600 : Int32) * ((22 : Int32) + v7)) (gI h6 (gR h6 p0 2) ((22 : Int32) + v7).toNatClampNeg) (44 : Int32) (1 : Int32) h6 (fun h8 => isO h8 p0 10 ∧ wq_M_like p0 h8 (fun v10 h9 => (v10 = 0 → K (-4 : Int32) h9) ∧ (¬ v10 = 0 → isO h9 p0 10 ∧ wq_M_maps p0 h9 (fun v12 h11 => (¬ v12 = 0 → isO h11 p0 10 ∧ (∀ h13 : HP, h13 = stI h11 p0 32 (0 : Int32) → Wp k_M_patch 81 [some (.ref p0), none, none, none, some (.int (0 : Int32))] [] h13 (0, 0) (QI K))) ∧ (v12 = 0 → K (-4 : Int32) h11)))))))) ∧ (v4 = 0 → K (-1 : Int32) h3))))
set_option maxRecDepth 100000 in
set_option maxHeartbeats 4000000 in
theorem wq_M_patch_ok {p0 : Nat} {p1 : Int32} {p2 : Int32} {h : HP} {K : Int32 → HP → Prop} (H : wq_M_patch p0 p1 p2 h K) : Wp k_M_patch 0 [some (.ref p0), some (.int p1), some (.int p2), none, none] [] h (0, 0) (QI K) := by
  unfold wq_M_patch at H
  refine wp_aload_n rfl rfl ?_
  refine wp_iload_n rfl rfl ?_
  obtain ⟨g30, H⟩ := H
  refine wp_callvI rfl rfl (Or.inr rfl) (lo' := [some (.ref p0), some (.int p1), some (.int p2), none, none]) rfl g30 ⟨Nat.le_of_ble_eq_true rfl, Nat.le_of_ble_eq_true rfl, Nat.le_of_ble_eq_true rfl, Nat.le_of_ble_eq_true rfl⟩ (bd' := (0, 0)) rfl ?_
  refine (wq_M_isSegment_ok H).conI (fun v2 h1 H => ?_)
  refine wp_if_eq rfl (lo1 := [none, none, none, none, none]) (lo2 := [some (.ref p0), some (.int p1), some (.int p2), none, none]) rfl rfl (fun q29 => ?_) (fun q29 => ?_)
  · have H := H.1 q29
    refine wp_iconst rfl ?_
    exact wp_iret rfl rfl H
  · have H := H.2 q29
    refine wp_aload_n rfl rfl ?_
    refine wp_iload_n rfl rfl ?_
    obtain ⟨g28, H⟩ := H
    refine wp_callvI rfl rfl (Or.inr rfl) (lo' := [some (.ref p0), some (.int p1), some (.int p2), none, none]) rfl g28 ⟨Nat.le_of_ble_eq_true rfl, Nat.le_of_ble_eq_true rfl, Nat.le_of_ble_eq_true rfl, Nat.le_of_ble_eq_true rfl⟩ (bd' := (0, 0)) rfl ?_
    refine (wq_M_isPair_ok H).conI (fun v4 h3 H => ?_)
    refine wp_if_ne rfl (lo1 := [some (.ref p0), some (.int p1), some (.int p2), none, none]) (lo2 := [none, none, none, none, none]) rfl rfl (fun q27 => ?_) (fun q27 => ?_)
    · have H := H.1 q27
      refine wp_aload_n rfl rfl ?_
      refine wp_iload_n rfl rfl ?_
      refine wp_iload_n rfl rfl ?_
      obtain ⟨g26, H⟩ := H
      refine wp_callvV rfl rfl rfl (lo' := [some (.ref p0), some (.int p1), some (.int p2), none, none]) rfl g26 ⟨Nat.le_of_ble_eq_true rfl, Nat.le_of_ble_eq_true rfl, Nat.le_of_ble_eq_true rfl, Nat.le_of_ble_eq_true rfl⟩ (bd' := (0, 0)) rfl ?_
      refine (wq_M_readBoth_ok H).conV (fun h5 H => ?_)
      refine wp_bipush rfl ?_
      refine wp_aload_n rfl rfl ?_
      refine wp_iload_n rfl rfl ?_
      refine wp_aload_n rfl rfl ?_
      obtain ⟨g25, H⟩ := H
      refine wp_getI rfl rfl g25 ?_
      obtain ⟨g24, H⟩ := H
      refine wp_callvI rfl rfl (Or.inl rfl) (lo' := [some (.ref p0), some (.int p1), some (.int p2), none, none]) rfl g24 ⟨Nat.le_of_ble_eq_true rfl, Nat.le_of_ble_eq_true rfl, Nat.le_of_ble_eq_true rfl, Nat.le_of_ble_eq_true rfl⟩ (bd' := (0, 0)) rfl ?_
      refine (wq_M_latest_ok H).conI (fun v7 h6 H => ?_)
      refine wp_iadd rfl ?_
      refine wp_istore_n rfl rfl (lo' := [some (.ref p0), some (.int p1), some (.int p2), some (.int ((22 : Int32) + v7)), none]) rfl ?_
      refine wp_aload_n rfl rfl ?_
      refine wp_iconst rfl ?_
      refine wp_sipush rfl ?_
      refine wp_iload_n rfl rfl ?_
      refine wp_imul rfl ?_
      refine wp_aload_n rfl rfl ?_
      obtain ⟨g22, g23, H⟩ := H
      refine wp_getR rfl rfl g22 g23 ?_
      refine wp_iload_n rfl rfl ?_
      obtain ⟨g21, H⟩ := H
      refine wp_iald rfl g21 ?_
      refine wp_bipush rfl ?_
      refine wp_iconst rfl ?_
      obtain ⟨g20, H⟩ := H
      refine wp_callvV rfl rfl rfl (lo' := [some (.ref p0), some (.int p1), some (.int p2), some (.int ((22 : Int32) + v7)), none]) rfl g20 ⟨Nat.le_of_ble_eq_true rfl, Nat.le_of_ble_eq_true rfl, Nat.le_of_ble_eq_true rfl, Nat.le_of_ble_eq_true rfl⟩ (bd' := (0, 0)) rfl ?_
      refine (wq_M_read_ok H).conV (fun h8 H => ?_)
      refine wp_aload_n rfl rfl ?_
      obtain ⟨g19, H⟩ := H
      refine wp_callvI rfl rfl (Or.inr rfl) (lo' := [some (.ref p0), some (.int p1), some (.int p2), some (.int ((22 : Int32) + v7)), none]) rfl g19 ⟨Nat.le_of_ble_eq_true rfl, Nat.le_of_ble_eq_true rfl, Nat.le_of_ble_eq_true rfl, Nat.le_of_ble_eq_true rfl⟩ (bd' := (0, 0)) rfl ?_
      refine (wq_M_like_ok H).conI (fun v10 h9 H => ?_)
      refine wp_if_eq rfl (lo1 := [none, none, none, none, none]) (lo2 := [some (.ref p0), some (.int p1), some (.int p2), some (.int ((22 : Int32) + v7)), none]) rfl rfl (fun q18 => ?_) (fun q18 => ?_)
      · have H := H.1 q18
        refine wp_bipush rfl ?_
        exact wp_iret rfl rfl H
      · have H := H.2 q18
        refine wp_aload_n rfl rfl ?_
        obtain ⟨g17, H⟩ := H
        refine wp_callvI rfl rfl (Or.inr rfl) (lo' := [some (.ref p0), some (.int p1), some (.int p2), some (.int ((22 : Int32) + v7)), none]) rfl g17 ⟨Nat.le_of_ble_eq_true rfl, Nat.le_of_ble_eq_true rfl, Nat.le_of_ble_eq_true rfl, Nat.le_of_ble_eq_true rfl⟩ (bd' := (0, 0)) rfl ?_
        refine (wq_M_maps_ok H).conI (fun v12 h11 H => ?_)
        refine wp_if_ne rfl (lo1 := [some (.ref p0), some (.int p1), some (.int p2), some (.int ((22 : Int32) + v7)), none]) (lo2 := [none, none, none, none, none]) rfl rfl (fun q16 => ?_) (fun q16 => ?_)
        · have H := H.1 q16
          refine wp_aload_n rfl rfl ?_
          refine wp_iconst rfl ?_
          obtain ⟨g14, H⟩ := H
          obtain ⟨h13, e15⟩ : ∃ z : HP, z = stI h11 p0 32 (0 : Int32) := ⟨_, rfl⟩
          have H := H h13 e15
          refine wp_putI rfl rfl g14 e15 ?_
          refine wp_iconst rfl ?_
          refine wp_istore rfl rfl (lo' := [some (.ref p0), none, none, none, some (.int (0 : Int32))]) rfl ?_
          exact H
        · have H := H.2 q16
          refine wp_bipush rfl ?_
          exact wp_iret rfl rfl H
    · have H := H.2 q27
      refine wp_iconst rfl ?_
      exact wp_iret rfl rfl H
def wb_M_spread_14 (l0 : Nat) (l1 : Int32) (l2 : Int32) (l3 : Int32) (h : HP) (K : Int32 → HP → Prop) : Prop :=
  isO h l0 10 ∧ (gI h l0 15 ≤ l3 → K l2 h) ∧ (¬ gI h l0 15 ≤ l3 → isO h l0 10 ∧ wq_M_readBoth l0 l3 l1 h (fun h5 => isO h5 l0 10 ∧ wq_M_like l0 h5 (fun v7 h6 => (v7 = 0 → Wp k_M_spread 14 [some (.ref l0), some (.int l1), some (.int (l2 + (0 : Int32))), some (.int (l3 + (1 : Int32)))] [] h6 (0, 0) (QI K)) ∧ (¬ v7 = 0 → Wp k_M_spread 14 [some (.ref l0), some (.int l1), some (.int (l2 + (1 : Int32))), some (.int (l3 + (1 : Int32)))] [] h6 (0, 0) (QI K)))))
theorem wb_M_spread_14_ok {l0 : Nat} {l1 : Int32} {l2 : Int32} {l3 : Int32} {h : HP} {K : Int32 → HP → Prop} (H : wb_M_spread_14 l0 l1 l2 l3 h K) : Wp k_M_spread 14 [some (.ref l0), some (.int l1), some (.int l2), some (.int l3)] [] h (0, 0) (QI K) := by
  unfold wb_M_spread_14 at H
  refine wp_iload_n rfl rfl ?_
  refine wp_aload_n rfl rfl ?_
  obtain ⟨g12, H⟩ := H
  refine wp_getI rfl rfl g12 ?_
  refine wp_icmp_ge rfl (lo1 := [some (.ref l0), some (.int l1), some (.int l2), some (.int l3)]) (lo2 := [some (.ref l0), some (.int l1), some (.int l2), some (.int l3)]) rfl rfl (fun q11 => ?_) (fun q11 => ?_)
  · have H := H.1 q11
    refine wp_iload_n rfl rfl ?_
    exact wp_iret rfl rfl H
  · have H := H.2 q11
    refine wp_aload_n rfl rfl ?_
    refine wp_iload_n rfl rfl ?_
    refine wp_iload_n rfl rfl ?_
    obtain ⟨g10, H⟩ := H
    refine wp_callvV rfl rfl rfl (lo' := [some (.ref l0), some (.int l1), some (.int l2), some (.int l3)]) rfl g10 ⟨Nat.le_of_ble_eq_true rfl, Nat.le_of_ble_eq_true rfl, Nat.le_of_ble_eq_true rfl, Nat.le_of_ble_eq_true rfl⟩ (bd' := (0, 0)) rfl ?_
    refine (wq_M_readBoth_ok H).conV (fun h5 H => ?_)
    refine wp_iload_n rfl rfl ?_
    refine wp_aload_n rfl rfl ?_
    obtain ⟨g9, H⟩ := H
    refine wp_callvI rfl rfl (Or.inr rfl) (lo' := [some (.ref l0), some (.int l1), some (.int l2), some (.int l3)]) rfl g9 ⟨Nat.le_of_ble_eq_true rfl, Nat.le_of_ble_eq_true rfl, Nat.le_of_ble_eq_true rfl, Nat.le_of_ble_eq_true rfl⟩ (bd' := (0, 0)) rfl ?_
    refine (wq_M_like_ok H).conI (fun v7 h6 H => ?_)
    refine wp_if_eq rfl (lo1 := [some (.ref l0), some (.int l1), some (.int l2), some (.int l3)]) (lo2 := [some (.ref l0), some (.int l1), some (.int l2), some (.int l3)]) rfl rfl (fun q8 => ?_) (fun q8 => ?_)
    · have H := H.1 q8
      refine wp_iconstk (lo' := [some (.ref l0), some (.int l1), none, some (.int l3)]) rfl rfl ?_
      refine wp_iadd rfl ?_
      refine wp_istore_n rfl rfl (lo' := [some (.ref l0), some (.int l1), some (.int (l2 + (0 : Int32))), some (.int l3)]) rfl ?_
      refine wp_iinc rfl rfl rfl (lo' := [some (.ref l0), some (.int l1), some (.int (l2 + (0 : Int32))), some (.int (l3 + (1 : Int32)))]) rfl ?_
      refine wp_goto rfl (lo' := [some (.ref l0), some (.int l1), some (.int (l2 + (0 : Int32))), some (.int (l3 + (1 : Int32)))]) rfl ?_
      exact H
    · have H := H.2 q8
      refine wp_iconst rfl ?_
      refine wp_goto rfl (lo' := [some (.ref l0), some (.int l1), none, some (.int l3)]) rfl ?_
      refine wp_iadd rfl ?_
      refine wp_istore_n rfl rfl (lo' := [some (.ref l0), some (.int l1), some (.int (l2 + (1 : Int32))), some (.int l3)]) rfl ?_
      refine wp_iinc rfl rfl rfl (lo' := [some (.ref l0), some (.int l1), some (.int (l2 + (1 : Int32))), some (.int (l3 + (1 : Int32)))]) rfl ?_
      refine wp_goto rfl (lo' := [some (.ref l0), some (.int l1), some (.int (l2 + (1 : Int32))), some (.int (l3 + (1 : Int32)))]) rfl ?_
      exact H
def wq_M_spread (p0 : Nat) (p1 : Int32) (h : HP) (K : Int32 → HP → Prop) : Prop :=
  isO h p0 10 ∧ wq_M_isPair p0 p1 h (fun v2 h1 => (¬ v2 = 0 → Wp k_M_spread 14 [some (.ref p0), some (.int p1), some (.int (0 : Int32)), some (.int (0 : Int32))] [] h1 (0, 0) (QI K)) ∧ (v2 = 0 → K (-1 : Int32) h1))
theorem wq_M_spread_ok {p0 : Nat} {p1 : Int32} {h : HP} {K : Int32 → HP → Prop} (H : wq_M_spread p0 p1 h K) : Wp k_M_spread 0 [some (.ref p0), some (.int p1), none, none] [] h (0, 0) (QI K) := by
  unfold wq_M_spread at H
  refine wp_aload_n rfl rfl ?_
  refine wp_iload_n rfl rfl ?_
  obtain ⟨g4, H⟩ := H
  refine wp_callvI rfl rfl (Or.inr rfl) (lo' := [some (.ref p0), some (.int p1), none, none]) rfl g4 ⟨Nat.le_of_ble_eq_true rfl, Nat.le_of_ble_eq_true rfl, Nat.le_of_ble_eq_true rfl, Nat.le_of_ble_eq_true rfl⟩ (bd' := (0, 0)) rfl ?_
  refine (wq_M_isPair_ok H).conI (fun v2 h1 H => ?_)
  refine wp_if_ne rfl (lo1 := [some (.ref p0), some (.int p1), none, none]) (lo2 := [some (.ref p0), some (.int p1), none, none]) rfl rfl (fun q3 => ?_) (fun q3 => ?_)
  · have H := H.1 q3
    refine wp_iconst rfl ?_
    refine wp_istore_n rfl rfl (lo' := [some (.ref p0), some (.int p1), some (.int (0 : Int32)), none]) rfl ?_
    refine wp_iconst rfl ?_
    refine wp_istore_n rfl rfl (lo' := [some (.ref p0), some (.int p1), some (.int (0 : Int32)), some (.int (0 : Int32))]) rfl ?_
    exact H
  · have H := H.2 q3
    refine wp_iconst rfl ?_
    exact wp_iret rfl rfl H
def wq_K_load (p0 : Nat) (h : HP) (K : Int32 → HP → Prop) : Prop :=
  isO h p0 9 ∧ 0 < gR h p0 1 ∧ isO h p0 9 ∧ 0 < gR h p0 0 ∧ isO h p0 9 ∧ 0 < gR h p0 8 ∧ isO h (gR h p0 1) 0 ∧ wq_Book_become (gR h p0 1) (gR h p0 0) (gR h p0 8) h (fun v2 h1 => (v2 < 0 → K v2 h1) ∧ (¬ v2 < 0 → isO h1 p0 9 ∧ 0 < gR h1 p0 0 ∧ isO h1 (gR h1 p0 0) 7 ∧ (∀ h3 : HP, h3 = stI h1 (gR h1 p0 0) 1 (0 : Int32) → isO h3 p0 9 ∧ 0 < gR h3 p0 3 ∧ isO h3 (gR h3 p0 3) 3 ∧ wq_Near_forgetAll (gR h3 p0 3) h3 (fun h4 => K v2 h4))))
theorem wq_K_load_ok {p0 : Nat} {h : HP} {K : Int32 → HP → Prop} (H : wq_K_load p0 h K) : Wp k_K_load 0 [some (.ref p0), none] [] h (1, 640) (QI K) := by
  unfold wq_K_load at H
  refine wp_aload_n rfl rfl ?_
  obtain ⟨g18, g19, H⟩ := H
  refine wp_getR rfl rfl g18 g19 ?_
  refine wp_aload_n rfl rfl ?_
  obtain ⟨g16, g17, H⟩ := H
  refine wp_getR rfl rfl g16 g17 ?_
  refine wp_aload_n rfl rfl ?_
  obtain ⟨g14, g15, H⟩ := H
  refine wp_getR rfl rfl g14 g15 ?_
  obtain ⟨g13, H⟩ := H
  refine wp_callvI rfl rfl (Or.inl rfl) (lo' := [some (.ref p0), none]) rfl g13 ⟨Nat.le_of_ble_eq_true rfl, Nat.le_of_ble_eq_true rfl, Nat.le_of_ble_eq_true rfl, Nat.le_of_ble_eq_true rfl⟩ (bd' := (0, 0)) rfl ?_
  refine (wq_Book_become_ok H).conI (fun v2 h1 H => ?_)
  refine wp_istore_n rfl rfl (lo' := [some (.ref p0), some (.int v2)]) rfl ?_
  refine wp_iload_n rfl rfl ?_
  refine wp_if_lt rfl (lo1 := [none, some (.int v2)]) (lo2 := [some (.ref p0), some (.int v2)]) rfl rfl (fun q12 => ?_) (fun q12 => ?_)
  · have H := H.1 q12
    refine wp_iload_n rfl rfl ?_
    exact wp_iret rfl rfl H
  · have H := H.2 q12
    refine wp_aload_n rfl rfl ?_
    obtain ⟨g10, g11, H⟩ := H
    refine wp_getR rfl rfl g10 g11 ?_
    refine wp_iconst rfl ?_
    obtain ⟨g8, H⟩ := H
    obtain ⟨h3, e9⟩ : ∃ z : HP, z = stI h1 (gR h1 p0 0) 1 (0 : Int32) := ⟨_, rfl⟩
    have H := H h3 e9
    refine wp_putI rfl rfl g8 e9 ?_
    refine wp_aload_n rfl rfl ?_
    obtain ⟨g6, g7, H⟩ := H
    refine wp_getR rfl rfl g6 g7 ?_
    obtain ⟨g5, H⟩ := H
    refine wp_callvV rfl rfl rfl (lo' := [none, some (.int v2)]) rfl g5 ⟨Nat.le_of_ble_eq_true rfl, Nat.le_of_ble_eq_true rfl, Nat.le_of_ble_eq_true rfl, Nat.le_of_ble_eq_true rfl⟩ (bd' := (0, 0)) rfl ?_
    refine (wq_Near_forgetAll_ok H).conV (fun h4 H => ?_)
    refine wp_iload_n rfl rfl ?_
    exact wp_iret rfl rfl H
def wq_K_keep (p0 : Nat) (p1 : Int32) (p2 : Int32) (h : HP) (K : Int32 → HP → Prop) : Prop :=
  isO h p0 9 ∧ wq_K_isSegment p0 p1 h (fun v2 h1 => (¬ v2 = 0 → isO h1 p0 9 ∧ wq_K_isSomebody p0 p2 h1 (fun v4 h3 => (¬ v4 = 0 → isO h3 p0 9 ∧ 0 < gR h3 p0 6 ∧ isO h3 p0 9 ∧ 0 < gR h3 p0 1 ∧ isO h3 (gR h3 p0 1) 0 ∧ 0 < gR h3 (gR h3 p0 1) 1 ∧ 0 < gR h3 (gR h3 p0 1) 1 ∧ gR h3 (gR h3 p0 1) 1 < gS h3 ∧ (gK h3 (gR h3 (gR h3 p0 1) 1) = 104 ∨ gK h3 (gR h3 (gR h3 p0 1) 1) = 105) ∧ vp_in p1 (gL h3 (gR h3 (gR h3 p0 1) 1)) ∧ 0 < gR h3 (gR h3 (gR h3 p0 1) 1) p1.toNatClampNeg ∧ isO h3 (gR h3 p0 6) 4 ∧ wq_Nest_isTorn (gR h3 p0 6) (gR h3 (gR h3 (gR h3 p0 1) 1) p1.toNatClampNeg) h3 (fun v6 h5 => (¬ v6 = 0 → K (-3 : Int32) h5) ∧ (v6 = 0 → isO h5 p0 9 ∧ wq_K_isTapeTorn p0 h5 (fun v8 h7 => (v8 = 0 → isO h7 p0 9 ∧ 0 < gR h7 p0 2 ∧ isO h7 (gR h7 p0 2) 2 ∧ ((20 : Int32) ≤ gI h7 (gR h7 p0 2) 6 → K (-5 : Int32) h7) ∧ (¬ (20 : Int32) ≤ gI h7 (gR h7 p0 2) 6 → isO h7 p0 9 ∧ 0 < gR h7 p0 2 ∧ isO h7 (gR h7 p0 2) 2 ∧ (gI h7 (gR h7 p0 2) 7 < (40 : Int32) → isO h7 p0 9 ∧ 0 < gR h7 p0 2 ∧ isO h7 p0 9 ∧ 0 < gR h7 p0 1 ∧ isO h7 (gR h7 p0 1) 0 ∧ 0 < gR h7 (gR h7 p0 1) 1 ∧ 0 < gR h7 (gR h7 p0 1) 1 ∧ gR h7 (gR h7 p0 1) 1 < gS h7 ∧ (gK h7 (gR h7 (gR h7 p0 1) 1) = 104 ∨ gK h7 (gR h7 (gR h7 p0 1) 1) = 105) ∧ vp_in p1 (gL h7 (gR h7 (gR h7 p0 1) 1)) ∧ 0 < gR h7 (gR h7 (gR h7 p0 1) 1) p1.toNatClampNeg ∧ isO h7 (gR h7 p0 2) 2 ∧ wq_Memory_addPair (gR h7 p0 2) (gR h7 (gR h7 (gR h7 p0 1) 1) p1.toNatClampNeg) h7 (fun v10 h9 => isO h9 p0 9 ∧ 0 < gR h9 p0 3 ∧ isO h9 (gR h9 p0 3) 3 ∧ wq_Near_forgetPair (gR h9 p0 3) v10 h9 (fun h11 => isO h11 p0 9 ∧ wq_K_moveTapeTo p0 v10 p2 h11 (fun h12 => K v10 h12)))) ∧ (¬ gI h7 (gR h7 p0 2) 7 < (40 : Int32) → K (-5 : Int32) h7))) ∧ (¬ v8 = 0 → K (-3 : Int32) h7))))) ∧ (v4 = 0 → K (-2 : Int32) h3))) ∧ (v2 = 0 → K (-1 : Int32) h1))
set_option maxRecDepth 100000 in
set_option maxHeartbeats 4000000 in
theorem wq_K_keep_ok {p0 : Nat} {p1 : Int32} {p2 : Int32} {h : HP} {K : Int32 → HP → Prop} (H : wq_K_keep p0 p1 p2 h K) : Wp k_K_keep 0 [some (.ref p0), some (.int p1), some (.int p2), none] [] h (2, 1280) (QI K) := by
  unfold wq_K_keep at H
  refine wp_aload_n rfl rfl ?_
  refine wp_iload_n rfl rfl ?_
  obtain ⟨g55, H⟩ := H
  refine wp_callvI rfl rfl (Or.inr rfl) (lo' := [some (.ref p0), some (.int p1), some (.int p2), none]) rfl g55 ⟨Nat.le_of_ble_eq_true rfl, Nat.le_of_ble_eq_true rfl, Nat.le_of_ble_eq_true rfl, Nat.le_of_ble_eq_true rfl⟩ (bd' := (2, 1280)) rfl ?_
  refine (wq_K_isSegment_ok H).conI (fun v2 h1 H => ?_)
  refine wp_if_ne rfl (lo1 := [some (.ref p0), some (.int p1), some (.int p2), none]) (lo2 := [some (.ref p0), some (.int p1), some (.int p2), none]) rfl rfl (fun q54 => ?_) (fun q54 => ?_)
  · have H := H.1 q54
    refine wp_aload_n rfl rfl ?_
    refine wp_iload_n rfl rfl ?_
    obtain ⟨g53, H⟩ := H
    refine wp_callvI rfl rfl (Or.inr rfl) (lo' := [some (.ref p0), some (.int p1), some (.int p2), none]) rfl g53 ⟨Nat.le_of_ble_eq_true rfl, Nat.le_of_ble_eq_true rfl, Nat.le_of_ble_eq_true rfl, Nat.le_of_ble_eq_true rfl⟩ (bd' := (2, 1280)) rfl ?_
    refine (wq_K_isSomebody_ok H).conI (fun v4 h3 H => ?_)
    refine wp_if_ne rfl (lo1 := [some (.ref p0), some (.int p1), some (.int p2), none]) (lo2 := [some (.ref p0), some (.int p1), some (.int p2), none]) rfl rfl (fun q52 => ?_) (fun q52 => ?_)
    · have H := H.1 q52
      refine wp_aload_n rfl rfl ?_
      obtain ⟨g50, g51, H⟩ := H
      refine wp_getR rfl rfl g50 g51 ?_
      refine wp_aload_n rfl rfl ?_
      obtain ⟨g48, g49, H⟩ := H
      refine wp_getR rfl rfl g48 g49 ?_
      obtain ⟨g46, g47, H⟩ := H
      refine wp_getR rfl rfl g46 g47 ?_
      refine wp_iload_n rfl rfl ?_
      obtain ⟨g41, g42, g43, g44, g45, H⟩ := H
      refine wp_aald rfl g41 g42 g43 g44 g45 ?_
      obtain ⟨g40, H⟩ := H
      refine wp_callvI rfl rfl (Or.inr rfl) (lo' := [some (.ref p0), some (.int p1), some (.int p2), none]) rfl g40 ⟨Nat.le_of_ble_eq_true rfl, Nat.le_of_ble_eq_true rfl, Nat.le_of_ble_eq_true rfl, Nat.le_of_ble_eq_true rfl⟩ (bd' := (2, 1280)) rfl ?_
      refine (wq_Nest_isTorn_ok H).conI (fun v6 h5 H => ?_)
      refine wp_if_ne rfl (lo1 := [none, none, none, none]) (lo2 := [some (.ref p0), some (.int p1), some (.int p2), none]) rfl rfl (fun q39 => ?_) (fun q39 => ?_)
      · have H := H.1 q39
        refine wp_bipush rfl ?_
        exact wp_iret rfl rfl H
      · have H := H.2 q39
        refine wp_aload_n rfl rfl ?_
        obtain ⟨g38, H⟩ := H
        refine wp_callvI rfl rfl (Or.inr rfl) (lo' := [some (.ref p0), some (.int p1), some (.int p2), none]) rfl g38 ⟨Nat.le_of_ble_eq_true rfl, Nat.le_of_ble_eq_true rfl, Nat.le_of_ble_eq_true rfl, Nat.le_of_ble_eq_true rfl⟩ (bd' := (2, 1280)) rfl ?_
        refine (wq_K_isTapeTorn_ok H).conI (fun v8 h7 H => ?_)
        refine wp_if_eq rfl (lo1 := [some (.ref p0), some (.int p1), some (.int p2), none]) (lo2 := [none, none, none, none]) rfl rfl (fun q37 => ?_) (fun q37 => ?_)
        · have H := H.1 q37
          refine wp_aload_n rfl rfl ?_
          obtain ⟨g35, g36, H⟩ := H
          refine wp_getR rfl rfl g35 g36 ?_
          obtain ⟨g34, H⟩ := H
          refine wp_getI rfl rfl g34 ?_
          refine wp_bipush rfl ?_
          refine wp_icmp_ge rfl (lo1 := [none, none, none, none]) (lo2 := [some (.ref p0), some (.int p1), some (.int p2), none]) rfl rfl (fun q33 => ?_) (fun q33 => ?_)
          · have H := H.1 q33
            refine wp_bipush rfl ?_
            exact wp_iret rfl rfl H
          · have H := H.2 q33
            refine wp_aload_n rfl rfl ?_
            obtain ⟨g31, g32, H⟩ := H
            refine wp_getR rfl rfl g31 g32 ?_
            obtain ⟨g30, H⟩ := H
            refine wp_getI rfl rfl g30 ?_
            refine wp_bipush rfl ?_
            refine wp_icmp_lt rfl (lo1 := [some (.ref p0), some (.int p1), some (.int p2), none]) (lo2 := [none, none, none, none]) rfl rfl (fun q29 => ?_) (fun q29 => ?_)
            · have H := H.1 q29
              refine wp_aload_n rfl rfl ?_
              obtain ⟨g27, g28, H⟩ := H
              refine wp_getR rfl rfl g27 g28 ?_
              refine wp_aload_n rfl rfl ?_
              obtain ⟨g25, g26, H⟩ := H
              refine wp_getR rfl rfl g25 g26 ?_
              obtain ⟨g23, g24, H⟩ := H
              refine wp_getR rfl rfl g23 g24 ?_
              refine wp_iload_n rfl rfl ?_
              obtain ⟨g18, g19, g20, g21, g22, H⟩ := H
              refine wp_aald rfl g18 g19 g20 g21 g22 ?_
              obtain ⟨g17, H⟩ := H
              refine wp_callvI rfl rfl (Or.inl rfl) (lo' := [some (.ref p0), some (.int p1), some (.int p2), none]) rfl g17 ⟨Nat.le_of_ble_eq_true rfl, Nat.le_of_ble_eq_true rfl, Nat.le_of_ble_eq_true rfl, Nat.le_of_ble_eq_true rfl⟩ (bd' := (1, 640)) rfl ?_
              refine (wq_Memory_addPair_ok H).conI (fun v10 h9 H => ?_)
              refine wp_istore_n rfl rfl (lo' := [some (.ref p0), some (.int p1), some (.int p2), some (.int v10)]) rfl ?_
              refine wp_aload_n rfl rfl ?_
              obtain ⟨g15, g16, H⟩ := H
              refine wp_getR rfl rfl g15 g16 ?_
              refine wp_iload_n rfl rfl ?_
              obtain ⟨g14, H⟩ := H
              refine wp_callvV rfl rfl rfl (lo' := [some (.ref p0), some (.int p1), some (.int p2), some (.int v10)]) rfl g14 ⟨Nat.le_of_ble_eq_true rfl, Nat.le_of_ble_eq_true rfl, Nat.le_of_ble_eq_true rfl, Nat.le_of_ble_eq_true rfl⟩ (bd' := (1, 640)) rfl ?_
              refine (wq_Near_forgetPair_ok H).conV (fun h11 H => ?_)
              refine wp_aload_n rfl rfl ?_
              refine wp_iload_n rfl rfl ?_
              refine wp_iload_n rfl rfl ?_
              obtain ⟨g13, H⟩ := H
              refine wp_callvV rfl rfl rfl (lo' := [some (.ref p0), some (.int p1), some (.int p2), some (.int v10)]) rfl g13 ⟨Nat.le_of_ble_eq_true rfl, Nat.le_of_ble_eq_true rfl, Nat.le_of_ble_eq_true rfl, Nat.le_of_ble_eq_true rfl⟩ (bd' := (0, 0)) rfl ?_
              refine (wq_K_moveTapeTo_ok H).conV (fun h12 H => ?_)
              refine wp_iload_n rfl rfl ?_
              exact wp_iret rfl rfl H
            · have H := H.2 q29
              refine wp_bipush rfl ?_
              exact wp_iret rfl rfl H
        · have H := H.2 q37
          refine wp_bipush rfl ?_
          exact wp_iret rfl rfl H
    · have H := H.2 q52
      refine wp_bipush rfl ?_
      exact wp_iret rfl rfl H
  · have H := H.2 q54
    refine wp_iconst rfl ?_
    exact wp_iret rfl rfl H
def wq_K_change (p0 : Nat) (p1 : Int32) (p2 : Int32) (h : HP) (K : Int32 → HP → Prop) : Prop :=
  isO h p0 9 ∧ wq_K_isPair p0 p1 h (fun v2 h1 => (¬ v2 = 0 → isO h1 p0 9 ∧ wq_K_isSomebody p0 p2 h1 (fun v4 h3 => (¬ v4 = 0 → isO h3 p0 9 ∧ wq_K_isTapeTorn p0 h3 (fun v6 h5 => (v6 = 0 → isO h5 p0 9 ∧ 0 < gR h5 p0 2 ∧ isO h5 (gR h5 p0 2) 2 ∧ (gI h5 (gR h5 p0 2) 7 < (40 : Int32) → isO h5 p0 9 ∧ wq_K_moveTapeTo p0 p1 p2 h5 (fun h7 => isO h7 p0 9 ∧ 0 < gR h7 p0 2 ∧ isO h7 (gR h7 p0 2) 2 ∧ K (gI h7 (gR h7 p0 2) 7) h7)) ∧ (¬ gI h5 (gR h5 p0 2) 7 < (40 : Int32) → K (-5 : Int32) h5)) ∧ (¬ v6 = 0 → K (-3 : Int32) h5))) ∧ (v4 = 0 → K (-2 : Int32) h3))) ∧ (v2 = 0 → K (-1 : Int32) h1))
theorem wq_K_change_ok {p0 : Nat} {p1 : Int32} {p2 : Int32} {h : HP} {K : Int32 → HP → Prop} (H : wq_K_change p0 p1 p2 h K) : Wp k_K_change 0 [some (.ref p0), some (.int p1), some (.int p2)] [] h (1, 640) (QI K) := by
  unfold wq_K_change at H
  refine wp_aload_n rfl rfl ?_
  refine wp_iload_n rfl rfl ?_
  obtain ⟨g21, H⟩ := H
  refine wp_callvI rfl rfl (Or.inr rfl) (lo' := [some (.ref p0), some (.int p1), some (.int p2)]) rfl g21 ⟨Nat.le_of_ble_eq_true rfl, Nat.le_of_ble_eq_true rfl, Nat.le_of_ble_eq_true rfl, Nat.le_of_ble_eq_true rfl⟩ (bd' := (1, 640)) rfl ?_
  refine (wq_K_isPair_ok H).conI (fun v2 h1 H => ?_)
  refine wp_if_ne rfl (lo1 := [some (.ref p0), some (.int p1), some (.int p2)]) (lo2 := [some (.ref p0), some (.int p1), some (.int p2)]) rfl rfl (fun q20 => ?_) (fun q20 => ?_)
  · have H := H.1 q20
    refine wp_aload_n rfl rfl ?_
    refine wp_iload_n rfl rfl ?_
    obtain ⟨g19, H⟩ := H
    refine wp_callvI rfl rfl (Or.inr rfl) (lo' := [some (.ref p0), some (.int p1), some (.int p2)]) rfl g19 ⟨Nat.le_of_ble_eq_true rfl, Nat.le_of_ble_eq_true rfl, Nat.le_of_ble_eq_true rfl, Nat.le_of_ble_eq_true rfl⟩ (bd' := (1, 640)) rfl ?_
    refine (wq_K_isSomebody_ok H).conI (fun v4 h3 H => ?_)
    refine wp_if_ne rfl (lo1 := [some (.ref p0), some (.int p1), some (.int p2)]) (lo2 := [some (.ref p0), some (.int p1), some (.int p2)]) rfl rfl (fun q18 => ?_) (fun q18 => ?_)
    · have H := H.1 q18
      refine wp_aload_n rfl rfl ?_
      obtain ⟨g17, H⟩ := H
      refine wp_callvI rfl rfl (Or.inr rfl) (lo' := [some (.ref p0), some (.int p1), some (.int p2)]) rfl g17 ⟨Nat.le_of_ble_eq_true rfl, Nat.le_of_ble_eq_true rfl, Nat.le_of_ble_eq_true rfl, Nat.le_of_ble_eq_true rfl⟩ (bd' := (1, 640)) rfl ?_
      refine (wq_K_isTapeTorn_ok H).conI (fun v6 h5 H => ?_)
      refine wp_if_eq rfl (lo1 := [some (.ref p0), some (.int p1), some (.int p2)]) (lo2 := [some (.ref p0), some (.int p1), some (.int p2)]) rfl rfl (fun q16 => ?_) (fun q16 => ?_)
      · have H := H.1 q16
        refine wp_aload_n rfl rfl ?_
        obtain ⟨g14, g15, H⟩ := H
        refine wp_getR rfl rfl g14 g15 ?_
        obtain ⟨g13, H⟩ := H
        refine wp_getI rfl rfl g13 ?_
        refine wp_bipush rfl ?_
        refine wp_icmp_lt rfl (lo1 := [some (.ref p0), some (.int p1), some (.int p2)]) (lo2 := [some (.ref p0), some (.int p1), some (.int p2)]) rfl rfl (fun q12 => ?_) (fun q12 => ?_)
        · have H := H.1 q12
          refine wp_aload_n rfl rfl ?_
          refine wp_iload_n rfl rfl ?_
          refine wp_iload_n rfl rfl ?_
          obtain ⟨g11, H⟩ := H
          refine wp_callvV rfl rfl rfl (lo' := [some (.ref p0), some (.int p1), some (.int p2)]) rfl g11 ⟨Nat.le_of_ble_eq_true rfl, Nat.le_of_ble_eq_true rfl, Nat.le_of_ble_eq_true rfl, Nat.le_of_ble_eq_true rfl⟩ (bd' := (0, 0)) rfl ?_
          refine (wq_K_moveTapeTo_ok H).conV (fun h7 H => ?_)
          refine wp_aload_n rfl rfl ?_
          obtain ⟨g9, g10, H⟩ := H
          refine wp_getR rfl rfl g9 g10 ?_
          obtain ⟨g8, H⟩ := H
          refine wp_getI rfl rfl g8 ?_
          exact wp_iret rfl rfl H
        · have H := H.2 q12
          refine wp_bipush rfl ?_
          exact wp_iret rfl rfl H
      · have H := H.2 q16
        refine wp_bipush rfl ?_
        exact wp_iret rfl rfl H
    · have H := H.2 q18
      refine wp_bipush rfl ?_
      exact wp_iret rfl rfl H
  · have H := H.2 q20
    refine wp_iconst rfl ?_
    exact wp_iret rfl rfl H
def wb_K_found_30 (l0 : Nat) (l1 : Int32) (l2 : Int32) (l3 : Int32) (l4 : Int32) (h : HP) (K : Int32 → HP → Prop) : Prop :=
  isO h l0 9 ∧ 0 < gR h l0 2 ∧ isO h (gR h l0 2) 2 ∧ (gI h (gR h l0 2) 6 ≤ l4 → K (-1 : Int32) h) ∧ (¬ gI h (gR h l0 2) 6 ≤ l4 → isO h l0 9 ∧ wq_K_scoreOf l0 l1 l4 h (fun v9 h8 => (v9 < l2 → Wp k_K_found 30 [some (.ref l0), some (.int l1), some (.int l2), some (.int l3), some (.int (l4 + (1 : Int32)))] [] h8 (0, 0) (QI K)) ∧ (¬ v9 < l2 → isO h8 l0 9 ∧ wq_K_aheadOf l0 l4 l1 h8 (fun v11 h10 => (¬ v11 = l3 → Wp k_K_found 30 [some (.ref l0), some (.int l1), some (.int l2), some (.int l3), some (.int (l4 + (1 : Int32)))] [] h10 (0, 0) (QI K)) ∧ (v11 = l3 → K l4 h10)))))
theorem wb_K_found_30_ok {l0 : Nat} {l1 : Int32} {l2 : Int32} {l3 : Int32} {l4 : Int32} {h : HP} {K : Int32 → HP → Prop} (H : wb_K_found_30 l0 l1 l2 l3 l4 h K) : Wp k_K_found 30 [some (.ref l0), some (.int l1), some (.int l2), some (.int l3), some (.int l4)] [] h (0, 0) (QI K) := by
  unfold wb_K_found_30 at H
  refine wp_iload rfl rfl ?_
  refine wp_aload_n rfl rfl ?_
  obtain ⟨g18, g19, H⟩ := H
  refine wp_getR rfl rfl g18 g19 ?_
  obtain ⟨g17, H⟩ := H
  refine wp_getI rfl rfl g17 ?_
  refine wp_icmp_ge rfl (lo1 := [some (.ref l0), some (.int l1), some (.int l2), some (.int l3), some (.int l4)]) (lo2 := [some (.ref l0), some (.int l1), some (.int l2), some (.int l3), some (.int l4)]) rfl rfl (fun q16 => ?_) (fun q16 => ?_)
  · have H := H.1 q16
    refine wp_iconst rfl ?_
    exact wp_iret rfl rfl H
  · have H := H.2 q16
    refine wp_aload_n rfl rfl ?_
    refine wp_iload_n rfl rfl ?_
    refine wp_iload rfl rfl ?_
    obtain ⟨g15, H⟩ := H
    refine wp_callvI rfl rfl (Or.inl rfl) (lo' := [some (.ref l0), some (.int l1), some (.int l2), some (.int l3), some (.int l4)]) rfl g15 ⟨Nat.le_of_ble_eq_true rfl, Nat.le_of_ble_eq_true rfl, Nat.le_of_ble_eq_true rfl, Nat.le_of_ble_eq_true rfl⟩ (bd' := (0, 0)) rfl ?_
    refine (wq_K_scoreOf_ok H).conI (fun v9 h8 H => ?_)
    refine wp_iload_n rfl rfl ?_
    refine wp_icmp_lt rfl (lo1 := [some (.ref l0), some (.int l1), some (.int l2), some (.int l3), some (.int l4)]) (lo2 := [some (.ref l0), some (.int l1), some (.int l2), some (.int l3), some (.int l4)]) rfl rfl (fun q14 => ?_) (fun q14 => ?_)
    · have H := H.1 q14
      refine wp_iinc rfl rfl rfl (lo' := [some (.ref l0), some (.int l1), some (.int l2), some (.int l3), some (.int (l4 + (1 : Int32)))]) rfl ?_
      refine wp_goto rfl (lo' := [some (.ref l0), some (.int l1), some (.int l2), some (.int l3), some (.int (l4 + (1 : Int32)))]) rfl ?_
      exact H
    · have H := H.2 q14
      refine wp_aload_n rfl rfl ?_
      refine wp_iload rfl rfl ?_
      refine wp_iload_n rfl rfl ?_
      obtain ⟨g13, H⟩ := H
      refine wp_callvI rfl rfl (Or.inl rfl) (lo' := [some (.ref l0), some (.int l1), some (.int l2), some (.int l3), some (.int l4)]) rfl g13 ⟨Nat.le_of_ble_eq_true rfl, Nat.le_of_ble_eq_true rfl, Nat.le_of_ble_eq_true rfl, Nat.le_of_ble_eq_true rfl⟩ (bd' := (0, 0)) rfl ?_
      refine (wq_K_aheadOf_ok H).conI (fun v11 h10 H => ?_)
      refine wp_iload_n rfl rfl ?_
      refine wp_icmp_ne rfl (lo1 := [some (.ref l0), some (.int l1), some (.int l2), some (.int l3), some (.int l4)]) (lo2 := [some (.ref l0), some (.int l1), some (.int l2), some (.int l3), some (.int l4)]) rfl rfl (fun q12 => ?_) (fun q12 => ?_)
      · have H := H.1 q12
        refine wp_iinc rfl rfl rfl (lo' := [some (.ref l0), some (.int l1), some (.int l2), some (.int l3), some (.int (l4 + (1 : Int32)))]) rfl ?_
        refine wp_goto rfl (lo' := [some (.ref l0), some (.int l1), some (.int l2), some (.int l3), some (.int (l4 + (1 : Int32)))]) rfl ?_
        exact H
      · have H := H.2 q12
        refine wp_iload rfl rfl ?_
        exact wp_iret rfl rfl H
def wq_K_found (p0 : Nat) (p1 : Int32) (p2 : Int32) (p3 : Int32) (h : HP) (K : Int32 → HP → Prop) : Prop :=
  isO h p0 9 ∧ wq_K_isSegment p0 p1 h (fun v2 h1 => (v2 = 0 → K (-1 : Int32) h1) ∧ (¬ v2 = 0 → (0 ≤ p3 → (p2 < 0 → K (-2 : Int32) h1) ∧ (¬ p2 < 0 → (p2 ≤ (100 : Int32) → Wp k_K_found 30 [some (.ref p0), some (.int p1), some (.int p2), some (.int p3), some (.int (0 : Int32))] [] h1 (0, 0) (QI K)) ∧ (¬ p2 ≤ (100 : Int32) → K (-2 : Int32) h1))) ∧ (¬ 0 ≤ p3 → K (-1 : Int32) h1)))
theorem wq_K_found_ok {p0 : Nat} {p1 : Int32} {p2 : Int32} {p3 : Int32} {h : HP} {K : Int32 → HP → Prop} (H : wq_K_found p0 p1 p2 p3 h K) : Wp k_K_found 0 [some (.ref p0), some (.int p1), some (.int p2), some (.int p3), none] [] h (0, 0) (QI K) := by
  unfold wq_K_found at H
  refine wp_aload_n rfl rfl ?_
  refine wp_iload_n rfl rfl ?_
  obtain ⟨g7, H⟩ := H
  refine wp_callvI rfl rfl (Or.inr rfl) (lo' := [some (.ref p0), some (.int p1), some (.int p2), some (.int p3), none]) rfl g7 ⟨Nat.le_of_ble_eq_true rfl, Nat.le_of_ble_eq_true rfl, Nat.le_of_ble_eq_true rfl, Nat.le_of_ble_eq_true rfl⟩ (bd' := (0, 0)) rfl ?_
  refine (wq_K_isSegment_ok H).conI (fun v2 h1 H => ?_)
  refine wp_if_eq rfl (lo1 := [none, none, none, none, none]) (lo2 := [some (.ref p0), some (.int p1), some (.int p2), some (.int p3), none]) rfl rfl (fun q6 => ?_) (fun q6 => ?_)
  · have H := H.1 q6
    refine wp_iconst rfl ?_
    exact wp_iret rfl rfl H
  · have H := H.2 q6
    refine wp_iload_n rfl rfl ?_
    refine wp_if_ge rfl (lo1 := [some (.ref p0), some (.int p1), some (.int p2), some (.int p3), none]) (lo2 := [none, none, none, none, none]) rfl rfl (fun q5 => ?_) (fun q5 => ?_)
    · have H := H.1 q5
      refine wp_iload_n rfl rfl ?_
      refine wp_if_lt rfl (lo1 := [none, none, none, none, none]) (lo2 := [some (.ref p0), some (.int p1), some (.int p2), some (.int p3), none]) rfl rfl (fun q4 => ?_) (fun q4 => ?_)
      · have H := H.1 q4
        refine wp_bipush rfl ?_
        exact wp_iret rfl rfl H
      · have H := H.2 q4
        refine wp_iload_n rfl rfl ?_
        refine wp_bipush rfl ?_
        refine wp_icmp_le rfl (lo1 := [some (.ref p0), some (.int p1), some (.int p2), some (.int p3), none]) (lo2 := [none, none, none, none, none]) rfl rfl (fun q3 => ?_) (fun q3 => ?_)
        · have H := H.1 q3
          refine wp_iconst rfl ?_
          refine wp_istore rfl rfl (lo' := [some (.ref p0), some (.int p1), some (.int p2), some (.int p3), some (.int (0 : Int32))]) rfl ?_
          exact H
        · have H := H.2 q3
          refine wp_bipush rfl ?_
          exact wp_iret rfl rfl H
    · have H := H.2 q5
      refine wp_iconst rfl ?_
      exact wp_iret rfl rfl H
