def wb_M_feed_35 (l0 : Nat) (l1 : Int64) (l4 : Int32) (h : HP) (K : Int32 → HP → Prop) : Prop :=
  (l4 < 0 → isO h l0 10 ∧ 0 < gR h l0 2 ∧ isL h (gR h l0 2) 100 (0 : Int32) ∧ K (gI h (gR h l0 2) (0 : Int32).toNatClampNeg) h) ∧ (¬ l4 < 0 → isO h l0 10 ∧ 0 < gR h l0 1 ∧ isO h l0 10 ∧ 0 < gR h l0 2 ∧ isL h (gR h l0 2) 100 (0 : Int32) ∧ isA h (gR h l0 1) 100 (gI h (gR h l0 2) (0 : Int32).toNatClampNeg) ∧ (∀ h11 : HP, h11 = stI h (gR h l0 1) (gI h (gR h l0 2) (0 : Int32).toNatClampNeg).toNatClampNeg (((l1 >>> (((8 : Int32) * l4).toInt64 &&& 63)) &&& (lN 255)).toInt32) → isO h11 l0 10 ∧ 0 < gR h11 l0 2 ∧ isL h11 (gR h11 l0 2) 100 (0 : Int32) ∧ isA h11 (gR h11 l0 2) 100 (0 : Int32) ∧ (∀ h12 : HP, h12 = stI h11 (gR h11 l0 2) (0 : Int32).toNatClampNeg ((gI h11 (gR h11 l0 2) (0 : Int32).toNatClampNeg) + (1 : Int32)) → Wp k_M_feed 35 [some (.ref l0), some (.long l1), none, none, some (.int (l4 + (-1 : Int32)))] [] h12 (0, 0) (QI K))))
theorem wb_M_feed_35_ok {l0 : Nat} {l1 : Int64} {l4 : Int32} {h : HP} {K : Int32 → HP → Prop} (H : wb_M_feed_35 l0 l1 l4 h K) : Wp k_M_feed 35 [some (.ref l0), some (.long l1), none, none, some (.int l4)] [] h (0, 0) (QI K) := by
  unfold wb_M_feed_35 at H
  refine wp_iload rfl rfl ?_
  refine wp_if_lt rfl (lo1 := [some (.ref l0), some (.long l1), none, none, some (.int l4)]) (lo2 := [some (.ref l0), some (.long l1), none, none, some (.int l4)]) rfl rfl (fun q25 => ?_) (fun q25 => ?_)
  · have H := H.1 q25
    refine wp_aload_n rfl rfl ?_
    obtain ⟨g9, g10, H⟩ := H
    refine wp_getR rfl rfl g9 g10 ?_
    refine wp_iconst rfl ?_
    obtain ⟨g8, H⟩ := H
    refine wp_iald rfl g8 ?_
    exact wp_iret rfl rfl H
  · have H := H.2 q25
    refine wp_aload_n rfl rfl ?_
    obtain ⟨g23, g24, H⟩ := H
    refine wp_getR rfl rfl g23 g24 ?_
    refine wp_aload_n rfl rfl ?_
    obtain ⟨g21, g22, H⟩ := H
    refine wp_getR rfl rfl g21 g22 ?_
    refine wp_iconst rfl ?_
    obtain ⟨g20, H⟩ := H
    refine wp_iald rfl g20 ?_
    refine wp_lload_n rfl rfl ?_
    refine wp_bipush rfl ?_
    refine wp_iload rfl rfl ?_
    refine wp_imul rfl ?_
    refine wp_lshr rfl ?_
    refine wp_ldc2 rfl ?_
    refine wp_land rfl ?_
    refine wp_l2i rfl ?_
    obtain ⟨g18, H⟩ := H
    obtain ⟨h11, e19⟩ : ∃ z : HP, z = stI h (gR h l0 1) (gI h (gR h l0 2) (0 : Int32).toNatClampNeg).toNatClampNeg (((l1 >>> (((8 : Int32) * l4).toInt64 &&& 63)) &&& (lN 255)).toInt32) := ⟨_, rfl⟩
    have H := H h11 e19
    refine wp_iast rfl g18 e19 ?_
    refine wp_aload_n rfl rfl ?_
    obtain ⟨g16, g17, H⟩ := H
    refine wp_getR rfl rfl g16 g17 ?_
    refine wp_iconst rfl ?_
    refine wp_dup2 rfl ?_
    obtain ⟨g15, H⟩ := H
    refine wp_iald rfl g15 ?_
    refine wp_iconst rfl ?_
    refine wp_iadd rfl ?_
    obtain ⟨g13, H⟩ := H
    obtain ⟨h12, e14⟩ : ∃ z : HP, z = stI h11 (gR h11 l0 2) (0 : Int32).toNatClampNeg ((gI h11 (gR h11 l0 2) (0 : Int32).toNatClampNeg) + (1 : Int32)) := ⟨_, rfl⟩
    have H := H h12 e14
    refine wp_iast rfl g13 e14 ?_
    refine wp_iinc rfl rfl rfl (lo' := [some (.ref l0), some (.long l1), none, none, some (.int (l4 + (-1 : Int32)))]) rfl ?_
    refine wp_goto rfl (lo' := [some (.ref l0), some (.long l1), none, none, some (.int (l4 + (-1 : Int32)))]) rfl ?_
    exact H
def wq_M_feed (p0 : Nat) (p1 : Int64) (p2 : Int32) (h : HP) (K : Int32 → HP → Prop) : Prop :=
  wq_M_in p2 (1 : Int32) (8 : Int32) h (fun v2 h1 => (¬ v2 = 0 → isO h1 p0 10 ∧ 0 < gR h1 p0 2 ∧ isL h1 (gR h1 p0 2) 100 (0 : Int32) ∧ ((gI h1 (gR h1 p0 2) (0 : Int32).toNatClampNeg) + p2 ≤ (600 : Int32) → Wp k_M_feed 35 [some (.ref p0), some (.long p1), none, none, some (.int (p2 - (1 : Int32)))] [] h1 (0, 0) (QI K)) ∧ (¬ (gI h1 (gR h1 p0 2) (0 : Int32).toNatClampNeg) + p2 ≤ (600 : Int32) → K (-5 : Int32) h1)) ∧ (v2 = 0 → K (-2 : Int32) h1))
theorem wq_M_feed_ok {p0 : Nat} {p1 : Int64} {p2 : Int32} {h : HP} {K : Int32 → HP → Prop} (H : wq_M_feed p0 p1 p2 h K) : Wp k_M_feed 0 [some (.ref p0), some (.long p1), none, some (.int p2), none] [] h (0, 0) (QI K) := by
  unfold wq_M_feed at H
  refine wp_iload_n rfl rfl ?_
  refine wp_iconst rfl ?_
  refine wp_bipush rfl ?_
  refine wp_callsI rfl rfl rfl (Or.inr rfl) (lo' := [some (.ref p0), some (.long p1), none, some (.int p2), none]) rfl ⟨Nat.le_of_ble_eq_true rfl, Nat.le_of_ble_eq_true rfl, Nat.le_of_ble_eq_true rfl, Nat.le_of_ble_eq_true rfl⟩ (bd' := (0, 0)) rfl ?_
  refine (wq_M_in_ok H).conI (fun v2 h1 H => ?_)
  refine wp_if_ne rfl (lo1 := [some (.ref p0), some (.long p1), none, some (.int p2), none]) (lo2 := [some (.ref p0), some (.long p1), none, some (.int p2), none]) rfl rfl (fun q7 => ?_) (fun q7 => ?_)
  · have H := H.1 q7
    refine wp_aload_n rfl rfl ?_
    obtain ⟨g5, g6, H⟩ := H
    refine wp_getR rfl rfl g5 g6 ?_
    refine wp_iconst rfl ?_
    obtain ⟨g4, H⟩ := H
    refine wp_iald rfl g4 ?_
    refine wp_iload_n rfl rfl ?_
    refine wp_iadd rfl ?_
    refine wp_sipush rfl ?_
    refine wp_icmp_le rfl (lo1 := [some (.ref p0), some (.long p1), none, some (.int p2), none]) (lo2 := [some (.ref p0), some (.long p1), none, some (.int p2), none]) rfl rfl (fun q3 => ?_) (fun q3 => ?_)
    · have H := H.1 q3
      refine wp_iload_n rfl rfl ?_
      refine wp_iconst rfl ?_
      refine wp_isub rfl ?_
      refine wp_istore rfl rfl (lo' := [some (.ref p0), some (.long p1), none, none, some (.int (p2 - (1 : Int32)))]) rfl ?_
      exact H
    · have H := H.2 q3
      refine wp_bipush rfl ?_
      exact wp_iret rfl rfl H
  · have H := H.2 q7
    refine wp_bipush rfl ?_
    exact wp_iret rfl rfl H
def wq_M_cut (p0 : Nat) (p1 : Int32) (h : HP) (K : Int32 → HP → Prop) : Prop :=
  isO h p0 10 ∧ 0 < gR h p0 2 ∧ isL h (gR h p0 2) 100 (0 : Int32) ∧ wq_M_in p1 (0 : Int32) (gI h (gR h p0 2) (0 : Int32).toNatClampNeg) h (fun v2 h1 => (¬ v2 = 0 → isO h1 p0 10 ∧ 0 < gR h1 p0 2 ∧ isA h1 (gR h1 p0 2) 100 (0 : Int32) ∧ (∀ h3 : HP, h3 = stI h1 (gR h1 p0 2) (0 : Int32).toNatClampNeg p1 → K p1 h3)) ∧ (v2 = 0 → K (-2 : Int32) h1))
theorem wq_M_cut_ok {p0 : Nat} {p1 : Int32} {h : HP} {K : Int32 → HP → Prop} (H : wq_M_cut p0 p1 h K) : Wp k_M_cut 0 [some (.ref p0), some (.int p1)] [] h (0, 0) (QI K) := by
  unfold wq_M_cut at H
  refine wp_iload_n rfl rfl ?_
  refine wp_iconst rfl ?_
  refine wp_aload_n rfl rfl ?_
  obtain ⟨g10, g11, H⟩ := H
  refine wp_getR rfl rfl g10 g11 ?_
  refine wp_iconst rfl ?_
  obtain ⟨g9, H⟩ := H
  refine wp_iald rfl g9 ?_
  refine wp_callsI rfl rfl rfl (Or.inr rfl) (lo' := [some (.ref p0), some (.int p1)]) rfl ⟨Nat.le_of_ble_eq_true rfl, Nat.le_of_ble_eq_true rfl, Nat.le_of_ble_eq_true rfl, Nat.le_of_ble_eq_true rfl⟩ (bd' := (0, 0)) rfl ?_
  refine (wq_M_in_ok H).conI (fun v2 h1 H => ?_)
  refine wp_if_ne rfl (lo1 := [some (.ref p0), some (.int p1)]) (lo2 := [some (.ref p0), some (.int p1)]) rfl rfl (fun q8 => ?_) (fun q8 => ?_)
  · have H := H.1 q8
    refine wp_aload_n rfl rfl ?_
    obtain ⟨g6, g7, H⟩ := H
    refine wp_getR rfl rfl g6 g7 ?_
    refine wp_iconst rfl ?_
    refine wp_iload_n rfl rfl ?_
    obtain ⟨g4, H⟩ := H
    obtain ⟨h3, e5⟩ : ∃ z : HP, z = stI h1 (gR h1 p0 2) (0 : Int32).toNatClampNeg p1 := ⟨_, rfl⟩
    have H := H h3 e5
    refine wp_iast rfl g4 e5 ?_
    refine wp_iload_n rfl rfl ?_
    exact wp_iret rfl rfl H
  · have H := H.2 q8
    refine wp_bipush rfl ?_
    exact wp_iret rfl rfl H
def wq_M_tape (p0 : Nat) (p1 : Int32) (h : HP) (K : Int32 → HP → Prop) : Prop :=
  isO h p0 10 ∧ 0 < gR h p0 2 ∧ isL h (gR h p0 2) 100 (0 : Int32) ∧ wq_M_in p1 (0 : Int32) ((gI h (gR h p0 2) (0 : Int32).toNatClampNeg) - (1 : Int32)) h (fun v2 h1 => (v2 = 0 → K (-1 : Int32) h1) ∧ (¬ v2 = 0 → isO h1 p0 10 ∧ 0 < gR h1 p0 1 ∧ isL h1 (gR h1 p0 1) 100 p1 ∧ K (gI h1 (gR h1 p0 1) p1.toNatClampNeg) h1))
theorem wq_M_tape_ok {p0 : Nat} {p1 : Int32} {h : HP} {K : Int32 → HP → Prop} (H : wq_M_tape p0 p1 h K) : Wp k_M_tape 0 [some (.ref p0), some (.int p1)] [] h (0, 0) (QI K) := by
  unfold wq_M_tape at H
  refine wp_iload_n rfl rfl ?_
  refine wp_iconst rfl ?_
  refine wp_aload_n rfl rfl ?_
  obtain ⟨g8, g9, H⟩ := H
  refine wp_getR rfl rfl g8 g9 ?_
  refine wp_iconst rfl ?_
  obtain ⟨g7, H⟩ := H
  refine wp_iald rfl g7 ?_
  refine wp_iconst rfl ?_
  refine wp_isub rfl ?_
  refine wp_callsI rfl rfl rfl (Or.inr rfl) (lo' := [some (.ref p0), some (.int p1)]) rfl ⟨Nat.le_of_ble_eq_true rfl, Nat.le_of_ble_eq_true rfl, Nat.le_of_ble_eq_true rfl, Nat.le_of_ble_eq_true rfl⟩ (bd' := (0, 0)) rfl ?_
  refine (wq_M_in_ok H).conI (fun v2 h1 H => ?_)
  refine wp_if_eq rfl (lo1 := [some (.ref p0), some (.int p1)]) (lo2 := [some (.ref p0), some (.int p1)]) rfl rfl (fun q6 => ?_) (fun q6 => ?_)
  · have H := H.1 q6
    refine wp_iconstk (lo' := [none, none]) rfl rfl ?_
    exact wp_iret rfl rfl H
  · have H := H.2 q6
    refine wp_aload_n rfl rfl ?_
    obtain ⟨g4, g5, H⟩ := H
    refine wp_getR rfl rfl g4 g5 ?_
    refine wp_iload_n rfl rfl ?_
    obtain ⟨g3, H⟩ := H
    refine wp_iald rfl g3 ?_
    refine wp_goto rfl (lo' := [none, none]) rfl ?_
    exact wp_iret rfl rfl H
def wb_M_digits_2 (l0 : Nat) (l1 : Int32) (l2 : Int32) (l3 : Int32) (h : HP) (K : Int32 → HP → Prop) : Prop :=
  (l2 ≤ l3 - l1 → K l3 h) ∧ (¬ l2 ≤ l3 - l1 → isO h l0 10 ∧ wq_M_at l0 l3 h (fun v2 h1 => wq_M_isDigit v2 h1 (fun v4 h3 => (v4 = 0 → K l3 h3) ∧ (¬ v4 = 0 → Wp k_M_digits 2 [some (.ref l0), some (.int l1), some (.int l2), some (.int (l3 + (1 : Int32)))] [] h3 (0, 0) (QI K)))))
theorem wb_M_digits_2_ok {l0 : Nat} {l1 : Int32} {l2 : Int32} {l3 : Int32} {h : HP} {K : Int32 → HP → Prop} (H : wb_M_digits_2 l0 l1 l2 l3 h K) : Wp k_M_digits 2 [some (.ref l0), some (.int l1), some (.int l2), some (.int l3)] [] h (0, 0) (QI K) := by
  unfold wb_M_digits_2 at H
  refine wp_iload_n rfl rfl ?_
  refine wp_iload_n rfl rfl ?_
  refine wp_isub rfl ?_
  refine wp_iload_n rfl rfl ?_
  refine wp_icmp_ge rfl (lo1 := [none, none, none, some (.int l3)]) (lo2 := [some (.ref l0), some (.int l1), some (.int l2), some (.int l3)]) rfl rfl (fun q7 => ?_) (fun q7 => ?_)
  · have H := H.1 q7
    refine wp_iload_n rfl rfl ?_
    exact wp_iret rfl rfl H
  · have H := H.2 q7
    refine wp_aload_n rfl rfl ?_
    refine wp_iload_n rfl rfl ?_
    obtain ⟨g6, H⟩ := H
    refine wp_callvI rfl rfl (Or.inl rfl) (lo' := [some (.ref l0), some (.int l1), some (.int l2), some (.int l3)]) rfl g6 ⟨Nat.le_of_ble_eq_true rfl, Nat.le_of_ble_eq_true rfl, Nat.le_of_ble_eq_true rfl, Nat.le_of_ble_eq_true rfl⟩ (bd' := (0, 0)) rfl ?_
    refine (wq_M_at_ok H).conI (fun v2 h1 H => ?_)
    refine wp_callsI rfl rfl rfl (Or.inr rfl) (lo' := [some (.ref l0), some (.int l1), some (.int l2), some (.int l3)]) rfl ⟨Nat.le_of_ble_eq_true rfl, Nat.le_of_ble_eq_true rfl, Nat.le_of_ble_eq_true rfl, Nat.le_of_ble_eq_true rfl⟩ (bd' := (0, 0)) rfl ?_
    refine (wq_M_isDigit_ok H).conI (fun v4 h3 H => ?_)
    refine wp_if_eq rfl (lo1 := [none, none, none, some (.int l3)]) (lo2 := [some (.ref l0), some (.int l1), some (.int l2), some (.int l3)]) rfl rfl (fun q5 => ?_) (fun q5 => ?_)
    · have H := H.1 q5
      refine wp_iload_n rfl rfl ?_
      exact wp_iret rfl rfl H
    · have H := H.2 q5
      refine wp_iinc rfl rfl rfl (lo' := [some (.ref l0), some (.int l1), some (.int l2), some (.int (l3 + (1 : Int32)))]) rfl ?_
      refine wp_goto rfl (lo' := [some (.ref l0), some (.int l1), some (.int l2), some (.int (l3 + (1 : Int32)))]) rfl ?_
      exact H
def wq_M_digits (p0 : Nat) (p1 : Int32) (p2 : Int32) (h : HP) (K : Int32 → HP → Prop) : Prop :=
  Wp k_M_digits 2 [some (.ref p0), some (.int p1), some (.int p2), some (.int p1)] [] h (0, 0) (QI K)
theorem wq_M_digits_ok {p0 : Nat} {p1 : Int32} {p2 : Int32} {h : HP} {K : Int32 → HP → Prop} (H : wq_M_digits p0 p1 p2 h K) : Wp k_M_digits 0 [some (.ref p0), some (.int p1), some (.int p2), none] [] h (0, 0) (QI K) := by
  unfold wq_M_digits at H
  refine wp_iload_n rfl rfl ?_
  refine wp_istore_n rfl rfl (lo' := [some (.ref p0), some (.int p1), some (.int p2), some (.int p1)]) rfl ?_
  exact H
def wq_M_mark (p0 : Nat) (p1 : Int32) (h : HP) (K : Int32 → HP → Prop) : Prop :=
  isO h p0 10 ∧ wq_M_at p0 p1 h (fun v2 h1 => (v2 = (60 : Int32) → isO h1 p0 10 ∧ wq_M_at p0 (p1 + (1 : Int32)) h1 (fun v4 h3 => (¬ v4 = (47 : Int32) → isO h3 p0 10 ∧ wq_M_at p0 (p1 + (1 : Int32)) h3 (fun v6 h5 => wq_M_isDigit v6 h5 (fun v8 h7 => (¬ v8 = 0 → isO h7 p0 10 ∧ wq_M_at p0 (p1 + (2 : Int32)) h7 (fun v10 h9 => (¬ v10 = (62 : Int32) → isO h9 p0 10 ∧ wq_M_at p0 (p1 + (2 : Int32)) h9 (fun v12 h11 => (¬ v12 = (47 : Int32) → K (-1 : Int32) h11) ∧ (v12 = (47 : Int32) → isO h11 p0 10 ∧ wq_M_at p0 (p1 + (3 : Int32)) h11 (fun v14 h13 => (¬ v14 = (62 : Int32) → K (-1 : Int32) h13) ∧ (v14 = (62 : Int32) → K (4 : Int32) h13))))) ∧ (v10 = (62 : Int32) → K (2 : Int32) h9))) ∧ (v8 = 0 → K (-1 : Int32) h7)))) ∧ (v4 = (47 : Int32) → isO h3 p0 10 ∧ wq_M_at p0 (p1 + (2 : Int32)) h3 (fun v24 h23 => wq_M_isDigit v24 h23 (fun v26 h25 => (v26 = 0 → K (-1 : Int32) h25) ∧ (¬ v26 = 0 → isO h25 p0 10 ∧ wq_M_at p0 (p1 + (3 : Int32)) h25 (fun v28 h27 => (¬ v28 = (62 : Int32) → K (-1 : Int32) h27) ∧ (v28 = (62 : Int32) → K (3 : Int32) h27)))))))) ∧ (¬ v2 = (60 : Int32) → K (-1 : Int32) h1))
set_option maxRecDepth 100000 in
set_option maxHeartbeats 4000000 in
theorem wq_M_mark_ok {p0 : Nat} {p1 : Int32} {h : HP} {K : Int32 → HP → Prop} (H : wq_M_mark p0 p1 h K) : Wp k_M_mark 0 [some (.ref p0), some (.int p1)] [] h (0, 0) (QI K) := by
  unfold wq_M_mark at H
  refine wp_aload_n rfl rfl ?_
  refine wp_iload_n rfl rfl ?_
  obtain ⟨g36, H⟩ := H
  refine wp_callvI rfl rfl (Or.inl rfl) (lo' := [some (.ref p0), some (.int p1)]) rfl g36 ⟨Nat.le_of_ble_eq_true rfl, Nat.le_of_ble_eq_true rfl, Nat.le_of_ble_eq_true rfl, Nat.le_of_ble_eq_true rfl⟩ (bd' := (0, 0)) rfl ?_
  refine (wq_M_at_ok H).conI (fun v2 h1 H => ?_)
  refine wp_bipush rfl ?_
  refine wp_icmp_eq rfl (lo1 := [some (.ref p0), some (.int p1)]) (lo2 := [some (.ref p0), some (.int p1)]) rfl rfl (fun q35 => ?_) (fun q35 => ?_)
  · have H := H.1 q35
    refine wp_aload_n rfl rfl ?_
    refine wp_iload_n rfl rfl ?_
    refine wp_iconst rfl ?_
    refine wp_iadd rfl ?_
    obtain ⟨g34, H⟩ := H
    refine wp_callvI rfl rfl (Or.inl rfl) (lo' := [some (.ref p0), some (.int p1)]) rfl g34 ⟨Nat.le_of_ble_eq_true rfl, Nat.le_of_ble_eq_true rfl, Nat.le_of_ble_eq_true rfl, Nat.le_of_ble_eq_true rfl⟩ (bd' := (0, 0)) rfl ?_
    refine (wq_M_at_ok H).conI (fun v4 h3 H => ?_)
    refine wp_bipush rfl ?_
    refine wp_icmp_ne rfl (lo1 := [some (.ref p0), some (.int p1)]) (lo2 := [some (.ref p0), some (.int p1)]) rfl rfl (fun q33 => ?_) (fun q33 => ?_)
    · have H := H.1 q33
      refine wp_aload_n rfl rfl ?_
      refine wp_iload_n rfl rfl ?_
      refine wp_iconst rfl ?_
      refine wp_iadd rfl ?_
      obtain ⟨g22, H⟩ := H
      refine wp_callvI rfl rfl (Or.inl rfl) (lo' := [some (.ref p0), some (.int p1)]) rfl g22 ⟨Nat.le_of_ble_eq_true rfl, Nat.le_of_ble_eq_true rfl, Nat.le_of_ble_eq_true rfl, Nat.le_of_ble_eq_true rfl⟩ (bd' := (0, 0)) rfl ?_
      refine (wq_M_at_ok H).conI (fun v6 h5 H => ?_)
      refine wp_callsI rfl rfl rfl (Or.inr rfl) (lo' := [some (.ref p0), some (.int p1)]) rfl ⟨Nat.le_of_ble_eq_true rfl, Nat.le_of_ble_eq_true rfl, Nat.le_of_ble_eq_true rfl, Nat.le_of_ble_eq_true rfl⟩ (bd' := (0, 0)) rfl ?_
      refine (wq_M_isDigit_ok H).conI (fun v8 h7 H => ?_)
      refine wp_if_ne rfl (lo1 := [some (.ref p0), some (.int p1)]) (lo2 := [some (.ref p0), some (.int p1)]) rfl rfl (fun q21 => ?_) (fun q21 => ?_)
      · have H := H.1 q21
        refine wp_aload_n rfl rfl ?_
        refine wp_iload_n rfl rfl ?_
        refine wp_iconst rfl ?_
        refine wp_iadd rfl ?_
        obtain ⟨g20, H⟩ := H
        refine wp_callvI rfl rfl (Or.inl rfl) (lo' := [some (.ref p0), some (.int p1)]) rfl g20 ⟨Nat.le_of_ble_eq_true rfl, Nat.le_of_ble_eq_true rfl, Nat.le_of_ble_eq_true rfl, Nat.le_of_ble_eq_true rfl⟩ (bd' := (0, 0)) rfl ?_
        refine (wq_M_at_ok H).conI (fun v10 h9 H => ?_)
        refine wp_bipush rfl ?_
        refine wp_icmp_ne rfl (lo1 := [some (.ref p0), some (.int p1)]) (lo2 := [some (.ref p0), some (.int p1)]) rfl rfl (fun q19 => ?_) (fun q19 => ?_)
        · have H := H.1 q19
          refine wp_aload_n rfl rfl ?_
          refine wp_iload_n rfl rfl ?_
          refine wp_iconst rfl ?_
          refine wp_iadd rfl ?_
          obtain ⟨g18, H⟩ := H
          refine wp_callvI rfl rfl (Or.inl rfl) (lo' := [some (.ref p0), some (.int p1)]) rfl g18 ⟨Nat.le_of_ble_eq_true rfl, Nat.le_of_ble_eq_true rfl, Nat.le_of_ble_eq_true rfl, Nat.le_of_ble_eq_true rfl⟩ (bd' := (0, 0)) rfl ?_
          refine (wq_M_at_ok H).conI (fun v12 h11 H => ?_)
          refine wp_bipush rfl ?_
          refine wp_icmp_ne rfl (lo1 := [none, none]) (lo2 := [some (.ref p0), some (.int p1)]) rfl rfl (fun q17 => ?_) (fun q17 => ?_)
          · have H := H.1 q17
            refine wp_iconstk (lo' := [none, none]) rfl rfl ?_
            exact wp_iret rfl rfl H
          · have H := H.2 q17
            refine wp_aload_n rfl rfl ?_
            refine wp_iload_n rfl rfl ?_
            refine wp_iconst rfl ?_
            refine wp_iadd rfl ?_
            obtain ⟨g16, H⟩ := H
            refine wp_callvI rfl rfl (Or.inl rfl) (lo' := [some (.ref p0), some (.int p1)]) rfl g16 ⟨Nat.le_of_ble_eq_true rfl, Nat.le_of_ble_eq_true rfl, Nat.le_of_ble_eq_true rfl, Nat.le_of_ble_eq_true rfl⟩ (bd' := (0, 0)) rfl ?_
            refine (wq_M_at_ok H).conI (fun v14 h13 H => ?_)
            refine wp_bipush rfl ?_
            refine wp_icmp_ne rfl (lo1 := [none, none]) (lo2 := [some (.ref p0), some (.int p1)]) rfl rfl (fun q15 => ?_) (fun q15 => ?_)
            · have H := H.1 q15
              refine wp_iconstk (lo' := [none, none]) rfl rfl ?_
              exact wp_iret rfl rfl H
            · have H := H.2 q15
              refine wp_iconst rfl ?_
              refine wp_goto rfl (lo' := [none, none]) rfl ?_
              exact wp_iret rfl rfl H
        · have H := H.2 q19
          refine wp_iconst rfl ?_
          exact wp_iret rfl rfl H
      · have H := H.2 q21
        refine wp_iconst rfl ?_
        exact wp_iret rfl rfl H
    · have H := H.2 q33
      refine wp_aload_n rfl rfl ?_
      refine wp_iload_n rfl rfl ?_
      refine wp_iconst rfl ?_
      refine wp_iadd rfl ?_
      obtain ⟨g32, H⟩ := H
      refine wp_callvI rfl rfl (Or.inl rfl) (lo' := [some (.ref p0), some (.int p1)]) rfl g32 ⟨Nat.le_of_ble_eq_true rfl, Nat.le_of_ble_eq_true rfl, Nat.le_of_ble_eq_true rfl, Nat.le_of_ble_eq_true rfl⟩ (bd' := (0, 0)) rfl ?_
      refine (wq_M_at_ok H).conI (fun v24 h23 H => ?_)
      refine wp_callsI rfl rfl rfl (Or.inr rfl) (lo' := [some (.ref p0), some (.int p1)]) rfl ⟨Nat.le_of_ble_eq_true rfl, Nat.le_of_ble_eq_true rfl, Nat.le_of_ble_eq_true rfl, Nat.le_of_ble_eq_true rfl⟩ (bd' := (0, 0)) rfl ?_
      refine (wq_M_isDigit_ok H).conI (fun v26 h25 H => ?_)
      refine wp_if_eq rfl (lo1 := [none, none]) (lo2 := [some (.ref p0), some (.int p1)]) rfl rfl (fun q31 => ?_) (fun q31 => ?_)
      · have H := H.1 q31
        refine wp_iconstk (lo' := [none, none]) rfl rfl ?_
        exact wp_iret rfl rfl H
      · have H := H.2 q31
        refine wp_aload_n rfl rfl ?_
        refine wp_iload_n rfl rfl ?_
        refine wp_iconst rfl ?_
        refine wp_iadd rfl ?_
        obtain ⟨g30, H⟩ := H
        refine wp_callvI rfl rfl (Or.inl rfl) (lo' := [some (.ref p0), some (.int p1)]) rfl g30 ⟨Nat.le_of_ble_eq_true rfl, Nat.le_of_ble_eq_true rfl, Nat.le_of_ble_eq_true rfl, Nat.le_of_ble_eq_true rfl⟩ (bd' := (0, 0)) rfl ?_
        refine (wq_M_at_ok H).conI (fun v28 h27 H => ?_)
        refine wp_bipush rfl ?_
        refine wp_icmp_ne rfl (lo1 := [none, none]) (lo2 := [some (.ref p0), some (.int p1)]) rfl rfl (fun q29 => ?_) (fun q29 => ?_)
        · have H := H.1 q29
          refine wp_iconstk (lo' := [none, none]) rfl rfl ?_
          exact wp_iret rfl rfl H
        · have H := H.2 q29
          refine wp_iconst rfl ?_
          refine wp_goto rfl (lo' := [none, none]) rfl ?_
          exact wp_iret rfl rfl H
  · have H := H.2 q35
    refine wp_iconst rfl ?_
    exact wp_iret rfl rfl H
def wq_M_isMark (p0 : Int32) (h : HP) (K : Int32 → HP → Prop) : Prop :=
  wq_M_in p0 (2 : Int32) (4 : Int32) h (fun v2 h1 => (v2 = 0 ∨ v2 = 1) ∧ K v2 h1)
theorem wq_M_isMark_ok {p0 : Int32} {h : HP} {K : Int32 → HP → Prop} (H : wq_M_isMark p0 h K) : Wp k_M_isMark 0 [some (.int p0)] [] h (0, 0) (QI K) := by
  unfold wq_M_isMark at H
  refine wp_iload_n rfl rfl ?_
  refine wp_iconst rfl ?_
  refine wp_iconst rfl ?_
  refine wp_callsI rfl rfl rfl (Or.inr rfl) (lo' := [some (.int p0)]) rfl ⟨Nat.le_of_ble_eq_true rfl, Nat.le_of_ble_eq_true rfl, Nat.le_of_ble_eq_true rfl, Nat.le_of_ble_eq_true rfl⟩ (bd' := (0, 0)) rfl ?_
  refine (wq_M_in_ok H).conI (fun v2 h1 H => ?_)
  exact wp_zret rfl rfl H.1 H.2
def wb_M_isTorn_8 (l0 : Nat) (l1 : Int32) (l2 : Int32) (l3 : Int32) (h : HP) (K : Int32 → HP → Prop) : Prop :=
  isO h l0 10 ∧ 0 < gR h l0 7 ∧ isL h (gR h l0 7) 100 l1 ∧ (((600 : Int32) * l1) + (gI h (gR h l0 7) l1.toNatClampNeg) ≤ l3 → (l2 ≤ 0 → K (0 : Int32) h) ∧ (¬ l2 ≤ 0 → K (1 : Int32) h)) ∧ (¬ ((600 : Int32) * l1) + (gI h (gR h l0 7) l1.toNatClampNeg) ≤ l3 → isO h l0 10 ∧ 0 < gR h l0 3 ∧ isL h (gR h l0 3) 100 l3 ∧ (¬ gI h (gR h l0 3) l3.toNatClampNeg = (2 : Int32) → isO h l0 10 ∧ 0 < gR h l0 3 ∧ isL h (gR h l0 3) 100 l3 ∧ (¬ gI h (gR h l0 3) l3.toNatClampNeg = (3 : Int32) → Wp k_M_isTorn 8 [some (.ref l0), some (.int l1), some (.int l2), some (.int (l3 + (1 : Int32)))] [] h (0, 0) (QI K)) ∧ (gI h (gR h l0 3) l3.toNatClampNeg = (3 : Int32) → (l2 = 0 → K (1 : Int32) h) ∧ (¬ l2 = 0 → isO h l0 10 ∧ 0 < gR h l0 9 ∧ isL h (gR h l0 9) 100 (l2 - (1 : Int32)) ∧ isO h l0 10 ∧ 0 < gR h l0 1 ∧ isO h l0 10 ∧ wq_M_digitAt l0 l3 h (fun v3 h2 => isL h2 (gR h l0 1) 100 v3 ∧ (gI h (gR h l0 9) (l2 - (1 : Int32)).toNatClampNeg = gI h2 (gR h l0 1) v3.toNatClampNeg → Wp k_M_isTorn 8 [some (.ref l0), some (.int l1), some (.int (l2 + (-1 : Int32))), some (.int (l3 + (1 : Int32)))] [] h2 (0, 0) (QI K)) ∧ (¬ gI h (gR h l0 9) (l2 - (1 : Int32)).toNatClampNeg = gI h2 (gR h l0 1) v3.toNatClampNeg → K (1 : Int32) h2))))) ∧ (gI h (gR h l0 3) l3.toNatClampNeg = (2 : Int32) → isO h l0 10 ∧ 0 < gR h l0 9 ∧ isO h l0 10 ∧ 0 < gR h l0 1 ∧ isO h l0 10 ∧ wq_M_digitAt l0 l3 h (fun v18 h17 => isL h17 (gR h l0 1) 100 v18 ∧ isA h17 (gR h l0 9) 100 l2 ∧ (∀ h19 : HP, h19 = stI h17 (gR h l0 9) l2.toNatClampNeg (gI h17 (gR h l0 1) v18.toNatClampNeg) → Wp k_M_isTorn 8 [some (.ref l0), some (.int l1), some (.int (l2 + (1 : Int32))), some (.int (l3 + (1 : Int32)))] [] h19 (0, 0) (QI K)))))
set_option maxRecDepth 100000 in
set_option maxHeartbeats 4000000 in
theorem wb_M_isTorn_8_ok {l0 : Nat} {l1 : Int32} {l2 : Int32} {l3 : Int32} {h : HP} {K : Int32 → HP → Prop} (H : wb_M_isTorn_8 l0 l1 l2 l3 h K) : Wp k_M_isTorn 8 [some (.ref l0), some (.int l1), some (.int l2), some (.int l3)] [] h (0, 0) (QI K) := by
  unfold wb_M_isTorn_8 at H
  refine wp_iload_n rfl rfl ?_
  refine wp_sipush rfl ?_
  refine wp_iload_n rfl rfl ?_
  refine wp_imul rfl ?_
  refine wp_aload_n rfl rfl ?_
  obtain ⟨g34, g35, H⟩ := H
  refine wp_getR rfl rfl g34 g35 ?_
  refine wp_iload_n rfl rfl ?_
  obtain ⟨g33, H⟩ := H
  refine wp_iald rfl g33 ?_
  refine wp_iadd rfl ?_
  refine wp_icmp_ge rfl (lo1 := [some (.ref l0), some (.int l1), some (.int l2), some (.int l3)]) (lo2 := [some (.ref l0), some (.int l1), some (.int l2), some (.int l3)]) rfl rfl (fun q32 => ?_) (fun q32 => ?_)
  · have H := H.1 q32
    refine wp_iload_n rfl rfl ?_
    refine wp_if_le rfl (lo1 := [some (.ref l0), some (.int l1), some (.int l2), some (.int l3)]) (lo2 := [some (.ref l0), some (.int l1), some (.int l2), some (.int l3)]) rfl rfl (fun q1 => ?_) (fun q1 => ?_)
    · have H := H.1 q1
      refine wp_iconstk (lo' := [none, none, none, none]) rfl rfl ?_
      exact wp_zret rfl rfl (by decide) H
    · have H := H.2 q1
      refine wp_iconst rfl ?_
      refine wp_goto rfl (lo' := [none, none, none, none]) rfl ?_
      exact wp_zret rfl rfl (by decide) H
  · have H := H.2 q32
    refine wp_aload_n rfl rfl ?_
    obtain ⟨g30, g31, H⟩ := H
    refine wp_getR rfl rfl g30 g31 ?_
    refine wp_iload_n rfl rfl ?_
    obtain ⟨g29, H⟩ := H
    refine wp_iald rfl g29 ?_
    refine wp_iconst rfl ?_
    refine wp_icmp_ne rfl (lo1 := [some (.ref l0), some (.int l1), some (.int l2), some (.int l3)]) (lo2 := [some (.ref l0), some (.int l1), some (.int l2), some (.int l3)]) rfl rfl (fun q28 => ?_) (fun q28 => ?_)
    · have H := H.1 q28
      refine wp_aload_n rfl rfl ?_
      obtain ⟨g15, g16, H⟩ := H
      refine wp_getR rfl rfl g15 g16 ?_
      refine wp_iload_n rfl rfl ?_
      obtain ⟨g14, H⟩ := H
      refine wp_iald rfl g14 ?_
      refine wp_iconst rfl ?_
      refine wp_icmp_ne rfl (lo1 := [some (.ref l0), some (.int l1), some (.int l2), some (.int l3)]) (lo2 := [some (.ref l0), some (.int l1), some (.int l2), some (.int l3)]) rfl rfl (fun q13 => ?_) (fun q13 => ?_)
      · have H := H.1 q13
        refine wp_iinc rfl rfl rfl (lo' := [some (.ref l0), some (.int l1), some (.int l2), some (.int (l3 + (1 : Int32)))]) rfl ?_
        refine wp_goto rfl (lo' := [some (.ref l0), some (.int l1), some (.int l2), some (.int (l3 + (1 : Int32)))]) rfl ?_
        exact H
      · have H := H.2 q13
        refine wp_iload_n rfl rfl ?_
        refine wp_if_eq rfl (lo1 := [none, none, none, none]) (lo2 := [some (.ref l0), some (.int l1), some (.int l2), some (.int l3)]) rfl rfl (fun q12 => ?_) (fun q12 => ?_)
        · have H := H.1 q12
          refine wp_iconst rfl ?_
          exact wp_zret rfl rfl (by decide) H
        · have H := H.2 q12
          refine wp_aload_n rfl rfl ?_
          obtain ⟨g10, g11, H⟩ := H
          refine wp_getR rfl rfl g10 g11 ?_
          refine wp_iload_n rfl rfl ?_
          refine wp_iconst rfl ?_
          refine wp_isub rfl ?_
          obtain ⟨g9, H⟩ := H
          refine wp_iald rfl g9 ?_
          refine wp_aload_n rfl rfl ?_
          obtain ⟨g7, g8, H⟩ := H
          refine wp_getR rfl rfl g7 g8 ?_
          refine wp_aload_n rfl rfl ?_
          refine wp_iload_n rfl rfl ?_
          obtain ⟨g6, H⟩ := H
          refine wp_callvI rfl rfl (Or.inl rfl) (lo' := [some (.ref l0), some (.int l1), some (.int l2), some (.int l3)]) rfl g6 ⟨Nat.le_of_ble_eq_true rfl, Nat.le_of_ble_eq_true rfl, Nat.le_of_ble_eq_true rfl, Nat.le_of_ble_eq_true rfl⟩ (bd' := (0, 0)) rfl ?_
          refine (wq_M_digitAt_ok H).conI (fun v3 h2 H => ?_)
          obtain ⟨g5, H⟩ := H
          refine wp_iald rfl g5 ?_
          refine wp_icmp_eq rfl (lo1 := [some (.ref l0), some (.int l1), some (.int l2), some (.int l3)]) (lo2 := [none, none, none, none]) rfl rfl (fun q4 => ?_) (fun q4 => ?_)
          · have H := H.1 q4
            refine wp_iinc rfl rfl rfl (lo' := [some (.ref l0), some (.int l1), some (.int (l2 + (-1 : Int32))), some (.int l3)]) rfl ?_
            refine wp_iinc rfl rfl rfl (lo' := [some (.ref l0), some (.int l1), some (.int (l2 + (-1 : Int32))), some (.int (l3 + (1 : Int32)))]) rfl ?_
            refine wp_goto rfl (lo' := [some (.ref l0), some (.int l1), some (.int (l2 + (-1 : Int32))), some (.int (l3 + (1 : Int32)))]) rfl ?_
            exact H
          · have H := H.2 q4
            refine wp_iconst rfl ?_
            exact wp_zret rfl rfl (by decide) H
    · have H := H.2 q28
      refine wp_aload_n rfl rfl ?_
      obtain ⟨g26, g27, H⟩ := H
      refine wp_getR rfl rfl g26 g27 ?_
      refine wp_iload_n rfl rfl ?_
      refine wp_aload_n rfl rfl ?_
      obtain ⟨g24, g25, H⟩ := H
      refine wp_getR rfl rfl g24 g25 ?_
      refine wp_aload_n rfl rfl ?_
      refine wp_iload_n rfl rfl ?_
      obtain ⟨g23, H⟩ := H
      refine wp_callvI rfl rfl (Or.inl rfl) (lo' := [some (.ref l0), some (.int l1), some (.int l2), some (.int l3)]) rfl g23 ⟨Nat.le_of_ble_eq_true rfl, Nat.le_of_ble_eq_true rfl, Nat.le_of_ble_eq_true rfl, Nat.le_of_ble_eq_true rfl⟩ (bd' := (0, 0)) rfl ?_
      refine (wq_M_digitAt_ok H).conI (fun v18 h17 H => ?_)
      obtain ⟨g22, H⟩ := H
      refine wp_iald rfl g22 ?_
      obtain ⟨g20, H⟩ := H
      obtain ⟨h19, e21⟩ : ∃ z : HP, z = stI h17 (gR h l0 9) l2.toNatClampNeg (gI h17 (gR h l0 1) v18.toNatClampNeg) := ⟨_, rfl⟩
      have H := H h19 e21
      refine wp_iast rfl g20 e21 ?_
      refine wp_iinc rfl rfl rfl (lo' := [some (.ref l0), some (.int l1), some (.int (l2 + (1 : Int32))), some (.int l3)]) rfl ?_
      refine wp_goto rfl (lo' := [some (.ref l0), some (.int l1), some (.int (l2 + (1 : Int32))), some (.int l3)]) rfl ?_
      refine wp_iinc rfl rfl rfl (lo' := [some (.ref l0), some (.int l1), some (.int (l2 + (1 : Int32))), some (.int (l3 + (1 : Int32)))]) rfl ?_
      refine wp_goto rfl (lo' := [some (.ref l0), some (.int l1), some (.int (l2 + (1 : Int32))), some (.int (l3 + (1 : Int32)))]) rfl ?_
      exact H
def wq_M_isTorn (p0 : Nat) (p1 : Int32) (h : HP) (K : Int32 → HP → Prop) : Prop :=
  Wp k_M_isTorn 8 [some (.ref p0), some (.int p1), some (.int (0 : Int32)), some (.int ((600 : Int32) * p1))] [] h (0, 0) (QI K)
theorem wq_M_isTorn_ok {p0 : Nat} {p1 : Int32} {h : HP} {K : Int32 → HP → Prop} (H : wq_M_isTorn p0 p1 h K) : Wp k_M_isTorn 0 [some (.ref p0), some (.int p1), none, none] [] h (0, 0) (QI K) := by
  unfold wq_M_isTorn at H
  refine wp_iconst rfl ?_
  refine wp_istore_n rfl rfl (lo' := [some (.ref p0), some (.int p1), some (.int (0 : Int32)), none]) rfl ?_
  refine wp_sipush rfl ?_
  refine wp_iload_n rfl rfl ?_
  refine wp_imul rfl ?_
  refine wp_istore_n rfl rfl (lo' := [some (.ref p0), some (.int p1), some (.int (0 : Int32)), some (.int ((600 : Int32) * p1))]) rfl ?_
  exact H
def wb_M_alike_16 (l0 : Nat) (l1 : Int32) (l2 : Int32) (l3 : Int32) (l5 : Int32) (l6 : Int32) (h : HP) (K : Int32 → HP → Prop) : Prop :=
  (l2 ≤ l6 → (l5 = 0 ∨ l5 = 1) ∧ K l5 h) ∧ (¬ l2 ≤ l6 → (l5 = 0 → (l5 = 0 ∨ l5 = 1) ∧ K l5 h) ∧ (¬ l5 = 0 → isO h l0 10 ∧ 0 < gR h l0 1 ∧ isL h (gR h l0 1) 100 (l1 + l6) ∧ wq_M_small (gI h (gR h l0 1) (l1 + l6).toNatClampNeg) h (fun v3 h2 => isO h2 l0 10 ∧ 0 < gR h2 l0 1 ∧ isL h2 (gR h2 l0 1) 100 (l3 + l6) ∧ wq_M_small (gI h2 (gR h2 l0 1) (l3 + l6).toNatClampNeg) h2 (fun v5 h4 => (¬ v3 = v5 → Wp k_M_alike 16 [some (.ref l0), some (.int l1), some (.int l2), some (.int l3), none, some (.int (0 : Int32)), some (.int (l6 + (1 : Int32)))] [] h4 (0, 0) (QI K)) ∧ (v3 = v5 → Wp k_M_alike 16 [some (.ref l0), some (.int l1), some (.int l2), some (.int l3), none, some (.int (1 : Int32)), some (.int (l6 + (1 : Int32)))] [] h4 (0, 0) (QI K))))))
set_option maxRecDepth 100000 in
set_option maxHeartbeats 4000000 in
theorem wb_M_alike_16_ok {l0 : Nat} {l1 : Int32} {l2 : Int32} {l3 : Int32} {l5 : Int32} {l6 : Int32} {h : HP} {K : Int32 → HP → Prop} (H : wb_M_alike_16 l0 l1 l2 l3 l5 l6 h K) : Wp k_M_alike 16 [some (.ref l0), some (.int l1), some (.int l2), some (.int l3), none, some (.int l5), some (.int l6)] [] h (0, 0) (QI K) := by
  unfold wb_M_alike_16 at H
  refine wp_iload rfl rfl ?_
  refine wp_iload_n rfl rfl ?_
  refine wp_icmp_ge rfl (lo1 := [none, none, none, none, none, some (.int l5), none]) (lo2 := [some (.ref l0), some (.int l1), some (.int l2), some (.int l3), none, some (.int l5), some (.int l6)]) rfl rfl (fun q14 => ?_) (fun q14 => ?_)
  · have H := H.1 q14
    refine wp_iload rfl rfl ?_
    exact wp_zret rfl rfl H.1 H.2
  · have H := H.2 q14
    refine wp_iload rfl rfl ?_
    refine wp_if_eq rfl (lo1 := [none, none, none, none, none, some (.int l5), none]) (lo2 := [some (.ref l0), some (.int l1), some (.int l2), some (.int l3), none, some (.int l5), some (.int l6)]) rfl rfl (fun q13 => ?_) (fun q13 => ?_)
    · have H := H.1 q13
      refine wp_iload rfl rfl ?_
      exact wp_zret rfl rfl H.1 H.2
    · have H := H.2 q13
      refine wp_aload_n rfl rfl ?_
      obtain ⟨g11, g12, H⟩ := H
      refine wp_getR rfl rfl g11 g12 ?_
      refine wp_iload_n rfl rfl ?_
      refine wp_iload rfl rfl ?_
      refine wp_iadd rfl ?_
      obtain ⟨g10, H⟩ := H
      refine wp_iald rfl g10 ?_
      refine wp_callsI rfl rfl rfl (Or.inl rfl) (lo' := [some (.ref l0), some (.int l1), some (.int l2), some (.int l3), none, some (.int l5), some (.int l6)]) rfl ⟨Nat.le_of_ble_eq_true rfl, Nat.le_of_ble_eq_true rfl, Nat.le_of_ble_eq_true rfl, Nat.le_of_ble_eq_true rfl⟩ (bd' := (0, 0)) rfl ?_
      refine (wq_M_small_ok H).conI (fun v3 h2 H => ?_)
      refine wp_aload_n rfl rfl ?_
      obtain ⟨g8, g9, H⟩ := H
      refine wp_getR rfl rfl g8 g9 ?_
      refine wp_iload_n rfl rfl ?_
      refine wp_iload rfl rfl ?_
      refine wp_iadd rfl ?_
      obtain ⟨g7, H⟩ := H
      refine wp_iald rfl g7 ?_
      refine wp_callsI rfl rfl rfl (Or.inl rfl) (lo' := [some (.ref l0), some (.int l1), some (.int l2), some (.int l3), none, some (.int l5), some (.int l6)]) rfl ⟨Nat.le_of_ble_eq_true rfl, Nat.le_of_ble_eq_true rfl, Nat.le_of_ble_eq_true rfl, Nat.le_of_ble_eq_true rfl⟩ (bd' := (0, 0)) rfl ?_
      refine (wq_M_small_ok H).conI (fun v5 h4 H => ?_)
      refine wp_icmp_ne rfl (lo1 := [some (.ref l0), some (.int l1), some (.int l2), some (.int l3), none, some (.int l5), some (.int l6)]) (lo2 := [some (.ref l0), some (.int l1), some (.int l2), some (.int l3), none, some (.int l5), some (.int l6)]) rfl rfl (fun q6 => ?_) (fun q6 => ?_)
      · have H := H.1 q6
        refine wp_iconstk (lo' := [some (.ref l0), some (.int l1), some (.int l2), some (.int l3), none, none, some (.int l6)]) rfl rfl ?_
        refine wp_istore rfl rfl (lo' := [some (.ref l0), some (.int l1), some (.int l2), some (.int l3), none, some (.int (0 : Int32)), some (.int l6)]) rfl ?_
        refine wp_iinc rfl rfl rfl (lo' := [some (.ref l0), some (.int l1), some (.int l2), some (.int l3), none, some (.int (0 : Int32)), some (.int (l6 + (1 : Int32)))]) rfl ?_
        refine wp_goto rfl (lo' := [some (.ref l0), some (.int l1), some (.int l2), some (.int l3), none, some (.int (0 : Int32)), some (.int (l6 + (1 : Int32)))]) rfl ?_
        exact H
      · have H := H.2 q6
        refine wp_iconst rfl ?_
        refine wp_goto rfl (lo' := [some (.ref l0), some (.int l1), some (.int l2), some (.int l3), none, none, some (.int l6)]) rfl ?_
        refine wp_istore rfl rfl (lo' := [some (.ref l0), some (.int l1), some (.int l2), some (.int l3), none, some (.int (1 : Int32)), some (.int l6)]) rfl ?_
        refine wp_iinc rfl rfl rfl (lo' := [some (.ref l0), some (.int l1), some (.int l2), some (.int l3), none, some (.int (1 : Int32)), some (.int (l6 + (1 : Int32)))]) rfl ?_
        refine wp_goto rfl (lo' := [some (.ref l0), some (.int l1), some (.int l2), some (.int l3), none, some (.int (1 : Int32)), some (.int (l6 + (1 : Int32)))]) rfl ?_
        exact H
def wq_M_alike (p0 : Nat) (p1 : Int32) (p2 : Int32) (p3 : Int32) (p4 : Int32) (h : HP) (K : Int32 → HP → Prop) : Prop :=
  (¬ p2 = p4 → Wp k_M_alike 16 [some (.ref p0), some (.int p1), some (.int p2), some (.int p3), none, some (.int (0 : Int32)), some (.int (0 : Int32))] [] h (0, 0) (QI K)) ∧ (p2 = p4 → Wp k_M_alike 16 [some (.ref p0), some (.int p1), some (.int p2), some (.int p3), none, some (.int (1 : Int32)), some (.int (0 : Int32))] [] h (0, 0) (QI K))
theorem wq_M_alike_ok {p0 : Nat} {p1 : Int32} {p2 : Int32} {p3 : Int32} {p4 : Int32} {h : HP} {K : Int32 → HP → Prop} (H : wq_M_alike p0 p1 p2 p3 p4 h K) : Wp k_M_alike 0 [some (.ref p0), some (.int p1), some (.int p2), some (.int p3), some (.int p4), none, none] [] h (0, 0) (QI K) := by
  unfold wq_M_alike at H
  refine wp_iload_n rfl rfl ?_
  refine wp_iload rfl rfl ?_
  refine wp_icmp_ne rfl (lo1 := [some (.ref p0), some (.int p1), some (.int p2), some (.int p3), some (.int p4), none, none]) (lo2 := [some (.ref p0), some (.int p1), some (.int p2), some (.int p3), some (.int p4), none, none]) rfl rfl (fun q1 => ?_) (fun q1 => ?_)
  · have H := H.1 q1
    refine wp_iconstk (lo' := [some (.ref p0), some (.int p1), some (.int p2), some (.int p3), none, none, none]) rfl rfl ?_
    refine wp_istore rfl rfl (lo' := [some (.ref p0), some (.int p1), some (.int p2), some (.int p3), none, some (.int (0 : Int32)), none]) rfl ?_
    refine wp_iconst rfl ?_
    refine wp_istore rfl rfl (lo' := [some (.ref p0), some (.int p1), some (.int p2), some (.int p3), none, some (.int (0 : Int32)), some (.int (0 : Int32))]) rfl ?_
    exact H
  · have H := H.2 q1
    refine wp_iconst rfl ?_
    refine wp_goto rfl (lo' := [some (.ref p0), some (.int p1), some (.int p2), some (.int p3), none, none, none]) rfl ?_
    refine wp_istore rfl rfl (lo' := [some (.ref p0), some (.int p1), some (.int p2), some (.int p3), none, some (.int (1 : Int32)), none]) rfl ?_
    refine wp_iconst rfl ?_
    refine wp_istore rfl rfl (lo' := [some (.ref p0), some (.int p1), some (.int p2), some (.int p3), none, some (.int (1 : Int32)), some (.int (0 : Int32))]) rfl ?_
    exact H
def wb_M_isWord_11 (l0 : Nat) (l1 : Int32) (l2 : Int32) (l3 : Int32) (l4 : Int32) (h : HP) (K : Int32 → HP → Prop) : Prop :=
  (l1 + l2 ≤ l4 → (l3 = 0 ∨ l3 = 1) ∧ K l3 h) ∧ (¬ l1 + l2 ≤ l4 → (l3 = 0 → (l3 = 0 ∨ l3 = 1) ∧ K l3 h) ∧ (¬ l3 = 0 → isO h l0 10 ∧ 0 < gR h l0 1 ∧ isL h (gR h l0 1) 100 l4 ∧ wq_M_isLetter (gI h (gR h l0 1) l4.toNatClampNeg) h (fun v4 h3 => Wp k_M_isWord 11 [some (.ref l0), some (.int l1), some (.int l2), some (.int v4), some (.int (l4 + (1 : Int32)))] [] h3 (0, 0) (QI K))))
theorem wb_M_isWord_11_ok {l0 : Nat} {l1 : Int32} {l2 : Int32} {l3 : Int32} {l4 : Int32} {h : HP} {K : Int32 → HP → Prop} (H : wb_M_isWord_11 l0 l1 l2 l3 l4 h K) : Wp k_M_isWord 11 [some (.ref l0), some (.int l1), some (.int l2), some (.int l3), some (.int l4)] [] h (0, 0) (QI K) := by
  unfold wb_M_isWord_11 at H
  refine wp_iload rfl rfl ?_
  refine wp_iload_n rfl rfl ?_
  refine wp_iload_n rfl rfl ?_
  refine wp_iadd rfl ?_
  refine wp_icmp_ge rfl (lo1 := [none, none, none, some (.int l3), none]) (lo2 := [some (.ref l0), some (.int l1), some (.int l2), some (.int l3), some (.int l4)]) rfl rfl (fun q9 => ?_) (fun q9 => ?_)
  · have H := H.1 q9
    refine wp_iload_n rfl rfl ?_
    exact wp_zret rfl rfl H.1 H.2
  · have H := H.2 q9
    refine wp_iload_n rfl rfl ?_
    refine wp_if_eq rfl (lo1 := [none, none, none, some (.int l3), none]) (lo2 := [some (.ref l0), some (.int l1), some (.int l2), some (.int l3), some (.int l4)]) rfl rfl (fun q8 => ?_) (fun q8 => ?_)
    · have H := H.1 q8
      refine wp_iload_n rfl rfl ?_
      exact wp_zret rfl rfl H.1 H.2
    · have H := H.2 q8
      refine wp_aload_n rfl rfl ?_
      obtain ⟨g6, g7, H⟩ := H
      refine wp_getR rfl rfl g6 g7 ?_
      refine wp_iload rfl rfl ?_
      obtain ⟨g5, H⟩ := H
      refine wp_iald rfl g5 ?_
      refine wp_callsI rfl rfl rfl (Or.inr rfl) (lo' := [some (.ref l0), some (.int l1), some (.int l2), some (.int l3), some (.int l4)]) rfl ⟨Nat.le_of_ble_eq_true rfl, Nat.le_of_ble_eq_true rfl, Nat.le_of_ble_eq_true rfl, Nat.le_of_ble_eq_true rfl⟩ (bd' := (0, 0)) rfl ?_
      refine (wq_M_isLetter_ok H).conI (fun v4 h3 H => ?_)
      refine wp_istore_n rfl rfl (lo' := [some (.ref l0), some (.int l1), some (.int l2), some (.int v4), some (.int l4)]) rfl ?_
      refine wp_iinc rfl rfl rfl (lo' := [some (.ref l0), some (.int l1), some (.int l2), some (.int v4), some (.int (l4 + (1 : Int32)))]) rfl ?_
      refine wp_goto rfl (lo' := [some (.ref l0), some (.int l1), some (.int l2), some (.int v4), some (.int (l4 + (1 : Int32)))]) rfl ?_
      exact H
def wq_M_isWord (p0 : Nat) (p1 : Int32) (p2 : Int32) (h : HP) (K : Int32 → HP → Prop) : Prop :=
  wq_M_in p2 (1 : Int32) (8 : Int32) h (fun v2 h1 => Wp k_M_isWord 11 [some (.ref p0), some (.int p1), some (.int p2), some (.int v2), some (.int p1)] [] h1 (0, 0) (QI K))
theorem wq_M_isWord_ok {p0 : Nat} {p1 : Int32} {p2 : Int32} {h : HP} {K : Int32 → HP → Prop} (H : wq_M_isWord p0 p1 p2 h K) : Wp k_M_isWord 0 [some (.ref p0), some (.int p1), some (.int p2), none, none] [] h (0, 0) (QI K) := by
  unfold wq_M_isWord at H
  refine wp_iload_n rfl rfl ?_
  refine wp_iconst rfl ?_
  refine wp_bipush rfl ?_
  refine wp_callsI rfl rfl rfl (Or.inr rfl) (lo' := [some (.ref p0), some (.int p1), some (.int p2), none, none]) rfl ⟨Nat.le_of_ble_eq_true rfl, Nat.le_of_ble_eq_true rfl, Nat.le_of_ble_eq_true rfl, Nat.le_of_ble_eq_true rfl⟩ (bd' := (0, 0)) rfl ?_
  refine (wq_M_in_ok H).conI (fun v2 h1 H => ?_)
  refine wp_istore_n rfl rfl (lo' := [some (.ref p0), some (.int p1), some (.int p2), some (.int v2), none]) rfl ?_
  refine wp_iload_n rfl rfl ?_
  refine wp_istore rfl rfl (lo' := [some (.ref p0), some (.int p1), some (.int p2), some (.int v2), some (.int p1)]) rfl ?_
  exact H
def wb_M_isThat_33 (l0 : Nat) (l1 : Int32) (l2 : Int32) (l3 : Int32) (l4 : Int32) (h : HP) (K : Int32 → HP → Prop) : Prop :=
  isO h l0 10 ∧ 0 < gR h l0 11 ∧ isL h (gR h l0 11) 100 l2 ∧ (gI h (gR h l0 11) l2.toNatClampNeg ≤ l4 → (l3 = 0 ∨ l3 = 1) ∧ K l3 h) ∧ (¬ gI h (gR h l0 11) l2.toNatClampNeg ≤ l4 → (l3 = 0 → (l3 = 0 ∨ l3 = 1) ∧ K l3 h) ∧ (¬ l3 = 0 → isO h l0 10 ∧ 0 < gR h l0 1 ∧ isO h l0 10 ∧ 0 < gR h l0 4 ∧ isL h (gR h l0 4) 100 l1 ∧ isL h (gR h l0 1) 100 ((gI h (gR h l0 4) l1.toNatClampNeg) + l4) ∧ wq_M_small (gI h (gR h l0 1) ((gI h (gR h l0 4) l1.toNatClampNeg) + l4).toNatClampNeg) h (fun v13 h12 => isO h12 l0 10 ∧ 0 < gR h12 l0 10 ∧ isL h12 (gR h12 l0 10) 100 (((8 : Int32) * l2) + l4) ∧ wq_M_small (gI h12 (gR h12 l0 10) (((8 : Int32) * l2) + l4).toNatClampNeg) h12 (fun v15 h14 => (¬ v13 = v15 → Wp k_M_isThat 33 [some (.ref l0), some (.int l1), some (.int l2), some (.int (0 : Int32)), some (.int (l4 + (1 : Int32)))] [] h14 (0, 0) (QI K)) ∧ (v13 = v15 → Wp k_M_isThat 33 [some (.ref l0), some (.int l1), some (.int l2), some (.int (1 : Int32)), some (.int (l4 + (1 : Int32)))] [] h14 (0, 0) (QI K))))))
set_option maxRecDepth 100000 in
set_option maxHeartbeats 4000000 in
theorem wb_M_isThat_33_ok {l0 : Nat} {l1 : Int32} {l2 : Int32} {l3 : Int32} {l4 : Int32} {h : HP} {K : Int32 → HP → Prop} (H : wb_M_isThat_33 l0 l1 l2 l3 l4 h K) : Wp k_M_isThat 33 [some (.ref l0), some (.int l1), some (.int l2), some (.int l3), some (.int l4)] [] h (0, 0) (QI K) := by
  unfold wb_M_isThat_33 at H
  refine wp_iload rfl rfl ?_
  refine wp_aload_n rfl rfl ?_
  obtain ⟨g29, g30, H⟩ := H
  refine wp_getR rfl rfl g29 g30 ?_
  refine wp_iload_n rfl rfl ?_
  obtain ⟨g28, H⟩ := H
  refine wp_iald rfl g28 ?_
  refine wp_icmp_ge rfl (lo1 := [none, none, none, some (.int l3), none]) (lo2 := [some (.ref l0), some (.int l1), some (.int l2), some (.int l3), some (.int l4)]) rfl rfl (fun q27 => ?_) (fun q27 => ?_)
  · have H := H.1 q27
    refine wp_iload_n rfl rfl ?_
    exact wp_zret rfl rfl H.1 H.2
  · have H := H.2 q27
    refine wp_iload_n rfl rfl ?_
    refine wp_if_eq rfl (lo1 := [none, none, none, some (.int l3), none]) (lo2 := [some (.ref l0), some (.int l1), some (.int l2), some (.int l3), some (.int l4)]) rfl rfl (fun q26 => ?_) (fun q26 => ?_)
    · have H := H.1 q26
      refine wp_iload_n rfl rfl ?_
      exact wp_zret rfl rfl H.1 H.2
    · have H := H.2 q26
      refine wp_aload_n rfl rfl ?_
      obtain ⟨g24, g25, H⟩ := H
      refine wp_getR rfl rfl g24 g25 ?_
      refine wp_aload_n rfl rfl ?_
      obtain ⟨g22, g23, H⟩ := H
      refine wp_getR rfl rfl g22 g23 ?_
      refine wp_iload_n rfl rfl ?_
      obtain ⟨g21, H⟩ := H
      refine wp_iald rfl g21 ?_
      refine wp_iload rfl rfl ?_
      refine wp_iadd rfl ?_
      obtain ⟨g20, H⟩ := H
      refine wp_iald rfl g20 ?_
      refine wp_callsI rfl rfl rfl (Or.inl rfl) (lo' := [some (.ref l0), some (.int l1), some (.int l2), some (.int l3), some (.int l4)]) rfl ⟨Nat.le_of_ble_eq_true rfl, Nat.le_of_ble_eq_true rfl, Nat.le_of_ble_eq_true rfl, Nat.le_of_ble_eq_true rfl⟩ (bd' := (0, 0)) rfl ?_
      refine (wq_M_small_ok H).conI (fun v13 h12 H => ?_)
      refine wp_aload_n rfl rfl ?_
      obtain ⟨g18, g19, H⟩ := H
      refine wp_getR rfl rfl g18 g19 ?_
      refine wp_bipush rfl ?_
      refine wp_iload_n rfl rfl ?_
      refine wp_imul rfl ?_
      refine wp_iload rfl rfl ?_
      refine wp_iadd rfl ?_
      obtain ⟨g17, H⟩ := H
      refine wp_iald rfl g17 ?_
      refine wp_callsI rfl rfl rfl (Or.inl rfl) (lo' := [some (.ref l0), some (.int l1), some (.int l2), some (.int l3), some (.int l4)]) rfl ⟨Nat.le_of_ble_eq_true rfl, Nat.le_of_ble_eq_true rfl, Nat.le_of_ble_eq_true rfl, Nat.le_of_ble_eq_true rfl⟩ (bd' := (0, 0)) rfl ?_
      refine (wq_M_small_ok H).conI (fun v15 h14 H => ?_)
      refine wp_icmp_ne rfl (lo1 := [some (.ref l0), some (.int l1), some (.int l2), some (.int l3), some (.int l4)]) (lo2 := [some (.ref l0), some (.int l1), some (.int l2), some (.int l3), some (.int l4)]) rfl rfl (fun q16 => ?_) (fun q16 => ?_)
      · have H := H.1 q16
        refine wp_iconstk (lo' := [some (.ref l0), some (.int l1), some (.int l2), none, some (.int l4)]) rfl rfl ?_
        refine wp_istore_n rfl rfl (lo' := [some (.ref l0), some (.int l1), some (.int l2), some (.int (0 : Int32)), some (.int l4)]) rfl ?_
        refine wp_iinc rfl rfl rfl (lo' := [some (.ref l0), some (.int l1), some (.int l2), some (.int (0 : Int32)), some (.int (l4 + (1 : Int32)))]) rfl ?_
        refine wp_goto rfl (lo' := [some (.ref l0), some (.int l1), some (.int l2), some (.int (0 : Int32)), some (.int (l4 + (1 : Int32)))]) rfl ?_
        exact H
      · have H := H.2 q16
        refine wp_iconst rfl ?_
        refine wp_goto rfl (lo' := [some (.ref l0), some (.int l1), some (.int l2), none, some (.int l4)]) rfl ?_
        refine wp_istore_n rfl rfl (lo' := [some (.ref l0), some (.int l1), some (.int l2), some (.int (1 : Int32)), some (.int l4)]) rfl ?_
        refine wp_iinc rfl rfl rfl (lo' := [some (.ref l0), some (.int l1), some (.int l2), some (.int (1 : Int32)), some (.int (l4 + (1 : Int32)))]) rfl ?_
        refine wp_goto rfl (lo' := [some (.ref l0), some (.int l1), some (.int l2), some (.int (1 : Int32)), some (.int (l4 + (1 : Int32)))]) rfl ?_
        exact H
def wq_M_isThat (p0 : Nat) (p1 : Int32) (p2 : Int32) (h : HP) (K : Int32 → HP → Prop) : Prop :=
  isO h p0 10 ∧ 0 < gR h p0 3 ∧ isL h (gR h p0 3) 100 p1 ∧ (¬ gI h (gR h p0 3) p1.toNatClampNeg = 0 → Wp k_M_isThat 33 [some (.ref p0), some (.int p1), some (.int p2), some (.int (0 : Int32)), some (.int (0 : Int32))] [] h (0, 0) (QI K)) ∧ (gI h (gR h p0 3) p1.toNatClampNeg = 0 → isO h p0 10 ∧ 0 < gR h p0 5 ∧ isL h (gR h p0 5) 100 p1 ∧ isO h p0 10 ∧ 0 < gR h p0 11 ∧ isL h (gR h p0 11) 100 p2 ∧ (¬ gI h (gR h p0 5) p1.toNatClampNeg = gI h (gR h p0 11) p2.toNatClampNeg → Wp k_M_isThat 33 [some (.ref p0), some (.int p1), some (.int p2), some (.int (0 : Int32)), some (.int (0 : Int32))] [] h (0, 0) (QI K)) ∧ (gI h (gR h p0 5) p1.toNatClampNeg = gI h (gR h p0 11) p2.toNatClampNeg → Wp k_M_isThat 33 [some (.ref p0), some (.int p1), some (.int p2), some (.int (1 : Int32)), some (.int (0 : Int32))] [] h (0, 0) (QI K)))
theorem wq_M_isThat_ok {p0 : Nat} {p1 : Int32} {p2 : Int32} {h : HP} {K : Int32 → HP → Prop} (H : wq_M_isThat p0 p1 p2 h K) : Wp k_M_isThat 0 [some (.ref p0), some (.int p1), some (.int p2), none, none] [] h (0, 0) (QI K) := by
  unfold wq_M_isThat at H
  refine wp_aload_n rfl rfl ?_
  obtain ⟨g10, g11, H⟩ := H
  refine wp_getR rfl rfl g10 g11 ?_
  refine wp_iload_n rfl rfl ?_
  obtain ⟨g9, H⟩ := H
  refine wp_iald rfl g9 ?_
  refine wp_if_ne rfl (lo1 := [some (.ref p0), some (.int p1), some (.int p2), none, none]) (lo2 := [some (.ref p0), some (.int p1), some (.int p2), none, none]) rfl rfl (fun q8 => ?_) (fun q8 => ?_)
  · have H := H.1 q8
    refine wp_iconstk (lo' := [some (.ref p0), some (.int p1), some (.int p2), none, none]) rfl rfl ?_
    refine wp_istore_n rfl rfl (lo' := [some (.ref p0), some (.int p1), some (.int p2), some (.int (0 : Int32)), none]) rfl ?_
    refine wp_iconst rfl ?_
    refine wp_istore rfl rfl (lo' := [some (.ref p0), some (.int p1), some (.int p2), some (.int (0 : Int32)), some (.int (0 : Int32))]) rfl ?_
    exact H
  · have H := H.2 q8
    refine wp_aload_n rfl rfl ?_
    obtain ⟨g6, g7, H⟩ := H
    refine wp_getR rfl rfl g6 g7 ?_
    refine wp_iload_n rfl rfl ?_
    obtain ⟨g5, H⟩ := H
    refine wp_iald rfl g5 ?_
    refine wp_aload_n rfl rfl ?_
    obtain ⟨g3, g4, H⟩ := H
    refine wp_getR rfl rfl g3 g4 ?_
    refine wp_iload_n rfl rfl ?_
    obtain ⟨g2, H⟩ := H
    refine wp_iald rfl g2 ?_
    refine wp_icmp_ne rfl (lo1 := [some (.ref p0), some (.int p1), some (.int p2), none, none]) (lo2 := [some (.ref p0), some (.int p1), some (.int p2), none, none]) rfl rfl (fun q1 => ?_) (fun q1 => ?_)
    · have H := H.1 q1
      refine wp_iconstk (lo' := [some (.ref p0), some (.int p1), some (.int p2), none, none]) rfl rfl ?_
      refine wp_istore_n rfl rfl (lo' := [some (.ref p0), some (.int p1), some (.int p2), some (.int (0 : Int32)), none]) rfl ?_
      refine wp_iconst rfl ?_
      refine wp_istore rfl rfl (lo' := [some (.ref p0), some (.int p1), some (.int p2), some (.int (0 : Int32)), some (.int (0 : Int32))]) rfl ?_
      exact H
    · have H := H.2 q1
      refine wp_iconst rfl ?_
      refine wp_goto rfl (lo' := [some (.ref p0), some (.int p1), some (.int p2), none, none]) rfl ?_
      refine wp_istore_n rfl rfl (lo' := [some (.ref p0), some (.int p1), some (.int p2), some (.int (1 : Int32)), none]) rfl ?_
      refine wp_iconst rfl ?_
      refine wp_istore rfl rfl (lo' := [some (.ref p0), some (.int p1), some (.int p2), some (.int (1 : Int32)), some (.int (0 : Int32))]) rfl ?_
      exact H
def wq_M_isSegment (p0 : Nat) (p1 : Int32) (h : HP) (K : Int32 → HP → Prop) : Prop :=
  isO h p0 10 ∧ wq_M_in p1 (0 : Int32) ((gI h p0 15) - (1 : Int32)) h (fun v2 h1 => (v2 = 0 ∨ v2 = 1) ∧ K v2 h1)
theorem wq_M_isSegment_ok {p0 : Nat} {p1 : Int32} {h : HP} {K : Int32 → HP → Prop} (H : wq_M_isSegment p0 p1 h K) : Wp k_M_isSegment 0 [some (.ref p0), some (.int p1)] [] h (0, 0) (QI K) := by
  unfold wq_M_isSegment at H
  refine wp_iload_n rfl rfl ?_
  refine wp_iconst rfl ?_
  refine wp_aload_n rfl rfl ?_
  obtain ⟨g3, H⟩ := H
  refine wp_getI rfl rfl g3 ?_
  refine wp_iconst rfl ?_
  refine wp_isub rfl ?_
  refine wp_callsI rfl rfl rfl (Or.inr rfl) (lo' := [some (.ref p0), some (.int p1)]) rfl ⟨Nat.le_of_ble_eq_true rfl, Nat.le_of_ble_eq_true rfl, Nat.le_of_ble_eq_true rfl, Nat.le_of_ble_eq_true rfl⟩ (bd' := (0, 0)) rfl ?_
  refine (wq_M_in_ok H).conI (fun v2 h1 H => ?_)
  exact wp_zret rfl rfl H.1 H.2
def wq_M_isPair (p0 : Nat) (p1 : Int32) (h : HP) (K : Int32 → HP → Prop) : Prop :=
  isO h p0 10 ∧ wq_M_in p1 (0 : Int32) ((gI h p0 19) - (1 : Int32)) h (fun v2 h1 => (v2 = 0 ∨ v2 = 1) ∧ K v2 h1)
theorem wq_M_isPair_ok {p0 : Nat} {p1 : Int32} {h : HP} {K : Int32 → HP → Prop} (H : wq_M_isPair p0 p1 h K) : Wp k_M_isPair 0 [some (.ref p0), some (.int p1)] [] h (0, 0) (QI K) := by
  unfold wq_M_isPair at H
  refine wp_iload_n rfl rfl ?_
  refine wp_iconst rfl ?_
  refine wp_aload_n rfl rfl ?_
  obtain ⟨g3, H⟩ := H
  refine wp_getI rfl rfl g3 ?_
  refine wp_iconst rfl ?_
  refine wp_isub rfl ?_
  refine wp_callsI rfl rfl rfl (Or.inr rfl) (lo' := [some (.ref p0), some (.int p1)]) rfl ⟨Nat.le_of_ble_eq_true rfl, Nat.le_of_ble_eq_true rfl, Nat.le_of_ble_eq_true rfl, Nat.le_of_ble_eq_true rfl⟩ (bd' := (0, 0)) rfl ?_
  refine (wq_M_in_ok H).conI (fun v2 h1 H => ?_)
  exact wp_zret rfl rfl H.1 H.2
def wq_M_comes (p0 : Nat) (p1 : Int32) (p2 : Int32) (h : HP) (K : HP → Prop) : Prop :=
  isO h p0 10 ∧ 0 < gR h p0 2 ∧ isL h (gR h p0 2) 100 (0 : Int32) ∧ isO h p0 10 ∧ isO h p0 10 ∧ wq_M_copy p0 (0 : Int32) (gI h (gR h p0 2) (0 : Int32).toNatClampNeg) ((22 : Int32) + (gI h p0 20)) h (fun h1 => isO h1 p0 10 ∧ 0 < gR h1 p0 2 ∧ isA h1 (gR h1 p0 2) 100 (0 : Int32) ∧ (∀ h2 : HP, h2 = stI h1 (gR h1 p0 2) (0 : Int32).toNatClampNeg (0 : Int32) → isO h2 p0 10 ∧ 0 < gR h2 p0 21 ∧ isO h2 p0 10 ∧ isA h2 (gR h2 p0 21) 100 (gI h2 p0 20) ∧ (∀ h3 : HP, h3 = stI h2 (gR h2 p0 21) (gI h2 p0 20).toNatClampNeg p1 → isO h3 p0 10 ∧ 0 < gR h3 p0 22 ∧ isO h3 p0 10 ∧ isA h3 (gR h3 p0 22) 100 (gI h3 p0 20) ∧ (∀ h4 : HP, h4 = stI h3 (gR h3 p0 22) (gI h3 p0 20).toNatClampNeg p2 → isO h4 p0 10 ∧ isO h4 p0 10 ∧ (∀ h5 : HP, h5 = stI h4 p0 20 ((gI h4 p0 20) + (1 : Int32)) → K h5)))))
theorem wq_M_comes_ok {p0 : Nat} {p1 : Int32} {p2 : Int32} {h : HP} {K : HP → Prop} (H : wq_M_comes p0 p1 p2 h K) : Wp k_M_comes 0 [some (.ref p0), some (.int p1), some (.int p2)] [] h (0, 0) (QV K) := by
  unfold wq_M_comes at H
  refine wp_aload_n rfl rfl ?_
  refine wp_iconst rfl ?_
  refine wp_aload_n rfl rfl ?_
  obtain ⟨g26, g27, H⟩ := H
  refine wp_getR rfl rfl g26 g27 ?_
  refine wp_iconst rfl ?_
  obtain ⟨g25, H⟩ := H
  refine wp_iald rfl g25 ?_
  refine wp_bipush rfl ?_
  refine wp_aload_n rfl rfl ?_
  obtain ⟨g24, H⟩ := H
  refine wp_getI rfl rfl g24 ?_
  refine wp_iadd rfl ?_
  obtain ⟨g23, H⟩ := H
  refine wp_callvV rfl rfl rfl (lo' := [some (.ref p0), some (.int p1), some (.int p2)]) rfl g23 ⟨Nat.le_of_ble_eq_true rfl, Nat.le_of_ble_eq_true rfl, Nat.le_of_ble_eq_true rfl, Nat.le_of_ble_eq_true rfl⟩ (bd' := (0, 0)) rfl ?_
  refine (wq_M_copy_ok H).conV (fun h1 H => ?_)
  refine wp_aload_n rfl rfl ?_
  obtain ⟨g21, g22, H⟩ := H
  refine wp_getR rfl rfl g21 g22 ?_
  refine wp_iconst rfl ?_
  refine wp_iconst rfl ?_
  obtain ⟨g19, H⟩ := H
  obtain ⟨h2, e20⟩ : ∃ z : HP, z = stI h1 (gR h1 p0 2) (0 : Int32).toNatClampNeg (0 : Int32) := ⟨_, rfl⟩
  have H := H h2 e20
  refine wp_iast rfl g19 e20 ?_
  refine wp_aload_n rfl rfl ?_
  obtain ⟨g17, g18, H⟩ := H
  refine wp_getR rfl rfl g17 g18 ?_
  refine wp_aload_n rfl rfl ?_
  obtain ⟨g16, H⟩ := H
  refine wp_getI rfl rfl g16 ?_
  refine wp_iload_n rfl rfl ?_
  obtain ⟨g14, H⟩ := H
  obtain ⟨h3, e15⟩ : ∃ z : HP, z = stI h2 (gR h2 p0 21) (gI h2 p0 20).toNatClampNeg p1 := ⟨_, rfl⟩
  have H := H h3 e15
  refine wp_iast rfl g14 e15 ?_
  refine wp_aload_n rfl rfl ?_
  obtain ⟨g12, g13, H⟩ := H
  refine wp_getR rfl rfl g12 g13 ?_
  refine wp_aload_n rfl rfl ?_
  obtain ⟨g11, H⟩ := H
  refine wp_getI rfl rfl g11 ?_
  refine wp_iload_n rfl rfl ?_
  obtain ⟨g9, H⟩ := H
  obtain ⟨h4, e10⟩ : ∃ z : HP, z = stI h3 (gR h3 p0 22) (gI h3 p0 20).toNatClampNeg p2 := ⟨_, rfl⟩
  have H := H h4 e10
  refine wp_iast rfl g9 e10 ?_
  refine wp_aload_n rfl rfl ?_
  refine wp_dupR rfl ?_
  obtain ⟨g8, H⟩ := H
  refine wp_getI rfl rfl g8 ?_
  refine wp_iconst rfl ?_
  refine wp_iadd rfl ?_
  obtain ⟨g6, H⟩ := H
  obtain ⟨h5, e7⟩ : ∃ z : HP, z = stI h4 p0 20 ((gI h4 p0 20) + (1 : Int32)) := ⟨_, rfl⟩
  have H := H h5 e7
  refine wp_putI rfl rfl g6 e7 ?_
  exact wp_vret rfl rfl H
def wq_M_undo (p0 : Nat) (h : HP) (K : Int32 → HP → Prop) : Prop :=
  isO h p0 10 ∧ (¬ gI h p0 20 = 0 → isO h p0 10 ∧ isO h p0 10 ∧ (∀ h1 : HP, h1 = stI h p0 20 ((gI h p0 20) - (1 : Int32)) → isO h1 p0 10 ∧ 0 < gR h1 p0 21 ∧ isO h1 p0 10 ∧ isL h1 (gR h1 p0 21) 100 (gI h1 p0 20) ∧ isO h1 p0 10 ∧ isO h1 p0 10 ∧ wq_M_latest p0 (gI h1 (gR h1 p0 21) (gI h1 p0 20).toNatClampNeg) (gI h1 p0 20) h1 (fun v3 h2 => (¬ v3 = (-1 : Int32) → K (gI h1 (gR h1 p0 21) (gI h1 p0 20).toNatClampNeg) h2) ∧ (v3 = (-1 : Int32) → isO h2 p0 10 ∧ isO h2 p0 10 ∧ (∀ h4 : HP, h4 = stI h2 p0 19 ((gI h2 p0 19) - (1 : Int32)) → K (gI h1 (gR h1 p0 21) (gI h1 p0 20).toNatClampNeg) h4))))) ∧ (gI h p0 20 = 0 → K (-4 : Int32) h)
theorem wq_M_undo_ok {p0 : Nat} {h : HP} {K : Int32 → HP → Prop} (H : wq_M_undo p0 h K) : Wp k_M_undo 0 [some (.ref p0), none] [] h (0, 0) (QI K) := by
  unfold wq_M_undo at H
  refine wp_aload_n rfl rfl ?_
  obtain ⟨g19, H⟩ := H
  refine wp_getI rfl rfl g19 ?_
  refine wp_if_ne rfl (lo1 := [some (.ref p0), none]) (lo2 := [some (.ref p0), none]) rfl rfl (fun q18 => ?_) (fun q18 => ?_)
  · have H := H.1 q18
    refine wp_aload_n rfl rfl ?_
    refine wp_dupR rfl ?_
    obtain ⟨g17, H⟩ := H
    refine wp_getI rfl rfl g17 ?_
    refine wp_iconst rfl ?_
    refine wp_isub rfl ?_
    obtain ⟨g15, H⟩ := H
    obtain ⟨h1, e16⟩ : ∃ z : HP, z = stI h p0 20 ((gI h p0 20) - (1 : Int32)) := ⟨_, rfl⟩
    have H := H h1 e16
    refine wp_putI rfl rfl g15 e16 ?_
    refine wp_aload_n rfl rfl ?_
    obtain ⟨g13, g14, H⟩ := H
    refine wp_getR rfl rfl g13 g14 ?_
    refine wp_aload_n rfl rfl ?_
    obtain ⟨g12, H⟩ := H
    refine wp_getI rfl rfl g12 ?_
    obtain ⟨g11, H⟩ := H
    refine wp_iald rfl g11 ?_
    refine wp_istore_n rfl rfl (lo' := [some (.ref p0), some (.int (gI h1 (gR h1 p0 21) (gI h1 p0 20).toNatClampNeg))]) rfl ?_
    refine wp_aload_n rfl rfl ?_
    refine wp_iload_n rfl rfl ?_
    refine wp_aload_n rfl rfl ?_
    obtain ⟨g10, H⟩ := H
    refine wp_getI rfl rfl g10 ?_
    obtain ⟨g9, H⟩ := H
    refine wp_callvI rfl rfl (Or.inl rfl) (lo' := [some (.ref p0), some (.int (gI h1 (gR h1 p0 21) (gI h1 p0 20).toNatClampNeg))]) rfl g9 ⟨Nat.le_of_ble_eq_true rfl, Nat.le_of_ble_eq_true rfl, Nat.le_of_ble_eq_true rfl, Nat.le_of_ble_eq_true rfl⟩ (bd' := (0, 0)) rfl ?_
    refine (wq_M_latest_ok H).conI (fun v3 h2 H => ?_)
    refine wp_iconst rfl ?_
    refine wp_icmp_ne rfl (lo1 := [none, some (.int (gI h1 (gR h1 p0 21) (gI h1 p0 20).toNatClampNeg))]) (lo2 := [some (.ref p0), some (.int (gI h1 (gR h1 p0 21) (gI h1 p0 20).toNatClampNeg))]) rfl rfl (fun q8 => ?_) (fun q8 => ?_)
    · have H := H.1 q8
      refine wp_iload_n rfl rfl ?_
      exact wp_iret rfl rfl H
    · have H := H.2 q8
      refine wp_aload_n rfl rfl ?_
      refine wp_dupR rfl ?_
      obtain ⟨g7, H⟩ := H
      refine wp_getI rfl rfl g7 ?_
      refine wp_iconst rfl ?_
      refine wp_isub rfl ?_
      obtain ⟨g5, H⟩ := H
      obtain ⟨h4, e6⟩ : ∃ z : HP, z = stI h2 p0 19 ((gI h2 p0 19) - (1 : Int32)) := ⟨_, rfl⟩
      have H := H h4 e6
      refine wp_putIk (lo' := [none, some (.int (gI h1 (gR h1 p0 21) (gI h1 p0 20).toNatClampNeg))]) rfl rfl rfl g5 e6 ?_
      refine wp_iload_n rfl rfl ?_
      exact wp_iret rfl rfl H
  · have H := H.2 q18
    refine wp_bipush rfl ?_
    exact wp_iret rfl rfl H
def wq_M_step2 (p0 : Nat) (p1 : Int32) (p2 : Int32) (h : HP) (K : Int32 → HP → Prop) : Prop :=
  isO h p0 10 ∧ wq_M_in p1 (0 : Int32) ((gI h p0 28) - (1 : Int32)) h (fun v2 h1 => (v2 = 0 → K (-1 : Int32) h1) ∧ (¬ v2 = 0 → (¬ p2 = 0 → (¬ p2 = (1 : Int32) → (¬ p2 = (2 : Int32) → K (-1 : Int32) h1) ∧ (p2 = (2 : Int32) → isO h1 p0 10 ∧ 0 < gR h1 p0 27 ∧ isL h1 (gR h1 p0 27) 100 p1 ∧ K (gI h1 (gR h1 p0 27) p1.toNatClampNeg) h1)) ∧ (p2 = (1 : Int32) → isO h1 p0 10 ∧ 0 < gR h1 p0 26 ∧ isL h1 (gR h1 p0 26) 100 p1 ∧ K (gI h1 (gR h1 p0 26) p1.toNatClampNeg) h1)) ∧ (p2 = 0 → isO h1 p0 10 ∧ 0 < gR h1 p0 25 ∧ isL h1 (gR h1 p0 25) 100 p1 ∧ K (gI h1 (gR h1 p0 25) p1.toNatClampNeg) h1)))
theorem wq_M_step2_ok {p0 : Nat} {p1 : Int32} {p2 : Int32} {h : HP} {K : Int32 → HP → Prop} (H : wq_M_step2 p0 p1 p2 h K) : Wp k_M_step2 0 [some (.ref p0), some (.int p1), some (.int p2)] [] h (0, 0) (QI K) := by
  unfold wq_M_step2 at H
  refine wp_iload_n rfl rfl ?_
  refine wp_iconst rfl ?_
  refine wp_aload_n rfl rfl ?_
  obtain ⟨g16, H⟩ := H
  refine wp_getI rfl rfl g16 ?_
  refine wp_iconst rfl ?_
  refine wp_isub rfl ?_
  refine wp_callsI rfl rfl rfl (Or.inr rfl) (lo' := [some (.ref p0), some (.int p1), some (.int p2)]) rfl ⟨Nat.le_of_ble_eq_true rfl, Nat.le_of_ble_eq_true rfl, Nat.le_of_ble_eq_true rfl, Nat.le_of_ble_eq_true rfl⟩ (bd' := (0, 0)) rfl ?_
  refine (wq_M_in_ok H).conI (fun v2 h1 H => ?_)
  refine wp_if_eq rfl (lo1 := [some (.ref p0), some (.int p1), some (.int p2)]) (lo2 := [some (.ref p0), some (.int p1), some (.int p2)]) rfl rfl (fun q15 => ?_) (fun q15 => ?_)
  · have H := H.1 q15
    refine wp_iconstk (lo' := [none, none, none]) rfl rfl ?_
    exact wp_iret rfl rfl H
  · have H := H.2 q15
    refine wp_iload_n rfl rfl ?_
    refine wp_if_ne rfl (lo1 := [some (.ref p0), some (.int p1), some (.int p2)]) (lo2 := [some (.ref p0), some (.int p1), some (.int p2)]) rfl rfl (fun q14 => ?_) (fun q14 => ?_)
    · have H := H.1 q14
      refine wp_iload_n rfl rfl ?_
      refine wp_iconst rfl ?_
      refine wp_icmp_ne rfl (lo1 := [some (.ref p0), some (.int p1), some (.int p2)]) (lo2 := [some (.ref p0), some (.int p1), some (.int p2)]) rfl rfl (fun q10 => ?_) (fun q10 => ?_)
      · have H := H.1 q10
        refine wp_iload_n rfl rfl ?_
        refine wp_iconst rfl ?_
        refine wp_icmp_ne rfl (lo1 := [some (.ref p0), some (.int p1), some (.int p2)]) (lo2 := [some (.ref p0), some (.int p1), some (.int p2)]) rfl rfl (fun q6 => ?_) (fun q6 => ?_)
        · have H := H.1 q6
          refine wp_iconst rfl ?_
          refine wp_goto rfl (lo' := [none, none, none]) rfl ?_
          exact wp_iret rfl rfl H
        · have H := H.2 q6
          refine wp_aload_n rfl rfl ?_
          obtain ⟨g4, g5, H⟩ := H
          refine wp_getR rfl rfl g4 g5 ?_
          refine wp_iload_n rfl rfl ?_
          obtain ⟨g3, H⟩ := H
          refine wp_iald rfl g3 ?_
          refine wp_goto rfl (lo' := [none, none, none]) rfl ?_
          exact wp_iret rfl rfl H
      · have H := H.2 q10
        refine wp_aload_n rfl rfl ?_
        obtain ⟨g8, g9, H⟩ := H
        refine wp_getR rfl rfl g8 g9 ?_
        refine wp_iload_n rfl rfl ?_
        obtain ⟨g7, H⟩ := H
        refine wp_iald rfl g7 ?_
        refine wp_goto rfl (lo' := [none, none, none]) rfl ?_
        exact wp_iret rfl rfl H
    · have H := H.2 q14
      refine wp_aload_n rfl rfl ?_
      obtain ⟨g12, g13, H⟩ := H
      refine wp_getR rfl rfl g12 g13 ?_
      refine wp_iload_n rfl rfl ?_
      obtain ⟨g11, H⟩ := H
      refine wp_iald rfl g11 ?_
      refine wp_goto rfl (lo' := [none, none, none]) rfl ?_
      exact wp_iret rfl rfl H
def wb_Ladder_leastSum_5 (l0 : Nat) (l1 : Nat) (l2 : Nat) (l3 : Int32) (h : HP) (K : Int32 → HP → Prop) : Prop :=
  (l3 < 0 → isO h l0 1 ∧ 0 < gR h l0 0 ∧ isL h (gR h l0 0) 100 (0 : Int32) ∧ K (gI h (gR h l0 0) (0 : Int32).toNatClampNeg) h) ∧ (¬ l3 < 0 → isO h l2 6 ∧ Wp k_Ladder_leastSum 15 [some (.ref l0), some (.ref l1), some (.ref l2), some (.int l3), some (.int (gI h l2 7)), none, none, none] [] h (0, 0) (QI K))
theorem wb_Ladder_leastSum_5_ok {l0 : Nat} {l1 : Nat} {l2 : Nat} {l3 : Int32} {h : HP} {K : Int32 → HP → Prop} (H : wb_Ladder_leastSum_5 l0 l1 l2 l3 h K) : Wp k_Ladder_leastSum 5 [some (.ref l0), some (.ref l1), some (.ref l2), some (.int l3), none, none, none, none] [] h (0, 0) (QI K) := by
  unfold wb_Ladder_leastSum_5 at H
  refine wp_iload_n rfl rfl ?_
  refine wp_if_lt rfl (lo1 := [some (.ref l0), some (.ref l1), some (.ref l2), some (.int l3), none, none, none, none]) (lo2 := [some (.ref l0), some (.ref l1), some (.ref l2), some (.int l3), none, none, none, none]) rfl rfl (fun q6 => ?_) (fun q6 => ?_)
  · have H := H.1 q6
    refine wp_aload_n rfl rfl ?_
    obtain ⟨g3, g4, H⟩ := H
    refine wp_getR rfl rfl g3 g4 ?_
    refine wp_iconst rfl ?_
    obtain ⟨g2, H⟩ := H
    refine wp_iald rfl g2 ?_
    exact wp_iret rfl rfl H
  · have H := H.2 q6
    refine wp_aload_n rfl rfl ?_
    obtain ⟨g5, H⟩ := H
    refine wp_getI rfl rfl g5 ?_
    refine wp_istore rfl rfl (lo' := [some (.ref l0), some (.ref l1), some (.ref l2), some (.int l3), some (.int (gI h l2 7)), none, none, none]) rfl ?_
    exact H
def wb_Ladder_leastSum_171 (l0 : Nat) (l1 : Nat) (l2 : Nat) (l3 : Int32) (l4 : Int32) (l7 : Int32) (h : HP) (K : Int32 → HP → Prop) : Prop :=
  isO h l0 1 ∧ 0 < gR h l0 0 ∧ isA h (gR h l0 0) 100 ((l3 * (21 : Int32)) + l4) ∧ (∀ h36 : HP, h36 = stI h (gR h l0 0) ((l3 * (21 : Int32)) + l4).toNatClampNeg l7 → Wp k_Ladder_leastSum 15 [some (.ref l0), some (.ref l1), some (.ref l2), some (.int l3), some (.int (l4 + (-1 : Int32))), none, none, none] [] h36 (0, 0) (QI K))
theorem wb_Ladder_leastSum_171_ok {l0 : Nat} {l1 : Nat} {l2 : Nat} {l3 : Int32} {l4 : Int32} {l7 : Int32} {h : HP} {K : Int32 → HP → Prop} (H : wb_Ladder_leastSum_171 l0 l1 l2 l3 l4 l7 h K) : Wp k_Ladder_leastSum 171 [some (.ref l0), some (.ref l1), some (.ref l2), some (.int l3), some (.int l4), none, none, some (.int l7)] [] h (0, 0) (QI K) := by
  unfold wb_Ladder_leastSum_171 at H
  refine wp_aload_n rfl rfl ?_
  obtain ⟨g39, g40, H⟩ := H
  refine wp_getR rfl rfl g39 g40 ?_
  refine wp_iload_n rfl rfl ?_
  refine wp_bipush rfl ?_
  refine wp_imul rfl ?_
  refine wp_iload rfl rfl ?_
  refine wp_iadd rfl ?_
  refine wp_iload rfl rfl ?_
  obtain ⟨g37, H⟩ := H
  obtain ⟨h36, e38⟩ : ∃ z : HP, z = stI h (gR h l0 0) ((l3 * (21 : Int32)) + l4).toNatClampNeg l7 := ⟨_, rfl⟩
  have H := H h36 e38
  refine wp_iast rfl g37 e38 ?_
  refine wp_iinc rfl rfl rfl (lo' := [some (.ref l0), some (.ref l1), some (.ref l2), some (.int l3), some (.int (l4 + (-1 : Int32))), none, none, some (.int l7)]) rfl ?_
  refine wp_goto rfl (lo' := [some (.ref l0), some (.ref l1), some (.ref l2), some (.int l3), some (.int (l4 + (-1 : Int32))), none, none, none]) rfl ?_
  exact H
def wb_Ladder_leastSum_138 (l0 : Nat) (l1 : Nat) (l2 : Nat) (l3 : Int32) (l4 : Int32) (l6 : Int32) (l7 : Int32) (h : HP) (K : Int32 → HP → Prop) : Prop :=
  (l6 = 0 → wb_Ladder_leastSum_171 l0 l1 l2 l3 l4 l7 h K) ∧ (¬ l6 = 0 → isO h l2 6 ∧ wq_Row_aloneCost l2 l4 h (fun v30 h29 => isO h29 l0 1 ∧ 0 < gR h29 l0 0 ∧ isL h29 (gR h29 l0 0) 100 (((l3 * (21 : Int32)) + l4) + (1 : Int32)) ∧ wb_Ladder_leastSum_171 l0 l1 l2 l3 l4 (if v30 + (gI h29 (gR h29 l0 0) (((l3 * (21 : Int32)) + l4) + (1 : Int32)).toNatClampNeg) < l7 then v30 + (gI h29 (gR h29 l0 0) (((l3 * (21 : Int32)) + l4) + (1 : Int32)).toNatClampNeg) else l7) h29 K))
theorem wb_Ladder_leastSum_138_ok {l0 : Nat} {l1 : Nat} {l2 : Nat} {l3 : Int32} {l4 : Int32} {l6 : Int32} {l7 : Int32} {h : HP} {K : Int32 → HP → Prop} (H : wb_Ladder_leastSum_138 l0 l1 l2 l3 l4 l6 l7 h K) : Wp k_Ladder_leastSum 138 [some (.ref l0), some (.ref l1), some (.ref l2), some (.int l3), some (.int l4), none, some (.int l6), some (.int l7)] [] h (0, 0) (QI K) := by
  unfold wb_Ladder_leastSum_138 at H
  refine wp_iload rfl rfl ?_
  refine wp_if_eq rfl (lo1 := [some (.ref l0), some (.ref l1), some (.ref l2), some (.int l3), some (.int l4), none, none, some (.int l7)]) (lo2 := [some (.ref l0), some (.ref l1), some (.ref l2), some (.int l3), some (.int l4), none, some (.int l6), some (.int l7)]) rfl rfl (fun q35 => ?_) (fun q35 => ?_)
  · have H := H.1 q35
    exact wb_Ladder_leastSum_171_ok H
  · have H := H.2 q35
    refine wp_iload rfl rfl ?_
    refine wp_aload_n rfl rfl ?_
    refine wp_iload rfl rfl ?_
    obtain ⟨g34, H⟩ := H
    refine wp_callvI rfl rfl (Or.inl rfl) (lo' := [some (.ref l0), some (.ref l1), some (.ref l2), some (.int l3), some (.int l4), none, some (.int l6), some (.int l7)]) rfl g34 ⟨Nat.le_of_ble_eq_true rfl, Nat.le_of_ble_eq_true rfl, Nat.le_of_ble_eq_true rfl, Nat.le_of_ble_eq_true rfl⟩ (bd' := (0, 0)) rfl ?_
    refine (wq_Row_aloneCost_ok H).conI (fun v30 h29 H => ?_)
    refine wp_aload_n rfl rfl ?_
    obtain ⟨g32, g33, H⟩ := H
    refine wp_getR rfl rfl g32 g33 ?_
    refine wp_iload_n rfl rfl ?_
    refine wp_bipush rfl ?_
    refine wp_imul rfl ?_
    refine wp_iload rfl rfl ?_
    refine wp_iadd rfl ?_
    refine wp_iconst rfl ?_
    refine wp_iadd rfl ?_
    obtain ⟨g31, H⟩ := H
    refine wp_iald rfl g31 ?_
    refine wp_iadd rfl ?_
    refine wp_min rfl (Nat.le_of_ble_eq_true rfl) (lo' := [some (.ref l0), some (.ref l1), some (.ref l2), some (.int l3), some (.int l4), none, some (.int l6), some (.int l7)]) rfl ?_
    refine wp_istore rfl rfl (lo' := [some (.ref l0), some (.ref l1), some (.ref l2), some (.int l3), some (.int l4), none, none, some (.int (if v30 + (gI h29 (gR h29 l0 0) (((l3 * (21 : Int32)) + l4) + (1 : Int32)).toNatClampNeg) < l7 then v30 + (gI h29 (gR h29 l0 0) (((l3 * (21 : Int32)) + l4) + (1 : Int32)).toNatClampNeg) else l7))]) rfl ?_
    exact wb_Ladder_leastSum_171_ok H
def wb_Ladder_leastSum_106 (l0 : Nat) (l1 : Nat) (l2 : Nat) (l3 : Int32) (l4 : Int32) (l5 : Int32) (l6 : Int32) (l7 : Int32) (h : HP) (K : Int32 → HP → Prop) : Prop :=
  (l5 = 0 → wb_Ladder_leastSum_138 l0 l1 l2 l3 l4 l6 l7 h K) ∧ (¬ l5 = 0 → isO h l1 6 ∧ wq_Row_aloneCost l1 l3 h (fun v23 h22 => isO h22 l0 1 ∧ 0 < gR h22 l0 0 ∧ isL h22 (gR h22 l0 0) 100 (((l3 + (1 : Int32)) * (21 : Int32)) + l4) ∧ wb_Ladder_leastSum_138 l0 l1 l2 l3 l4 l6 (if v23 + (gI h22 (gR h22 l0 0) (((l3 + (1 : Int32)) * (21 : Int32)) + l4).toNatClampNeg) < l7 then v23 + (gI h22 (gR h22 l0 0) (((l3 + (1 : Int32)) * (21 : Int32)) + l4).toNatClampNeg) else l7) h22 K))
theorem wb_Ladder_leastSum_106_ok {l0 : Nat} {l1 : Nat} {l2 : Nat} {l3 : Int32} {l4 : Int32} {l5 : Int32} {l6 : Int32} {l7 : Int32} {h : HP} {K : Int32 → HP → Prop} (H : wb_Ladder_leastSum_106 l0 l1 l2 l3 l4 l5 l6 l7 h K) : Wp k_Ladder_leastSum 106 [some (.ref l0), some (.ref l1), some (.ref l2), some (.int l3), some (.int l4), some (.int l5), some (.int l6), some (.int l7)] [] h (0, 0) (QI K) := by
  unfold wb_Ladder_leastSum_106 at H
  refine wp_iload rfl rfl ?_
  refine wp_if_eq rfl (lo1 := [some (.ref l0), some (.ref l1), some (.ref l2), some (.int l3), some (.int l4), none, some (.int l6), some (.int l7)]) (lo2 := [some (.ref l0), some (.ref l1), some (.ref l2), some (.int l3), some (.int l4), some (.int l5), some (.int l6), some (.int l7)]) rfl rfl (fun q28 => ?_) (fun q28 => ?_)
  · have H := H.1 q28
    exact wb_Ladder_leastSum_138_ok H
  · have H := H.2 q28
    refine wp_iload rfl rfl ?_
    refine wp_aload_n rfl rfl ?_
    refine wp_iload_n rfl rfl ?_
    obtain ⟨g27, H⟩ := H
    refine wp_callvI rfl rfl (Or.inl rfl) (lo' := [some (.ref l0), some (.ref l1), some (.ref l2), some (.int l3), some (.int l4), some (.int l5), some (.int l6), some (.int l7)]) rfl g27 ⟨Nat.le_of_ble_eq_true rfl, Nat.le_of_ble_eq_true rfl, Nat.le_of_ble_eq_true rfl, Nat.le_of_ble_eq_true rfl⟩ (bd' := (0, 0)) rfl ?_
    refine (wq_Row_aloneCost_ok H).conI (fun v23 h22 H => ?_)
    refine wp_aload_n rfl rfl ?_
    obtain ⟨g25, g26, H⟩ := H
    refine wp_getR rfl rfl g25 g26 ?_
    refine wp_iload_n rfl rfl ?_
    refine wp_iconst rfl ?_
    refine wp_iadd rfl ?_
    refine wp_bipush rfl ?_
    refine wp_imul rfl ?_
    refine wp_iload rfl rfl ?_
    refine wp_iadd rfl ?_
    obtain ⟨g24, H⟩ := H
    refine wp_iald rfl g24 ?_
    refine wp_iadd rfl ?_
    refine wp_min rfl (Nat.le_of_ble_eq_true rfl) (lo' := [some (.ref l0), some (.ref l1), some (.ref l2), some (.int l3), some (.int l4), some (.int l5), some (.int l6), some (.int l7)]) rfl ?_
    refine wp_istore rfl rfl (lo' := [some (.ref l0), some (.ref l1), some (.ref l2), some (.int l3), some (.int l4), none, some (.int l6), some (.int (if v23 + (gI h22 (gR h22 l0 0) (((l3 + (1 : Int32)) * (21 : Int32)) + l4).toNatClampNeg) < l7 then v23 + (gI h22 (gR h22 l0 0) (((l3 + (1 : Int32)) * (21 : Int32)) + l4).toNatClampNeg) else l7))]) rfl ?_
    exact wb_Ladder_leastSum_138_ok H
def wb_Ladder_leastSum_67 (l0 : Nat) (l1 : Nat) (l2 : Nat) (l3 : Int32) (l4 : Int32) (l5 : Int32) (l6 : Int32) (s0 : Int32) (h : HP) (K : Int32 → HP → Prop) : Prop :=
  (l5 = 0 → wb_Ladder_leastSum_106 l0 l1 l2 l3 l4 l5 l6 s0 h K) ∧ (¬ l5 = 0 → (l6 = 0 → wb_Ladder_leastSum_106 l0 l1 l2 l3 l4 l5 l6 s0 h K) ∧ (¬ l6 = 0 → isO h l1 6 ∧ wq_Row_changeCost l1 l3 l2 l4 h (fun v15 h14 => isO h14 l0 1 ∧ 0 < gR h14 l0 0 ∧ isL h14 (gR h14 l0 0) 100 ((((l3 + (1 : Int32)) * (21 : Int32)) + l4) + (1 : Int32)) ∧ wb_Ladder_leastSum_106 l0 l1 l2 l3 l4 l5 l6 (v15 + (gI h14 (gR h14 l0 0) ((((l3 + (1 : Int32)) * (21 : Int32)) + l4) + (1 : Int32)).toNatClampNeg)) h14 K)))
theorem wb_Ladder_leastSum_67_ok {l0 : Nat} {l1 : Nat} {l2 : Nat} {l3 : Int32} {l4 : Int32} {l5 : Int32} {l6 : Int32} {s0 : Int32} {h : HP} {K : Int32 → HP → Prop} (H : wb_Ladder_leastSum_67 l0 l1 l2 l3 l4 l5 l6 s0 h K) : Wp k_Ladder_leastSum 67 [some (.ref l0), some (.ref l1), some (.ref l2), some (.int l3), some (.int l4), some (.int l5), some (.int l6), none] [.int s0] h (0, 0) (QI K) := by
  unfold wb_Ladder_leastSum_67 at H
  refine wp_istore rfl rfl (lo' := [some (.ref l0), some (.ref l1), some (.ref l2), some (.int l3), some (.int l4), some (.int l5), some (.int l6), some (.int s0)]) rfl ?_
  refine wp_iload rfl rfl ?_
  refine wp_if_eq rfl (lo1 := [some (.ref l0), some (.ref l1), some (.ref l2), some (.int l3), some (.int l4), some (.int l5), some (.int l6), some (.int s0)]) (lo2 := [some (.ref l0), some (.ref l1), some (.ref l2), some (.int l3), some (.int l4), some (.int l5), some (.int l6), some (.int s0)]) rfl rfl (fun q21 => ?_) (fun q21 => ?_)
  · have H := H.1 q21
    exact wb_Ladder_leastSum_106_ok H
  · have H := H.2 q21
    refine wp_iload rfl rfl ?_
    refine wp_if_eq rfl (lo1 := [some (.ref l0), some (.ref l1), some (.ref l2), some (.int l3), some (.int l4), some (.int l5), some (.int l6), some (.int s0)]) (lo2 := [some (.ref l0), some (.ref l1), some (.ref l2), some (.int l3), some (.int l4), some (.int l5), some (.int l6), some (.int s0)]) rfl rfl (fun q20 => ?_) (fun q20 => ?_)
    · have H := H.1 q20
      exact wb_Ladder_leastSum_106_ok H
    · have H := H.2 q20
      refine wp_aload_n rfl rfl ?_
      refine wp_iload_n rfl rfl ?_
      refine wp_aload_n rfl rfl ?_
      refine wp_iload rfl rfl ?_
      obtain ⟨g19, H⟩ := H
      refine wp_callvI rfl rfl (Or.inl rfl) (lo' := [some (.ref l0), some (.ref l1), some (.ref l2), some (.int l3), some (.int l4), some (.int l5), some (.int l6), some (.int s0)]) rfl g19 ⟨Nat.le_of_ble_eq_true rfl, Nat.le_of_ble_eq_true rfl, Nat.le_of_ble_eq_true rfl, Nat.le_of_ble_eq_true rfl⟩ (bd' := (0, 0)) rfl ?_
      refine (wq_Row_changeCost_ok H).conI (fun v15 h14 H => ?_)
      refine wp_aload_n rfl rfl ?_
      obtain ⟨g17, g18, H⟩ := H
      refine wp_getR rfl rfl g17 g18 ?_
      refine wp_iload_n rfl rfl ?_
      refine wp_iconst rfl ?_
      refine wp_iadd rfl ?_
      refine wp_bipush rfl ?_
      refine wp_imul rfl ?_
      refine wp_iload rfl rfl ?_
      refine wp_iadd rfl ?_
      refine wp_iconst rfl ?_
      refine wp_iadd rfl ?_
      obtain ⟨g16, H⟩ := H
      refine wp_iald rfl g16 ?_
      refine wp_iadd rfl ?_
      refine wp_istore rfl rfl (lo' := [some (.ref l0), some (.ref l1), some (.ref l2), some (.int l3), some (.int l4), some (.int l5), some (.int l6), some (.int (v15 + (gI h14 (gR h14 l0 0) ((((l3 + (1 : Int32)) * (21 : Int32)) + l4) + (1 : Int32)).toNatClampNeg)))]) rfl ?_
      exact wb_Ladder_leastSum_106_ok H
def wb_Ladder_leastSum_49 (l0 : Nat) (l1 : Nat) (l2 : Nat) (l3 : Int32) (l4 : Int32) (l5 : Int32) (s0 : Int32) (h : HP) (K : Int32 → HP → Prop) : Prop :=
  (¬ l5 = 0 → wb_Ladder_leastSum_67 l0 l1 l2 l3 l4 l5 s0 (1000000 : Int32) h K) ∧ (l5 = 0 → (s0 = 0 → wb_Ladder_leastSum_67 l0 l1 l2 l3 l4 l5 s0 (0 : Int32) h K) ∧ (¬ s0 = 0 → wb_Ladder_leastSum_67 l0 l1 l2 l3 l4 l5 s0 (1000000 : Int32) h K))
theorem wb_Ladder_leastSum_49_ok {l0 : Nat} {l1 : Nat} {l2 : Nat} {l3 : Int32} {l4 : Int32} {l5 : Int32} {s0 : Int32} {h : HP} {K : Int32 → HP → Prop} (H : wb_Ladder_leastSum_49 l0 l1 l2 l3 l4 l5 s0 h K) : Wp k_Ladder_leastSum 49 [some (.ref l0), some (.ref l1), some (.ref l2), some (.int l3), some (.int l4), some (.int l5), none, none] [.int s0] h (0, 0) (QI K) := by
  unfold wb_Ladder_leastSum_49 at H
  refine wp_istore rfl rfl (lo' := [some (.ref l0), some (.ref l1), some (.ref l2), some (.int l3), some (.int l4), some (.int l5), some (.int s0), none]) rfl ?_
  refine wp_iload rfl rfl ?_
  refine wp_if_ne rfl (lo1 := [some (.ref l0), some (.ref l1), some (.ref l2), some (.int l3), some (.int l4), some (.int l5), some (.int s0), none]) (lo2 := [some (.ref l0), some (.ref l1), some (.ref l2), some (.int l3), some (.int l4), some (.int l5), some (.int s0), none]) rfl rfl (fun q13 => ?_) (fun q13 => ?_)
  · have H := H.1 q13
    refine wp_ldc rfl ?_
    refine wp_goto rfl (lo' := [some (.ref l0), some (.ref l1), some (.ref l2), some (.int l3), some (.int l4), some (.int l5), some (.int s0), none]) rfl ?_
    exact wb_Ladder_leastSum_67_ok H
  · have H := H.2 q13
    refine wp_iload rfl rfl ?_
    refine wp_if_eq rfl (lo1 := [some (.ref l0), some (.ref l1), some (.ref l2), some (.int l3), some (.int l4), some (.int l5), some (.int s0), none]) (lo2 := [some (.ref l0), some (.ref l1), some (.ref l2), some (.int l3), some (.int l4), some (.int l5), some (.int s0), none]) rfl rfl (fun q12 => ?_) (fun q12 => ?_)
    · have H := H.1 q12
      refine wp_iconstk (lo' := [some (.ref l0), some (.ref l1), some (.ref l2), some (.int l3), some (.int l4), some (.int l5), some (.int s0), none]) rfl rfl ?_
      exact wb_Ladder_leastSum_67_ok H
    · have H := H.2 q12
      refine wp_ldc rfl ?_
      refine wp_goto rfl (lo' := [some (.ref l0), some (.ref l1), some (.ref l2), some (.int l3), some (.int l4), some (.int l5), some (.int s0), none]) rfl ?_
      exact wb_Ladder_leastSum_67_ok H
def wb_Ladder_leastSum_33 (l0 : Nat) (l1 : Nat) (l2 : Nat) (l3 : Int32) (l4 : Int32) (s0 : Int32) (h : HP) (K : Int32 → HP → Prop) : Prop :=
  isO h l2 6 ∧ (gI h l2 7 ≤ l4 → wb_Ladder_leastSum_49 l0 l1 l2 l3 l4 s0 (0 : Int32) h K) ∧ (¬ gI h l2 7 ≤ l4 → wb_Ladder_leastSum_49 l0 l1 l2 l3 l4 s0 (1 : Int32) h K)
theorem wb_Ladder_leastSum_33_ok {l0 : Nat} {l1 : Nat} {l2 : Nat} {l3 : Int32} {l4 : Int32} {s0 : Int32} {h : HP} {K : Int32 → HP → Prop} (H : wb_Ladder_leastSum_33 l0 l1 l2 l3 l4 s0 h K) : Wp k_Ladder_leastSum 33 [some (.ref l0), some (.ref l1), some (.ref l2), some (.int l3), some (.int l4), none, none, none] [.int s0] h (0, 0) (QI K) := by
  unfold wb_Ladder_leastSum_33 at H
  refine wp_istore rfl rfl (lo' := [some (.ref l0), some (.ref l1), some (.ref l2), some (.int l3), some (.int l4), some (.int s0), none, none]) rfl ?_
  refine wp_iload rfl rfl ?_
  refine wp_aload_n rfl rfl ?_
  obtain ⟨g11, H⟩ := H
  refine wp_getI rfl rfl g11 ?_
  refine wp_icmp_ge rfl (lo1 := [some (.ref l0), some (.ref l1), some (.ref l2), some (.int l3), some (.int l4), some (.int s0), none, none]) (lo2 := [some (.ref l0), some (.ref l1), some (.ref l2), some (.int l3), some (.int l4), some (.int s0), none, none]) rfl rfl (fun q10 => ?_) (fun q10 => ?_)
  · have H := H.1 q10
    refine wp_iconstk (lo' := [some (.ref l0), some (.ref l1), some (.ref l2), some (.int l3), some (.int l4), some (.int s0), none, none]) rfl rfl ?_
    exact wb_Ladder_leastSum_49_ok H
  · have H := H.2 q10
    refine wp_iconst rfl ?_
    refine wp_goto rfl (lo' := [some (.ref l0), some (.ref l1), some (.ref l2), some (.int l3), some (.int l4), some (.int s0), none, none]) rfl ?_
    exact wb_Ladder_leastSum_49_ok H
def wb_Ladder_leastSum_15 (l0 : Nat) (l1 : Nat) (l2 : Nat) (l3 : Int32) (l4 : Int32) (h : HP) (K : Int32 → HP → Prop) : Prop :=
  (l4 < 0 → Wp k_Ladder_leastSum 5 [some (.ref l0), some (.ref l1), some (.ref l2), some (.int (l3 + (-1 : Int32))), none, none, none, none] [] h (0, 0) (QI K)) ∧ (¬ l4 < 0 → isO h l1 6 ∧ (gI h l1 7 ≤ l3 → wb_Ladder_leastSum_33 l0 l1 l2 l3 l4 (0 : Int32) h K) ∧ (¬ gI h l1 7 ≤ l3 → wb_Ladder_leastSum_33 l0 l1 l2 l3 l4 (1 : Int32) h K))
theorem wb_Ladder_leastSum_15_ok {l0 : Nat} {l1 : Nat} {l2 : Nat} {l3 : Int32} {l4 : Int32} {h : HP} {K : Int32 → HP → Prop} (H : wb_Ladder_leastSum_15 l0 l1 l2 l3 l4 h K) : Wp k_Ladder_leastSum 15 [some (.ref l0), some (.ref l1), some (.ref l2), some (.int l3), some (.int l4), none, none, none] [] h (0, 0) (QI K) := by
  unfold wb_Ladder_leastSum_15 at H
  refine wp_iload rfl rfl ?_
  refine wp_if_lt rfl (lo1 := [some (.ref l0), some (.ref l1), some (.ref l2), some (.int l3), some (.int l4), none, none, none]) (lo2 := [some (.ref l0), some (.ref l1), some (.ref l2), some (.int l3), some (.int l4), none, none, none]) rfl rfl (fun q9 => ?_) (fun q9 => ?_)
  · have H := H.1 q9
    refine wp_iinc rfl rfl rfl (lo' := [some (.ref l0), some (.ref l1), some (.ref l2), some (.int (l3 + (-1 : Int32))), some (.int l4), none, none, none]) rfl ?_
    refine wp_goto rfl (lo' := [some (.ref l0), some (.ref l1), some (.ref l2), some (.int (l3 + (-1 : Int32))), none, none, none, none]) rfl ?_
    exact H
  · have H := H.2 q9
    refine wp_iload_n rfl rfl ?_
    refine wp_aload_n rfl rfl ?_
    obtain ⟨g8, H⟩ := H
    refine wp_getI rfl rfl g8 ?_
    refine wp_icmp_ge rfl (lo1 := [some (.ref l0), some (.ref l1), some (.ref l2), some (.int l3), some (.int l4), none, none, none]) (lo2 := [some (.ref l0), some (.ref l1), some (.ref l2), some (.int l3), some (.int l4), none, none, none]) rfl rfl (fun q7 => ?_) (fun q7 => ?_)
    · have H := H.1 q7
      refine wp_iconstk (lo' := [some (.ref l0), some (.ref l1), some (.ref l2), some (.int l3), some (.int l4), none, none, none]) rfl rfl ?_
      exact wb_Ladder_leastSum_33_ok H
    · have H := H.2 q7
      refine wp_iconst rfl ?_
      refine wp_goto rfl (lo' := [some (.ref l0), some (.ref l1), some (.ref l2), some (.int l3), some (.int l4), none, none, none]) rfl ?_
      exact wb_Ladder_leastSum_33_ok H
def wq_Ladder_leastSum (p0 : Nat) (p1 : Nat) (p2 : Nat) (h : HP) (K : Int32 → HP → Prop) : Prop :=
  isO h p1 6 ∧ Wp k_Ladder_leastSum 5 [some (.ref p0), some (.ref p1), some (.ref p2), some (.int (gI h p1 7)), none, none, none, none] [] h (0, 0) (QI K)
theorem wq_Ladder_leastSum_ok {p0 : Nat} {p1 : Nat} {p2 : Nat} {h : HP} {K : Int32 → HP → Prop} (H : wq_Ladder_leastSum p0 p1 p2 h K) : Wp k_Ladder_leastSum 0 [some (.ref p0), some (.ref p1), some (.ref p2), none, none, none, none, none] [] h (0, 0) (QI K) := by
  unfold wq_Ladder_leastSum at H
  refine wp_aload_n rfl rfl ?_
  obtain ⟨g1, H⟩ := H
  refine wp_getI rfl rfl g1 ?_
  refine wp_istore_n rfl rfl (lo' := [some (.ref p0), some (.ref p1), some (.ref p2), some (.int (gI h p1 7)), none, none, none, none]) rfl ?_
  exact H
def wq_Near_init (p0 : Nat) (p1 : Nat) (h : HP) (K : HP → Prop) : Prop :=
  ∀ h1 : HP, h1 = nwC h 100 480 → isO h1 p0 3 ∧ 0 < gS h ∧ (∀ h3 : HP, h3 = stR h1 p0 0 (gS h) → isO h3 p0 3 ∧ 0 < p1 ∧ (∀ h4 : HP, h4 = stR h3 p0 1 p1 → isO h4 p0 3 ∧ wq_Near_forgetAll p0 h4 (fun h5 => K h5)))
theorem wq_Near_init_ok {p0 : Nat} {p1 : Nat} {h : HP} {K : HP → Prop} (H : wq_Near_init p0 p1 h K) : Wp k_Near_init 0 [some (.ref p0), some (.ref p1)] [] h (1, 480) (QV K) := by
  unfold wq_Near_init at H
  refine wp_aload_n rfl rfl ?_
  refine wp_objI rfl (Nat.le_of_ble_eq_true rfl) (lo' := [some (.ref p0), some (.ref p1)]) rfl ?_
  refine wp_aload_n rfl rfl ?_
  refine wp_sipush rfl ?_
  obtain ⟨h1, e2⟩ : ∃ z : HP, z = nwC h 100 480 := ⟨_, rfl⟩
  have H := H h1 e2
  refine wp_newaL (N := 480) (lo' := [some (.ref p0), some (.ref p1)]) (bd' := (0, 0)) rfl ⟨by decide, by decide⟩ ⟨by decide, by decide, by decide⟩ rfl rfl e2 ?_
  obtain ⟨g10, g11, H⟩ := H
  obtain ⟨h3, e12⟩ : ∃ z : HP, z = stR h1 p0 0 (gS h) := ⟨_, rfl⟩
  have H := H h3 e12
  refine wp_putR rfl rfl g10 g11 e12 ?_
  refine wp_aload_n rfl rfl ?_
  refine wp_aload_n rfl rfl ?_
  obtain ⟨g7, g8, H⟩ := H
  obtain ⟨h4, e9⟩ : ∃ z : HP, z = stR h3 p0 1 p1 := ⟨_, rfl⟩
  have H := H h4 e9
  refine wp_putR rfl rfl g7 g8 e9 ?_
  refine wp_aload_n rfl rfl ?_
  obtain ⟨g6, H⟩ := H
  refine wp_callvV rfl rfl rfl (lo' := [some (.ref p0), some (.ref p1)]) rfl g6 ⟨Nat.le_of_ble_eq_true rfl, Nat.le_of_ble_eq_true rfl, Nat.le_of_ble_eq_true rfl, Nat.le_of_ble_eq_true rfl⟩ (bd' := (0, 0)) rfl ?_
  refine (wq_Near_forgetAll_ok H).conV (fun h5 H => ?_)
  exact wp_vret rfl rfl H
def wb_Nest_isTorn_48 (l0 : Nat) (l1 : Nat) (l2 : Int32) (l3 : Int32) (h : HP) (K : Int32 → HP → Prop) : Prop :=
  isO h l1 6 ∧ 0 < gR h l1 0 ∧ isL h (gR h l1 0) 100 l3 ∧ (¬ gI h (gR h l1 0) l3.toNatClampNeg = (3 : Int32) → Wp k_Nest_isTorn 4 [some (.ref l0), some (.ref l1), some (.int l2), some (.int (l3 + (1 : Int32)))] [] h (0, 0) (QI K)) ∧ (gI h (gR h l1 0) l3.toNatClampNeg = (3 : Int32) → (l2 = 0 → K (1 : Int32) h) ∧ (¬ l2 = 0 → isO h l0 4 ∧ 0 < gR h l0 0 ∧ isL h (gR h l0 0) 100 (l2 - (1 : Int32)) ∧ isO h l1 6 ∧ wq_Row_digit l1 l3 h (fun v21 h20 => (gI h (gR h l0 0) (l2 - (1 : Int32)).toNatClampNeg = v21 → Wp k_Nest_isTorn 4 [some (.ref l0), some (.ref l1), some (.int (l2 + (-1 : Int32))), some (.int (l3 + (1 : Int32)))] [] h20 (0, 0) (QI K)) ∧ (¬ gI h (gR h l0 0) (l2 - (1 : Int32)).toNatClampNeg = v21 → K (1 : Int32) h20))))
theorem wb_Nest_isTorn_48_ok {l0 : Nat} {l1 : Nat} {l2 : Int32} {l3 : Int32} {h : HP} {K : Int32 → HP → Prop} (H : wb_Nest_isTorn_48 l0 l1 l2 l3 h K) : Wp k_Nest_isTorn 48 [some (.ref l0), some (.ref l1), some (.int l2), some (.int l3)] [] h (0, 0) (QI K) := by
  unfold wb_Nest_isTorn_48 at H
  refine wp_aload_n rfl rfl ?_
  obtain ⟨g30, g31, H⟩ := H
  refine wp_getR rfl rfl g30 g31 ?_
  refine wp_iload_n rfl rfl ?_
  obtain ⟨g29, H⟩ := H
  refine wp_iald rfl g29 ?_
  refine wp_iconst rfl ?_
  refine wp_icmp_ne rfl (lo1 := [some (.ref l0), some (.ref l1), some (.int l2), some (.int l3)]) (lo2 := [some (.ref l0), some (.ref l1), some (.int l2), some (.int l3)]) rfl rfl (fun q28 => ?_) (fun q28 => ?_)
  · have H := H.1 q28
    refine wp_iinc rfl rfl rfl (lo' := [some (.ref l0), some (.ref l1), some (.int l2), some (.int (l3 + (1 : Int32)))]) rfl ?_
    refine wp_goto rfl (lo' := [some (.ref l0), some (.ref l1), some (.int l2), some (.int (l3 + (1 : Int32)))]) rfl ?_
    exact H
  · have H := H.2 q28
    refine wp_iload_n rfl rfl ?_
    refine wp_if_eq rfl (lo1 := [none, none, none, none]) (lo2 := [some (.ref l0), some (.ref l1), some (.int l2), some (.int l3)]) rfl rfl (fun q27 => ?_) (fun q27 => ?_)
    · have H := H.1 q27
      refine wp_iconst rfl ?_
      exact wp_zret rfl rfl (by decide) H
    · have H := H.2 q27
      refine wp_aload_n rfl rfl ?_
      obtain ⟨g25, g26, H⟩ := H
      refine wp_getR rfl rfl g25 g26 ?_
      refine wp_iload_n rfl rfl ?_
      refine wp_iconst rfl ?_
      refine wp_isub rfl ?_
      obtain ⟨g24, H⟩ := H
      refine wp_iald rfl g24 ?_
      refine wp_aload_n rfl rfl ?_
      refine wp_iload_n rfl rfl ?_
      obtain ⟨g23, H⟩ := H
      refine wp_callvI rfl rfl (Or.inl rfl) (lo' := [some (.ref l0), some (.ref l1), some (.int l2), some (.int l3)]) rfl g23 ⟨Nat.le_of_ble_eq_true rfl, Nat.le_of_ble_eq_true rfl, Nat.le_of_ble_eq_true rfl, Nat.le_of_ble_eq_true rfl⟩ (bd' := (0, 0)) rfl ?_
      refine (wq_Row_digit_ok H).conI (fun v21 h20 H => ?_)
      refine wp_icmp_eq rfl (lo1 := [some (.ref l0), some (.ref l1), some (.int l2), some (.int l3)]) (lo2 := [none, none, none, none]) rfl rfl (fun q22 => ?_) (fun q22 => ?_)
      · have H := H.1 q22
        refine wp_iinc rfl rfl rfl (lo' := [some (.ref l0), some (.ref l1), some (.int (l2 + (-1 : Int32))), some (.int l3)]) rfl ?_
        refine wp_iinc rfl rfl rfl (lo' := [some (.ref l0), some (.ref l1), some (.int (l2 + (-1 : Int32))), some (.int (l3 + (1 : Int32)))]) rfl ?_
        refine wp_goto rfl (lo' := [some (.ref l0), some (.ref l1), some (.int (l2 + (-1 : Int32))), some (.int (l3 + (1 : Int32)))]) rfl ?_
        exact H
      · have H := H.2 q22
        refine wp_iconst rfl ?_
        exact wp_zret rfl rfl (by decide) H
def wb_Nest_isTorn_4 (l0 : Nat) (l1 : Nat) (l2 : Int32) (l3 : Int32) (h : HP) (K : Int32 → HP → Prop) : Prop :=
  isO h l1 6 ∧ (gI h l1 7 ≤ l3 → (l2 = 0 → K (0 : Int32) h) ∧ (¬ l2 = 0 → K (1 : Int32) h)) ∧ (¬ gI h l1 7 ≤ l3 → isO h l1 6 ∧ 0 < gR h l1 0 ∧ isL h (gR h l1 0) 100 l3 ∧ (¬ gI h (gR h l1 0) l3.toNatClampNeg = (2 : Int32) → wb_Nest_isTorn_48 l0 l1 l2 l3 h K) ∧ (gI h (gR h l1 0) l3.toNatClampNeg = (2 : Int32) → isO h l0 4 ∧ 0 < gR h l0 0 ∧ (gR h l0 0 < gS h ∧ 100 ≤ gK h (gR h l0 0) ∧ gK h (gR h l0 0) ≤ 105 ∧ (gR h l0 0 = 0 → gK h (gR h l0 0) = 100)) ∧ (nI (gL h (gR h l0 0)) ≤ l2 → wb_Nest_isTorn_48 l0 l1 l2 l3 h K) ∧ (¬ nI (gL h (gR h l0 0)) ≤ l2 → isO h l0 4 ∧ 0 < gR h l0 0 ∧ isO h l1 6 ∧ wq_Row_digit l1 l3 h (fun v3 h2 => isA h2 (gR h l0 0) 100 l2 ∧ (∀ h4 : HP, h4 = stI h2 (gR h l0 0) l2.toNatClampNeg v3 → Wp k_Nest_isTorn 4 [some (.ref l0), some (.ref l1), some (.int (l2 + (1 : Int32))), some (.int (l3 + (1 : Int32)))] [] h4 (0, 0) (QI K))))))
theorem wb_Nest_isTorn_4_ok {l0 : Nat} {l1 : Nat} {l2 : Int32} {l3 : Int32} {h : HP} {K : Int32 → HP → Prop} (H : wb_Nest_isTorn_4 l0 l1 l2 l3 h K) : Wp k_Nest_isTorn 4 [some (.ref l0), some (.ref l1), some (.int l2), some (.int l3)] [] h (0, 0) (QI K) := by
  unfold wb_Nest_isTorn_4 at H
  refine wp_iload_n rfl rfl ?_
  refine wp_aload_n rfl rfl ?_
  obtain ⟨g19, H⟩ := H
  refine wp_getI rfl rfl g19 ?_
  refine wp_icmp_ge rfl (lo1 := [some (.ref l0), some (.ref l1), some (.int l2), some (.int l3)]) (lo2 := [some (.ref l0), some (.ref l1), some (.int l2), some (.int l3)]) rfl rfl (fun q18 => ?_) (fun q18 => ?_)
  · have H := H.1 q18
    refine wp_iload_n rfl rfl ?_
    refine wp_if_eq rfl (lo1 := [some (.ref l0), some (.ref l1), some (.int l2), some (.int l3)]) (lo2 := [some (.ref l0), some (.ref l1), some (.int l2), some (.int l3)]) rfl rfl (fun q1 => ?_) (fun q1 => ?_)
    · have H := H.1 q1
      refine wp_iconstk (lo' := [none, none, none, none]) rfl rfl ?_
      exact wp_zret rfl rfl (by decide) H
    · have H := H.2 q1
      refine wp_iconst rfl ?_
      refine wp_goto rfl (lo' := [none, none, none, none]) rfl ?_
      exact wp_zret rfl rfl (by decide) H
  · have H := H.2 q18
    refine wp_aload_n rfl rfl ?_
    obtain ⟨g16, g17, H⟩ := H
    refine wp_getR rfl rfl g16 g17 ?_
    refine wp_iload_n rfl rfl ?_
    obtain ⟨g15, H⟩ := H
    refine wp_iald rfl g15 ?_
    refine wp_iconst rfl ?_
    refine wp_icmp_ne rfl (lo1 := [some (.ref l0), some (.ref l1), some (.int l2), some (.int l3)]) (lo2 := [some (.ref l0), some (.ref l1), some (.int l2), some (.int l3)]) rfl rfl (fun q14 => ?_) (fun q14 => ?_)
    · have H := H.1 q14
      exact wb_Nest_isTorn_48_ok H
    · have H := H.2 q14
      refine wp_iload_n rfl rfl ?_
      refine wp_aload_n rfl rfl ?_
      obtain ⟨g12, g13, H⟩ := H
      refine wp_getR rfl rfl g12 g13 ?_
      obtain ⟨g11, H⟩ := H
      refine wp_alen rfl g11 ?_
      refine wp_icmp_ge rfl (lo1 := [some (.ref l0), some (.ref l1), some (.int l2), some (.int l3)]) (lo2 := [some (.ref l0), some (.ref l1), some (.int l2), some (.int l3)]) rfl rfl (fun q10 => ?_) (fun q10 => ?_)
      · have H := H.1 q10
        exact wb_Nest_isTorn_48_ok H
      · have H := H.2 q10
        refine wp_aload_n rfl rfl ?_
        obtain ⟨g8, g9, H⟩ := H
        refine wp_getR rfl rfl g8 g9 ?_
        refine wp_iload_n rfl rfl ?_
        refine wp_aload_n rfl rfl ?_
        refine wp_iload_n rfl rfl ?_
        obtain ⟨g7, H⟩ := H
        refine wp_callvI rfl rfl (Or.inl rfl) (lo' := [some (.ref l0), some (.ref l1), some (.int l2), some (.int l3)]) rfl g7 ⟨Nat.le_of_ble_eq_true rfl, Nat.le_of_ble_eq_true rfl, Nat.le_of_ble_eq_true rfl, Nat.le_of_ble_eq_true rfl⟩ (bd' := (0, 0)) rfl ?_
        refine (wq_Row_digit_ok H).conI (fun v3 h2 H => ?_)
        obtain ⟨g5, H⟩ := H
        obtain ⟨h4, e6⟩ : ∃ z : HP, z = stI h2 (gR h l0 0) l2.toNatClampNeg v3 := ⟨_, rfl⟩
        have H := H h4 e6
        refine wp_iast rfl g5 e6 ?_
        refine wp_iinc rfl rfl rfl (lo' := [some (.ref l0), some (.ref l1), some (.int (l2 + (1 : Int32))), some (.int l3)]) rfl ?_
        refine wp_goto rfl (lo' := [some (.ref l0), some (.ref l1), some (.int (l2 + (1 : Int32))), some (.int l3)]) rfl ?_
        refine wp_iinc rfl rfl rfl (lo' := [some (.ref l0), some (.ref l1), some (.int (l2 + (1 : Int32))), some (.int (l3 + (1 : Int32)))]) rfl ?_
        refine wp_goto rfl (lo' := [some (.ref l0), some (.ref l1), some (.int (l2 + (1 : Int32))), some (.int (l3 + (1 : Int32)))]) rfl ?_
        exact H
def wq_Nest_isTorn (p0 : Nat) (p1 : Nat) (h : HP) (K : Int32 → HP → Prop) : Prop :=
  Wp k_Nest_isTorn 4 [some (.ref p0), some (.ref p1), some (.int (0 : Int32)), some (.int (0 : Int32))] [] h (0, 0) (QI K)
theorem wq_Nest_isTorn_ok {p0 : Nat} {p1 : Nat} {h : HP} {K : Int32 → HP → Prop} (H : wq_Nest_isTorn p0 p1 h K) : Wp k_Nest_isTorn 0 [some (.ref p0), some (.ref p1), none, none] [] h (0, 0) (QI K) := by
  unfold wq_Nest_isTorn at H
  refine wp_iconst rfl ?_
  refine wp_istore_n rfl rfl (lo' := [some (.ref p0), some (.ref p1), some (.int (0 : Int32)), none]) rfl ?_
  refine wp_iconst rfl ?_
  refine wp_istore_n rfl rfl (lo' := [some (.ref p0), some (.ref p1), some (.int (0 : Int32)), some (.int (0 : Int32))]) rfl ?_
  exact H
def wb_Patch_matchDigits_10 (l0 : Nat) (l1 : Nat) (l2 : Nat) (l3 : Int32) (h : HP) (K : Int32 → HP → Prop) : Prop :=
  isO h l1 6 ∧ (gI h l1 7 ≤ l3 → K (1 : Int32) h) ∧ (¬ gI h l1 7 ≤ l3 → isO h l1 6 ∧ wq_Row_isMark l1 l3 h (fun v5 h4 => (v5 = 0 → Wp k_Patch_matchDigits 10 [some (.ref l0), some (.ref l1), some (.ref l2), some (.int (l3 + (1 : Int32))), none, none] [] h4 (0, 0) (QI K)) ∧ (¬ v5 = 0 → isO h4 l1 6 ∧ wq_Row_digit l1 l3 h4 (fun v7 h6 => isO h6 l2 6 ∧ wq_Row_digit l2 l3 h6 (fun v9 h8 => isO h8 l0 5 ∧ 0 < gR h8 l0 1 ∧ isL h8 (gR h8 l0 1) 100 v7 ∧ (gI h8 (gR h8 l0 1) v7.toNatClampNeg = (-1 : Int32) → isO h8 l0 5 ∧ 0 < gR h8 l0 1 ∧ isA h8 (gR h8 l0 1) 100 v7 ∧ (∀ h10 : HP, h10 = stI h8 (gR h8 l0 1) v7.toNatClampNeg v9 → Wp k_Patch_matchDigits 10 [some (.ref l0), some (.ref l1), some (.ref l2), some (.int (l3 + (1 : Int32))), none, none] [] h10 (0, 0) (QI K))) ∧ (¬ gI h8 (gR h8 l0 1) v7.toNatClampNeg = (-1 : Int32) → isO h8 l0 5 ∧ 0 < gR h8 l0 1 ∧ isL h8 (gR h8 l0 1) 100 v7 ∧ (gI h8 (gR h8 l0 1) v7.toNatClampNeg = v9 → isO h8 l0 5 ∧ 0 < gR h8 l0 1 ∧ isA h8 (gR h8 l0 1) 100 v7 ∧ (∀ h15 : HP, h15 = stI h8 (gR h8 l0 1) v7.toNatClampNeg v9 → Wp k_Patch_matchDigits 10 [some (.ref l0), some (.ref l1), some (.ref l2), some (.int (l3 + (1 : Int32))), none, none] [] h15 (0, 0) (QI K))) ∧ (¬ gI h8 (gR h8 l0 1) v7.toNatClampNeg = v9 → K (0 : Int32) h8)))))))
set_option maxRecDepth 100000 in
set_option maxHeartbeats 4000000 in
theorem wb_Patch_matchDigits_10_ok {l0 : Nat} {l1 : Nat} {l2 : Nat} {l3 : Int32} {h : HP} {K : Int32 → HP → Prop} (H : wb_Patch_matchDigits_10 l0 l1 l2 l3 h K) : Wp k_Patch_matchDigits 10 [some (.ref l0), some (.ref l1), some (.ref l2), some (.int l3), none, none] [] h (0, 0) (QI K) := by
  unfold wb_Patch_matchDigits_10 at H
  refine wp_iload_n rfl rfl ?_
  refine wp_aload_n rfl rfl ?_
  obtain ⟨g33, H⟩ := H
  refine wp_getI rfl rfl g33 ?_
  refine wp_icmp_ge rfl (lo1 := [some (.ref l0), some (.ref l1), some (.ref l2), some (.int l3), none, none]) (lo2 := [some (.ref l0), some (.ref l1), some (.ref l2), some (.int l3), none, none]) rfl rfl (fun q32 => ?_) (fun q32 => ?_)
  · have H := H.1 q32
    refine wp_iconst rfl ?_
    exact wp_zret rfl rfl (by decide) H
  · have H := H.2 q32
    refine wp_aload_n rfl rfl ?_
    refine wp_iload_n rfl rfl ?_
    obtain ⟨g31, H⟩ := H
    refine wp_callvI rfl rfl (Or.inr rfl) (lo' := [some (.ref l0), some (.ref l1), some (.ref l2), some (.int l3), none, none]) rfl g31 ⟨Nat.le_of_ble_eq_true rfl, Nat.le_of_ble_eq_true rfl, Nat.le_of_ble_eq_true rfl, Nat.le_of_ble_eq_true rfl⟩ (bd' := (0, 0)) rfl ?_
    refine (wq_Row_isMark_ok H).conI (fun v5 h4 H => ?_)
    refine wp_if_eq rfl (lo1 := [some (.ref l0), some (.ref l1), some (.ref l2), some (.int l3), none, none]) (lo2 := [some (.ref l0), some (.ref l1), some (.ref l2), some (.int l3), none, none]) rfl rfl (fun q30 => ?_) (fun q30 => ?_)
    · have H := H.1 q30
      refine wp_iinc rfl rfl rfl (lo' := [some (.ref l0), some (.ref l1), some (.ref l2), some (.int (l3 + (1 : Int32))), none, none]) rfl ?_
      refine wp_goto rfl (lo' := [some (.ref l0), some (.ref l1), some (.ref l2), some (.int (l3 + (1 : Int32))), none, none]) rfl ?_
      exact H
    · have H := H.2 q30
      refine wp_aload_n rfl rfl ?_
      refine wp_iload_n rfl rfl ?_
      obtain ⟨g29, H⟩ := H
      refine wp_callvI rfl rfl (Or.inl rfl) (lo' := [some (.ref l0), some (.ref l1), some (.ref l2), some (.int l3), none, none]) rfl g29 ⟨Nat.le_of_ble_eq_true rfl, Nat.le_of_ble_eq_true rfl, Nat.le_of_ble_eq_true rfl, Nat.le_of_ble_eq_true rfl⟩ (bd' := (0, 0)) rfl ?_
      refine (wq_Row_digit_ok H).conI (fun v7 h6 H => ?_)
      refine wp_istore rfl rfl (lo' := [some (.ref l0), some (.ref l1), some (.ref l2), some (.int l3), some (.int v7), none]) rfl ?_
      refine wp_aload_n rfl rfl ?_
      refine wp_iload_n rfl rfl ?_
      obtain ⟨g28, H⟩ := H
      refine wp_callvI rfl rfl (Or.inl rfl) (lo' := [some (.ref l0), some (.ref l1), some (.ref l2), some (.int l3), some (.int v7), none]) rfl g28 ⟨Nat.le_of_ble_eq_true rfl, Nat.le_of_ble_eq_true rfl, Nat.le_of_ble_eq_true rfl, Nat.le_of_ble_eq_true rfl⟩ (bd' := (0, 0)) rfl ?_
      refine (wq_Row_digit_ok H).conI (fun v9 h8 H => ?_)
      refine wp_istore rfl rfl (lo' := [some (.ref l0), some (.ref l1), some (.ref l2), some (.int l3), some (.int v7), some (.int v9)]) rfl ?_
      refine wp_aload_n rfl rfl ?_
      obtain ⟨g26, g27, H⟩ := H
      refine wp_getR rfl rfl g26 g27 ?_
      refine wp_iload rfl rfl ?_
      obtain ⟨g25, H⟩ := H
      refine wp_iald rfl g25 ?_
      refine wp_iconst rfl ?_
      refine wp_icmp_eq rfl (lo1 := [some (.ref l0), some (.ref l1), some (.ref l2), some (.int l3), some (.int v7), some (.int v9)]) (lo2 := [some (.ref l0), some (.ref l1), some (.ref l2), some (.int l3), some (.int v7), some (.int v9)]) rfl rfl (fun q24 => ?_) (fun q24 => ?_)
      · have H := H.1 q24
        refine wp_aload_n rfl rfl ?_
        obtain ⟨g13, g14, H⟩ := H
        refine wp_getR rfl rfl g13 g14 ?_
        refine wp_iload rfl rfl ?_
        refine wp_iload rfl rfl ?_
        obtain ⟨g11, H⟩ := H
        obtain ⟨h10, e12⟩ : ∃ z : HP, z = stI h8 (gR h8 l0 1) v7.toNatClampNeg v9 := ⟨_, rfl⟩
        have H := H h10 e12
        refine wp_iastk (lo' := [some (.ref l0), some (.ref l1), some (.ref l2), some (.int l3), none, none]) rfl rfl g11 e12 ?_
        refine wp_iinc rfl rfl rfl (lo' := [some (.ref l0), some (.ref l1), some (.ref l2), some (.int (l3 + (1 : Int32))), none, none]) rfl ?_
        refine wp_goto rfl (lo' := [some (.ref l0), some (.ref l1), some (.ref l2), some (.int (l3 + (1 : Int32))), none, none]) rfl ?_
        exact H
      · have H := H.2 q24
        refine wp_aload_n rfl rfl ?_
        obtain ⟨g22, g23, H⟩ := H
        refine wp_getR rfl rfl g22 g23 ?_
        refine wp_iload rfl rfl ?_
        obtain ⟨g21, H⟩ := H
        refine wp_iald rfl g21 ?_
        refine wp_iload rfl rfl ?_
        refine wp_icmp_eq rfl (lo1 := [some (.ref l0), some (.ref l1), some (.ref l2), some (.int l3), some (.int v7), some (.int v9)]) (lo2 := [some (.ref l0), some (.ref l1), some (.ref l2), some (.int l3), some (.int v7), some (.int v9)]) rfl rfl (fun q20 => ?_) (fun q20 => ?_)
        · have H := H.1 q20
          refine wp_aload_n rfl rfl ?_
          obtain ⟨g18, g19, H⟩ := H
          refine wp_getR rfl rfl g18 g19 ?_
          refine wp_iload rfl rfl ?_
          refine wp_iload rfl rfl ?_
          obtain ⟨g16, H⟩ := H
          obtain ⟨h15, e17⟩ : ∃ z : HP, z = stI h8 (gR h8 l0 1) v7.toNatClampNeg v9 := ⟨_, rfl⟩
          have H := H h15 e17
          refine wp_iastk (lo' := [some (.ref l0), some (.ref l1), some (.ref l2), some (.int l3), none, none]) rfl rfl g16 e17 ?_
          refine wp_iinc rfl rfl rfl (lo' := [some (.ref l0), some (.ref l1), some (.ref l2), some (.int (l3 + (1 : Int32))), none, none]) rfl ?_
          refine wp_goto rfl (lo' := [some (.ref l0), some (.ref l1), some (.ref l2), some (.int (l3 + (1 : Int32))), none, none]) rfl ?_
          exact H
        · have H := H.2 q20
          refine wp_iconst rfl ?_
          exact wp_zret rfl rfl (by decide) H
def wq_Patch_matchDigits (p0 : Nat) (p1 : Nat) (p2 : Nat) (h : HP) (K : Int32 → HP → Prop) : Prop :=
  isO h p0 5 ∧ 0 < gR h p0 1 ∧ wq_Arrays_fill (gR h p0 1) (-1 : Int32) h (fun h1 => Wp k_Patch_matchDigits 10 [some (.ref p0), some (.ref p1), some (.ref p2), some (.int (0 : Int32)), none, none] [] h1 (0, 0) (QI K))
theorem wq_Patch_matchDigits_ok {p0 : Nat} {p1 : Nat} {p2 : Nat} {h : HP} {K : Int32 → HP → Prop} (H : wq_Patch_matchDigits p0 p1 p2 h K) : Wp k_Patch_matchDigits 0 [some (.ref p0), some (.ref p1), some (.ref p2), none, none, none] [] h (0, 0) (QI K) := by
  unfold wq_Patch_matchDigits at H
  refine wp_aload_n rfl rfl ?_
  obtain ⟨g2, g3, H⟩ := H
  refine wp_getR rfl rfl g2 g3 ?_
  refine wp_iconst rfl ?_
  refine wp_callsV rfl rfl rfl rfl (lo' := [some (.ref p0), some (.ref p1), some (.ref p2), none, none, none]) rfl ⟨Nat.le_of_ble_eq_true rfl, Nat.le_of_ble_eq_true rfl, Nat.le_of_ble_eq_true rfl, Nat.le_of_ble_eq_true rfl⟩ (bd' := (0, 0)) rfl ?_
  refine (wq_Arrays_fill_ok H).conV (fun h1 H => ?_)
  refine wp_iconst rfl ?_
  refine wp_istore_n rfl rfl (lo' := [some (.ref p0), some (.ref p1), some (.ref p2), some (.int (0 : Int32)), none, none]) rfl ?_
  exact H
def wq_Patch_putMark (p0 : Nat) (p1 : Nat) (p2 : Int32) (h : HP) (K : Int32 → HP → Prop) : Prop :=
  isO h p0 5 ∧ 0 < gR h p0 1 ∧ isO h p1 6 ∧ wq_Row_digit p1 p2 h (fun v2 h1 => isL h1 (gR h p0 1) 100 v2 ∧ (¬ gI h1 (gR h p0 1) v2.toNatClampNeg = (-1 : Int32) → isO h1 p1 6 ∧ wq_Row_digitPlace p1 p2 h1 (fun v4 h3 => isO h3 p1 6 ∧ 0 < gR h3 p1 3 ∧ isO h3 p1 6 ∧ 0 < gR h3 p1 1 ∧ isL h3 (gR h3 p1 1) 100 p2 ∧ isO h3 p0 5 ∧ wq_Patch_copy p0 (gR h3 p1 3) (gI h3 (gR h3 p1 1) p2.toNatClampNeg) v4 h3 (fun h5 => isO h5 p0 5 ∧ 0 < gR h5 p0 0 ∧ isO h5 (gR h5 p0 0) 7 ∧ wq_Text_put (gR h5 p0 0) ((48 : Int32) + (gI h1 (gR h p0 1) v2.toNatClampNeg)) h5 (fun h6 => isO h6 p1 6 ∧ 0 < gR h6 p1 3 ∧ isO h6 p1 6 ∧ 0 < gR h6 p1 1 ∧ isL h6 (gR h6 p1 1) 100 p2 ∧ isO h6 p1 6 ∧ 0 < gR h6 p1 2 ∧ isL h6 (gR h6 p1 2) 100 p2 ∧ isO h6 p0 5 ∧ wq_Patch_copy p0 (gR h6 p1 3) (v4 + (1 : Int32)) ((gI h6 (gR h6 p1 1) p2.toNatClampNeg) + (gI h6 (gR h6 p1 2) p2.toNatClampNeg)) h6 (fun h7 => K (1 : Int32) h7))))) ∧ (gI h1 (gR h p0 1) v2.toNatClampNeg = (-1 : Int32) → K (0 : Int32) h1))
set_option maxRecDepth 100000 in
set_option maxHeartbeats 4000000 in
theorem wq_Patch_putMark_ok {p0 : Nat} {p1 : Nat} {p2 : Int32} {h : HP} {K : Int32 → HP → Prop} (H : wq_Patch_putMark p0 p1 p2 h K) : Wp k_Patch_putMark 0 [some (.ref p0), some (.ref p1), some (.int p2), none, none] [] h (0, 0) (QI K) := by
  unfold wq_Patch_putMark at H
  refine wp_aload_n rfl rfl ?_
  obtain ⟨g30, g31, H⟩ := H
  refine wp_getR rfl rfl g30 g31 ?_
  refine wp_aload_n rfl rfl ?_
  refine wp_iload_n rfl rfl ?_
  obtain ⟨g29, H⟩ := H
  refine wp_callvI rfl rfl (Or.inl rfl) (lo' := [some (.ref p0), some (.ref p1), some (.int p2), none, none]) rfl g29 ⟨Nat.le_of_ble_eq_true rfl, Nat.le_of_ble_eq_true rfl, Nat.le_of_ble_eq_true rfl, Nat.le_of_ble_eq_true rfl⟩ (bd' := (0, 0)) rfl ?_
  refine (wq_Row_digit_ok H).conI (fun v2 h1 H => ?_)
  obtain ⟨g28, H⟩ := H
  refine wp_iald rfl g28 ?_
  refine wp_istore_n rfl rfl (lo' := [some (.ref p0), some (.ref p1), some (.int p2), some (.int (gI h1 (gR h p0 1) v2.toNatClampNeg)), none]) rfl ?_
  refine wp_iload_n rfl rfl ?_
  refine wp_iconst rfl ?_
  refine wp_icmp_ne rfl (lo1 := [some (.ref p0), some (.ref p1), some (.int p2), some (.int (gI h1 (gR h p0 1) v2.toNatClampNeg)), none]) (lo2 := [some (.ref p0), some (.ref p1), some (.int p2), some (.int (gI h1 (gR h p0 1) v2.toNatClampNeg)), none]) rfl rfl (fun q27 => ?_) (fun q27 => ?_)
  · have H := H.1 q27
    refine wp_aload_n rfl rfl ?_
    refine wp_iload_n rfl rfl ?_
    obtain ⟨g26, H⟩ := H
    refine wp_callvI rfl rfl (Or.inl rfl) (lo' := [some (.ref p0), some (.ref p1), some (.int p2), some (.int (gI h1 (gR h p0 1) v2.toNatClampNeg)), none]) rfl g26 ⟨Nat.le_of_ble_eq_true rfl, Nat.le_of_ble_eq_true rfl, Nat.le_of_ble_eq_true rfl, Nat.le_of_ble_eq_true rfl⟩ (bd' := (0, 0)) rfl ?_
    refine (wq_Row_digitPlace_ok H).conI (fun v4 h3 H => ?_)
    refine wp_istore rfl rfl (lo' := [some (.ref p0), some (.ref p1), some (.int p2), some (.int (gI h1 (gR h p0 1) v2.toNatClampNeg)), some (.int v4)]) rfl ?_
    refine wp_aload_n rfl rfl ?_
    refine wp_aload_n rfl rfl ?_
    obtain ⟨g24, g25, H⟩ := H
    refine wp_getR rfl rfl g24 g25 ?_
    refine wp_aload_n rfl rfl ?_
    obtain ⟨g22, g23, H⟩ := H
    refine wp_getR rfl rfl g22 g23 ?_
    refine wp_iload_n rfl rfl ?_
    obtain ⟨g21, H⟩ := H
    refine wp_iald rfl g21 ?_
    refine wp_iload rfl rfl ?_
    obtain ⟨g20, H⟩ := H
    refine wp_callvV rfl rfl rfl (lo' := [some (.ref p0), some (.ref p1), some (.int p2), some (.int (gI h1 (gR h p0 1) v2.toNatClampNeg)), some (.int v4)]) rfl g20 ⟨Nat.le_of_ble_eq_true rfl, Nat.le_of_ble_eq_true rfl, Nat.le_of_ble_eq_true rfl, Nat.le_of_ble_eq_true rfl⟩ (bd' := (0, 0)) rfl ?_
    refine (wq_Patch_copy_ok H).conV (fun h5 H => ?_)
    refine wp_aload_n rfl rfl ?_
    obtain ⟨g18, g19, H⟩ := H
    refine wp_getR rfl rfl g18 g19 ?_
    refine wp_bipush rfl ?_
    refine wp_iload_n rfl rfl ?_
    refine wp_iadd rfl ?_
    obtain ⟨g17, H⟩ := H
    refine wp_callvV rfl rfl rfl (lo' := [some (.ref p0), some (.ref p1), some (.int p2), some (.int (gI h1 (gR h p0 1) v2.toNatClampNeg)), some (.int v4)]) rfl g17 ⟨Nat.le_of_ble_eq_true rfl, Nat.le_of_ble_eq_true rfl, Nat.le_of_ble_eq_true rfl, Nat.le_of_ble_eq_true rfl⟩ (bd' := (0, 0)) rfl ?_
    refine (wq_Text_put_ok H).conV (fun h6 H => ?_)
    refine wp_aload_n rfl rfl ?_
    refine wp_aload_n rfl rfl ?_
    obtain ⟨g15, g16, H⟩ := H
    refine wp_getR rfl rfl g15 g16 ?_
    refine wp_iload rfl rfl ?_
    refine wp_iconst rfl ?_
    refine wp_iadd rfl ?_
    refine wp_aload_n rfl rfl ?_
    obtain ⟨g13, g14, H⟩ := H
    refine wp_getR rfl rfl g13 g14 ?_
    refine wp_iload_n rfl rfl ?_
    obtain ⟨g12, H⟩ := H
    refine wp_iald rfl g12 ?_
    refine wp_aload_n rfl rfl ?_
    obtain ⟨g10, g11, H⟩ := H
    refine wp_getR rfl rfl g10 g11 ?_
    refine wp_iload_n rfl rfl ?_
    obtain ⟨g9, H⟩ := H
    refine wp_iald rfl g9 ?_
    refine wp_iadd rfl ?_
    obtain ⟨g8, H⟩ := H
    refine wp_callvV rfl rfl rfl (lo' := [some (.ref p0), some (.ref p1), some (.int p2), some (.int (gI h1 (gR h p0 1) v2.toNatClampNeg)), some (.int v4)]) rfl g8 ⟨Nat.le_of_ble_eq_true rfl, Nat.le_of_ble_eq_true rfl, Nat.le_of_ble_eq_true rfl, Nat.le_of_ble_eq_true rfl⟩ (bd' := (0, 0)) rfl ?_
    refine (wq_Patch_copy_ok H).conV (fun h7 H => ?_)
    refine wp_iconst rfl ?_
    exact wp_zret rfl rfl (by decide) H
  · have H := H.2 q27
    refine wp_iconst rfl ?_
    exact wp_zret rfl rfl (by decide) H
def wb_Patch_putNumber_3 (l0 : Nat) (l1 : Nat) (l2 : Int32) (l3 : Nat) (l4 : Nat) (l5 : Int32) (h : HP) (K : Int32 → HP → Prop) : Prop :=
  isO h l3 6 ∧ (gI h l3 7 ≤ l5 → K (0 : Int32) h) ∧ (¬ gI h l3 7 ≤ l5 → isO h l3 6 ∧ 0 < gR h l3 0 ∧ isL h (gR h l3 0) 100 l5 ∧ (¬ gI h (gR h l3 0) l5.toNatClampNeg = (1 : Int32) → Wp k_Patch_putNumber 3 [some (.ref l0), some (.ref l1), some (.int l2), some (.ref l3), some (.ref l4), some (.int (l5 + (1 : Int32)))] [] h (0, 0) (QI K)) ∧ (gI h (gR h l3 0) l5.toNatClampNeg = (1 : Int32) → isO h l0 5 ∧ 0 < gR h l0 2 ∧ isA h (gR h l0 2) 102 l5 ∧ (¬ gI h (gR h l0 2) l5.toNatClampNeg = 0 → Wp k_Patch_putNumber 3 [some (.ref l0), some (.ref l1), some (.int l2), some (.ref l3), some (.ref l4), some (.int (l5 + (1 : Int32)))] [] h (0, 0) (QI K)) ∧ (gI h (gR h l0 2) l5.toNatClampNeg = 0 → wq_Patch_readsSame l1 l2 l3 l5 h (fun v2 h1 => (v2 = 0 → Wp k_Patch_putNumber 3 [some (.ref l0), some (.ref l1), some (.int l2), some (.ref l3), some (.ref l4), some (.int (l5 + (1 : Int32)))] [] h1 (0, 0) (QI K)) ∧ (¬ v2 = 0 → isO h1 l0 5 ∧ 0 < gR h1 l0 2 ∧ isA h1 (gR h1 l0 2) 102 l5 ∧ (∀ h3 : HP, h3 = stI h1 (gR h1 l0 2) l5.toNatClampNeg (narB 102 (1 : Int32)) → isO h3 l0 5 ∧ wq_Patch_copyNumber l0 l4 l5 h3 (fun h4 => K (1 : Int32) h4)))))))
set_option maxRecDepth 100000 in
set_option maxHeartbeats 4000000 in
theorem wb_Patch_putNumber_3_ok {l0 : Nat} {l1 : Nat} {l2 : Int32} {l3 : Nat} {l4 : Nat} {l5 : Int32} {h : HP} {K : Int32 → HP → Prop} (H : wb_Patch_putNumber_3 l0 l1 l2 l3 l4 l5 h K) : Wp k_Patch_putNumber 3 [some (.ref l0), some (.ref l1), some (.int l2), some (.ref l3), some (.ref l4), some (.int l5)] [] h (0, 0) (QI K) := by
  unfold wb_Patch_putNumber_3 at H
  refine wp_iload rfl rfl ?_
  refine wp_aload_n rfl rfl ?_
  obtain ⟨g20, H⟩ := H
  refine wp_getI rfl rfl g20 ?_
  refine wp_icmp_ge rfl (lo1 := [some (.ref l0), some (.ref l1), some (.int l2), some (.ref l3), some (.ref l4), some (.int l5)]) (lo2 := [some (.ref l0), some (.ref l1), some (.int l2), some (.ref l3), some (.ref l4), some (.int l5)]) rfl rfl (fun q19 => ?_) (fun q19 => ?_)
  · have H := H.1 q19
    refine wp_iconst rfl ?_
    exact wp_zret rfl rfl (by decide) H
  · have H := H.2 q19
    refine wp_aload_n rfl rfl ?_
    obtain ⟨g17, g18, H⟩ := H
    refine wp_getR rfl rfl g17 g18 ?_
    refine wp_iload rfl rfl ?_
    obtain ⟨g16, H⟩ := H
    refine wp_iald rfl g16 ?_
    refine wp_iconst rfl ?_
    refine wp_icmp_ne rfl (lo1 := [some (.ref l0), some (.ref l1), some (.int l2), some (.ref l3), some (.ref l4), some (.int l5)]) (lo2 := [some (.ref l0), some (.ref l1), some (.int l2), some (.ref l3), some (.ref l4), some (.int l5)]) rfl rfl (fun q15 => ?_) (fun q15 => ?_)
    · have H := H.1 q15
      refine wp_iinc rfl rfl rfl (lo' := [some (.ref l0), some (.ref l1), some (.int l2), some (.ref l3), some (.ref l4), some (.int (l5 + (1 : Int32)))]) rfl ?_
      refine wp_goto rfl (lo' := [some (.ref l0), some (.ref l1), some (.int l2), some (.ref l3), some (.ref l4), some (.int (l5 + (1 : Int32)))]) rfl ?_
      exact H
    · have H := H.2 q15
      refine wp_aload_n rfl rfl ?_
      obtain ⟨g13, g14, H⟩ := H
      refine wp_getR rfl rfl g13 g14 ?_
      refine wp_iload rfl rfl ?_
      obtain ⟨g12, H⟩ := H
      refine wp_bald rfl g12 ?_
      refine wp_if_ne rfl (lo1 := [some (.ref l0), some (.ref l1), some (.int l2), some (.ref l3), some (.ref l4), some (.int l5)]) (lo2 := [some (.ref l0), some (.ref l1), some (.int l2), some (.ref l3), some (.ref l4), some (.int l5)]) rfl rfl (fun q11 => ?_) (fun q11 => ?_)
      · have H := H.1 q11
        refine wp_iinc rfl rfl rfl (lo' := [some (.ref l0), some (.ref l1), some (.int l2), some (.ref l3), some (.ref l4), some (.int (l5 + (1 : Int32)))]) rfl ?_
        refine wp_goto rfl (lo' := [some (.ref l0), some (.ref l1), some (.int l2), some (.ref l3), some (.ref l4), some (.int (l5 + (1 : Int32)))]) rfl ?_
        exact H
      · have H := H.2 q11
        refine wp_aload_n rfl rfl ?_
        refine wp_iload_n rfl rfl ?_
        refine wp_aload_n rfl rfl ?_
        refine wp_iload rfl rfl ?_
        refine wp_callsI rfl rfl rfl (Or.inr rfl) (lo' := [some (.ref l0), some (.ref l1), some (.int l2), some (.ref l3), some (.ref l4), some (.int l5)]) rfl ⟨Nat.le_of_ble_eq_true rfl, Nat.le_of_ble_eq_true rfl, Nat.le_of_ble_eq_true rfl, Nat.le_of_ble_eq_true rfl⟩ (bd' := (0, 0)) rfl ?_
        refine (wq_Patch_readsSame_ok H).conI (fun v2 h1 H => ?_)
        refine wp_if_eq rfl (lo1 := [some (.ref l0), some (.ref l1), some (.int l2), some (.ref l3), some (.ref l4), some (.int l5)]) (lo2 := [some (.ref l0), some (.ref l1), some (.int l2), some (.ref l3), some (.ref l4), some (.int l5)]) rfl rfl (fun q10 => ?_) (fun q10 => ?_)
        · have H := H.1 q10
          refine wp_iinc rfl rfl rfl (lo' := [some (.ref l0), some (.ref l1), some (.int l2), some (.ref l3), some (.ref l4), some (.int (l5 + (1 : Int32)))]) rfl ?_
          refine wp_goto rfl (lo' := [some (.ref l0), some (.ref l1), some (.int l2), some (.ref l3), some (.ref l4), some (.int (l5 + (1 : Int32)))]) rfl ?_
          exact H
        · have H := H.2 q10
          refine wp_aload_n rfl rfl ?_
          obtain ⟨g8, g9, H⟩ := H
          refine wp_getR rfl rfl g8 g9 ?_
          refine wp_iload rfl rfl ?_
          refine wp_iconst rfl ?_
          obtain ⟨g6, H⟩ := H
          obtain ⟨h3, e7⟩ : ∃ z : HP, z = stI h1 (gR h1 l0 2) l5.toNatClampNeg (narB 102 (1 : Int32)) := ⟨_, rfl⟩
          have H := H h3 e7
          refine wp_bast rfl g6 e7 ?_
          refine wp_aload_n rfl rfl ?_
          refine wp_aload rfl rfl ?_
          refine wp_iload rfl rfl ?_
          obtain ⟨g5, H⟩ := H
          refine wp_callvV rfl rfl rfl (lo' := [some (.ref l0), some (.ref l1), some (.int l2), some (.ref l3), some (.ref l4), some (.int l5)]) rfl g5 ⟨Nat.le_of_ble_eq_true rfl, Nat.le_of_ble_eq_true rfl, Nat.le_of_ble_eq_true rfl, Nat.le_of_ble_eq_true rfl⟩ (bd' := (0, 0)) rfl ?_
          refine (wq_Patch_copyNumber_ok H).conV (fun h4 H => ?_)
          refine wp_iconst rfl ?_
          exact wp_zret rfl rfl (by decide) H
def wq_Patch_putNumber (p0 : Nat) (p1 : Nat) (p2 : Int32) (p3 : Nat) (p4 : Nat) (h : HP) (K : Int32 → HP → Prop) : Prop :=
  Wp k_Patch_putNumber 3 [some (.ref p0), some (.ref p1), some (.int p2), some (.ref p3), some (.ref p4), some (.int (0 : Int32))] [] h (0, 0) (QI K)
theorem wq_Patch_putNumber_ok {p0 : Nat} {p1 : Nat} {p2 : Int32} {p3 : Nat} {p4 : Nat} {h : HP} {K : Int32 → HP → Prop} (H : wq_Patch_putNumber p0 p1 p2 p3 p4 h K) : Wp k_Patch_putNumber 0 [some (.ref p0), some (.ref p1), some (.int p2), some (.ref p3), some (.ref p4), none] [] h (0, 0) (QI K) := by
  unfold wq_Patch_putNumber at H
  refine wp_iconst rfl ?_
  refine wp_istore rfl rfl (lo' := [some (.ref p0), some (.ref p1), some (.int p2), some (.ref p3), some (.ref p4), some (.int (0 : Int32))]) rfl ?_
  exact H
def wb_Row_isLike_15 (l0 : Nat) (l1 : Nat) (l2 : Int32) (h : HP) (K : Int32 → HP → Prop) : Prop :=
  isO h l0 6 ∧ (gI h l0 7 ≤ l2 → K (1 : Int32) h) ∧ (¬ gI h l0 7 ≤ l2 → isO h l0 6 ∧ wq_Row_isPieceLike l0 l2 l1 h (fun v5 h4 => (¬ v5 = 0 → Wp k_Row_isLike 15 [some (.ref l0), some (.ref l1), some (.int (l2 + (1 : Int32)))] [] h4 (0, 0) (QI K)) ∧ (v5 = 0 → K (0 : Int32) h4)))
theorem wb_Row_isLike_15_ok {l0 : Nat} {l1 : Nat} {l2 : Int32} {h : HP} {K : Int32 → HP → Prop} (H : wb_Row_isLike_15 l0 l1 l2 h K) : Wp k_Row_isLike 15 [some (.ref l0), some (.ref l1), some (.int l2)] [] h (0, 0) (QI K) := by
  unfold wb_Row_isLike_15 at H
  refine wp_iload_n rfl rfl ?_
  refine wp_aload_n rfl rfl ?_
  obtain ⟨g9, H⟩ := H
  refine wp_getI rfl rfl g9 ?_
  refine wp_icmp_ge rfl (lo1 := [some (.ref l0), some (.ref l1), some (.int l2)]) (lo2 := [some (.ref l0), some (.ref l1), some (.int l2)]) rfl rfl (fun q8 => ?_) (fun q8 => ?_)
  · have H := H.1 q8
    refine wp_iconst rfl ?_
    exact wp_zret rfl rfl (by decide) H
  · have H := H.2 q8
    refine wp_aload_n rfl rfl ?_
    refine wp_iload_n rfl rfl ?_
    refine wp_aload_n rfl rfl ?_
    obtain ⟨g7, H⟩ := H
    refine wp_callvI rfl rfl (Or.inr rfl) (lo' := [some (.ref l0), some (.ref l1), some (.int l2)]) rfl g7 ⟨Nat.le_of_ble_eq_true rfl, Nat.le_of_ble_eq_true rfl, Nat.le_of_ble_eq_true rfl, Nat.le_of_ble_eq_true rfl⟩ (bd' := (0, 0)) rfl ?_
    refine (wq_Row_isPieceLike_ok H).conI (fun v5 h4 H => ?_)
    refine wp_if_ne rfl (lo1 := [some (.ref l0), some (.ref l1), some (.int l2)]) (lo2 := [some (.ref l0), some (.ref l1), some (.int l2)]) rfl rfl (fun q6 => ?_) (fun q6 => ?_)
    · have H := H.1 q6
      refine wp_iinc rfl rfl rfl (lo' := [some (.ref l0), some (.ref l1), some (.int (l2 + (1 : Int32)))]) rfl ?_
      refine wp_goto rfl (lo' := [some (.ref l0), some (.ref l1), some (.int (l2 + (1 : Int32)))]) rfl ?_
      exact H
    · have H := H.2 q6
      refine wp_iconst rfl ?_
      exact wp_zret rfl rfl (by decide) H
def wq_Row_isLike (p0 : Nat) (p1 : Nat) (h : HP) (K : Int32 → HP → Prop) : Prop :=
  isO h p0 6 ∧ isO h p1 6 ∧ (gI h p0 7 = gI h p1 7 → Wp k_Row_isLike 15 [some (.ref p0), some (.ref p1), some (.int (0 : Int32))] [] h (0, 0) (QI K)) ∧ (¬ gI h p0 7 = gI h p1 7 → K (0 : Int32) h)
theorem wq_Row_isLike_ok {p0 : Nat} {p1 : Nat} {h : HP} {K : Int32 → HP → Prop} (H : wq_Row_isLike p0 p1 h K) : Wp k_Row_isLike 0 [some (.ref p0), some (.ref p1), none] [] h (0, 0) (QI K) := by
  unfold wq_Row_isLike at H
  refine wp_aload_n rfl rfl ?_
  obtain ⟨g3, H⟩ := H
  refine wp_getI rfl rfl g3 ?_
  refine wp_aload_n rfl rfl ?_
  obtain ⟨g2, H⟩ := H
  refine wp_getI rfl rfl g2 ?_
  refine wp_icmp_eq rfl (lo1 := [some (.ref p0), some (.ref p1), none]) (lo2 := [some (.ref p0), some (.ref p1), none]) rfl rfl (fun q1 => ?_) (fun q1 => ?_)
  · have H := H.1 q1
    refine wp_iconst rfl ?_
    refine wp_istore_n rfl rfl (lo' := [some (.ref p0), some (.ref p1), some (.int (0 : Int32))]) rfl ?_
    exact H
  · have H := H.2 q1
    refine wp_iconst rfl ?_
    exact wp_zret rfl rfl (by decide) H
