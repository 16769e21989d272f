def wb_M_keepCost_26 (l0 : Nat) (l1 : Int32) (l2 : Int32) (h : HP) (K : Int32 → HP → Prop) : Prop :=
  isO h l0 10 ∧ 0 < gR h l0 3 ∧ isL h (gR h l0 3) 100 l1 ∧ isO h l0 10 ∧ 0 < gR h l0 3 ∧ isL h (gR h l0 3) 100 l2 ∧ (gI h (gR h l0 3) l1.toNatClampNeg = gI h (gR h l0 3) l2.toNatClampNeg → isO h l0 10 ∧ 0 < gR h l0 3 ∧ isL h (gR h l0 3) 100 l1 ∧ (¬ gI h (gR h l0 3) l1.toNatClampNeg = 0 → isO h l0 10 ∧ 0 < gR h l0 3 ∧ isL h (gR h l0 3) 100 l1 ∧ (¬ gI h (gR h l0 3) l1.toNatClampNeg = (5 : Int32) → K (2 : Int32) h) ∧ (gI h (gR h l0 3) l1.toNatClampNeg = (5 : Int32) → K (10 : Int32) h)) ∧ (gI h (gR h l0 3) l1.toNatClampNeg = 0 → isO h l0 10 ∧ 0 < gR h l0 4 ∧ isL h (gR h l0 4) 100 l1 ∧ isO h l0 10 ∧ 0 < gR h l0 5 ∧ isL h (gR h l0 5) 100 l1 ∧ isO h l0 10 ∧ 0 < gR h l0 4 ∧ isL h (gR h l0 4) 100 l2 ∧ isO h l0 10 ∧ 0 < gR h l0 5 ∧ isL h (gR h l0 5) 100 l2 ∧ isO h l0 10 ∧ wq_M_alike l0 (gI h (gR h l0 4) l1.toNatClampNeg) (gI h (gR h l0 5) l1.toNatClampNeg) (gI h (gR h l0 4) l2.toNatClampNeg) (gI h (gR h l0 5) l2.toNatClampNeg) h (fun v17 h16 => (v17 = 0 → K (10 : Int32) h16) ∧ (¬ v17 = 0 → K (1 : Int32) h16)))) ∧ (¬ gI h (gR h l0 3) l1.toNatClampNeg = gI h (gR h l0 3) l2.toNatClampNeg → K (10 : Int32) h)
theorem wb_M_keepCost_26_ok {l0 : Nat} {l1 : Int32} {l2 : Int32} {h : HP} {K : Int32 → HP → Prop} (H : wb_M_keepCost_26 l0 l1 l2 h K) : Wp k_M_keepCost 26 [some (.ref l0), some (.int l1), some (.int l2)] [] h (0, 0) (QI K) := by
  unfold wb_M_keepCost_26 at H
  refine wp_aload_n rfl rfl ?_
  obtain ⟨g41, g42, H⟩ := H
  refine wp_getR rfl rfl g41 g42 ?_
  refine wp_iload_n rfl rfl ?_
  obtain ⟨g40, H⟩ := H
  refine wp_iald rfl g40 ?_
  refine wp_aload_n rfl rfl ?_
  obtain ⟨g38, g39, H⟩ := H
  refine wp_getR rfl rfl g38 g39 ?_
  refine wp_iload_n rfl rfl ?_
  obtain ⟨g37, H⟩ := H
  refine wp_iald rfl g37 ?_
  refine wp_icmp_eq rfl (lo1 := [some (.ref l0), some (.int l1), some (.int l2)]) (lo2 := [some (.ref l0), some (.int l1), some (.int l2)]) rfl rfl (fun q36 => ?_) (fun q36 => ?_)
  · have H := H.1 q36
    refine wp_aload_n rfl rfl ?_
    obtain ⟨g34, g35, H⟩ := H
    refine wp_getR rfl rfl g34 g35 ?_
    refine wp_iload_n rfl rfl ?_
    obtain ⟨g33, H⟩ := H
    refine wp_iald rfl g33 ?_
    refine wp_if_ne rfl (lo1 := [some (.ref l0), some (.int l1), some (.int l2)]) (lo2 := [some (.ref l0), some (.int l1), some (.int l2)]) rfl rfl (fun q32 => ?_) (fun q32 => ?_)
    · have H := H.1 q32
      refine wp_aload_n rfl rfl ?_
      obtain ⟨g14, g15, H⟩ := H
      refine wp_getR rfl rfl g14 g15 ?_
      refine wp_iload_n rfl rfl ?_
      obtain ⟨g13, H⟩ := H
      refine wp_iald rfl g13 ?_
      refine wp_iconst rfl ?_
      refine wp_icmp_ne rfl (lo1 := [some (.ref l0), some (.int l1), some (.int l2)]) (lo2 := [some (.ref l0), some (.int l1), some (.int l2)]) rfl rfl (fun q12 => ?_) (fun q12 => ?_)
      · have H := H.1 q12
        refine wp_iconstk (lo' := [none, none, none]) rfl rfl ?_
        exact wp_iret rfl rfl H
      · have H := H.2 q12
        refine wp_bipush rfl ?_
        refine wp_goto rfl (lo' := [none, none, none]) rfl ?_
        exact wp_iret rfl rfl H
    · have H := H.2 q32
      refine wp_aload_n rfl rfl ?_
      refine wp_aload_n rfl rfl ?_
      obtain ⟨g30, g31, H⟩ := H
      refine wp_getR rfl rfl g30 g31 ?_
      refine wp_iload_n rfl rfl ?_
      obtain ⟨g29, H⟩ := H
      refine wp_iald rfl g29 ?_
      refine wp_aload_n rfl rfl ?_
      obtain ⟨g27, g28, H⟩ := H
      refine wp_getR rfl rfl g27 g28 ?_
      refine wp_iload_n rfl rfl ?_
      obtain ⟨g26, H⟩ := H
      refine wp_iald rfl g26 ?_
      refine wp_aload_n rfl rfl ?_
      obtain ⟨g24, g25, H⟩ := H
      refine wp_getR rfl rfl g24 g25 ?_
      refine wp_iload_n rfl rfl ?_
      obtain ⟨g23, H⟩ := H
      refine wp_iald rfl g23 ?_
      refine wp_aload_n rfl rfl ?_
      obtain ⟨g21, g22, H⟩ := H
      refine wp_getR rfl rfl g21 g22 ?_
      refine wp_iload_n rfl rfl ?_
      obtain ⟨g20, H⟩ := H
      refine wp_iald rfl g20 ?_
      obtain ⟨g19, H⟩ := H
      refine wp_callvI rfl rfl (Or.inr rfl) (lo' := [some (.ref l0), some (.int l1), some (.int l2)]) rfl g19 ⟨Nat.le_of_ble_eq_true rfl, Nat.le_of_ble_eq_true rfl, Nat.le_of_ble_eq_true rfl, Nat.le_of_ble_eq_true rfl⟩ (bd' := (0, 0)) rfl ?_
      refine (wq_M_alike_ok H).conI (fun v17 h16 H => ?_)
      refine wp_if_eq rfl (lo1 := [some (.ref l0), some (.int l1), some (.int l2)]) (lo2 := [some (.ref l0), some (.int l1), some (.int l2)]) rfl rfl (fun q18 => ?_) (fun q18 => ?_)
      · have H := H.1 q18
        refine wp_bipushk (lo' := [none, none, none]) rfl rfl ?_
        exact wp_iret rfl rfl H
      · have H := H.2 q18
        refine wp_iconst rfl ?_
        refine wp_goto rfl (lo' := [none, none, none]) rfl ?_
        exact wp_iret rfl rfl H
  · have H := H.2 q36
    refine wp_bipush rfl ?_
    exact wp_iret rfl rfl H
def wq_M_keepCost (p0 : Nat) (p1 : Int32) (p2 : Int32) (h : HP) (K : Int32 → HP → Prop) : Prop :=
  isO h p0 10 ∧ 0 < gR h p0 3 ∧ isL h (gR h p0 3) 100 p1 ∧ isO h p0 10 ∧ 0 < gR h p0 3 ∧ isL h (gR h p0 3) 100 p2 ∧ (¬ gI h (gR h p0 3) p1.toNatClampNeg = gI h (gR h p0 3) p2.toNatClampNeg → wb_M_keepCost_26 p0 p1 p2 h K) ∧ (gI h (gR h p0 3) p1.toNatClampNeg = gI h (gR h p0 3) p2.toNatClampNeg → isO h p0 10 ∧ wq_M_same p0 p1 p2 h (fun v2 h1 => (v2 = 0 → wb_M_keepCost_26 p0 p1 p2 h1 K) ∧ (¬ v2 = 0 → K (0 : Int32) h1)))
theorem wq_M_keepCost_ok {p0 : Nat} {p1 : Int32} {p2 : Int32} {h : HP} {K : Int32 → HP → Prop} (H : wq_M_keepCost p0 p1 p2 h K) : Wp k_M_keepCost 0 [some (.ref p0), some (.int p1), some (.int p2)] [] h (0, 0) (QI K) := by
  unfold wq_M_keepCost at H
  refine wp_aload_n rfl rfl ?_
  obtain ⟨g10, g11, H⟩ := H
  refine wp_getR rfl rfl g10 g11 ?_
  refine wp_iload_n rfl rfl ?_
  obtain ⟨g9, H⟩ := H
  refine wp_iald rfl g9 ?_
  refine wp_aload_n rfl rfl ?_
  obtain ⟨g7, g8, H⟩ := H
  refine wp_getR rfl rfl g7 g8 ?_
  refine wp_iload_n rfl rfl ?_
  obtain ⟨g6, H⟩ := H
  refine wp_iald rfl g6 ?_
  refine wp_icmp_ne rfl (lo1 := [some (.ref p0), some (.int p1), some (.int p2)]) (lo2 := [some (.ref p0), some (.int p1), some (.int p2)]) rfl rfl (fun q5 => ?_) (fun q5 => ?_)
  · have H := H.1 q5
    exact wb_M_keepCost_26_ok H
  · have H := H.2 q5
    refine wp_aload_n rfl rfl ?_
    refine wp_iload_n rfl rfl ?_
    refine wp_iload_n rfl rfl ?_
    obtain ⟨g4, H⟩ := H
    refine wp_callvI rfl rfl (Or.inr rfl) (lo' := [some (.ref p0), some (.int p1), some (.int p2)]) rfl g4 ⟨Nat.le_of_ble_eq_true rfl, Nat.le_of_ble_eq_true rfl, Nat.le_of_ble_eq_true rfl, Nat.le_of_ble_eq_true rfl⟩ (bd' := (0, 0)) rfl ?_
    refine (wq_M_same_ok H).conI (fun v2 h1 H => ?_)
    refine wp_if_eq rfl (lo1 := [some (.ref p0), some (.int p1), some (.int p2)]) (lo2 := [some (.ref p0), some (.int p1), some (.int p2)]) rfl rfl (fun q3 => ?_) (fun q3 => ?_)
    · have H := H.1 q3
      exact wb_M_keepCost_26_ok H
    · have H := H.2 q3
      refine wp_iconst rfl ?_
      exact wp_iret rfl rfl H
def wq_M_loneCost (p0 : Nat) (p1 : Int32) (h : HP) (K : Int32 → HP → Prop) : Prop :=
  isO h p0 10 ∧ 0 < gR h p0 3 ∧ isL h (gR h p0 3) 100 p1 ∧ wq_M_isMark (gI h (gR h p0 3) p1.toNatClampNeg) h (fun v2 h1 => (v2 = 0 → K (10 : Int32) h1) ∧ (¬ v2 = 0 → K (4 : Int32) h1))
theorem wq_M_loneCost_ok {p0 : Nat} {p1 : Int32} {h : HP} {K : Int32 → HP → Prop} (H : wq_M_loneCost p0 p1 h K) : Wp k_M_loneCost 0 [some (.ref p0), some (.int p1)] [] h (0, 0) (QI K) := by
  unfold wq_M_loneCost at H
  refine wp_aload_n rfl rfl ?_
  obtain ⟨g5, g6, H⟩ := H
  refine wp_getR rfl rfl g5 g6 ?_
  refine wp_iload_n rfl rfl ?_
  obtain ⟨g4, H⟩ := H
  refine wp_iald rfl g4 ?_
  refine wp_callsI rfl rfl rfl (Or.inr rfl) (lo' := [some (.ref p0), some (.int p1)]) rfl ⟨Nat.le_of_ble_eq_true rfl, Nat.le_of_ble_eq_true rfl, Nat.le_of_ble_eq_true rfl, Nat.le_of_ble_eq_true rfl⟩ (bd' := (0, 0)) rfl ?_
  refine (wq_M_isMark_ok H).conI (fun v2 h1 H => ?_)
  refine wp_if_eq rfl (lo1 := [some (.ref p0), some (.int p1)]) (lo2 := [some (.ref p0), some (.int p1)]) rfl rfl (fun q3 => ?_) (fun q3 => ?_)
  · have H := H.1 q3
    refine wp_bipushk (lo' := [none, none]) rfl rfl ?_
    exact wp_iret rfl rfl H
  · have H := H.2 q3
    refine wp_iconst rfl ?_
    refine wp_goto rfl (lo' := [none, none]) rfl ?_
    exact wp_iret rfl rfl H
def wb_M_maps_2 (l0 : Nat) (l1 : Int32) (h : HP) (K : Int32 → HP → Prop) : Prop :=
  ((10 : Int32) ≤ l1 → Wp k_M_maps 23 [some (.ref l0), some (.int (0 : Int32)), none, none] [] h (0, 0) (QI K)) ∧ (¬ (10 : Int32) ≤ l1 → isO h l0 10 ∧ 0 < gR h l0 29 ∧ isA h (gR h l0 29) 100 l1 ∧ (∀ h1 : HP, h1 = stI h (gR h l0 29) l1.toNatClampNeg (-1 : Int32) → Wp k_M_maps 2 [some (.ref l0), some (.int (l1 + (1 : Int32))), none, none] [] h1 (0, 0) (QI K)))
theorem wb_M_maps_2_ok {l0 : Nat} {l1 : Int32} {h : HP} {K : Int32 → HP → Prop} (H : wb_M_maps_2 l0 l1 h K) : Wp k_M_maps 2 [some (.ref l0), some (.int l1), none, none] [] h (0, 0) (QI K) := by
  unfold wb_M_maps_2 at H
  refine wp_iload_n rfl rfl ?_
  refine wp_bipush rfl ?_
  refine wp_icmp_ge rfl (lo1 := [some (.ref l0), some (.int l1), none, none]) (lo2 := [some (.ref l0), some (.int l1), none, none]) rfl rfl (fun q6 => ?_) (fun q6 => ?_)
  · have H := H.1 q6
    refine wp_iconst rfl ?_
    refine wp_istore_n rfl rfl (lo' := [some (.ref l0), some (.int (0 : Int32)), none, none]) rfl ?_
    exact H
  · have H := H.2 q6
    refine wp_aload_n rfl rfl ?_
    obtain ⟨g4, g5, H⟩ := H
    refine wp_getR rfl rfl g4 g5 ?_
    refine wp_iload_n rfl rfl ?_
    refine wp_iconst rfl ?_
    obtain ⟨g2, H⟩ := H
    obtain ⟨h1, e3⟩ : ∃ z : HP, z = stI h (gR h l0 29) l1.toNatClampNeg (-1 : Int32) := ⟨_, rfl⟩
    have H := H h1 e3
    refine wp_iast rfl g2 e3 ?_
    refine wp_iinc rfl rfl rfl (lo' := [some (.ref l0), some (.int (l1 + (1 : Int32))), none, none]) rfl ?_
    refine wp_goto rfl (lo' := [some (.ref l0), some (.int (l1 + (1 : Int32))), none, none]) rfl ?_
    exact H
def wb_M_maps_23 (l0 : Nat) (l1 : Int32) (h : HP) (K : Int32 → HP → Prop) : Prop :=
  isO h l0 10 ∧ 0 < gR h l0 7 ∧ isL h (gR h l0 7) 100 (0 : Int32) ∧ (gI h (gR h l0 7) (0 : Int32).toNatClampNeg ≤ l1 → K (1 : Int32) h) ∧ (¬ gI h (gR h l0 7) (0 : Int32).toNatClampNeg ≤ l1 → isO h l0 10 ∧ 0 < gR h l0 3 ∧ isL h (gR h l0 3) 100 ((0 : Int32) + l1) ∧ wq_M_isMark (gI h (gR h l0 3) ((0 : Int32) + l1).toNatClampNeg) h (fun v8 h7 => (¬ v8 = 0 → isO h7 l0 10 ∧ 0 < gR h7 l0 1 ∧ isO h7 l0 10 ∧ wq_M_digitAt l0 ((0 : Int32) + l1) h7 (fun v10 h9 => isL h9 (gR h7 l0 1) 100 v10 ∧ isO h9 l0 10 ∧ 0 < gR h9 l0 1 ∧ isO h9 l0 10 ∧ wq_M_digitAt l0 ((600 : Int32) + l1) h9 (fun v12 h11 => isL h11 (gR h9 l0 1) 100 v12 ∧ isO h11 l0 10 ∧ 0 < gR h11 l0 29 ∧ isL h11 (gR h11 l0 29) 100 ((gI h9 (gR h7 l0 1) v10.toNatClampNeg) - (48 : Int32)) ∧ (gI h11 (gR h11 l0 29) ((gI h9 (gR h7 l0 1) v10.toNatClampNeg) - (48 : Int32)).toNatClampNeg = (-1 : Int32) → isO h11 l0 10 ∧ 0 < gR h11 l0 29 ∧ isA h11 (gR h11 l0 29) 100 ((gI h9 (gR h7 l0 1) v10.toNatClampNeg) - (48 : Int32)) ∧ (∀ h13 : HP, h13 = stI h11 (gR h11 l0 29) ((gI h9 (gR h7 l0 1) v10.toNatClampNeg) - (48 : Int32)).toNatClampNeg (gI h11 (gR h9 l0 1) v12.toNatClampNeg) → Wp k_M_maps 23 [some (.ref l0), some (.int (l1 + (1 : Int32))), none, none] [] h13 (0, 0) (QI K))) ∧ (¬ gI h11 (gR h11 l0 29) ((gI h9 (gR h7 l0 1) v10.toNatClampNeg) - (48 : Int32)).toNatClampNeg = (-1 : Int32) → isO h11 l0 10 ∧ 0 < gR h11 l0 29 ∧ isL h11 (gR h11 l0 29) 100 ((gI h9 (gR h7 l0 1) v10.toNatClampNeg) - (48 : Int32)) ∧ (gI h11 (gR h11 l0 29) ((gI h9 (gR h7 l0 1) v10.toNatClampNeg) - (48 : Int32)).toNatClampNeg = gI h11 (gR h9 l0 1) v12.toNatClampNeg → isO h11 l0 10 ∧ 0 < gR h11 l0 29 ∧ isA h11 (gR h11 l0 29) 100 ((gI h9 (gR h7 l0 1) v10.toNatClampNeg) - (48 : Int32)) ∧ (∀ h18 : HP, h18 = stI h11 (gR h11 l0 29) ((gI h9 (gR h7 l0 1) v10.toNatClampNeg) - (48 : Int32)).toNatClampNeg (gI h11 (gR h9 l0 1) v12.toNatClampNeg) → Wp k_M_maps 23 [some (.ref l0), some (.int (l1 + (1 : Int32))), none, none] [] h18 (0, 0) (QI K))) ∧ (¬ gI h11 (gR h11 l0 29) ((gI h9 (gR h7 l0 1) v10.toNatClampNeg) - (48 : Int32)).toNatClampNeg = gI h11 (gR h9 l0 1) v12.toNatClampNeg → K (0 : Int32) h11))))) ∧ (v8 = 0 → Wp k_M_maps 23 [some (.ref l0), some (.int (l1 + (1 : Int32))), none, none] [] h7 (0, 0) (QI K))))
set_option maxRecDepth 100000 in
set_option maxHeartbeats 4000000 in
theorem wb_M_maps_23_ok {l0 : Nat} {l1 : Int32} {h : HP} {K : Int32 → HP → Prop} (H : wb_M_maps_23 l0 l1 h K) : Wp k_M_maps 23 [some (.ref l0), some (.int l1), none, none] [] h (0, 0) (QI K) := by
  unfold wb_M_maps_23 at H
  refine wp_iload_n rfl rfl ?_
  refine wp_aload_n rfl rfl ?_
  obtain ⟨g45, g46, H⟩ := H
  refine wp_getR rfl rfl g45 g46 ?_
  refine wp_iconst rfl ?_
  obtain ⟨g44, H⟩ := H
  refine wp_iald rfl g44 ?_
  refine wp_icmp_ge rfl (lo1 := [some (.ref l0), some (.int l1), none, none]) (lo2 := [some (.ref l0), some (.int l1), none, none]) rfl rfl (fun q43 => ?_) (fun q43 => ?_)
  · have H := H.1 q43
    refine wp_iconst rfl ?_
    exact wp_zret rfl rfl (by decide) H
  · have H := H.2 q43
    refine wp_aload_n rfl rfl ?_
    obtain ⟨g41, g42, H⟩ := H
    refine wp_getR rfl rfl g41 g42 ?_
    refine wp_iconst rfl ?_
    refine wp_iload_n rfl rfl ?_
    refine wp_iadd rfl ?_
    obtain ⟨g40, H⟩ := H
    refine wp_iald rfl g40 ?_
    refine wp_callsI rfl rfl rfl (Or.inr rfl) (lo' := [some (.ref l0), some (.int l1), none, none]) rfl ⟨Nat.le_of_ble_eq_true rfl, Nat.le_of_ble_eq_true rfl, Nat.le_of_ble_eq_true rfl, Nat.le_of_ble_eq_true rfl⟩ (bd' := (0, 0)) rfl ?_
    refine (wq_M_isMark_ok H).conI (fun v8 h7 H => ?_)
    refine wp_if_ne rfl (lo1 := [some (.ref l0), some (.int l1), none, none]) (lo2 := [some (.ref l0), some (.int l1), none, none]) rfl rfl (fun q39 => ?_) (fun q39 => ?_)
    · have H := H.1 q39
      refine wp_aload_n rfl rfl ?_
      obtain ⟨g37, g38, H⟩ := H
      refine wp_getR rfl rfl g37 g38 ?_
      refine wp_aload_n rfl rfl ?_
      refine wp_iconst rfl ?_
      refine wp_iload_n rfl rfl ?_
      refine wp_iadd rfl ?_
      obtain ⟨g36, H⟩ := H
      refine wp_callvI rfl rfl (Or.inl rfl) (lo' := [some (.ref l0), some (.int l1), none, none]) rfl g36 ⟨Nat.le_of_ble_eq_true rfl, Nat.le_of_ble_eq_true rfl, Nat.le_of_ble_eq_true rfl, Nat.le_of_ble_eq_true rfl⟩ (bd' := (0, 0)) rfl ?_
      refine (wq_M_digitAt_ok H).conI (fun v10 h9 H => ?_)
      obtain ⟨g35, H⟩ := H
      refine wp_iald rfl g35 ?_
      refine wp_bipush rfl ?_
      refine wp_isub rfl ?_
      refine wp_istore_n rfl rfl (lo' := [some (.ref l0), some (.int l1), some (.int ((gI h9 (gR h7 l0 1) v10.toNatClampNeg) - (48 : Int32))), none]) rfl ?_
      refine wp_aload_n rfl rfl ?_
      obtain ⟨g33, g34, H⟩ := H
      refine wp_getR rfl rfl g33 g34 ?_
      refine wp_aload_n rfl rfl ?_
      refine wp_sipush rfl ?_
      refine wp_iload_n rfl rfl ?_
      refine wp_iadd rfl ?_
      obtain ⟨g32, H⟩ := H
      refine wp_callvI rfl rfl (Or.inl rfl) (lo' := [some (.ref l0), some (.int l1), some (.int ((gI h9 (gR h7 l0 1) v10.toNatClampNeg) - (48 : Int32))), none]) rfl g32 ⟨Nat.le_of_ble_eq_true rfl, Nat.le_of_ble_eq_true rfl, Nat.le_of_ble_eq_true rfl, Nat.le_of_ble_eq_true rfl⟩ (bd' := (0, 0)) rfl ?_
      refine (wq_M_digitAt_ok H).conI (fun v12 h11 H => ?_)
      obtain ⟨g31, H⟩ := H
      refine wp_iald rfl g31 ?_
      refine wp_istore_n rfl rfl (lo' := [some (.ref l0), some (.int l1), some (.int ((gI h9 (gR h7 l0 1) v10.toNatClampNeg) - (48 : Int32))), some (.int (gI h11 (gR h9 l0 1) v12.toNatClampNeg))]) rfl ?_
      refine wp_aload_n rfl rfl ?_
      obtain ⟨g29, g30, H⟩ := H
      refine wp_getR rfl rfl g29 g30 ?_
      refine wp_iload_n rfl rfl ?_
      obtain ⟨g28, H⟩ := H
      refine wp_iald rfl g28 ?_
      refine wp_iconst rfl ?_
      refine wp_icmp_eq rfl (lo1 := [some (.ref l0), some (.int l1), some (.int ((gI h9 (gR h7 l0 1) v10.toNatClampNeg) - (48 : Int32))), some (.int (gI h11 (gR h9 l0 1) v12.toNatClampNeg))]) (lo2 := [some (.ref l0), some (.int l1), some (.int ((gI h9 (gR h7 l0 1) v10.toNatClampNeg) - (48 : Int32))), some (.int (gI h11 (gR h9 l0 1) v12.toNatClampNeg))]) rfl rfl (fun q27 => ?_) (fun q27 => ?_)
      · have H := H.1 q27
        refine wp_aload_n rfl rfl ?_
        obtain ⟨g16, g17, H⟩ := H
        refine wp_getR rfl rfl g16 g17 ?_
        refine wp_iload_n rfl rfl ?_
        refine wp_iload_n rfl rfl ?_
        obtain ⟨g14, H⟩ := H
        obtain ⟨h13, e15⟩ : ∃ z : HP, z = stI h11 (gR h11 l0 29) ((gI h9 (gR h7 l0 1) v10.toNatClampNeg) - (48 : Int32)).toNatClampNeg (gI h11 (gR h9 l0 1) v12.toNatClampNeg) := ⟨_, rfl⟩
        have H := H h13 e15
        refine wp_iastk (lo' := [some (.ref l0), some (.int l1), none, none]) rfl rfl g14 e15 ?_
        refine wp_iinc rfl rfl rfl (lo' := [some (.ref l0), some (.int (l1 + (1 : Int32))), none, none]) rfl ?_
        refine wp_goto rfl (lo' := [some (.ref l0), some (.int (l1 + (1 : Int32))), none, none]) rfl ?_
        exact H
      · have H := H.2 q27
        refine wp_aload_n rfl rfl ?_
        obtain ⟨g25, g26, H⟩ := H
        refine wp_getR rfl rfl g25 g26 ?_
        refine wp_iload_n rfl rfl ?_
        obtain ⟨g24, H⟩ := H
        refine wp_iald rfl g24 ?_
        refine wp_iload_n rfl rfl ?_
        refine wp_icmp_eq rfl (lo1 := [some (.ref l0), some (.int l1), some (.int ((gI h9 (gR h7 l0 1) v10.toNatClampNeg) - (48 : Int32))), some (.int (gI h11 (gR h9 l0 1) v12.toNatClampNeg))]) (lo2 := [some (.ref l0), some (.int l1), some (.int ((gI h9 (gR h7 l0 1) v10.toNatClampNeg) - (48 : Int32))), some (.int (gI h11 (gR h9 l0 1) v12.toNatClampNeg))]) rfl rfl (fun q23 => ?_) (fun q23 => ?_)
        · have H := H.1 q23
          refine wp_aload_n rfl rfl ?_
          obtain ⟨g21, g22, H⟩ := H
          refine wp_getR rfl rfl g21 g22 ?_
          refine wp_iload_n rfl rfl ?_
          refine wp_iload_n rfl rfl ?_
          obtain ⟨g19, H⟩ := H
          obtain ⟨h18, e20⟩ : ∃ z : HP, z = stI h11 (gR h11 l0 29) ((gI h9 (gR h7 l0 1) v10.toNatClampNeg) - (48 : Int32)).toNatClampNeg (gI h11 (gR h9 l0 1) v12.toNatClampNeg) := ⟨_, rfl⟩
          have H := H h18 e20
          refine wp_iastk (lo' := [some (.ref l0), some (.int l1), none, none]) rfl rfl g19 e20 ?_
          refine wp_iinc rfl rfl rfl (lo' := [some (.ref l0), some (.int (l1 + (1 : Int32))), none, none]) rfl ?_
          refine wp_goto rfl (lo' := [some (.ref l0), some (.int (l1 + (1 : Int32))), none, none]) rfl ?_
          exact H
        · have H := H.2 q23
          refine wp_iconst rfl ?_
          exact wp_zret rfl rfl (by decide) H
    · have H := H.2 q39
      refine wp_goto rfl (lo' := [some (.ref l0), some (.int l1), none, none]) rfl ?_
      refine wp_iinc rfl rfl rfl (lo' := [some (.ref l0), some (.int (l1 + (1 : Int32))), none, none]) rfl ?_
      refine wp_goto rfl (lo' := [some (.ref l0), some (.int (l1 + (1 : Int32))), none, none]) rfl ?_
      exact H
def wq_M_maps (p0 : Nat) (h : HP) (K : Int32 → HP → Prop) : Prop :=
  Wp k_M_maps 2 [some (.ref p0), some (.int (0 : Int32)), none, none] [] h (0, 0) (QI K)
theorem wq_M_maps_ok {p0 : Nat} {h : HP} {K : Int32 → HP → Prop} (H : wq_M_maps p0 h K) : Wp k_M_maps 0 [some (.ref p0), none, none, none] [] h (0, 0) (QI K) := by
  unfold wq_M_maps at H
  refine wp_iconst rfl ?_
  refine wp_istore_n rfl rfl (lo' := [some (.ref p0), some (.int (0 : Int32)), none, none]) rfl ?_
  exact H
def wb_M_patches_195 (l0 : Nat) (l1 : Int32) (l2 : Int32) (s0 : Int32) (h : HP) (K : Int32 → HP → Prop) : Prop :=
  (¬ s0 = (-1 : Int32) → isO h l0 10 ∧ wq_M_lay l0 s0 h (fun h43 => Wp k_M_patches 130 [some (.ref l0), some (.int l1), some (.int (l2 + (1 : Int32))), none, none] [] h43 (0, 0) (QI K))) ∧ (s0 = (-1 : Int32) → K (0 : Int32) h)
theorem wb_M_patches_195_ok {l0 : Nat} {l1 : Int32} {l2 : Int32} {s0 : Int32} {h : HP} {K : Int32 → HP → Prop} (H : wb_M_patches_195 l0 l1 l2 s0 h K) : Wp k_M_patches 195 [some (.ref l0), some (.int l1), some (.int l2), none, none] [.int s0] h (0, 0) (QI K) := by
  unfold wb_M_patches_195 at H
  refine wp_istore rfl rfl (lo' := [some (.ref l0), some (.int l1), some (.int l2), none, some (.int s0)]) rfl ?_
  refine wp_iload rfl rfl ?_
  refine wp_iconst rfl ?_
  refine wp_icmp_ne rfl (lo1 := [some (.ref l0), some (.int l1), some (.int l2), none, some (.int s0)]) (lo2 := [some (.ref l0), some (.int l1), some (.int l2), none, some (.int s0)]) rfl rfl (fun q45 => ?_) (fun q45 => ?_)
  · have H := H.1 q45
    refine wp_aload_n rfl rfl ?_
    refine wp_iload rfl rfl ?_
    obtain ⟨g44, H⟩ := H
    refine wp_callvV rfl rfl rfl (lo' := [some (.ref l0), some (.int l1), some (.int l2), none, some (.int s0)]) rfl g44 ⟨Nat.le_of_ble_eq_true rfl, Nat.le_of_ble_eq_true rfl, Nat.le_of_ble_eq_true rfl, Nat.le_of_ble_eq_true rfl⟩ (bd' := (0, 0)) rfl ?_
    refine (wq_M_lay_ok H).conV (fun h43 H => ?_)
    refine wp_iinc rfl rfl rfl (lo' := [some (.ref l0), some (.int l1), some (.int (l2 + (1 : Int32))), none, some (.int s0)]) rfl ?_
    refine wp_goto rfl (lo' := [some (.ref l0), some (.int l1), some (.int (l2 + (1 : Int32))), none, none]) rfl ?_
    exact H
  · have H := H.2 q45
    refine wp_iconst rfl ?_
    exact wp_zret rfl rfl (by decide) H
def wb_M_patches_130 (l0 : Nat) (l1 : Int32) (l2 : Int32) (h : HP) (K : Int32 → HP → Prop) : Prop :=
  isO h l0 10 ∧ 0 < gR h l0 5 ∧ isL h (gR h l0 5) 100 l1 ∧ (gI h (gR h l0 5) l1.toNatClampNeg ≤ l2 → K (1 : Int32) h) ∧ (¬ gI h (gR h l0 5) l1.toNatClampNeg ≤ l2 → isO h l0 10 ∧ 0 < gR h l0 1 ∧ isO h l0 10 ∧ 0 < gR h l0 4 ∧ isL h (gR h l0 4) 100 l1 ∧ isL h (gR h l0 1) 100 ((gI h (gR h l0 4) l1.toNatClampNeg) + l2) ∧ isO h l0 10 ∧ 0 < gR h l0 3 ∧ isL h (gR h l0 3) 100 l1 ∧ wq_M_isMark (gI h (gR h l0 3) l1.toNatClampNeg) h (fun v6 h5 => (v6 = 0 → wb_M_patches_195 l0 l1 l2 (gI h (gR h l0 1) ((gI h (gR h l0 4) l1.toNatClampNeg) + l2).toNatClampNeg) h5 K) ∧ (¬ v6 = 0 → isO h5 l0 10 ∧ 0 < gR h5 l0 4 ∧ isL h5 (gR h5 l0 4) 100 l1 ∧ isO h5 l0 10 ∧ wq_M_digitAt l0 l1 h5 (fun v8 h7 => (¬ (gI h5 (gR h5 l0 4) l1.toNatClampNeg) + l2 = v8 → wb_M_patches_195 l0 l1 l2 (gI h (gR h l0 1) ((gI h (gR h l0 4) l1.toNatClampNeg) + l2).toNatClampNeg) h7 K) ∧ ((gI h5 (gR h5 l0 4) l1.toNatClampNeg) + l2 = v8 → isO h7 l0 10 ∧ 0 < gR h7 l0 29 ∧ isL h7 (gR h7 l0 29) 100 ((gI h (gR h l0 1) ((gI h (gR h l0 4) l1.toNatClampNeg) + l2).toNatClampNeg) - (48 : Int32)) ∧ wb_M_patches_195 l0 l1 l2 (gI h7 (gR h7 l0 29) ((gI h (gR h l0 1) ((gI h (gR h l0 4) l1.toNatClampNeg) + l2).toNatClampNeg) - (48 : Int32)).toNatClampNeg) h7 K)))))
set_option maxRecDepth 100000 in
set_option maxHeartbeats 4000000 in
theorem wb_M_patches_130_ok {l0 : Nat} {l1 : Int32} {l2 : Int32} {h : HP} {K : Int32 → HP → Prop} (H : wb_M_patches_130 l0 l1 l2 h K) : Wp k_M_patches 130 [some (.ref l0), some (.int l1), some (.int l2), none, none] [] h (0, 0) (QI K) := by
  unfold wb_M_patches_130 at H
  refine wp_iload_n rfl rfl ?_
  refine wp_aload_n rfl rfl ?_
  obtain ⟨g29, g30, H⟩ := H
  refine wp_getR rfl rfl g29 g30 ?_
  refine wp_iload_n rfl rfl ?_
  obtain ⟨g28, H⟩ := H
  refine wp_iald rfl g28 ?_
  refine wp_icmp_ge rfl (lo1 := [some (.ref l0), some (.int l1), some (.int l2), none, none]) (lo2 := [some (.ref l0), some (.int l1), some (.int l2), none, none]) rfl rfl (fun q27 => ?_) (fun q27 => ?_)
  · have H := H.1 q27
    refine wp_iconst rfl ?_
    exact wp_zret rfl rfl (by decide) H
  · have H := H.2 q27
    refine wp_aload_n rfl rfl ?_
    obtain ⟨g25, g26, H⟩ := H
    refine wp_getR rfl rfl g25 g26 ?_
    refine wp_aload_n rfl rfl ?_
    obtain ⟨g23, g24, H⟩ := H
    refine wp_getR rfl rfl g23 g24 ?_
    refine wp_iload_n rfl rfl ?_
    obtain ⟨g22, H⟩ := H
    refine wp_iald rfl g22 ?_
    refine wp_iload_n rfl rfl ?_
    refine wp_iadd rfl ?_
    obtain ⟨g21, H⟩ := H
    refine wp_iald rfl g21 ?_
    refine wp_istore_n rfl rfl (lo' := [some (.ref l0), some (.int l1), some (.int l2), some (.int (gI h (gR h l0 1) ((gI h (gR h l0 4) l1.toNatClampNeg) + l2).toNatClampNeg)), none]) rfl ?_
    refine wp_aload_n rfl rfl ?_
    obtain ⟨g19, g20, H⟩ := H
    refine wp_getR rfl rfl g19 g20 ?_
    refine wp_iload_n rfl rfl ?_
    obtain ⟨g18, H⟩ := H
    refine wp_iald rfl g18 ?_
    refine wp_callsI rfl rfl rfl (Or.inr rfl) (lo' := [some (.ref l0), some (.int l1), some (.int l2), some (.int (gI h (gR h l0 1) ((gI h (gR h l0 4) l1.toNatClampNeg) + l2).toNatClampNeg)), none]) rfl ⟨Nat.le_of_ble_eq_true rfl, Nat.le_of_ble_eq_true rfl, Nat.le_of_ble_eq_true rfl, Nat.le_of_ble_eq_true rfl⟩ (bd' := (0, 0)) rfl ?_
    refine (wq_M_isMark_ok H).conI (fun v6 h5 H => ?_)
    refine wp_if_eq rfl (lo1 := [some (.ref l0), some (.int l1), some (.int l2), some (.int (gI h (gR h l0 1) ((gI h (gR h l0 4) l1.toNatClampNeg) + l2).toNatClampNeg)), none]) (lo2 := [some (.ref l0), some (.int l1), some (.int l2), some (.int (gI h (gR h l0 1) ((gI h (gR h l0 4) l1.toNatClampNeg) + l2).toNatClampNeg)), none]) rfl rfl (fun q17 => ?_) (fun q17 => ?_)
    · have H := H.1 q17
      refine wp_iload_nk (lo' := [some (.ref l0), some (.int l1), some (.int l2), none, none]) rfl rfl rfl ?_
      exact wb_M_patches_195_ok H
    · have H := H.2 q17
      refine wp_aload_n rfl rfl ?_
      obtain ⟨g15, g16, H⟩ := H
      refine wp_getR rfl rfl g15 g16 ?_
      refine wp_iload_n rfl rfl ?_
      obtain ⟨g14, H⟩ := H
      refine wp_iald rfl g14 ?_
      refine wp_iload_n rfl rfl ?_
      refine wp_iadd rfl ?_
      refine wp_aload_n rfl rfl ?_
      refine wp_iload_n rfl rfl ?_
      obtain ⟨g13, H⟩ := H
      refine wp_callvI rfl rfl (Or.inl rfl) (lo' := [some (.ref l0), some (.int l1), some (.int l2), some (.int (gI h (gR h l0 1) ((gI h (gR h l0 4) l1.toNatClampNeg) + l2).toNatClampNeg)), none]) rfl g13 ⟨Nat.le_of_ble_eq_true rfl, Nat.le_of_ble_eq_true rfl, Nat.le_of_ble_eq_true rfl, Nat.le_of_ble_eq_true rfl⟩ (bd' := (0, 0)) rfl ?_
      refine (wq_M_digitAt_ok H).conI (fun v8 h7 H => ?_)
      refine wp_icmp_ne rfl (lo1 := [some (.ref l0), some (.int l1), some (.int l2), some (.int (gI h (gR h l0 1) ((gI h (gR h l0 4) l1.toNatClampNeg) + l2).toNatClampNeg)), none]) (lo2 := [some (.ref l0), some (.int l1), some (.int l2), some (.int (gI h (gR h l0 1) ((gI h (gR h l0 4) l1.toNatClampNeg) + l2).toNatClampNeg)), none]) rfl rfl (fun q12 => ?_) (fun q12 => ?_)
      · have H := H.1 q12
        refine wp_iload_nk (lo' := [some (.ref l0), some (.int l1), some (.int l2), none, none]) rfl rfl rfl ?_
        exact wb_M_patches_195_ok H
      · have H := H.2 q12
        refine wp_aload_n rfl rfl ?_
        obtain ⟨g10, g11, H⟩ := H
        refine wp_getR rfl rfl g10 g11 ?_
        refine wp_iload_n rfl rfl ?_
        refine wp_bipush rfl ?_
        refine wp_isub rfl ?_
        obtain ⟨g9, H⟩ := H
        refine wp_iald rfl g9 ?_
        refine wp_goto rfl (lo' := [some (.ref l0), some (.int l1), some (.int l2), none, none]) rfl ?_
        exact wb_M_patches_195_ok H
def wb_M_patches_48 (l0 : Nat) (l2 : Int32) (h : HP) (K : Int32 → HP → Prop) : Prop :=
  isO h l0 10 ∧ 0 < gR h l0 7 ∧ isL h (gR h l0 7) 100 (0 : Int32) ∧ (¬ l2 = gI h (gR h l0 7) (0 : Int32).toNatClampNeg → isO h l0 10 ∧ 0 < gR h l0 30 ∧ isA h (gR h l0 30) 102 l2 ∧ (∀ h46 : HP, h46 = stI h (gR h l0 30) l2.toNatClampNeg (narB 102 (1 : Int32)) → Wp k_M_patches 69 [some (.ref l0), none, some (.int l2), some (.int (0 : Int32)), none] [] h46 (0, 0) (QI K))) ∧ (l2 = gI h (gR h l0 7) (0 : Int32).toNatClampNeg → K (0 : Int32) h)
theorem wb_M_patches_48_ok {l0 : Nat} {l2 : Int32} {h : HP} {K : Int32 → HP → Prop} (H : wb_M_patches_48 l0 l2 h K) : Wp k_M_patches 48 [some (.ref l0), none, some (.int l2), none, none] [] h (0, 0) (QI K) := by
  unfold wb_M_patches_48 at H
  refine wp_iload_n rfl rfl ?_
  refine wp_aload_n rfl rfl ?_
  obtain ⟨g53, g54, H⟩ := H
  refine wp_getR rfl rfl g53 g54 ?_
  refine wp_iconst rfl ?_
  obtain ⟨g52, H⟩ := H
  refine wp_iald rfl g52 ?_
  refine wp_icmp_ne rfl (lo1 := [some (.ref l0), none, some (.int l2), none, none]) (lo2 := [some (.ref l0), none, some (.int l2), none, none]) rfl rfl (fun q51 => ?_) (fun q51 => ?_)
  · have H := H.1 q51
    refine wp_aload_n rfl rfl ?_
    obtain ⟨g49, g50, H⟩ := H
    refine wp_getR rfl rfl g49 g50 ?_
    refine wp_iload_n rfl rfl ?_
    refine wp_iconst rfl ?_
    obtain ⟨g47, H⟩ := H
    obtain ⟨h46, e48⟩ : ∃ z : HP, z = stI h (gR h l0 30) l2.toNatClampNeg (narB 102 (1 : Int32)) := ⟨_, rfl⟩
    have H := H h46 e48
    refine wp_bast rfl g47 e48 ?_
    refine wp_iconst rfl ?_
    refine wp_istore_n rfl rfl (lo' := [some (.ref l0), none, some (.int l2), some (.int (0 : Int32)), none]) rfl ?_
    exact H
  · have H := H.2 q51
    refine wp_iconst rfl ?_
    exact wp_zret rfl rfl (by decide) H
def wb_M_patches_12 (l0 : Nat) (l1 : Int32) (l2 : Int32) (h : HP) (K : Int32 → HP → Prop) : Prop :=
  isO h l0 10 ∧ 0 < gR h l0 7 ∧ isL h (gR h l0 7) 100 (0 : Int32) ∧ (gI h (gR h l0 7) (0 : Int32).toNatClampNeg ≤ l2 → wb_M_patches_48 l0 l2 h K) ∧ (¬ gI h (gR h l0 7) (0 : Int32).toNatClampNeg ≤ l2 → isO h l0 10 ∧ 0 < gR h l0 30 ∧ isA h (gR h l0 30) 102 l2 ∧ (¬ gI h (gR h l0 30) l2.toNatClampNeg = 0 → Wp k_M_patches 12 [some (.ref l0), some (.int l1), some (.int (l2 + (1 : Int32))), none, none] [] h (0, 0) (QI K)) ∧ (gI h (gR h l0 30) l2.toNatClampNeg = 0 → isO h l0 10 ∧ wq_M_reads l0 ((0 : Int32) + l2) l1 h (fun v32 h31 => (¬ v32 = 0 → wb_M_patches_48 l0 l2 h31 K) ∧ (v32 = 0 → Wp k_M_patches 12 [some (.ref l0), some (.int l1), some (.int (l2 + (1 : Int32))), none, none] [] h31 (0, 0) (QI K)))))
theorem wb_M_patches_12_ok {l0 : Nat} {l1 : Int32} {l2 : Int32} {h : HP} {K : Int32 → HP → Prop} (H : wb_M_patches_12 l0 l1 l2 h K) : Wp k_M_patches 12 [some (.ref l0), some (.int l1), some (.int l2), none, none] [] h (0, 0) (QI K) := by
  unfold wb_M_patches_12 at H
  refine wp_iload_n rfl rfl ?_
  refine wp_aload_n rfl rfl ?_
  obtain ⟨g41, g42, H⟩ := H
  refine wp_getR rfl rfl g41 g42 ?_
  refine wp_iconst rfl ?_
  obtain ⟨g40, H⟩ := H
  refine wp_iald rfl g40 ?_
  refine wp_icmp_ge rfl (lo1 := [some (.ref l0), none, some (.int l2), none, none]) (lo2 := [some (.ref l0), some (.int l1), some (.int l2), none, none]) rfl rfl (fun q39 => ?_) (fun q39 => ?_)
  · have H := H.1 q39
    exact wb_M_patches_48_ok H
  · have H := H.2 q39
    refine wp_aload_n rfl rfl ?_
    obtain ⟨g37, g38, H⟩ := H
    refine wp_getR rfl rfl g37 g38 ?_
    refine wp_iload_n rfl rfl ?_
    obtain ⟨g36, H⟩ := H
    refine wp_bald rfl g36 ?_
    refine wp_if_ne rfl (lo1 := [some (.ref l0), some (.int l1), some (.int l2), none, none]) (lo2 := [some (.ref l0), some (.int l1), some (.int l2), none, none]) rfl rfl (fun q35 => ?_) (fun q35 => ?_)
    · have H := H.1 q35
      refine wp_iinc rfl rfl rfl (lo' := [some (.ref l0), some (.int l1), some (.int (l2 + (1 : Int32))), none, none]) rfl ?_
      refine wp_goto rfl (lo' := [some (.ref l0), some (.int l1), some (.int (l2 + (1 : Int32))), none, none]) rfl ?_
      exact H
    · have H := H.2 q35
      refine wp_aload_n rfl rfl ?_
      refine wp_iconst rfl ?_
      refine wp_iload_n rfl rfl ?_
      refine wp_iadd rfl ?_
      refine wp_iload_n rfl rfl ?_
      obtain ⟨g34, H⟩ := H
      refine wp_callvI rfl rfl (Or.inr rfl) (lo' := [some (.ref l0), some (.int l1), some (.int l2), none, none]) rfl g34 ⟨Nat.le_of_ble_eq_true rfl, Nat.le_of_ble_eq_true rfl, Nat.le_of_ble_eq_true rfl, Nat.le_of_ble_eq_true rfl⟩ (bd' := (0, 0)) rfl ?_
      refine (wq_M_reads_ok H).conI (fun v32 h31 H => ?_)
      refine wp_if_ne rfl (lo1 := [some (.ref l0), none, some (.int l2), none, none]) (lo2 := [some (.ref l0), some (.int l1), some (.int l2), none, none]) rfl rfl (fun q33 => ?_) (fun q33 => ?_)
      · have H := H.1 q33
        exact wb_M_patches_48_ok H
      · have H := H.2 q33
        refine wp_iinc rfl rfl rfl (lo' := [some (.ref l0), some (.int l1), some (.int (l2 + (1 : Int32))), none, none]) rfl ?_
        refine wp_goto rfl (lo' := [some (.ref l0), some (.int l1), some (.int (l2 + (1 : Int32))), none, none]) rfl ?_
        exact H
def wb_M_patches_69 (l0 : Nat) (l2 : Int32) (l3 : Int32) (h : HP) (K : Int32 → HP → Prop) : Prop :=
  isO h l0 10 ∧ 0 < gR h l0 5 ∧ isL h (gR h l0 5) 100 ((600 : Int32) + l2) ∧ (gI h (gR h l0 5) ((600 : Int32) + l2).toNatClampNeg ≤ l3 → K (1 : Int32) h) ∧ (¬ gI h (gR h l0 5) ((600 : Int32) + l2).toNatClampNeg ≤ l3 → isO h l0 10 ∧ 0 < gR h l0 1 ∧ isO h l0 10 ∧ 0 < gR h l0 4 ∧ isL h (gR h l0 4) 100 ((600 : Int32) + l2) ∧ isL h (gR h l0 1) 100 ((gI h (gR h l0 4) ((600 : Int32) + l2).toNatClampNeg) + l3) ∧ (¬ gI h (gR h l0 1) ((gI h (gR h l0 4) ((600 : Int32) + l2).toNatClampNeg) + l3).toNatClampNeg = (46 : Int32) → isO h l0 10 ∧ wq_M_lay l0 (gI h (gR h l0 1) ((gI h (gR h l0 4) ((600 : Int32) + l2).toNatClampNeg) + l3).toNatClampNeg) h (fun h55 => Wp k_M_patches 69 [some (.ref l0), none, some (.int l2), some (.int (l3 + (1 : Int32))), none] [] h55 (0, 0) (QI K))) ∧ (gI h (gR h l0 1) ((gI h (gR h l0 4) ((600 : Int32) + l2).toNatClampNeg) + l3).toNatClampNeg = (46 : Int32) → isO h l0 10 ∧ wq_M_lay l0 (44 : Int32) h (fun h57 => Wp k_M_patches 69 [some (.ref l0), none, some (.int l2), some (.int (l3 + (1 : Int32))), none] [] h57 (0, 0) (QI K))))
theorem wb_M_patches_69_ok {l0 : Nat} {l2 : Int32} {l3 : Int32} {h : HP} {K : Int32 → HP → Prop} (H : wb_M_patches_69 l0 l2 l3 h K) : Wp k_M_patches 69 [some (.ref l0), none, some (.int l2), some (.int l3), none] [] h (0, 0) (QI K) := by
  unfold wb_M_patches_69 at H
  refine wp_iload_n rfl rfl ?_
  refine wp_aload_n rfl rfl ?_
  obtain ⟨g68, g69, H⟩ := H
  refine wp_getR rfl rfl g68 g69 ?_
  refine wp_sipush rfl ?_
  refine wp_iload_n rfl rfl ?_
  refine wp_iadd rfl ?_
  obtain ⟨g67, H⟩ := H
  refine wp_iald rfl g67 ?_
  refine wp_icmp_ge rfl (lo1 := [some (.ref l0), none, some (.int l2), some (.int l3), none]) (lo2 := [some (.ref l0), none, some (.int l2), some (.int l3), none]) rfl rfl (fun q66 => ?_) (fun q66 => ?_)
  · have H := H.1 q66
    refine wp_iconst rfl ?_
    exact wp_zret rfl rfl (by decide) H
  · have H := H.2 q66
    refine wp_aload_n rfl rfl ?_
    obtain ⟨g64, g65, H⟩ := H
    refine wp_getR rfl rfl g64 g65 ?_
    refine wp_aload_n rfl rfl ?_
    obtain ⟨g62, g63, H⟩ := H
    refine wp_getR rfl rfl g62 g63 ?_
    refine wp_sipush rfl ?_
    refine wp_iload_n rfl rfl ?_
    refine wp_iadd rfl ?_
    obtain ⟨g61, H⟩ := H
    refine wp_iald rfl g61 ?_
    refine wp_iload_n rfl rfl ?_
    refine wp_iadd rfl ?_
    obtain ⟨g60, H⟩ := H
    refine wp_iald rfl g60 ?_
    refine wp_istore rfl rfl (lo' := [some (.ref l0), none, some (.int l2), some (.int l3), some (.int (gI h (gR h l0 1) ((gI h (gR h l0 4) ((600 : Int32) + l2).toNatClampNeg) + l3).toNatClampNeg))]) rfl ?_
    refine wp_aload_n rfl rfl ?_
    refine wp_iload rfl rfl ?_
    refine wp_bipush rfl ?_
    refine wp_icmp_ne rfl (lo1 := [some (.ref l0), none, some (.int l2), some (.int l3), some (.int (gI h (gR h l0 1) ((gI h (gR h l0 4) ((600 : Int32) + l2).toNatClampNeg) + l3).toNatClampNeg))]) (lo2 := [some (.ref l0), none, some (.int l2), some (.int l3), some (.int (gI h (gR h l0 1) ((gI h (gR h l0 4) ((600 : Int32) + l2).toNatClampNeg) + l3).toNatClampNeg))]) rfl rfl (fun q59 => ?_) (fun q59 => ?_)
    · have H := H.1 q59
      refine wp_iloadk (lo' := [some (.ref l0), none, some (.int l2), some (.int l3), none]) rfl rfl rfl ?_
      obtain ⟨g56, H⟩ := H
      refine wp_callvV rfl rfl rfl (lo' := [some (.ref l0), none, some (.int l2), some (.int l3), none]) rfl g56 ⟨Nat.le_of_ble_eq_true rfl, Nat.le_of_ble_eq_true rfl, Nat.le_of_ble_eq_true rfl, Nat.le_of_ble_eq_true rfl⟩ (bd' := (0, 0)) rfl ?_
      refine (wq_M_lay_ok H).conV (fun h55 H => ?_)
      refine wp_iinc rfl rfl rfl (lo' := [some (.ref l0), none, some (.int l2), some (.int (l3 + (1 : Int32))), none]) rfl ?_
      refine wp_goto rfl (lo' := [some (.ref l0), none, some (.int l2), some (.int (l3 + (1 : Int32))), none]) rfl ?_
      exact H
    · have H := H.2 q59
      refine wp_bipush rfl ?_
      refine wp_goto rfl (lo' := [some (.ref l0), none, some (.int l2), some (.int l3), none]) rfl ?_
      obtain ⟨g58, H⟩ := H
      refine wp_callvV rfl rfl rfl (lo' := [some (.ref l0), none, some (.int l2), some (.int l3), none]) rfl g58 ⟨Nat.le_of_ble_eq_true rfl, Nat.le_of_ble_eq_true rfl, Nat.le_of_ble_eq_true rfl, Nat.le_of_ble_eq_true rfl⟩ (bd' := (0, 0)) rfl ?_
      refine (wq_M_lay_ok H).conV (fun h57 H => ?_)
      refine wp_iinc rfl rfl rfl (lo' := [some (.ref l0), none, some (.int l2), some (.int (l3 + (1 : Int32))), none]) rfl ?_
      refine wp_goto rfl (lo' := [some (.ref l0), none, some (.int l2), some (.int (l3 + (1 : Int32))), none]) rfl ?_
      exact H
def wq_M_patches (p0 : Nat) (p1 : Int32) (h : HP) (K : Int32 → HP → Prop) : Prop :=
  isO h p0 10 ∧ 0 < gR h p0 3 ∧ isL h (gR h p0 3) 100 p1 ∧ (¬ gI h (gR h p0 3) p1.toNatClampNeg = (1 : Int32) → Wp k_M_patches 130 [some (.ref p0), some (.int p1), some (.int (0 : Int32)), none, none] [] h (0, 0) (QI K)) ∧ (gI h (gR h p0 3) p1.toNatClampNeg = (1 : Int32) → Wp k_M_patches 12 [some (.ref p0), some (.int p1), some (.int (0 : Int32)), none, none] [] h (0, 0) (QI K))
theorem wq_M_patches_ok {p0 : Nat} {p1 : Int32} {h : HP} {K : Int32 → HP → Prop} (H : wq_M_patches p0 p1 h K) : Wp k_M_patches 0 [some (.ref p0), some (.int p1), none, none, none] [] h (0, 0) (QI K) := by
  unfold wq_M_patches at H
  refine wp_aload_n rfl rfl ?_
  obtain ⟨g3, g4, H⟩ := H
  refine wp_getR rfl rfl g3 g4 ?_
  refine wp_iload_n rfl rfl ?_
  obtain ⟨g2, H⟩ := H
  refine wp_iald rfl g2 ?_
  refine wp_iconst rfl ?_
  refine wp_icmp_ne rfl (lo1 := [some (.ref p0), some (.int p1), none, none, none]) (lo2 := [some (.ref p0), some (.int p1), none, none, none]) rfl rfl (fun q1 => ?_) (fun q1 => ?_)
  · have H := H.1 q1
    refine wp_iconst rfl ?_
    refine wp_istore_n rfl rfl (lo' := [some (.ref p0), some (.int p1), some (.int (0 : Int32)), none, none]) rfl ?_
    exact H
  · have H := H.2 q1
    refine wp_iconst rfl ?_
    refine wp_istore_n rfl rfl (lo' := [some (.ref p0), some (.int p1), some (.int (0 : Int32)), none, none]) rfl ?_
    exact H
def wb_M_often_5 (l0 : Nat) (l1 : Int32) (l2 : Int32) (l3 : Int32) (l4 : Int32) (h : HP) (K : Int32 → HP → Prop) : Prop :=
  isO h l0 10 ∧ 0 < gR h l0 7 ∧ isL h (gR h l0 7) 100 l1 ∧ (gI h (gR h l0 7) l1.toNatClampNeg ≤ l4 → K l3 h) ∧ (¬ gI h (gR h l0 7) l1.toNatClampNeg ≤ l4 → isO h l0 10 ∧ wq_M_isThat l0 (((600 : Int32) * l1) + l4) l2 h (fun v2 h1 => (v2 = 0 → Wp k_M_often 5 [some (.ref l0), some (.int l1), some (.int l2), some (.int (l3 + (0 : Int32))), some (.int (l4 + (1 : Int32)))] [] h1 (0, 0) (QI K)) ∧ (¬ v2 = 0 → Wp k_M_often 5 [some (.ref l0), some (.int l1), some (.int l2), some (.int (l3 + (1 : Int32))), some (.int (l4 + (1 : Int32)))] [] h1 (0, 0) (QI K))))
theorem wb_M_often_5_ok {l0 : Nat} {l1 : Int32} {l2 : Int32} {l3 : Int32} {l4 : Int32} {h : HP} {K : Int32 → HP → Prop} (H : wb_M_often_5 l0 l1 l2 l3 l4 h K) : Wp k_M_often 5 [some (.ref l0), some (.int l1), some (.int l2), some (.int l3), some (.int l4)] [] h (0, 0) (QI K) := by
  unfold wb_M_often_5 at H
  refine wp_iload rfl rfl ?_
  refine wp_aload_n rfl rfl ?_
  obtain ⟨g7, g8, H⟩ := H
  refine wp_getR rfl rfl g7 g8 ?_
  refine wp_iload_n rfl rfl ?_
  obtain ⟨g6, H⟩ := H
  refine wp_iald rfl g6 ?_
  refine wp_icmp_ge rfl (lo1 := [some (.ref l0), some (.int l1), some (.int l2), some (.int l3), some (.int l4)]) (lo2 := [some (.ref l0), some (.int l1), some (.int l2), some (.int l3), some (.int l4)]) rfl rfl (fun q5 => ?_) (fun q5 => ?_)
  · have H := H.1 q5
    refine wp_iload_n rfl rfl ?_
    exact wp_iret rfl rfl H
  · have H := H.2 q5
    refine wp_iload_n rfl rfl ?_
    refine wp_aload_n rfl rfl ?_
    refine wp_sipush rfl ?_
    refine wp_iload_n rfl rfl ?_
    refine wp_imul rfl ?_
    refine wp_iload rfl rfl ?_
    refine wp_iadd rfl ?_
    refine wp_iload_n rfl rfl ?_
    obtain ⟨g4, H⟩ := H
    refine wp_callvI rfl rfl (Or.inr rfl) (lo' := [some (.ref l0), some (.int l1), some (.int l2), some (.int l3), some (.int l4)]) rfl g4 ⟨Nat.le_of_ble_eq_true rfl, Nat.le_of_ble_eq_true rfl, Nat.le_of_ble_eq_true rfl, Nat.le_of_ble_eq_true rfl⟩ (bd' := (0, 0)) rfl ?_
    refine (wq_M_isThat_ok H).conI (fun v2 h1 H => ?_)
    refine wp_if_eq rfl (lo1 := [some (.ref l0), some (.int l1), some (.int l2), some (.int l3), some (.int l4)]) (lo2 := [some (.ref l0), some (.int l1), some (.int l2), some (.int l3), some (.int l4)]) rfl rfl (fun q3 => ?_) (fun q3 => ?_)
    · have H := H.1 q3
      refine wp_iconstk (lo' := [some (.ref l0), some (.int l1), some (.int l2), none, some (.int l4)]) rfl rfl ?_
      refine wp_iadd rfl ?_
      refine wp_istore_n rfl rfl (lo' := [some (.ref l0), some (.int l1), some (.int l2), some (.int (l3 + (0 : Int32))), some (.int l4)]) rfl ?_
      refine wp_iinc rfl rfl rfl (lo' := [some (.ref l0), some (.int l1), some (.int l2), some (.int (l3 + (0 : Int32))), some (.int (l4 + (1 : Int32)))]) rfl ?_
      refine wp_goto rfl (lo' := [some (.ref l0), some (.int l1), some (.int l2), some (.int (l3 + (0 : Int32))), some (.int (l4 + (1 : Int32)))]) rfl ?_
      exact H
    · have H := H.2 q3
      refine wp_iconst rfl ?_
      refine wp_goto rfl (lo' := [some (.ref l0), some (.int l1), some (.int l2), none, some (.int l4)]) rfl ?_
      refine wp_iadd rfl ?_
      refine wp_istore_n rfl rfl (lo' := [some (.ref l0), some (.int l1), some (.int l2), some (.int (l3 + (1 : Int32))), some (.int l4)]) rfl ?_
      refine wp_iinc rfl rfl rfl (lo' := [some (.ref l0), some (.int l1), some (.int l2), some (.int (l3 + (1 : Int32))), some (.int (l4 + (1 : Int32)))]) rfl ?_
      refine wp_goto rfl (lo' := [some (.ref l0), some (.int l1), some (.int l2), some (.int (l3 + (1 : Int32))), some (.int (l4 + (1 : Int32)))]) rfl ?_
      exact H
def wq_M_often (p0 : Nat) (p1 : Int32) (p2 : Int32) (h : HP) (K : Int32 → HP → Prop) : Prop :=
  Wp k_M_often 5 [some (.ref p0), some (.int p1), some (.int p2), some (.int (0 : Int32)), some (.int (0 : Int32))] [] h (0, 0) (QI K)
theorem wq_M_often_ok {p0 : Nat} {p1 : Int32} {p2 : Int32} {h : HP} {K : Int32 → HP → Prop} (H : wq_M_often p0 p1 p2 h K) : Wp k_M_often 0 [some (.ref p0), some (.int p1), some (.int p2), none, none] [] h (0, 0) (QI K) := by
  unfold wq_M_often at H
  refine wp_iconst rfl ?_
  refine wp_istore_n rfl rfl (lo' := [some (.ref p0), some (.int p1), some (.int p2), some (.int (0 : Int32)), none]) rfl ?_
  refine wp_iconst rfl ?_
  refine wp_istore rfl rfl (lo' := [some (.ref p0), some (.int p1), some (.int p2), some (.int (0 : Int32)), some (.int (0 : Int32))]) rfl ?_
  exact H
def wb_Ladder_tell_196 (l0 : Nat) (l1 : Nat) (l2 : Nat) (l3 : Int32) (l4 : Int32) (l5 : Int32) (h : HP) (K : HP → Prop) : Prop :=
  isO h l0 1 ∧ wq_Ladder_addStep l0 (3 : Int32) (-1 : Int32) l4 h (fun h44 => Wp k_Ladder_tell 20 [some (.ref l0), some (.ref l1), some (.ref l2), some (.int l3), some (.int (l4 + (1 : Int32))), some (.int (l5 + (1 : Int32))), none, none] [] h44 (0, 0) (QV K))
theorem wb_Ladder_tell_196_ok {l0 : Nat} {l1 : Nat} {l2 : Nat} {l3 : Int32} {l4 : Int32} {l5 : Int32} {h : HP} {K : HP → Prop} (H : wb_Ladder_tell_196 l0 l1 l2 l3 l4 l5 h K) : Wp k_Ladder_tell 196 [some (.ref l0), some (.ref l1), some (.ref l2), some (.int l3), some (.int l4), some (.int l5), none, none] [] h (0, 0) (QV K) := by
  unfold wb_Ladder_tell_196 at H
  refine wp_aload_n rfl rfl ?_
  refine wp_iconst rfl ?_
  refine wp_iconst rfl ?_
  refine wp_iload rfl rfl ?_
  obtain ⟨g45, H⟩ := H
  refine wp_callvV rfl rfl rfl (lo' := [some (.ref l0), some (.ref l1), some (.ref l2), some (.int l3), some (.int l4), some (.int l5), none, none]) rfl g45 ⟨Nat.le_of_ble_eq_true rfl, Nat.le_of_ble_eq_true rfl, Nat.le_of_ble_eq_true rfl, Nat.le_of_ble_eq_true rfl⟩ (bd' := (0, 0)) rfl ?_
  refine (wq_Ladder_addStep_ok H).conV (fun h44 H => ?_)
  refine wp_iinc rfl rfl rfl (lo' := [some (.ref l0), some (.ref l1), some (.ref l2), some (.int l3), some (.int (l4 + (1 : Int32))), some (.int l5), none, none]) rfl ?_
  refine wp_iinc rfl rfl rfl (lo' := [some (.ref l0), some (.ref l1), some (.ref l2), some (.int l3), some (.int (l4 + (1 : Int32))), some (.int (l5 + (1 : Int32))), none, none]) rfl ?_
  refine wp_goto rfl (lo' := [some (.ref l0), some (.ref l1), some (.ref l2), some (.int l3), some (.int (l4 + (1 : Int32))), some (.int (l5 + (1 : Int32))), none, none]) rfl ?_
  exact H
def wb_Ladder_tell_150 (l0 : Nat) (l1 : Nat) (l2 : Nat) (l3 : Int32) (l4 : Int32) (l5 : Int32) (l6 : Int32) (h : HP) (K : HP → Prop) : Prop :=
  isO h l1 6 ∧ (gI h l1 7 ≤ l3 → wb_Ladder_tell_196 l0 l1 l2 l3 l4 l5 h K) ∧ (¬ gI h l1 7 ≤ l3 → isO h l1 6 ∧ wq_Row_aloneCost l1 l3 h (fun v32 h31 => isO h31 l0 1 ∧ 0 < gR h31 l0 0 ∧ isL h31 (gR h31 l0 0) 100 (((l3 + (1 : Int32)) * (21 : Int32)) + l4) ∧ (¬ v32 + (gI h31 (gR h31 l0 0) (((l3 + (1 : Int32)) * (21 : Int32)) + l4).toNatClampNeg) = l6 → wb_Ladder_tell_196 l0 l1 l2 l3 l4 l5 h31 K) ∧ (v32 + (gI h31 (gR h31 l0 0) (((l3 + (1 : Int32)) * (21 : Int32)) + l4).toNatClampNeg) = l6 → isO h31 l0 1 ∧ wq_Ladder_addStep l0 (2 : Int32) l3 (-1 : Int32) h31 (fun h33 => Wp k_Ladder_tell 20 [some (.ref l0), some (.ref l1), some (.ref l2), some (.int (l3 + (1 : Int32))), some (.int l4), some (.int (l5 + (1 : Int32))), none, none] [] h33 (0, 0) (QV K)))))
theorem wb_Ladder_tell_150_ok {l0 : Nat} {l1 : Nat} {l2 : Nat} {l3 : Int32} {l4 : Int32} {l5 : Int32} {l6 : Int32} {h : HP} {K : HP → Prop} (H : wb_Ladder_tell_150 l0 l1 l2 l3 l4 l5 l6 h K) : Wp k_Ladder_tell 150 [some (.ref l0), some (.ref l1), some (.ref l2), some (.int l3), some (.int l4), some (.int l5), some (.int l6), none] [] h (0, 0) (QV K) := by
  unfold wb_Ladder_tell_150 at H
  refine wp_iload_n rfl rfl ?_
  refine wp_aload_n rfl rfl ?_
  obtain ⟨g41, H⟩ := H
  refine wp_getI rfl rfl g41 ?_
  refine wp_icmp_ge rfl (lo1 := [some (.ref l0), some (.ref l1), some (.ref l2), some (.int l3), some (.int l4), some (.int l5), none, none]) (lo2 := [some (.ref l0), some (.ref l1), some (.ref l2), some (.int l3), some (.int l4), some (.int l5), some (.int l6), none]) rfl rfl (fun q40 => ?_) (fun q40 => ?_)
  · have H := H.1 q40
    exact wb_Ladder_tell_196_ok H
  · have H := H.2 q40
    refine wp_aload_n rfl rfl ?_
    refine wp_iload_n rfl rfl ?_
    obtain ⟨g39, H⟩ := H
    refine wp_callvI rfl rfl (Or.inl rfl) (lo' := [some (.ref l0), some (.ref l1), some (.ref l2), some (.int l3), some (.int l4), some (.int l5), some (.int l6), none]) rfl g39 ⟨Nat.le_of_ble_eq_true rfl, Nat.le_of_ble_eq_true rfl, Nat.le_of_ble_eq_true rfl, Nat.le_of_ble_eq_true rfl⟩ (bd' := (0, 0)) rfl ?_
    refine (wq_Row_aloneCost_ok H).conI (fun v32 h31 H => ?_)
    refine wp_aload_n rfl rfl ?_
    obtain ⟨g37, g38, H⟩ := H
    refine wp_getR rfl rfl g37 g38 ?_
    refine wp_iload_n rfl rfl ?_
    refine wp_iconst rfl ?_
    refine wp_iadd rfl ?_
    refine wp_bipush rfl ?_
    refine wp_imul rfl ?_
    refine wp_iload rfl rfl ?_
    refine wp_iadd rfl ?_
    obtain ⟨g36, H⟩ := H
    refine wp_iald rfl g36 ?_
    refine wp_iadd rfl ?_
    refine wp_iload rfl rfl ?_
    refine wp_icmp_ne rfl (lo1 := [some (.ref l0), some (.ref l1), some (.ref l2), some (.int l3), some (.int l4), some (.int l5), none, none]) (lo2 := [some (.ref l0), some (.ref l1), some (.ref l2), some (.int l3), some (.int l4), some (.int l5), some (.int l6), none]) rfl rfl (fun q35 => ?_) (fun q35 => ?_)
    · have H := H.1 q35
      exact wb_Ladder_tell_196_ok H
    · have H := H.2 q35
      refine wp_aload_n rfl rfl ?_
      refine wp_iconst rfl ?_
      refine wp_iload_n rfl rfl ?_
      refine wp_iconst rfl ?_
      obtain ⟨g34, H⟩ := H
      refine wp_callvV rfl rfl rfl (lo' := [some (.ref l0), some (.ref l1), some (.ref l2), some (.int l3), some (.int l4), some (.int l5), some (.int l6), none]) rfl g34 ⟨Nat.le_of_ble_eq_true rfl, Nat.le_of_ble_eq_true rfl, Nat.le_of_ble_eq_true rfl, Nat.le_of_ble_eq_true rfl⟩ (bd' := (0, 0)) rfl ?_
      refine (wq_Ladder_addStep_ok H).conV (fun h33 H => ?_)
      refine wp_iinc rfl rfl rfl (lo' := [some (.ref l0), some (.ref l1), some (.ref l2), some (.int (l3 + (1 : Int32))), some (.int l4), some (.int l5), some (.int l6), none]) rfl ?_
      refine wp_goto rfl (lo' := [some (.ref l0), some (.ref l1), some (.ref l2), some (.int (l3 + (1 : Int32))), some (.int l4), some (.int l5), none, none]) rfl ?_
      refine wp_iinc rfl rfl rfl (lo' := [some (.ref l0), some (.ref l1), some (.ref l2), some (.int (l3 + (1 : Int32))), some (.int l4), some (.int (l5 + (1 : Int32))), none, none]) rfl ?_
      refine wp_goto rfl (lo' := [some (.ref l0), some (.ref l1), some (.ref l2), some (.int (l3 + (1 : Int32))), some (.int l4), some (.int (l5 + (1 : Int32))), none, none]) rfl ?_
      exact H
def wb_Ladder_tell_135 (l0 : Nat) (l1 : Nat) (l2 : Nat) (l3 : Int32) (l4 : Int32) (l5 : Int32) (s0 : Int32) (s1 : Nat) (h : HP) (K : HP → Prop) : Prop :=
  isO h s1 1 ∧ wq_Ladder_addStep s1 s0 l3 l4 h (fun h42 => Wp k_Ladder_tell 20 [some (.ref l0), some (.ref l1), some (.ref l2), some (.int (l3 + (1 : Int32))), some (.int (l4 + (1 : Int32))), some (.int (l5 + (1 : Int32))), none, none] [] h42 (0, 0) (QV K))
theorem wb_Ladder_tell_135_ok {l0 : Nat} {l1 : Nat} {l2 : Nat} {l3 : Int32} {l4 : Int32} {l5 : Int32} {s0 : Int32} {s1 : Nat} {h : HP} {K : HP → Prop} (H : wb_Ladder_tell_135 l0 l1 l2 l3 l4 l5 s0 s1 h K) : Wp k_Ladder_tell 135 [some (.ref l0), some (.ref l1), some (.ref l2), some (.int l3), some (.int l4), some (.int l5), none, none] [.int s0, .ref s1] h (0, 0) (QV K) := by
  unfold wb_Ladder_tell_135 at H
  refine wp_iload_n rfl rfl ?_
  refine wp_iload rfl rfl ?_
  obtain ⟨g43, H⟩ := H
  refine wp_callvV rfl rfl rfl (lo' := [some (.ref l0), some (.ref l1), some (.ref l2), some (.int l3), some (.int l4), some (.int l5), none, none]) rfl g43 ⟨Nat.le_of_ble_eq_true rfl, Nat.le_of_ble_eq_true rfl, Nat.le_of_ble_eq_true rfl, Nat.le_of_ble_eq_true rfl⟩ (bd' := (0, 0)) rfl ?_
  refine (wq_Ladder_addStep_ok H).conV (fun h42 H => ?_)
  refine wp_iinc rfl rfl rfl (lo' := [some (.ref l0), some (.ref l1), some (.ref l2), some (.int (l3 + (1 : Int32))), some (.int l4), some (.int l5), none, none]) rfl ?_
  refine wp_iinc rfl rfl rfl (lo' := [some (.ref l0), some (.ref l1), some (.ref l2), some (.int (l3 + (1 : Int32))), some (.int (l4 + (1 : Int32))), some (.int l5), none, none]) rfl ?_
  refine wp_goto rfl (lo' := [some (.ref l0), some (.ref l1), some (.ref l2), some (.int (l3 + (1 : Int32))), some (.int (l4 + (1 : Int32))), some (.int l5), none, none]) rfl ?_
  refine wp_iinc rfl rfl rfl (lo' := [some (.ref l0), some (.ref l1), some (.ref l2), some (.int (l3 + (1 : Int32))), some (.int (l4 + (1 : Int32))), some (.int (l5 + (1 : Int32))), none, none]) rfl ?_
  refine wp_goto rfl (lo' := [some (.ref l0), some (.ref l1), some (.ref l2), some (.int (l3 + (1 : Int32))), some (.int (l4 + (1 : Int32))), some (.int (l5 + (1 : Int32))), none, none]) rfl ?_
  exact H
def wb_Ladder_tell_91 (l0 : Nat) (l1 : Nat) (l2 : Nat) (l3 : Int32) (l4 : Int32) (l5 : Int32) (l6 : Int32) (s0 : Int32) (h : HP) (K : HP → Prop) : Prop :=
  (s0 = (1000000 : Int32) → wb_Ladder_tell_150 l0 l1 l2 l3 l4 l5 l6 h K) ∧ (¬ s0 = (1000000 : Int32) → isO h l0 1 ∧ 0 < gR h l0 0 ∧ isL h (gR h l0 0) 100 ((((l3 + (1 : Int32)) * (21 : Int32)) + l4) + (1 : Int32)) ∧ (¬ s0 + (gI h (gR h l0 0) ((((l3 + (1 : Int32)) * (21 : Int32)) + l4) + (1 : Int32)).toNatClampNeg) = l6 → wb_Ladder_tell_150 l0 l1 l2 l3 l4 l5 l6 h K) ∧ (s0 + (gI h (gR h l0 0) ((((l3 + (1 : Int32)) * (21 : Int32)) + l4) + (1 : Int32)).toNatClampNeg) = l6 → (¬ s0 = 0 → wb_Ladder_tell_135 l0 l1 l2 l3 l4 l5 (1 : Int32) l0 h K) ∧ (s0 = 0 → wb_Ladder_tell_135 l0 l1 l2 l3 l4 l5 (0 : Int32) l0 h K)))
theorem wb_Ladder_tell_91_ok {l0 : Nat} {l1 : Nat} {l2 : Nat} {l3 : Int32} {l4 : Int32} {l5 : Int32} {l6 : Int32} {s0 : Int32} {h : HP} {K : HP → Prop} (H : wb_Ladder_tell_91 l0 l1 l2 l3 l4 l5 l6 s0 h K) : Wp k_Ladder_tell 91 [some (.ref l0), some (.ref l1), some (.ref l2), some (.int l3), some (.int l4), some (.int l5), some (.int l6), none] [.int s0] h (0, 0) (QV K) := by
  unfold wb_Ladder_tell_91 at H
  refine wp_istore rfl rfl (lo' := [some (.ref l0), some (.ref l1), some (.ref l2), some (.int l3), some (.int l4), some (.int l5), some (.int l6), some (.int s0)]) rfl ?_
  refine wp_iload rfl rfl ?_
  refine wp_ldc rfl ?_
  refine wp_icmp_eq rfl (lo1 := [some (.ref l0), some (.ref l1), some (.ref l2), some (.int l3), some (.int l4), some (.int l5), some (.int l6), none]) (lo2 := [some (.ref l0), some (.ref l1), some (.ref l2), some (.int l3), some (.int l4), some (.int l5), some (.int l6), some (.int s0)]) rfl rfl (fun q30 => ?_) (fun q30 => ?_)
  · have H := H.1 q30
    exact wb_Ladder_tell_150_ok H
  · have H := H.2 q30
    refine wp_iload rfl rfl ?_
    refine wp_aload_n rfl rfl ?_
    obtain ⟨g28, g29, H⟩ := H
    refine wp_getR rfl rfl g28 g29 ?_
    refine wp_iload_n rfl rfl ?_
    refine wp_iconst rfl ?_
    refine wp_iadd rfl ?_
    refine wp_bipush rfl ?_
    refine wp_imul rfl ?_
    refine wp_iload rfl rfl ?_
    refine wp_iadd rfl ?_
    refine wp_iconst rfl ?_
    refine wp_iadd rfl ?_
    obtain ⟨g27, H⟩ := H
    refine wp_iald rfl g27 ?_
    refine wp_iadd rfl ?_
    refine wp_iload rfl rfl ?_
    refine wp_icmp_ne rfl (lo1 := [some (.ref l0), some (.ref l1), some (.ref l2), some (.int l3), some (.int l4), some (.int l5), some (.int l6), none]) (lo2 := [some (.ref l0), some (.ref l1), some (.ref l2), some (.int l3), some (.int l4), some (.int l5), some (.int l6), some (.int s0)]) rfl rfl (fun q26 => ?_) (fun q26 => ?_)
    · have H := H.1 q26
      exact wb_Ladder_tell_150_ok H
    · have H := H.2 q26
      refine wp_aload_n rfl rfl ?_
      refine wp_iload rfl rfl ?_
      refine wp_if_ne rfl (lo1 := [some (.ref l0), some (.ref l1), some (.ref l2), some (.int l3), some (.int l4), some (.int l5), some (.int l6), some (.int s0)]) (lo2 := [some (.ref l0), some (.ref l1), some (.ref l2), some (.int l3), some (.int l4), some (.int l5), some (.int l6), some (.int s0)]) rfl rfl (fun q25 => ?_) (fun q25 => ?_)
      · have H := H.1 q25
        refine wp_iconstk (lo' := [some (.ref l0), some (.ref l1), some (.ref l2), some (.int l3), some (.int l4), some (.int l5), none, none]) rfl rfl ?_
        exact wb_Ladder_tell_135_ok H
      · have H := H.2 q25
        refine wp_iconst rfl ?_
        refine wp_goto rfl (lo' := [some (.ref l0), some (.ref l1), some (.ref l2), some (.int l3), some (.int l4), some (.int l5), none, none]) rfl ?_
        exact wb_Ladder_tell_135_ok H
def wb_Ladder_tell_47 (l0 : Nat) (l1 : Nat) (l2 : Nat) (l3 : Int32) (l4 : Int32) (l5 : Int32) (h : HP) (K : HP → Prop) : Prop :=
  isO h l0 1 ∧ 0 < gR h l0 0 ∧ isL h (gR h l0 0) 100 ((l3 * (21 : Int32)) + l4) ∧ isO h l1 6 ∧ (gI h l1 7 ≤ l3 → wb_Ladder_tell_91 l0 l1 l2 l3 l4 l5 (gI h (gR h l0 0) ((l3 * (21 : Int32)) + l4).toNatClampNeg) (1000000 : Int32) h K) ∧ (¬ gI h l1 7 ≤ l3 → isO h l2 6 ∧ (gI h l2 7 ≤ l4 → wb_Ladder_tell_91 l0 l1 l2 l3 l4 l5 (gI h (gR h l0 0) ((l3 * (21 : Int32)) + l4).toNatClampNeg) (1000000 : Int32) h K) ∧ (¬ gI h l2 7 ≤ l4 → isO h l1 6 ∧ wq_Row_changeCost l1 l3 l2 l4 h (fun v16 h15 => wb_Ladder_tell_91 l0 l1 l2 l3 l4 l5 (gI h (gR h l0 0) ((l3 * (21 : Int32)) + l4).toNatClampNeg) v16 h15 K)))
theorem wb_Ladder_tell_47_ok {l0 : Nat} {l1 : Nat} {l2 : Nat} {l3 : Int32} {l4 : Int32} {l5 : Int32} {h : HP} {K : HP → Prop} (H : wb_Ladder_tell_47 l0 l1 l2 l3 l4 l5 h K) : Wp k_Ladder_tell 47 [some (.ref l0), some (.ref l1), some (.ref l2), some (.int l3), some (.int l4), some (.int l5), none, none] [] h (0, 0) (QV K) := by
  unfold wb_Ladder_tell_47 at H
  refine wp_aload_n rfl rfl ?_
  obtain ⟨g23, g24, H⟩ := H
  refine wp_getR rfl rfl g23 g24 ?_
  refine wp_iload_n rfl rfl ?_
  refine wp_bipush rfl ?_
  refine wp_imul rfl ?_
  refine wp_iload rfl rfl ?_
  refine wp_iadd rfl ?_
  obtain ⟨g22, H⟩ := H
  refine wp_iald rfl g22 ?_
  refine wp_istore rfl rfl (lo' := [some (.ref l0), some (.ref l1), some (.ref l2), some (.int l3), some (.int l4), some (.int l5), some (.int (gI h (gR h l0 0) ((l3 * (21 : Int32)) + l4).toNatClampNeg)), none]) rfl ?_
  refine wp_iload_n rfl rfl ?_
  refine wp_aload_n rfl rfl ?_
  obtain ⟨g21, H⟩ := H
  refine wp_getI rfl rfl g21 ?_
  refine wp_icmp_ge rfl (lo1 := [some (.ref l0), some (.ref l1), some (.ref l2), some (.int l3), some (.int l4), some (.int l5), some (.int (gI h (gR h l0 0) ((l3 * (21 : Int32)) + l4).toNatClampNeg)), none]) (lo2 := [some (.ref l0), some (.ref l1), some (.ref l2), some (.int l3), some (.int l4), some (.int l5), some (.int (gI h (gR h l0 0) ((l3 * (21 : Int32)) + l4).toNatClampNeg)), none]) rfl rfl (fun q20 => ?_) (fun q20 => ?_)
  · have H := H.1 q20
    refine wp_ldck (lo' := [some (.ref l0), some (.ref l1), some (.ref l2), some (.int l3), some (.int l4), some (.int l5), some (.int (gI h (gR h l0 0) ((l3 * (21 : Int32)) + l4).toNatClampNeg)), none]) rfl rfl ?_
    exact wb_Ladder_tell_91_ok H
  · have H := H.2 q20
    refine wp_iload rfl rfl ?_
    refine wp_aload_n rfl rfl ?_
    obtain ⟨g19, H⟩ := H
    refine wp_getI rfl rfl g19 ?_
    refine wp_icmp_ge rfl (lo1 := [some (.ref l0), some (.ref l1), some (.ref l2), some (.int l3), some (.int l4), some (.int l5), some (.int (gI h (gR h l0 0) ((l3 * (21 : Int32)) + l4).toNatClampNeg)), none]) (lo2 := [some (.ref l0), some (.ref l1), some (.ref l2), some (.int l3), some (.int l4), some (.int l5), some (.int (gI h (gR h l0 0) ((l3 * (21 : Int32)) + l4).toNatClampNeg)), none]) rfl rfl (fun q18 => ?_) (fun q18 => ?_)
    · have H := H.1 q18
      refine wp_ldck (lo' := [some (.ref l0), some (.ref l1), some (.ref l2), some (.int l3), some (.int l4), some (.int l5), some (.int (gI h (gR h l0 0) ((l3 * (21 : Int32)) + l4).toNatClampNeg)), none]) rfl rfl ?_
      exact wb_Ladder_tell_91_ok H
    · have H := H.2 q18
      refine wp_aload_n rfl rfl ?_
      refine wp_iload_n rfl rfl ?_
      refine wp_aload_n rfl rfl ?_
      refine wp_iload rfl rfl ?_
      obtain ⟨g17, H⟩ := H
      refine wp_callvI rfl rfl (Or.inl rfl) (lo' := [some (.ref l0), some (.ref l1), some (.ref l2), some (.int l3), some (.int l4), some (.int l5), some (.int (gI h (gR h l0 0) ((l3 * (21 : Int32)) + l4).toNatClampNeg)), none]) rfl g17 ⟨Nat.le_of_ble_eq_true rfl, Nat.le_of_ble_eq_true rfl, Nat.le_of_ble_eq_true rfl, Nat.le_of_ble_eq_true rfl⟩ (bd' := (0, 0)) rfl ?_
      refine (wq_Row_changeCost_ok H).conI (fun v16 h15 H => ?_)
      refine wp_goto rfl (lo' := [some (.ref l0), some (.ref l1), some (.ref l2), some (.int l3), some (.int l4), some (.int l5), some (.int (gI h (gR h l0 0) ((l3 * (21 : Int32)) + l4).toNatClampNeg)), none]) rfl ?_
      exact wb_Ladder_tell_91_ok H
def wb_Ladder_tell_20 (l0 : Nat) (l1 : Nat) (l2 : Nat) (l3 : Int32) (l4 : Int32) (l5 : Int32) (h : HP) (K : HP → Prop) : Prop :=
  isO h l0 1 ∧ 0 < gR h l0 1 ∧ (gR h l0 1 < gS h ∧ 100 ≤ gK h (gR h l0 1) ∧ gK h (gR h l0 1) ≤ 105 ∧ (gR h l0 1 = 0 → gK h (gR h l0 1) = 100)) ∧ (nI (gL h (gR h l0 1)) ≤ l5 → K h) ∧ (¬ nI (gL h (gR h l0 1)) ≤ l5 → isO h l1 6 ∧ (l3 < gI h l1 7 → wb_Ladder_tell_47 l0 l1 l2 l3 l4 l5 h K) ∧ (¬ l3 < gI h l1 7 → isO h l2 6 ∧ (gI h l2 7 ≤ l4 → K h) ∧ (¬ gI h l2 7 ≤ l4 → wb_Ladder_tell_47 l0 l1 l2 l3 l4 l5 h K)))
theorem wb_Ladder_tell_20_ok {l0 : Nat} {l1 : Nat} {l2 : Nat} {l3 : Int32} {l4 : Int32} {l5 : Int32} {h : HP} {K : HP → Prop} (H : wb_Ladder_tell_20 l0 l1 l2 l3 l4 l5 h K) : Wp k_Ladder_tell 20 [some (.ref l0), some (.ref l1), some (.ref l2), some (.int l3), some (.int l4), some (.int l5), none, none] [] h (0, 0) (QV K) := by
  unfold wb_Ladder_tell_20 at H
  refine wp_iload rfl rfl ?_
  refine wp_aload_n rfl rfl ?_
  obtain ⟨g13, g14, H⟩ := H
  refine wp_getR rfl rfl g13 g14 ?_
  obtain ⟨g12, H⟩ := H
  refine wp_alen rfl g12 ?_
  refine wp_icmp_ge rfl (lo1 := [none, none, none, none, none, none, none, none]) (lo2 := [some (.ref l0), some (.ref l1), some (.ref l2), some (.int l3), some (.int l4), some (.int l5), none, none]) rfl rfl (fun q11 => ?_) (fun q11 => ?_)
  · have H := H.1 q11
    exact wp_vret rfl rfl H
  · have H := H.2 q11
    refine wp_iload_n rfl rfl ?_
    refine wp_aload_n rfl rfl ?_
    obtain ⟨g10, H⟩ := H
    refine wp_getI rfl rfl g10 ?_
    refine wp_icmp_lt rfl (lo1 := [some (.ref l0), some (.ref l1), some (.ref l2), some (.int l3), some (.int l4), some (.int l5), none, none]) (lo2 := [some (.ref l0), some (.ref l1), some (.ref l2), some (.int l3), some (.int l4), some (.int l5), none, none]) rfl rfl (fun q9 => ?_) (fun q9 => ?_)
    · have H := H.1 q9
      exact wb_Ladder_tell_47_ok H
    · have H := H.2 q9
      refine wp_iload rfl rfl ?_
      refine wp_aload_n rfl rfl ?_
      obtain ⟨g8, H⟩ := H
      refine wp_getI rfl rfl g8 ?_
      refine wp_icmp_ge rfl (lo1 := [none, none, none, none, none, none, none, none]) (lo2 := [some (.ref l0), some (.ref l1), some (.ref l2), some (.int l3), some (.int l4), some (.int l5), none, none]) rfl rfl (fun q7 => ?_) (fun q7 => ?_)
      · have H := H.1 q7
        exact wp_vret rfl rfl H
      · have H := H.2 q7
        exact wb_Ladder_tell_47_ok H
def wq_Ladder_tell (p0 : Nat) (p1 : Nat) (p2 : Nat) (h : HP) (K : HP → Prop) : Prop :=
  isO h p0 1 ∧ wq_Ladder_leastSum p0 p1 p2 h (fun v2 h1 => isO h1 p0 1 ∧ (∀ h3 : HP, h3 = stI h1 p0 4 (0 : Int32) → Wp k_Ladder_tell 20 [some (.ref p0), some (.ref p1), some (.ref p2), some (.int (0 : Int32)), some (.int (0 : Int32)), some (.int (0 : Int32)), none, none] [] h3 (0, 0) (QV K)))
theorem wq_Ladder_tell_ok {p0 : Nat} {p1 : Nat} {p2 : Nat} {h : HP} {K : HP → Prop} (H : wq_Ladder_tell p0 p1 p2 h K) : Wp k_Ladder_tell 0 [some (.ref p0), some (.ref p1), some (.ref p2), none, none, none, none, none] [] h (0, 0) (QV K) := by
  unfold wq_Ladder_tell at H
  refine wp_aload_n rfl rfl ?_
  refine wp_aload_n rfl rfl ?_
  refine wp_aload_n rfl rfl ?_
  obtain ⟨g6, H⟩ := H
  refine wp_callvI rfl rfl (Or.inl rfl) (lo' := [some (.ref p0), some (.ref p1), some (.ref p2), none, none, none, none, none]) rfl g6 ⟨Nat.le_of_ble_eq_true rfl, Nat.le_of_ble_eq_true rfl, Nat.le_of_ble_eq_true rfl, Nat.le_of_ble_eq_true rfl⟩ (bd' := (0, 0)) rfl ?_
  refine (wq_Ladder_leastSum_ok H).conI (fun v2 h1 H => ?_)
  refine wp_pop rfl ?_
  refine wp_aload_n rfl rfl ?_
  refine wp_iconst rfl ?_
  obtain ⟨g4, H⟩ := H
  obtain ⟨h3, e5⟩ : ∃ z : HP, z = stI h1 p0 4 (0 : Int32) := ⟨_, rfl⟩
  have H := H h3 e5
  refine wp_putI rfl rfl g4 e5 ?_
  refine wp_iconst rfl ?_
  refine wp_istore_n rfl rfl (lo' := [some (.ref p0), some (.ref p1), some (.ref p2), some (.int (0 : Int32)), none, none, none, none]) rfl ?_
  refine wp_iconst rfl ?_
  refine wp_istore rfl rfl (lo' := [some (.ref p0), some (.ref p1), some (.ref p2), some (.int (0 : Int32)), some (.int (0 : Int32)), none, none, none]) rfl ?_
  refine wp_iconst rfl ?_
  refine wp_istore rfl rfl (lo' := [some (.ref p0), some (.ref p1), some (.ref p2), some (.int (0 : Int32)), some (.int (0 : Int32)), some (.int (0 : Int32)), none, none]) rfl ?_
  exact H
def wq_Near_between (p0 : Nat) (p1 : Int32) (p2 : Nat) (p3 : Int32) (p4 : Nat) (h : HP) (K : Int32 → HP → Prop) : Prop :=
  isO h p0 3 ∧ 0 < gR h p0 0 ∧ isL h (gR h p0 0) 100 ((p1 * (24 : Int32)) + p3) ∧ (¬ gI h (gR h p0 0) ((p1 * (24 : Int32)) + p3).toNatClampNeg = (-1 : Int32) → isO h p0 3 ∧ 0 < gR h p0 0 ∧ isL h (gR h p0 0) 100 ((p1 * (24 : Int32)) + p3) ∧ K (gI h (gR h p0 0) ((p1 * (24 : Int32)) + p3).toNatClampNeg) h) ∧ (gI h (gR h p0 0) ((p1 * (24 : Int32)) + p3).toNatClampNeg = (-1 : Int32) → isO h p2 6 ∧ isO h p4 6 ∧ isO h p0 3 ∧ 0 < gR h p0 0 ∧ (¬ (if gI h p2 7 < gI h p4 7 then gI h p4 7 else gI h p2 7) = 0 → isO h p0 3 ∧ 0 < gR h p0 1 ∧ isO h (gR h p0 1) 1 ∧ wq_Ladder_leastSum (gR h p0 1) p2 p4 h (fun v5 h4 => ¬ (if gI h p2 7 < gI h p4 7 then gI h p4 7 else gI h p2 7) = 0 ∧ isA h4 (gR h p0 0) 100 ((p1 * (24 : Int32)) + p3) ∧ (∀ h6 : HP, h6 = stI h4 (gR h p0 0) ((p1 * (24 : Int32)) + p3).toNatClampNeg (if (0 : Int32) < (100 : Int32) - (((10 : Int32) * v5) / (if gI h p2 7 < gI h p4 7 then gI h p4 7 else gI h p2 7)) then (100 : Int32) - (((10 : Int32) * v5) / (if gI h p2 7 < gI h p4 7 then gI h p4 7 else gI h p2 7)) else (0 : Int32)) → isO h6 p0 3 ∧ 0 < gR h6 p0 0 ∧ isL h6 (gR h6 p0 0) 100 ((p1 * (24 : Int32)) + p3) ∧ K (gI h6 (gR h6 p0 0) ((p1 * (24 : Int32)) + p3).toNatClampNeg) h6))) ∧ ((if gI h p2 7 < gI h p4 7 then gI h p4 7 else gI h p2 7) = 0 → isA h (gR h p0 0) 100 ((p1 * (24 : Int32)) + p3) ∧ (∀ h16 : HP, h16 = stI h (gR h p0 0) ((p1 * (24 : Int32)) + p3).toNatClampNeg (100 : Int32) → isO h16 p0 3 ∧ 0 < gR h16 p0 0 ∧ isL h16 (gR h16 p0 0) 100 ((p1 * (24 : Int32)) + p3) ∧ K (gI h16 (gR h16 p0 0) ((p1 * (24 : Int32)) + p3).toNatClampNeg) h16)))
set_option maxRecDepth 100000 in
set_option maxHeartbeats 4000000 in
theorem wq_Near_between_ok {p0 : Nat} {p1 : Int32} {p2 : Nat} {p3 : Int32} {p4 : Nat} {h : HP} {K : Int32 → HP → Prop} (H : wq_Near_between p0 p1 p2 p3 p4 h K) : Wp k_Near_between 0 [some (.ref p0), some (.int p1), some (.ref p2), some (.int p3), some (.ref p4), none, none] [] h (0, 0) (QI K) := by
  unfold wq_Near_between at H
  refine wp_iload_n rfl rfl ?_
  refine wp_bipush rfl ?_
  refine wp_imul rfl ?_
  refine wp_iload_n rfl rfl ?_
  refine wp_iadd rfl ?_
  refine wp_istore rfl rfl (lo' := [some (.ref p0), some (.int p1), some (.ref p2), some (.int p3), some (.ref p4), some (.int ((p1 * (24 : Int32)) + p3)), none]) rfl ?_
  refine wp_aload_n rfl rfl ?_
  obtain ⟨g29, g30, H⟩ := H
  refine wp_getR rfl rfl g29 g30 ?_
  refine wp_iload rfl rfl ?_
  obtain ⟨g28, H⟩ := H
  refine wp_iald rfl g28 ?_
  refine wp_iconst rfl ?_
  refine wp_icmp_ne rfl (lo1 := [some (.ref p0), none, none, none, none, some (.int ((p1 * (24 : Int32)) + p3)), none]) (lo2 := [some (.ref p0), some (.int p1), some (.ref p2), some (.int p3), some (.ref p4), some (.int ((p1 * (24 : Int32)) + p3)), none]) rfl rfl (fun q27 => ?_) (fun q27 => ?_)
  · have H := H.1 q27
    refine wp_aload_n rfl rfl ?_
    obtain ⟨g2, g3, H⟩ := H
    refine wp_getR rfl rfl g2 g3 ?_
    refine wp_iload rfl rfl ?_
    obtain ⟨g1, H⟩ := H
    refine wp_iald rfl g1 ?_
    exact wp_iret rfl rfl H
  · have H := H.2 q27
    refine wp_aload_n rfl rfl ?_
    obtain ⟨g26, H⟩ := H
    refine wp_getI rfl rfl g26 ?_
    refine wp_aload rfl rfl ?_
    obtain ⟨g25, H⟩ := H
    refine wp_getI rfl rfl g25 ?_
    refine wp_max rfl (Nat.le_of_ble_eq_true rfl) (lo' := [some (.ref p0), some (.int p1), some (.ref p2), some (.int p3), some (.ref p4), some (.int ((p1 * (24 : Int32)) + p3)), none]) rfl ?_
    refine wp_istore rfl rfl (lo' := [some (.ref p0), some (.int p1), some (.ref p2), some (.int p3), some (.ref p4), some (.int ((p1 * (24 : Int32)) + p3)), some (.int (if gI h p2 7 < gI h p4 7 then gI h p4 7 else gI h p2 7))]) rfl ?_
    refine wp_aload_n rfl rfl ?_
    obtain ⟨g23, g24, H⟩ := H
    refine wp_getR rfl rfl g23 g24 ?_
    refine wp_iload rfl rfl ?_
    refine wp_iload rfl rfl ?_
    refine wp_if_ne rfl (lo1 := [some (.ref p0), some (.int p1), some (.ref p2), some (.int p3), some (.ref p4), some (.int ((p1 * (24 : Int32)) + p3)), some (.int (if gI h p2 7 < gI h p4 7 then gI h p4 7 else gI h p2 7))]) (lo2 := [some (.ref p0), some (.int p1), some (.ref p2), some (.int p3), some (.ref p4), some (.int ((p1 * (24 : Int32)) + p3)), some (.int (if gI h p2 7 < gI h p4 7 then gI h p4 7 else gI h p2 7))]) rfl rfl (fun q22 => ?_) (fun q22 => ?_)
    · have H := H.1 q22
      refine wp_iconst rfl ?_
      refine wp_bipush rfl ?_
      refine wp_bipush rfl ?_
      refine wp_aload_n rfl rfl ?_
      obtain ⟨g14, g15, H⟩ := H
      refine wp_getR rfl rfl g14 g15 ?_
      refine wp_aload_n rfl rfl ?_
      refine wp_aload rfl rfl ?_
      obtain ⟨g13, H⟩ := H
      refine wp_callvI rfl rfl (Or.inl rfl) (lo' := [some (.ref p0), some (.int p1), some (.ref p2), some (.int p3), some (.ref p4), some (.int ((p1 * (24 : Int32)) + p3)), some (.int (if gI h p2 7 < gI h p4 7 then gI h p4 7 else gI h p2 7))]) rfl g13 ⟨Nat.le_of_ble_eq_true rfl, Nat.le_of_ble_eq_true rfl, Nat.le_of_ble_eq_true rfl, Nat.le_of_ble_eq_true rfl⟩ (bd' := (0, 0)) rfl ?_
      refine (wq_Ladder_leastSum_ok H).conI (fun v5 h4 H => ?_)
      refine wp_imul rfl ?_
      refine wp_iload rfl rfl ?_
      obtain ⟨g12, H⟩ := H
      refine wp_idiv rfl g12 ?_
      refine wp_isub rfl ?_
      refine wp_max rfl (Nat.le_of_ble_eq_true rfl) (lo' := [some (.ref p0), none, none, none, none, some (.int ((p1 * (24 : Int32)) + p3)), none]) rfl ?_
      obtain ⟨g10, H⟩ := H
      obtain ⟨h6, e11⟩ : ∃ z : HP, z = stI h4 (gR h p0 0) ((p1 * (24 : Int32)) + p3).toNatClampNeg (if (0 : Int32) < (100 : Int32) - (((10 : Int32) * v5) / (if gI h p2 7 < gI h p4 7 then gI h p4 7 else gI h p2 7)) then (100 : Int32) - (((10 : Int32) * v5) / (if gI h p2 7 < gI h p4 7 then gI h p4 7 else gI h p2 7)) else (0 : Int32)) := ⟨_, rfl⟩
      have H := H h6 e11
      refine wp_iastk (lo' := [some (.ref p0), none, none, none, none, some (.int ((p1 * (24 : Int32)) + p3)), none]) rfl rfl g10 e11 ?_
      refine wp_aload_n rfl rfl ?_
      obtain ⟨g8, g9, H⟩ := H
      refine wp_getR rfl rfl g8 g9 ?_
      refine wp_iload rfl rfl ?_
      obtain ⟨g7, H⟩ := H
      refine wp_iald rfl g7 ?_
      exact wp_iret rfl rfl H
    · have H := H.2 q22
      refine wp_bipush rfl ?_
      refine wp_goto rfl (lo' := [some (.ref p0), none, none, none, none, some (.int ((p1 * (24 : Int32)) + p3)), none]) rfl ?_
      obtain ⟨g20, H⟩ := H
      obtain ⟨h16, e21⟩ : ∃ z : HP, z = stI h (gR h p0 0) ((p1 * (24 : Int32)) + p3).toNatClampNeg (100 : Int32) := ⟨_, rfl⟩
      have H := H h16 e21
      refine wp_iastk (lo' := [some (.ref p0), none, none, none, none, some (.int ((p1 * (24 : Int32)) + p3)), none]) rfl rfl g20 e21 ?_
      refine wp_aload_n rfl rfl ?_
      obtain ⟨g18, g19, H⟩ := H
      refine wp_getR rfl rfl g18 g19 ?_
      refine wp_iload rfl rfl ?_
      obtain ⟨g17, H⟩ := H
      refine wp_iald rfl g17 ?_
      exact wp_iret rfl rfl H
def wb_Patch_make_65 (l0 : Nat) (l1 : Nat) (l2 : Nat) (l3 : Nat) (l4 : Int32) (l5 : Int32) (l6 : Int32) (h : HP) (K : Int32 → HP → Prop) : Prop :=
  isO h l1 6 ∧ 0 < gR h l1 3 ∧ isO h l1 6 ∧ 0 < gR h l1 1 ∧ isL h (gR h l1 1) 100 l5 ∧ isO h l0 5 ∧ wq_Patch_copy l0 (gR h l1 3) l4 (gI h (gR h l1 1) l5.toNatClampNeg) h (fun h31 => isO h31 l1 6 ∧ 0 < gR h31 l1 1 ∧ isL h31 (gR h31 l1 1) 100 l5 ∧ isO h31 l1 6 ∧ 0 < gR h31 l1 2 ∧ isL h31 (gR h31 l1 2) 100 l5 ∧ (l6 = 0 → isO h31 l0 5 ∧ wq_Patch_putNumber l0 l1 l5 l2 l3 h31 (fun v33 h32 => (¬ v33 = 0 → Wp k_Patch_make 32 [some (.ref l0), some (.ref l1), some (.ref l2), some (.ref l3), some (.int ((gI h31 (gR h31 l1 1) l5.toNatClampNeg) + (gI h31 (gR h31 l1 2) l5.toNatClampNeg))), some (.int (l5 + (1 : Int32))), none] [] h32 (0, 0) (QI K)) ∧ (v33 = 0 → K (0 : Int32) h32))) ∧ (¬ l6 = 0 → isO h31 l0 5 ∧ wq_Patch_putMark l0 l1 l5 h31 (fun v37 h36 => (v37 = 0 → K (0 : Int32) h36) ∧ (¬ v37 = 0 → Wp k_Patch_make 32 [some (.ref l0), some (.ref l1), some (.ref l2), some (.ref l3), some (.int ((gI h31 (gR h31 l1 1) l5.toNatClampNeg) + (gI h31 (gR h31 l1 2) l5.toNatClampNeg))), some (.int (l5 + (1 : Int32))), none] [] h36 (0, 0) (QI K)))))
set_option maxRecDepth 100000 in
set_option maxHeartbeats 4000000 in
theorem wb_Patch_make_65_ok {l0 : Nat} {l1 : Nat} {l2 : Nat} {l3 : Nat} {l4 : Int32} {l5 : Int32} {l6 : Int32} {h : HP} {K : Int32 → HP → Prop} (H : wb_Patch_make_65 l0 l1 l2 l3 l4 l5 l6 h K) : Wp k_Patch_make 65 [some (.ref l0), some (.ref l1), some (.ref l2), some (.ref l3), some (.int l4), some (.int l5), some (.int l6)] [] h (0, 0) (QI K) := by
  unfold wb_Patch_make_65 at H
  refine wp_aload_n rfl rfl ?_
  refine wp_aload_n rfl rfl ?_
  obtain ⟨g51, g52, H⟩ := H
  refine wp_getR rfl rfl g51 g52 ?_
  refine wp_iload rfl rfl ?_
  refine wp_aload_n rfl rfl ?_
  obtain ⟨g49, g50, H⟩ := H
  refine wp_getR rfl rfl g49 g50 ?_
  refine wp_iload rfl rfl ?_
  obtain ⟨g48, H⟩ := H
  refine wp_iald rfl g48 ?_
  obtain ⟨g47, H⟩ := H
  refine wp_callvV rfl rfl rfl (lo' := [some (.ref l0), some (.ref l1), some (.ref l2), some (.ref l3), some (.int l4), some (.int l5), some (.int l6)]) rfl g47 ⟨Nat.le_of_ble_eq_true rfl, Nat.le_of_ble_eq_true rfl, Nat.le_of_ble_eq_true rfl, Nat.le_of_ble_eq_true rfl⟩ (bd' := (0, 0)) rfl ?_
  refine (wq_Patch_copy_ok H).conV (fun h31 H => ?_)
  refine wp_aload_n rfl rfl ?_
  obtain ⟨g45, g46, H⟩ := H
  refine wp_getR rfl rfl g45 g46 ?_
  refine wp_iload rfl rfl ?_
  obtain ⟨g44, H⟩ := H
  refine wp_iald rfl g44 ?_
  refine wp_aload_n rfl rfl ?_
  obtain ⟨g42, g43, H⟩ := H
  refine wp_getR rfl rfl g42 g43 ?_
  refine wp_iload rfl rfl ?_
  obtain ⟨g41, H⟩ := H
  refine wp_iald rfl g41 ?_
  refine wp_iadd rfl ?_
  refine wp_istore rfl rfl (lo' := [some (.ref l0), some (.ref l1), some (.ref l2), some (.ref l3), some (.int ((gI h31 (gR h31 l1 1) l5.toNatClampNeg) + (gI h31 (gR h31 l1 2) l5.toNatClampNeg))), some (.int l5), some (.int l6)]) rfl ?_
  refine wp_iload rfl rfl ?_
  refine wp_if_eq rfl (lo1 := [some (.ref l0), some (.ref l1), some (.ref l2), some (.ref l3), some (.int ((gI h31 (gR h31 l1 1) l5.toNatClampNeg) + (gI h31 (gR h31 l1 2) l5.toNatClampNeg))), some (.int l5), some (.int l6)]) (lo2 := [some (.ref l0), some (.ref l1), some (.ref l2), some (.ref l3), some (.int ((gI h31 (gR h31 l1 1) l5.toNatClampNeg) + (gI h31 (gR h31 l1 2) l5.toNatClampNeg))), some (.int l5), some (.int l6)]) rfl rfl (fun q40 => ?_) (fun q40 => ?_)
  · have H := H.1 q40
    refine wp_aload_n rfl rfl ?_
    refine wp_aload_n rfl rfl ?_
    refine wp_iload rfl rfl ?_
    refine wp_aload_n rfl rfl ?_
    refine wp_aload_n rfl rfl ?_
    obtain ⟨g35, H⟩ := H
    refine wp_callvI rfl rfl (Or.inr rfl) (lo' := [some (.ref l0), some (.ref l1), some (.ref l2), some (.ref l3), some (.int ((gI h31 (gR h31 l1 1) l5.toNatClampNeg) + (gI h31 (gR h31 l1 2) l5.toNatClampNeg))), some (.int l5), some (.int l6)]) rfl g35 ⟨Nat.le_of_ble_eq_true rfl, Nat.le_of_ble_eq_true rfl, Nat.le_of_ble_eq_true rfl, Nat.le_of_ble_eq_true rfl⟩ (bd' := (0, 0)) rfl ?_
    refine (wq_Patch_putNumber_ok H).conI (fun v33 h32 H => ?_)
    refine wp_if_ne rfl (lo1 := [some (.ref l0), some (.ref l1), some (.ref l2), some (.ref l3), some (.int ((gI h31 (gR h31 l1 1) l5.toNatClampNeg) + (gI h31 (gR h31 l1 2) l5.toNatClampNeg))), some (.int l5), none]) (lo2 := [none, none, none, none, none, none, none]) rfl rfl (fun q34 => ?_) (fun q34 => ?_)
    · have H := H.1 q34
      refine wp_iinc rfl rfl rfl (lo' := [some (.ref l0), some (.ref l1), some (.ref l2), some (.ref l3), some (.int ((gI h31 (gR h31 l1 1) l5.toNatClampNeg) + (gI h31 (gR h31 l1 2) l5.toNatClampNeg))), some (.int (l5 + (1 : Int32))), none]) rfl ?_
      refine wp_goto rfl (lo' := [some (.ref l0), some (.ref l1), some (.ref l2), some (.ref l3), some (.int ((gI h31 (gR h31 l1 1) l5.toNatClampNeg) + (gI h31 (gR h31 l1 2) l5.toNatClampNeg))), some (.int (l5 + (1 : Int32))), none]) rfl ?_
      exact H
    · have H := H.2 q34
      refine wp_iconst rfl ?_
      exact wp_zret rfl rfl (by decide) H
  · have H := H.2 q40
    refine wp_aload_n rfl rfl ?_
    refine wp_aload_n rfl rfl ?_
    refine wp_iload rfl rfl ?_
    obtain ⟨g39, H⟩ := H
    refine wp_callvI rfl rfl (Or.inr rfl) (lo' := [some (.ref l0), some (.ref l1), some (.ref l2), some (.ref l3), some (.int ((gI h31 (gR h31 l1 1) l5.toNatClampNeg) + (gI h31 (gR h31 l1 2) l5.toNatClampNeg))), some (.int l5), some (.int l6)]) rfl g39 ⟨Nat.le_of_ble_eq_true rfl, Nat.le_of_ble_eq_true rfl, Nat.le_of_ble_eq_true rfl, Nat.le_of_ble_eq_true rfl⟩ (bd' := (0, 0)) rfl ?_
    refine (wq_Patch_putMark_ok H).conI (fun v37 h36 H => ?_)
    refine wp_if_eq rfl (lo1 := [none, none, none, none, none, none, none]) (lo2 := [some (.ref l0), some (.ref l1), some (.ref l2), some (.ref l3), some (.int ((gI h31 (gR h31 l1 1) l5.toNatClampNeg) + (gI h31 (gR h31 l1 2) l5.toNatClampNeg))), some (.int l5), some (.int l6)]) rfl rfl (fun q38 => ?_) (fun q38 => ?_)
    · have H := H.1 q38
      refine wp_iconst rfl ?_
      exact wp_zret rfl rfl (by decide) H
    · have H := H.2 q38
      refine wp_goto rfl (lo' := [some (.ref l0), some (.ref l1), some (.ref l2), some (.ref l3), some (.int ((gI h31 (gR h31 l1 1) l5.toNatClampNeg) + (gI h31 (gR h31 l1 2) l5.toNatClampNeg))), some (.int l5), none]) rfl ?_
      refine wp_iinc rfl rfl rfl (lo' := [some (.ref l0), some (.ref l1), some (.ref l2), some (.ref l3), some (.int ((gI h31 (gR h31 l1 1) l5.toNatClampNeg) + (gI h31 (gR h31 l1 2) l5.toNatClampNeg))), some (.int (l5 + (1 : Int32))), none]) rfl ?_
      refine wp_goto rfl (lo' := [some (.ref l0), some (.ref l1), some (.ref l2), some (.ref l3), some (.int ((gI h31 (gR h31 l1 1) l5.toNatClampNeg) + (gI h31 (gR h31 l1 2) l5.toNatClampNeg))), some (.int (l5 + (1 : Int32))), none]) rfl ?_
      exact H
def wb_Patch_make_32 (l0 : Nat) (l1 : Nat) (l2 : Nat) (l3 : Nat) (l4 : Int32) (l5 : Int32) (h : HP) (K : Int32 → HP → Prop) : Prop :=
  isO h l1 6 ∧ (gI h l1 7 ≤ l5 → isO h l1 6 ∧ 0 < gR h l1 3 ∧ isO h l1 6 ∧ isO h l0 5 ∧ wq_Patch_copy l0 (gR h l1 3) l4 (gI h l1 5) h (fun h13 => isO h13 l0 5 ∧ wq_Patch_haveAllServed l0 l2 h13 (fun v15 h14 => (v15 = 0 ∨ v15 = 1) ∧ K v15 h14))) ∧ (¬ gI h l1 7 ≤ l5 → isO h l1 6 ∧ wq_Row_isMark l1 l5 h (fun v22 h21 => (¬ v22 = 0 → wb_Patch_make_65 l0 l1 l2 l3 l4 l5 v22 h21 K) ∧ (v22 = 0 → isO h21 l1 6 ∧ 0 < gR h21 l1 0 ∧ isL h21 (gR h21 l1 0) 100 l5 ∧ (¬ gI h21 (gR h21 l1 0) l5.toNatClampNeg = (1 : Int32) → Wp k_Patch_make 32 [some (.ref l0), some (.ref l1), some (.ref l2), some (.ref l3), some (.int l4), some (.int (l5 + (1 : Int32))), none] [] h21 (0, 0) (QI K)) ∧ (gI h21 (gR h21 l1 0) l5.toNatClampNeg = (1 : Int32) → wb_Patch_make_65 l0 l1 l2 l3 l4 l5 v22 h21 K))))
theorem wb_Patch_make_32_ok {l0 : Nat} {l1 : Nat} {l2 : Nat} {l3 : Nat} {l4 : Int32} {l5 : Int32} {h : HP} {K : Int32 → HP → Prop} (H : wb_Patch_make_32 l0 l1 l2 l3 l4 l5 h K) : Wp k_Patch_make 32 [some (.ref l0), some (.ref l1), some (.ref l2), some (.ref l3), some (.int l4), some (.int l5), none] [] h (0, 0) (QI K) := by
  unfold wb_Patch_make_32 at H
  refine wp_iload rfl rfl ?_
  refine wp_aload_n rfl rfl ?_
  obtain ⟨g30, H⟩ := H
  refine wp_getI rfl rfl g30 ?_
  refine wp_icmp_ge rfl (lo1 := [some (.ref l0), some (.ref l1), some (.ref l2), some (.ref l3), some (.int l4), some (.int l5), none]) (lo2 := [some (.ref l0), some (.ref l1), some (.ref l2), some (.ref l3), some (.int l4), some (.int l5), none]) rfl rfl (fun q29 => ?_) (fun q29 => ?_)
  · have H := H.1 q29
    refine wp_aload_n rfl rfl ?_
    refine wp_aload_n rfl rfl ?_
    obtain ⟨g19, g20, H⟩ := H
    refine wp_getR rfl rfl g19 g20 ?_
    refine wp_iload rfl rfl ?_
    refine wp_aload_n rfl rfl ?_
    obtain ⟨g18, H⟩ := H
    refine wp_getI rfl rfl g18 ?_
    obtain ⟨g17, H⟩ := H
    refine wp_callvV rfl rfl rfl (lo' := [some (.ref l0), some (.ref l1), some (.ref l2), some (.ref l3), some (.int l4), some (.int l5), none]) rfl g17 ⟨Nat.le_of_ble_eq_true rfl, Nat.le_of_ble_eq_true rfl, Nat.le_of_ble_eq_true rfl, Nat.le_of_ble_eq_true rfl⟩ (bd' := (0, 0)) rfl ?_
    refine (wq_Patch_copy_ok H).conV (fun h13 H => ?_)
    refine wp_aload_n rfl rfl ?_
    refine wp_aload_n rfl rfl ?_
    obtain ⟨g16, H⟩ := H
    refine wp_callvI rfl rfl (Or.inr rfl) (lo' := [some (.ref l0), some (.ref l1), some (.ref l2), some (.ref l3), some (.int l4), some (.int l5), none]) rfl g16 ⟨Nat.le_of_ble_eq_true rfl, Nat.le_of_ble_eq_true rfl, Nat.le_of_ble_eq_true rfl, Nat.le_of_ble_eq_true rfl⟩ (bd' := (0, 0)) rfl ?_
    refine (wq_Patch_haveAllServed_ok H).conI (fun v15 h14 H => ?_)
    exact wp_zret rfl rfl H.1 H.2
  · have H := H.2 q29
    refine wp_aload_n rfl rfl ?_
    refine wp_iload rfl rfl ?_
    obtain ⟨g28, H⟩ := H
    refine wp_callvI rfl rfl (Or.inr rfl) (lo' := [some (.ref l0), some (.ref l1), some (.ref l2), some (.ref l3), some (.int l4), some (.int l5), none]) rfl g28 ⟨Nat.le_of_ble_eq_true rfl, Nat.le_of_ble_eq_true rfl, Nat.le_of_ble_eq_true rfl, Nat.le_of_ble_eq_true rfl⟩ (bd' := (0, 0)) rfl ?_
    refine (wq_Row_isMark_ok H).conI (fun v22 h21 H => ?_)
    refine wp_istore rfl rfl (lo' := [some (.ref l0), some (.ref l1), some (.ref l2), some (.ref l3), some (.int l4), some (.int l5), some (.int v22)]) rfl ?_
    refine wp_iload rfl rfl ?_
    refine wp_if_ne rfl (lo1 := [some (.ref l0), some (.ref l1), some (.ref l2), some (.ref l3), some (.int l4), some (.int l5), some (.int v22)]) (lo2 := [some (.ref l0), some (.ref l1), some (.ref l2), some (.ref l3), some (.int l4), some (.int l5), some (.int v22)]) rfl rfl (fun q27 => ?_) (fun q27 => ?_)
    · have H := H.1 q27
      exact wb_Patch_make_65_ok H
    · have H := H.2 q27
      refine wp_aload_n rfl rfl ?_
      obtain ⟨g25, g26, H⟩ := H
      refine wp_getR rfl rfl g25 g26 ?_
      refine wp_iload rfl rfl ?_
      obtain ⟨g24, H⟩ := H
      refine wp_iald rfl g24 ?_
      refine wp_iconst rfl ?_
      refine wp_icmp_ne rfl (lo1 := [some (.ref l0), some (.ref l1), some (.ref l2), some (.ref l3), some (.int l4), some (.int l5), none]) (lo2 := [some (.ref l0), some (.ref l1), some (.ref l2), some (.ref l3), some (.int l4), some (.int l5), some (.int v22)]) rfl rfl (fun q23 => ?_) (fun q23 => ?_)
      · have H := H.1 q23
        refine wp_iinc rfl rfl rfl (lo' := [some (.ref l0), some (.ref l1), some (.ref l2), some (.ref l3), some (.int l4), some (.int (l5 + (1 : Int32))), none]) rfl ?_
        refine wp_goto rfl (lo' := [some (.ref l0), some (.ref l1), some (.ref l2), some (.ref l3), some (.int l4), some (.int (l5 + (1 : Int32))), none]) rfl ?_
        exact H
      · have H := H.2 q23
        exact wb_Patch_make_65_ok H
def wq_Patch_make (p0 : Nat) (p1 : Nat) (p2 : Nat) (p3 : Nat) (h : HP) (K : Int32 → HP → Prop) : Prop :=
  isO h p0 5 ∧ 0 < gR h p0 0 ∧ isO h (gR h p0 0) 7 ∧ (∀ h1 : HP, h1 = stI h (gR h p0 0) 1 (0 : Int32) → isO h1 p0 5 ∧ wq_Patch_forgetServed p0 h1 (fun h2 => isO h2 p0 5 ∧ wq_Patch_matchDigits p0 p2 p3 h2 (fun v4 h3 => (¬ v4 = 0 → isO h3 p1 6 ∧ Wp k_Patch_make 32 [some (.ref p0), some (.ref p1), some (.ref p2), some (.ref p3), some (.int (gI h3 p1 4)), some (.int (0 : Int32)), none] [] h3 (0, 0) (QI K)) ∧ (v4 = 0 → K (0 : Int32) h3))))
theorem wq_Patch_make_ok {p0 : Nat} {p1 : Nat} {p2 : Nat} {p3 : Nat} {h : HP} {K : Int32 → HP → Prop} (H : wq_Patch_make p0 p1 p2 p3 h K) : Wp k_Patch_make 0 [some (.ref p0), some (.ref p1), some (.ref p2), some (.ref p3), none, none, none] [] h (0, 0) (QI K) := by
  unfold wq_Patch_make at H
  refine wp_aload_n rfl rfl ?_
  obtain ⟨g11, g12, H⟩ := H
  refine wp_getR rfl rfl g11 g12 ?_
  refine wp_iconst rfl ?_
  obtain ⟨g9, H⟩ := H
  obtain ⟨h1, e10⟩ : ∃ z : HP, z = stI h (gR h p0 0) 1 (0 : Int32) := ⟨_, rfl⟩
  have H := H h1 e10
  refine wp_putI rfl rfl g9 e10 ?_
  refine wp_aload_n rfl rfl ?_
  obtain ⟨g8, H⟩ := H
  refine wp_callvV rfl rfl rfl (lo' := [some (.ref p0), some (.ref p1), some (.ref p2), some (.ref p3), none, none, none]) rfl g8 ⟨Nat.le_of_ble_eq_true rfl, Nat.le_of_ble_eq_true rfl, Nat.le_of_ble_eq_true rfl, Nat.le_of_ble_eq_true rfl⟩ (bd' := (0, 0)) rfl ?_
  refine (wq_Patch_forgetServed_ok H).conV (fun h2 H => ?_)
  refine wp_aload_n rfl rfl ?_
  refine wp_aload_n rfl rfl ?_
  refine wp_aload_n rfl rfl ?_
  obtain ⟨g7, H⟩ := H
  refine wp_callvI rfl rfl (Or.inr rfl) (lo' := [some (.ref p0), some (.ref p1), some (.ref p2), some (.ref p3), none, none, none]) rfl g7 ⟨Nat.le_of_ble_eq_true rfl, Nat.le_of_ble_eq_true rfl, Nat.le_of_ble_eq_true rfl, Nat.le_of_ble_eq_true rfl⟩ (bd' := (0, 0)) rfl ?_
  refine (wq_Patch_matchDigits_ok H).conI (fun v4 h3 H => ?_)
  refine wp_if_ne rfl (lo1 := [some (.ref p0), some (.ref p1), some (.ref p2), some (.ref p3), none, none, none]) (lo2 := [some (.ref p0), some (.ref p1), some (.ref p2), some (.ref p3), none, none, none]) rfl rfl (fun q6 => ?_) (fun q6 => ?_)
  · have H := H.1 q6
    refine wp_aload_n rfl rfl ?_
    obtain ⟨g5, H⟩ := H
    refine wp_getI rfl rfl g5 ?_
    refine wp_istore rfl rfl (lo' := [some (.ref p0), some (.ref p1), some (.ref p2), some (.ref p3), some (.int (gI h3 p1 4)), none, none]) rfl ?_
    refine wp_iconst rfl ?_
    refine wp_istore rfl rfl (lo' := [some (.ref p0), some (.ref p1), some (.ref p2), some (.ref p3), some (.int (gI h3 p1 4)), some (.int (0 : Int32)), none]) rfl ?_
    exact H
  · have H := H.2 q6
    refine wp_iconst rfl ?_
    exact wp_zret rfl rfl (by decide) H
def wq_Scan_kindAt (p0 : Nat) (p1 : Int32) (p2 : Int32) (h : HP) (K : Int32 → HP → Prop) : Prop :=
  wq_Scan_byteAt p0 p1 p2 h (fun v2 h1 => wq_Scan_isLetter v2 h1 (fun v4 h3 => (v4 = 0 → wq_Scan_isDigit v2 h3 (fun v6 h5 => (v6 = 0 → (¬ v2 = (32 : Int32) → (¬ v2 = (60 : Int32) → K (5 : Int32) h5) ∧ (v2 = (60 : Int32) → wq_Scan_kindBehindBracket p0 p1 p2 h5 (fun v8 h7 => K v8 h7))) ∧ (v2 = (32 : Int32) → K (6 : Int32) h5)) ∧ (¬ v6 = 0 → K (1 : Int32) h5))) ∧ (¬ v4 = 0 → K (0 : Int32) h3)))
theorem wq_Scan_kindAt_ok {p0 : Nat} {p1 : Int32} {p2 : Int32} {h : HP} {K : Int32 → HP → Prop} (H : wq_Scan_kindAt p0 p1 p2 h K) : Wp k_Scan_kindAt 0 [some (.ref p0), some (.int p1), some (.int p2), none] [] h (0, 0) (QI K) := by
  unfold wq_Scan_kindAt at H
  refine wp_aload_n rfl rfl ?_
  refine wp_iload_n rfl rfl ?_
  refine wp_iload_n rfl rfl ?_
  refine wp_callsI rfl rfl rfl (Or.inl rfl) (lo' := [some (.ref p0), some (.int p1), some (.int p2), none]) rfl ⟨Nat.le_of_ble_eq_true rfl, Nat.le_of_ble_eq_true rfl, Nat.le_of_ble_eq_true rfl, Nat.le_of_ble_eq_true rfl⟩ (bd' := (0, 0)) rfl ?_
  refine (wq_Scan_byteAt_ok H).conI (fun v2 h1 H => ?_)
  refine wp_istore_n rfl rfl (lo' := [some (.ref p0), some (.int p1), some (.int p2), some (.int v2)]) rfl ?_
  refine wp_iload_n rfl rfl ?_
  refine wp_callsI rfl rfl rfl (Or.inr rfl) (lo' := [some (.ref p0), some (.int p1), some (.int p2), some (.int v2)]) rfl ⟨Nat.le_of_ble_eq_true rfl, Nat.le_of_ble_eq_true rfl, Nat.le_of_ble_eq_true rfl, Nat.le_of_ble_eq_true rfl⟩ (bd' := (0, 0)) rfl ?_
  refine (wq_Scan_isLetter_ok H).conI (fun v4 h3 H => ?_)
  refine wp_if_eq rfl (lo1 := [some (.ref p0), some (.int p1), some (.int p2), some (.int v2)]) (lo2 := [some (.ref p0), some (.int p1), some (.int p2), some (.int v2)]) rfl rfl (fun q12 => ?_) (fun q12 => ?_)
  · have H := H.1 q12
    refine wp_iload_n rfl rfl ?_
    refine wp_callsI rfl rfl rfl (Or.inr rfl) (lo' := [some (.ref p0), some (.int p1), some (.int p2), some (.int v2)]) rfl ⟨Nat.le_of_ble_eq_true rfl, Nat.le_of_ble_eq_true rfl, Nat.le_of_ble_eq_true rfl, Nat.le_of_ble_eq_true rfl⟩ (bd' := (0, 0)) rfl ?_
    refine (wq_Scan_isDigit_ok H).conI (fun v6 h5 H => ?_)
    refine wp_if_eq rfl (lo1 := [some (.ref p0), some (.int p1), some (.int p2), some (.int v2)]) (lo2 := [some (.ref p0), some (.int p1), some (.int p2), some (.int v2)]) rfl rfl (fun q11 => ?_) (fun q11 => ?_)
    · have H := H.1 q11
      refine wp_iload_n rfl rfl ?_
      refine wp_bipush rfl ?_
      refine wp_icmp_ne rfl (lo1 := [some (.ref p0), some (.int p1), some (.int p2), some (.int v2)]) (lo2 := [some (.ref p0), some (.int p1), some (.int p2), some (.int v2)]) rfl rfl (fun q10 => ?_) (fun q10 => ?_)
      · have H := H.1 q10
        refine wp_iload_n rfl rfl ?_
        refine wp_bipush rfl ?_
        refine wp_icmp_ne rfl (lo1 := [some (.ref p0), some (.int p1), some (.int p2), some (.int v2)]) (lo2 := [some (.ref p0), some (.int p1), some (.int p2), some (.int v2)]) rfl rfl (fun q9 => ?_) (fun q9 => ?_)
        · have H := H.1 q9
          refine wp_iconstk (lo' := [none, none, none, none]) rfl rfl ?_
          exact wp_iret rfl rfl H
        · have H := H.2 q9
          refine wp_aload_n rfl rfl ?_
          refine wp_iload_n rfl rfl ?_
          refine wp_iload_n rfl rfl ?_
          refine wp_callsI rfl rfl rfl (Or.inl rfl) (lo' := [some (.ref p0), some (.int p1), some (.int p2), some (.int v2)]) rfl ⟨Nat.le_of_ble_eq_true rfl, Nat.le_of_ble_eq_true rfl, Nat.le_of_ble_eq_true rfl, Nat.le_of_ble_eq_true rfl⟩ (bd' := (0, 0)) rfl ?_
          refine (wq_Scan_kindBehindBracket_ok H).conI (fun v8 h7 H => ?_)
          refine wp_goto rfl (lo' := [none, none, none, none]) rfl ?_
          exact wp_iret rfl rfl H
      · have H := H.2 q10
        refine wp_bipush rfl ?_
        exact wp_iret rfl rfl H
    · have H := H.2 q11
      refine wp_iconst rfl ?_
      exact wp_iret rfl rfl H
  · have H := H.2 q12
    refine wp_iconst rfl ?_
    exact wp_iret rfl rfl H
def wq_Scan_endOf (p0 : Nat) (p1 : Int32) (p2 : Int32) (p3 : Int32) (p4 : Int32) (h : HP) (K : Int32 → HP → Prop) : Prop :=
  (¬ p3 = 0 → ¬ p3 = 1 → ¬ p3 = 2 → ¬ p3 = 3 → ¬ p3 = 4 → ¬ p3 = 5 → ¬ p3 = 6 → K (p1 + (1 : Int32)) h) ∧ (p3 = 0 → wq_Scan_lettersEnd p0 p1 p2 h (fun v2 h1 => K v2 h1)) ∧ (p3 = 1 → wq_Scan_numberEnd p0 p1 p2 p4 h (fun v4 h3 => K v4 h3)) ∧ (p3 = 2 → K (p1 + (3 : Int32)) h) ∧ (p3 = 3 → K (p1 + (4 : Int32)) h) ∧ (p3 = 4 → K (p1 + (4 : Int32)) h) ∧ (p3 = 5 → K (p1 + (1 : Int32)) h) ∧ (p3 = 6 → wq_Scan_blanksEnd p0 p1 p2 h (fun v6 h5 => K v6 h5))
theorem wq_Scan_endOf_ok {p0 : Nat} {p1 : Int32} {p2 : Int32} {p3 : Int32} {p4 : Int32} {h : HP} {K : Int32 → HP → Prop} (H : wq_Scan_endOf p0 p1 p2 p3 p4 h K) : Wp k_Scan_endOf 0 [some (.ref p0), some (.int p1), some (.int p2), some (.int p3), some (.int p4)] [] h (0, 0) (QI K) := by
  unfold wq_Scan_endOf at H
  refine wp_iload_n rfl rfl ?_
  refine wp_table rfl (lo' := [some (.ref p0), some (.int p1), some (.int p2), none, some (.int p4)]) rfl (fun q7 => ?_) (fun i off ho hx => ?_)
  · have H := H.1 (sw_ne q7 (by decide)) (sw_ne q7 (by decide)) (sw_ne q7 (by decide)) (sw_ne q7 (by decide)) (sw_ne q7 (by decide)) (sw_ne q7 (by decide)) (sw_ne q7 (by decide))
    refine wp_iload_n rfl rfl ?_
    refine wp_iconst rfl ?_
    refine wp_iadd rfl ?_
    exact wp_iret rfl rfl H
  · match i, ho, hx with
    | 0, ho, hx =>
      cases ho
      have H := H.2.1 (sw_eq hx (by decide))
      show Wp k_Scan_endOf 44 _ _ _ _ _
      refine wp_aload_n rfl rfl ?_
      refine wp_iload_n rfl rfl ?_
      refine wp_iload_n rfl rfl ?_
      refine wp_callsI rfl rfl rfl (Or.inl rfl) (lo' := [some (.ref p0), some (.int p1), some (.int p2), none, some (.int p4)]) rfl ⟨Nat.le_of_ble_eq_true rfl, Nat.le_of_ble_eq_true rfl, Nat.le_of_ble_eq_true rfl, Nat.le_of_ble_eq_true rfl⟩ (bd' := (0, 0)) rfl ?_
      refine (wq_Scan_lettersEnd_ok H).conI (fun v2 h1 H => ?_)
      exact wp_iret rfl rfl H
    | 1, ho, hx =>
      cases ho
      have H := H.2.2.1 (sw_eq hx (by decide))
      show Wp k_Scan_endOf 51 _ _ _ _ _
      refine wp_aload_n rfl rfl ?_
      refine wp_iload_n rfl rfl ?_
      refine wp_iload_n rfl rfl ?_
      refine wp_iload rfl rfl ?_
      refine wp_callsI rfl rfl rfl (Or.inl rfl) (lo' := [some (.ref p0), some (.int p1), some (.int p2), none, some (.int p4)]) rfl ⟨Nat.le_of_ble_eq_true rfl, Nat.le_of_ble_eq_true rfl, Nat.le_of_ble_eq_true rfl, Nat.le_of_ble_eq_true rfl⟩ (bd' := (0, 0)) rfl ?_
      refine (wq_Scan_numberEnd_ok H).conI (fun v4 h3 H => ?_)
      exact wp_iret rfl rfl H
    | 2, ho, hx =>
      cases ho
      have H := H.2.2.2.1 (sw_eq hx (by decide))
      show Wp k_Scan_endOf 60 _ _ _ _ _
      refine wp_iload_n rfl rfl ?_
      refine wp_iconst rfl ?_
      refine wp_iadd rfl ?_
      exact wp_iret rfl rfl H
    | 3, ho, hx =>
      cases ho
      have H := H.2.2.2.2.1 (sw_eq hx (by decide))
      show Wp k_Scan_endOf 64 _ _ _ _ _
      refine wp_iload_n rfl rfl ?_
      refine wp_iconst rfl ?_
      refine wp_iadd rfl ?_
      exact wp_iret rfl rfl H
    | 4, ho, hx =>
      cases ho
      have H := H.2.2.2.2.2.1 (sw_eq hx (by decide))
      show Wp k_Scan_endOf 68 _ _ _ _ _
      refine wp_iload_n rfl rfl ?_
      refine wp_iconst rfl ?_
      refine wp_iadd rfl ?_
      exact wp_iret rfl rfl H
    | 5, ho, hx =>
      cases ho
      have H := H.2.2.2.2.2.2.1 (sw_eq hx (by decide))
      show Wp k_Scan_endOf 79 _ _ _ _ _
      refine wp_iload_n rfl rfl ?_
      refine wp_iconst rfl ?_
      refine wp_iadd rfl ?_
      exact wp_iret rfl rfl H
    | 6, ho, hx =>
      cases ho
      have H := H.2.2.2.2.2.2.2 (sw_eq hx (by decide))
      show Wp k_Scan_endOf 72 _ _ _ _ _
      refine wp_aload_n rfl rfl ?_
      refine wp_iload_n rfl rfl ?_
      refine wp_iload_n rfl rfl ?_
      refine wp_callsI rfl rfl rfl (Or.inl rfl) (lo' := [some (.ref p0), some (.int p1), some (.int p2), none, some (.int p4)]) rfl ⟨Nat.le_of_ble_eq_true rfl, Nat.le_of_ble_eq_true rfl, Nat.le_of_ble_eq_true rfl, Nat.le_of_ble_eq_true rfl⟩ (bd' := (0, 0)) rfl ?_
      refine (wq_Scan_blanksEnd_ok H).conI (fun v6 h5 H => ?_)
      exact wp_iret rfl rfl H
    | i + 7, ho, _ => exact absurd ho (by simp)
def wq_K_init (p0 : Nat) (h : HP) (K : HP → Prop) : Prop :=
  ∀ h1 : HP, h1 = nwC h 7 0 → wq_Text_init (gS h) (600 : Int32) h1 (fun h3 => isO h3 p0 9 ∧ 0 < gS h ∧ (∀ h4 : HP, h4 = stR h3 p0 0 (gS h) → ∀ h5 : HP, h5 = nwC h4 0 0 → wq_Book_init (gS h4) h5 (fun h7 => isO h7 p0 9 ∧ 0 < gS h4 ∧ (∀ h8 : HP, h8 = stR h7 p0 1 (gS h4) → ∀ h9 : HP, h9 = nwC h8 2 0 → wq_Memory_init (gS h8) h9 (fun h11 => isO h11 p0 9 ∧ 0 < gS h8 ∧ (∀ h12 : HP, h12 = stR h11 p0 2 (gS h8) → ∀ h13 : HP, h13 = nwC h12 1 0 → wq_Ladder_init (gS h12) h13 (fun h15 => isO h15 p0 9 ∧ 0 < gS h12 ∧ (∀ h16 : HP, h16 = stR h15 p0 4 (gS h12) → ∀ h17 : HP, h17 = nwC h16 3 0 → isO h17 p0 9 ∧ 0 < gR h17 p0 4 ∧ wq_Near_init (gS h16) (gR h17 p0 4) h17 (fun h19 => isO h19 p0 9 ∧ 0 < gS h16 ∧ (∀ h20 : HP, h20 = stR h19 p0 3 (gS h16) → ∀ h21 : HP, h21 = nwC h20 5 0 → wq_Patch_init (gS h20) h21 (fun h23 => isO h23 p0 9 ∧ 0 < gS h20 ∧ (∀ h24 : HP, h24 = stR h23 p0 5 (gS h20) → ∀ h25 : HP, h25 = nwC h24 4 0 → wq_Nest_init (gS h24) h25 (fun h27 => isO h27 p0 9 ∧ 0 < gS h24 ∧ (∀ h28 : HP, h28 = stR h27 p0 6 (gS h24) → ∀ h29 : HP, h29 = nwC h28 6 0 → isO h29 p0 9 ∧ 0 < gR h29 p0 0 ∧ wq_Row_init (gS h28) (gR h29 p0 0) (600 : Int32) h29 (fun h31 => isO h31 p0 9 ∧ 0 < gS h28 ∧ (∀ h32 : HP, h32 = stR h31 p0 7 (gS h28) → ∀ h33 : HP, h33 = nwC h32 8 0 → wq_Words_init (gS h32) (8 : Int32) h33 (fun h35 => isO h35 p0 9 ∧ 0 < gS h32 ∧ (∀ h36 : HP, h36 = stR h35 p0 8 (gS h32) → ∀ h37 : HP, h37 = nwC h36 8 0 → wq_Words_init (gS h36) (10 : Int32) h37 (fun h39 => isO h39 p0 9 ∧ 0 < gS h36 ∧ (∀ h40 : HP, h40 = stR h39 p0 9 (gS h36) → ∀ h41 : HP, h41 = nwC h40 8 0 → wq_Words_init (gS h40) (10 : Int32) h41 (fun h43 => isO h43 p0 9 ∧ 0 < gS h40 ∧ (∀ h44 : HP, h44 = stR h43 p0 10 (gS h40) → ∀ h45 : HP, h45 = nwC h44 8 0 → wq_Words_init (gS h44) (5 : Int32) h45 (fun h47 => isO h47 p0 9 ∧ 0 < gS h44 ∧ (∀ h48 : HP, h48 = stR h47 p0 11 (gS h44) → K h48))))))))))))))))))))))))
set_option maxRecDepth 100000 in
set_option maxHeartbeats 4000000 in
theorem wq_K_init_ok {p0 : Nat} {h : HP} {K : HP → Prop} (H : wq_K_init p0 h K) : Wp k_K_init 0 [some (.ref p0)] [] h (336, 138541) (QV K) := by
  unfold wq_K_init at H
  refine wp_aload_n rfl rfl ?_
  refine wp_objI rfl (Nat.le_of_ble_eq_true rfl) (lo' := [some (.ref p0)]) rfl ?_
  refine wp_aload_n rfl rfl ?_
  obtain ⟨h1, e2⟩ : ∃ z : HP, z = nwC h 7 0 := ⟨_, rfl⟩
  have H := H h1 e2
  refine wp_newL (lo' := [some (.ref p0)]) (bd' := (335, 138539)) rfl ⟨by decide, by decide⟩ rfl rfl e2 ?_
  refine wp_dupR rfl ?_
  refine wp_sipush rfl ?_
  refine wp_callxV rfl rfl rfl rfl (lo' := [some (.ref p0)]) rfl ⟨Nat.le_of_ble_eq_true rfl, Nat.le_of_ble_eq_true rfl, Nat.le_of_ble_eq_true rfl, Nat.le_of_ble_eq_true rfl⟩ (bd' := (334, 137659)) rfl ?_
  refine (wq_Text_init_ok H).conV (fun h3 H => ?_)
  obtain ⟨g86, g87, H⟩ := H
  obtain ⟨h4, e88⟩ : ∃ z : HP, z = stR h3 p0 0 (gS h) := ⟨_, rfl⟩
  have H := H h4 e88
  refine wp_putR rfl rfl g86 g87 e88 ?_
  refine wp_aload_n rfl rfl ?_
  obtain ⟨h5, e6⟩ : ∃ z : HP, z = nwC h4 0 0 := ⟨_, rfl⟩
  have H := H h5 e6
  refine wp_newL (lo' := [some (.ref p0)]) (bd' := (333, 137655)) rfl ⟨by decide, by decide⟩ rfl rfl e6 ?_
  refine wp_dupR rfl ?_
  refine wp_callxV rfl rfl rfl rfl (lo' := [some (.ref p0)]) rfl ⟨Nat.le_of_ble_eq_true rfl, Nat.le_of_ble_eq_true rfl, Nat.le_of_ble_eq_true rfl, Nat.le_of_ble_eq_true rfl⟩ (bd' := (233, 93309)) rfl ?_
  refine (wq_Book_init_ok H).conV (fun h7 H => ?_)
  obtain ⟨g83, g84, H⟩ := H
  obtain ⟨h8, e85⟩ : ∃ z : HP, z = stR h7 p0 1 (gS h4) := ⟨_, rfl⟩
  have H := H h8 e85
  refine wp_putR rfl rfl g83 g84 e85 ?_
  refine wp_aload_n rfl rfl ?_
  obtain ⟨h9, e10⟩ : ∃ z : HP, z = nwC h8 2 0 := ⟨_, rfl⟩
  have H := H h9 e10
  refine wp_newL (lo' := [some (.ref p0)]) (bd' := (232, 93301)) rfl ⟨by decide, by decide⟩ rfl rfl e10 ?_
  refine wp_dupR rfl ?_
  refine wp_callxV rfl rfl rfl rfl (lo' := [some (.ref p0)]) rfl ⟨Nat.le_of_ble_eq_true rfl, Nat.le_of_ble_eq_true rfl, Nat.le_of_ble_eq_true rfl, Nat.le_of_ble_eq_true rfl⟩ (bd' := (26, 4021)) rfl ?_
  refine (wq_Memory_init_ok H).conV (fun h11 H => ?_)
  obtain ⟨g80, g81, H⟩ := H
  obtain ⟨h12, e82⟩ : ∃ z : HP, z = stR h11 p0 2 (gS h8) := ⟨_, rfl⟩
  have H := H h12 e82
  refine wp_putR rfl rfl g80 g81 e82 ?_
  refine wp_aload_n rfl rfl ?_
  obtain ⟨h13, e14⟩ : ∃ z : HP, z = nwC h12 1 0 := ⟨_, rfl⟩
  have H := H h13 e14
  refine wp_newL (lo' := [some (.ref p0)]) (bd' := (25, 4016)) rfl ⟨by decide, by decide⟩ rfl rfl e14 ?_
  refine wp_dupR rfl ?_
  refine wp_callxV rfl rfl rfl rfl (lo' := [some (.ref p0)]) rfl ⟨Nat.le_of_ble_eq_true rfl, Nat.le_of_ble_eq_true rfl, Nat.le_of_ble_eq_true rfl, Nat.le_of_ble_eq_true rfl⟩ (bd' := (21, 3455)) rfl ?_
  refine (wq_Ladder_init_ok H).conV (fun h15 H => ?_)
  obtain ⟨g77, g78, H⟩ := H
  obtain ⟨h16, e79⟩ : ∃ z : HP, z = stR h15 p0 4 (gS h12) := ⟨_, rfl⟩
  have H := H h16 e79
  refine wp_putR rfl rfl g77 g78 e79 ?_
  refine wp_aload_n rfl rfl ?_
  obtain ⟨h17, e18⟩ : ∃ z : HP, z = nwC h16 3 0 := ⟨_, rfl⟩
  have H := H h17 e18
  refine wp_newL (lo' := [some (.ref p0)]) (bd' := (20, 3453)) rfl ⟨by decide, by decide⟩ rfl rfl e18 ?_
  refine wp_dupR rfl ?_
  refine wp_aload_n rfl rfl ?_
  obtain ⟨g75, g76, H⟩ := H
  refine wp_getR rfl rfl g75 g76 ?_
  refine wp_callxV rfl rfl rfl rfl (lo' := [some (.ref p0)]) rfl ⟨Nat.le_of_ble_eq_true rfl, Nat.le_of_ble_eq_true rfl, Nat.le_of_ble_eq_true rfl, Nat.le_of_ble_eq_true rfl⟩ (bd' := (19, 2973)) rfl ?_
  refine (wq_Near_init_ok H).conV (fun h19 H => ?_)
  obtain ⟨g72, g73, H⟩ := H
  obtain ⟨h20, e74⟩ : ∃ z : HP, z = stR h19 p0 3 (gS h16) := ⟨_, rfl⟩
  have H := H h20 e74
  refine wp_putR rfl rfl g72 g73 e74 ?_
  refine wp_aload_n rfl rfl ?_
  obtain ⟨h21, e22⟩ : ∃ z : HP, z = nwC h20 5 0 := ⟨_, rfl⟩
  have H := H h21 e22
  refine wp_newL (lo' := [some (.ref p0)]) (bd' := (18, 2970)) rfl ⟨by decide, by decide⟩ rfl rfl e22 ?_
  refine wp_dupR rfl ?_
  refine wp_callxV rfl rfl rfl rfl (lo' := [some (.ref p0)]) rfl ⟨Nat.le_of_ble_eq_true rfl, Nat.le_of_ble_eq_true rfl, Nat.le_of_ble_eq_true rfl, Nat.le_of_ble_eq_true rfl⟩ (bd' := (14, 2058)) rfl ?_
  refine (wq_Patch_init_ok H).conV (fun h23 H => ?_)
  obtain ⟨g69, g70, H⟩ := H
  obtain ⟨h24, e71⟩ : ∃ z : HP, z = stR h23 p0 5 (gS h20) := ⟨_, rfl⟩
  have H := H h24 e71
  refine wp_putR rfl rfl g69 g70 e71 ?_
  refine wp_aload_n rfl rfl ?_
  obtain ⟨h25, e26⟩ : ∃ z : HP, z = nwC h24 4 0 := ⟨_, rfl⟩
  have H := H h25 e26
  refine wp_newL (lo' := [some (.ref p0)]) (bd' := (13, 2057)) rfl ⟨by decide, by decide⟩ rfl rfl e26 ?_
  refine wp_dupR rfl ?_
  refine wp_callxV rfl rfl rfl rfl (lo' := [some (.ref p0)]) rfl ⟨Nat.le_of_ble_eq_true rfl, Nat.le_of_ble_eq_true rfl, Nat.le_of_ble_eq_true rfl, Nat.le_of_ble_eq_true rfl⟩ (bd' := (12, 1857)) rfl ?_
  refine (wq_Nest_init_ok H).conV (fun h27 H => ?_)
  obtain ⟨g66, g67, H⟩ := H
  obtain ⟨h28, e68⟩ : ∃ z : HP, z = stR h27 p0 6 (gS h24) := ⟨_, rfl⟩
  have H := H h28 e68
  refine wp_putR rfl rfl g66 g67 e68 ?_
  refine wp_aload_n rfl rfl ?_
  obtain ⟨h29, e30⟩ : ∃ z : HP, z = nwC h28 6 0 := ⟨_, rfl⟩
  have H := H h29 e30
  refine wp_newL (lo' := [some (.ref p0)]) (bd' := (11, 1848)) rfl ⟨by decide, by decide⟩ rfl rfl e30 ?_
  refine wp_dupR rfl ?_
  refine wp_aload_n rfl rfl ?_
  obtain ⟨g64, g65, H⟩ := H
  refine wp_getR rfl rfl g64 g65 ?_
  refine wp_sipush rfl ?_
  refine wp_callxV rfl rfl rfl rfl (lo' := [some (.ref p0)]) rfl ⟨Nat.le_of_ble_eq_true rfl, Nat.le_of_ble_eq_true rfl, Nat.le_of_ble_eq_true rfl, Nat.le_of_ble_eq_true rfl⟩ (bd' := (8, 48)) rfl ?_
  refine (wq_Row_init_ok H).conV (fun h31 H => ?_)
  obtain ⟨g61, g62, H⟩ := H
  obtain ⟨h32, e63⟩ : ∃ z : HP, z = stR h31 p0 7 (gS h28) := ⟨_, rfl⟩
  have H := H h32 e63
  refine wp_putR rfl rfl g61 g62 e63 ?_
  refine wp_aload_n rfl rfl ?_
  obtain ⟨h33, e34⟩ : ∃ z : HP, z = nwC h32 8 0 := ⟨_, rfl⟩
  have H := H h33 e34
  refine wp_newL (lo' := [some (.ref p0)]) (bd' := (7, 46)) rfl ⟨by decide, by decide⟩ rfl rfl e34 ?_
  refine wp_dupR rfl ?_
  refine wp_bipush rfl ?_
  refine wp_callxV rfl rfl rfl rfl (lo' := [some (.ref p0)]) rfl ⟨Nat.le_of_ble_eq_true rfl, Nat.le_of_ble_eq_true rfl, Nat.le_of_ble_eq_true rfl, Nat.le_of_ble_eq_true rfl⟩ (bd' := (6, 36)) rfl ?_
  refine (wq_Words_init_ok H).conV (fun h35 H => ?_)
  obtain ⟨g58, g59, H⟩ := H
  obtain ⟨h36, e60⟩ : ∃ z : HP, z = stR h35 p0 8 (gS h32) := ⟨_, rfl⟩
  have H := H h36 e60
  refine wp_putR rfl rfl g58 g59 e60 ?_
  refine wp_aload_n rfl rfl ?_
  obtain ⟨h37, e38⟩ : ∃ z : HP, z = nwC h36 8 0 := ⟨_, rfl⟩
  have H := H h37 e38
  refine wp_newL (lo' := [some (.ref p0)]) (bd' := (5, 34)) rfl ⟨by decide, by decide⟩ rfl rfl e38 ?_
  refine wp_dupR rfl ?_
  refine wp_bipush rfl ?_
  refine wp_callxV rfl rfl rfl rfl (lo' := [some (.ref p0)]) rfl ⟨Nat.le_of_ble_eq_true rfl, Nat.le_of_ble_eq_true rfl, Nat.le_of_ble_eq_true rfl, Nat.le_of_ble_eq_true rfl⟩ (bd' := (4, 24)) rfl ?_
  refine (wq_Words_init_ok H).conV (fun h39 H => ?_)
  obtain ⟨g55, g56, H⟩ := H
  obtain ⟨h40, e57⟩ : ∃ z : HP, z = stR h39 p0 9 (gS h36) := ⟨_, rfl⟩
  have H := H h40 e57
  refine wp_putR rfl rfl g55 g56 e57 ?_
  refine wp_aload_n rfl rfl ?_
  obtain ⟨h41, e42⟩ : ∃ z : HP, z = nwC h40 8 0 := ⟨_, rfl⟩
  have H := H h41 e42
  refine wp_newL (lo' := [some (.ref p0)]) (bd' := (3, 22)) rfl ⟨by decide, by decide⟩ rfl rfl e42 ?_
  refine wp_dupR rfl ?_
  refine wp_bipush rfl ?_
  refine wp_callxV rfl rfl rfl rfl (lo' := [some (.ref p0)]) rfl ⟨Nat.le_of_ble_eq_true rfl, Nat.le_of_ble_eq_true rfl, Nat.le_of_ble_eq_true rfl, Nat.le_of_ble_eq_true rfl⟩ (bd' := (2, 12)) rfl ?_
  refine (wq_Words_init_ok H).conV (fun h43 H => ?_)
  obtain ⟨g52, g53, H⟩ := H
  obtain ⟨h44, e54⟩ : ∃ z : HP, z = stR h43 p0 10 (gS h40) := ⟨_, rfl⟩
  have H := H h44 e54
  refine wp_putR rfl rfl g52 g53 e54 ?_
  refine wp_aload_n rfl rfl ?_
  obtain ⟨h45, e46⟩ : ∃ z : HP, z = nwC h44 8 0 := ⟨_, rfl⟩
  have H := H h45 e46
  refine wp_newL (lo' := [some (.ref p0)]) (bd' := (1, 10)) rfl ⟨by decide, by decide⟩ rfl rfl e46 ?_
  refine wp_dupR rfl ?_
  refine wp_iconst rfl ?_
  refine wp_callxV rfl rfl rfl rfl (lo' := [some (.ref p0)]) rfl ⟨Nat.le_of_ble_eq_true rfl, Nat.le_of_ble_eq_true rfl, Nat.le_of_ble_eq_true rfl, Nat.le_of_ble_eq_true rfl⟩ (bd' := (0, 0)) rfl ?_
  refine (wq_Words_init_ok H).conV (fun h47 H => ?_)
  obtain ⟨g49, g50, H⟩ := H
  obtain ⟨h48, e51⟩ : ∃ z : HP, z = stR h47 p0 11 (gS h44) := ⟨_, rfl⟩
  have H := H h48 e51
  refine wp_putR rfl rfl g49 g50 e51 ?_
  exact wp_vret rfl rfl H
def wq_K_except (p0 : Nat) (h : HP) (K : Int32 → HP → Prop) : Prop :=
  isO h p0 9 ∧ 0 < gR h p0 8 ∧ isO h p0 9 ∧ wq_K_addTapeTo p0 (gR h p0 8) h (fun v2 h1 => K v2 h1)
theorem wq_K_except_ok {p0 : Nat} {h : HP} {K : Int32 → HP → Prop} (H : wq_K_except p0 h K) : Wp k_K_except 0 [some (.ref p0)] [] h (0, 0) (QI K) := by
  unfold wq_K_except at H
  refine wp_aload_n rfl rfl ?_
  refine wp_aload_n rfl rfl ?_
  obtain ⟨g4, g5, H⟩ := H
  refine wp_getR rfl rfl g4 g5 ?_
  obtain ⟨g3, H⟩ := H
  refine wp_callvI rfl rfl (Or.inl rfl) (lo' := [some (.ref p0)]) rfl g3 ⟨Nat.le_of_ble_eq_true rfl, Nat.le_of_ble_eq_true rfl, Nat.le_of_ble_eq_true rfl, Nat.le_of_ble_eq_true rfl⟩ (bd' := (0, 0)) rfl ?_
  refine (wq_K_addTapeTo_ok H).conI (fun v2 h1 H => ?_)
  exact wp_iret rfl rfl H
def wq_K_segment (p0 : Nat) (p1 : Int32) (p2 : Int32) (h : HP) (K : Int32 → HP → Prop) : Prop :=
  isO h p0 9 ∧ wq_K_isSegment p0 p1 h (fun v2 h1 => (¬ v2 = 0 → isO h1 p0 9 ∧ 0 < gR h1 p0 1 ∧ isO h1 (gR h1 p0 1) 0 ∧ 0 < gR h1 (gR h1 p0 1) 1 ∧ 0 < gR h1 (gR h1 p0 1) 1 ∧ gR h1 (gR h1 p0 1) 1 < gS h1 ∧ (gK h1 (gR h1 (gR h1 p0 1) 1) = 104 ∨ gK h1 (gR h1 (gR h1 p0 1) 1) = 105) ∧ vp_in p1 (gL h1 (gR h1 (gR h1 p0 1) 1)) ∧ 0 < gR h1 (gR h1 (gR h1 p0 1) 1) p1.toNatClampNeg ∧ (¬ p2 = 0 → ¬ p2 = 1 → ¬ p2 = 2 → ¬ p2 = 3 → ¬ p2 = 4 → ¬ p2 = 5 → K (-1 : Int32) h1) ∧ (p2 = 0 → isO h1 (gR h1 (gR h1 (gR h1 p0 1) 1) p1.toNatClampNeg) 6 ∧ K (gI h1 (gR h1 (gR h1 (gR h1 p0 1) 1) p1.toNatClampNeg) 4) h1) ∧ (p2 = 1 → isO h1 (gR h1 (gR h1 (gR h1 p0 1) 1) p1.toNatClampNeg) 6 ∧ isO h1 (gR h1 (gR h1 (gR h1 p0 1) 1) p1.toNatClampNeg) 6 ∧ K ((gI h1 (gR h1 (gR h1 (gR h1 p0 1) 1) p1.toNatClampNeg) 5) - (gI h1 (gR h1 (gR h1 (gR h1 p0 1) 1) p1.toNatClampNeg) 4)) h1) ∧ (p2 = 2 → isO h1 (gR h1 (gR h1 (gR h1 p0 1) 1) p1.toNatClampNeg) 6 ∧ K (gI h1 (gR h1 (gR h1 (gR h1 p0 1) 1) p1.toNatClampNeg) 6) h1) ∧ (p2 = 3 → isO h1 (gR h1 (gR h1 (gR h1 p0 1) 1) p1.toNatClampNeg) 6 ∧ K (gI h1 (gR h1 (gR h1 (gR h1 p0 1) 1) p1.toNatClampNeg) 7) h1) ∧ (p2 = 4 → isO h1 (gR h1 (gR h1 (gR h1 p0 1) 1) p1.toNatClampNeg) 6 ∧ K (gI h1 (gR h1 (gR h1 (gR h1 p0 1) 1) p1.toNatClampNeg) 8) h1) ∧ (p2 = 5 → isO h1 p0 9 ∧ 0 < gR h1 p0 6 ∧ isO h1 (gR h1 p0 6) 4 ∧ wq_Nest_isTorn (gR h1 p0 6) (gR h1 (gR h1 (gR h1 p0 1) 1) p1.toNatClampNeg) h1 (fun v10 h9 => (v10 = 0 → K (0 : Int32) h9) ∧ (¬ v10 = 0 → K (1 : Int32) h9)))) ∧ (v2 = 0 → K (-1 : Int32) h1))
set_option maxRecDepth 100000 in
set_option maxHeartbeats 4000000 in
theorem wq_K_segment_ok {p0 : Nat} {p1 : Int32} {p2 : Int32} {h : HP} {K : Int32 → HP → Prop} (H : wq_K_segment p0 p1 p2 h K) : Wp k_K_segment 0 [some (.ref p0), some (.int p1), some (.int p2), none] [] h (0, 0) (QI K) := by
  unfold wq_K_segment at H
  refine wp_aload_n rfl rfl ?_
  refine wp_iload_n rfl rfl ?_
  obtain ⟨g26, H⟩ := H
  refine wp_callvI rfl rfl (Or.inr rfl) (lo' := [some (.ref p0), some (.int p1), some (.int p2), none]) rfl g26 ⟨Nat.le_of_ble_eq_true rfl, Nat.le_of_ble_eq_true rfl, Nat.le_of_ble_eq_true rfl, Nat.le_of_ble_eq_true rfl⟩ (bd' := (0, 0)) rfl ?_
  refine (wq_K_isSegment_ok H).conI (fun v2 h1 H => ?_)
  refine wp_if_ne rfl (lo1 := [some (.ref p0), some (.int p1), some (.int p2), none]) (lo2 := [some (.ref p0), some (.int p1), some (.int p2), none]) rfl rfl (fun q25 => ?_) (fun q25 => ?_)
  · have H := H.1 q25
    refine wp_aload_n rfl rfl ?_
    obtain ⟨g23, g24, H⟩ := H
    refine wp_getR rfl rfl g23 g24 ?_
    obtain ⟨g21, g22, H⟩ := H
    refine wp_getR rfl rfl g21 g22 ?_
    refine wp_iload_n rfl rfl ?_
    obtain ⟨g16, g17, g18, g19, g20, H⟩ := H
    refine wp_aald rfl g16 g17 g18 g19 g20 ?_
    refine wp_astore_n rfl rfl (lo' := [some (.ref p0), some (.int p1), some (.int p2), some (.ref (gR h1 (gR h1 (gR h1 p0 1) 1) p1.toNatClampNeg))]) rfl ?_
    refine wp_iload_n rfl rfl ?_
    refine wp_table rfl (lo' := [some (.ref p0), some (.int p1), some (.int p2), some (.ref (gR h1 (gR h1 (gR h1 p0 1) 1) p1.toNatClampNeg))]) rfl (fun q15 => ?_) (fun i off ho hx => ?_)
    · have H := H.1 (sw_ne q15 (by decide)) (sw_ne q15 (by decide)) (sw_ne q15 (by decide)) (sw_ne q15 (by decide)) (sw_ne q15 (by decide)) (sw_ne q15 (by decide))
      refine wp_iconst rfl ?_
      exact wp_iret rfl rfl H
    · match i, ho, hx with
      | 0, ho, hx =>
        cases ho
        have H := H.2.1 (sw_eq hx (by decide))
        show Wp k_K_segment 60 _ _ _ _ _
        refine wp_aload_n rfl rfl ?_
        obtain ⟨g3, H⟩ := H
        refine wp_getI rfl rfl g3 ?_
        exact wp_iret rfl rfl H
      | 1, ho, hx =>
        cases ho
        have H := H.2.2.1 (sw_eq hx (by decide))
        show Wp k_K_segment 65 _ _ _ _ _
        refine wp_aload_n rfl rfl ?_
        obtain ⟨g5, H⟩ := H
        refine wp_getI rfl rfl g5 ?_
        refine wp_aload_n rfl rfl ?_
        obtain ⟨g4, H⟩ := H
        refine wp_getI rfl rfl g4 ?_
        refine wp_isub rfl ?_
        exact wp_iret rfl rfl H
      | 2, ho, hx =>
        cases ho
        have H := H.2.2.2.1 (sw_eq hx (by decide))
        show Wp k_K_segment 75 _ _ _ _ _
        refine wp_aload_n rfl rfl ?_
        obtain ⟨g6, H⟩ := H
        refine wp_getI rfl rfl g6 ?_
        exact wp_iret rfl rfl H
      | 3, ho, hx =>
        cases ho
        have H := H.2.2.2.2.1 (sw_eq hx (by decide))
        show Wp k_K_segment 80 _ _ _ _ _
        refine wp_aload_n rfl rfl ?_
        obtain ⟨g7, H⟩ := H
        refine wp_getI rfl rfl g7 ?_
        exact wp_iret rfl rfl H
      | 4, ho, hx =>
        cases ho
        have H := H.2.2.2.2.2.1 (sw_eq hx (by decide))
        show Wp k_K_segment 85 _ _ _ _ _
        refine wp_aload_n rfl rfl ?_
        obtain ⟨g8, H⟩ := H
        refine wp_getI rfl rfl g8 ?_
        exact wp_iret rfl rfl H
      | 5, ho, hx =>
        cases ho
        have H := H.2.2.2.2.2.2 (sw_eq hx (by decide))
        show Wp k_K_segment 90 _ _ _ _ _
        refine wp_aload_n rfl rfl ?_
        obtain ⟨g13, g14, H⟩ := H
        refine wp_getR rfl rfl g13 g14 ?_
        refine wp_aload_n rfl rfl ?_
        obtain ⟨g12, H⟩ := H
        refine wp_callvI rfl rfl (Or.inr rfl) (lo' := [some (.ref p0), some (.int p1), some (.int p2), some (.ref (gR h1 (gR h1 (gR h1 p0 1) 1) p1.toNatClampNeg))]) rfl g12 ⟨Nat.le_of_ble_eq_true rfl, Nat.le_of_ble_eq_true rfl, Nat.le_of_ble_eq_true rfl, Nat.le_of_ble_eq_true rfl⟩ (bd' := (0, 0)) rfl ?_
        refine (wq_Nest_isTorn_ok H).conI (fun v10 h9 H => ?_)
        refine wp_if_eq rfl (lo1 := [some (.ref p0), some (.int p1), some (.int p2), some (.ref (gR h1 (gR h1 (gR h1 p0 1) 1) p1.toNatClampNeg))]) (lo2 := [some (.ref p0), some (.int p1), some (.int p2), some (.ref (gR h1 (gR h1 (gR h1 p0 1) 1) p1.toNatClampNeg))]) rfl rfl (fun q11 => ?_) (fun q11 => ?_)
        · have H := H.1 q11
          refine wp_iconstk (lo' := [none, none, none, none]) rfl rfl ?_
          exact wp_iret rfl rfl H
        · have H := H.2 q11
          refine wp_iconst rfl ?_
          refine wp_goto rfl (lo' := [none, none, none, none]) rfl ?_
          exact wp_iret rfl rfl H
      | i + 6, ho, _ => exact absurd ho (by simp)
  · have H := H.2 q25
    refine wp_iconst rfl ?_
    exact wp_iret rfl rfl H
def wq_K_forbid (p0 : Nat) (h : HP) (K : Int32 → HP → Prop) : Prop :=
  isO h p0 9 ∧ 0 < gR h p0 11 ∧ isO h p0 9 ∧ wq_K_addTapeTo p0 (gR h p0 11) h (fun v2 h1 => K v2 h1)
theorem wq_K_forbid_ok {p0 : Nat} {h : HP} {K : Int32 → HP → Prop} (H : wq_K_forbid p0 h K) : Wp k_K_forbid 0 [some (.ref p0)] [] h (0, 0) (QI K) := by
  unfold wq_K_forbid at H
  refine wp_aload_n rfl rfl ?_
  refine wp_aload_n rfl rfl ?_
  obtain ⟨g4, g5, H⟩ := H
  refine wp_getR rfl rfl g4 g5 ?_
  obtain ⟨g3, H⟩ := H
  refine wp_callvI rfl rfl (Or.inl rfl) (lo' := [some (.ref p0)]) rfl g3 ⟨Nat.le_of_ble_eq_true rfl, Nat.le_of_ble_eq_true rfl, Nat.le_of_ble_eq_true rfl, Nat.le_of_ble_eq_true rfl⟩ (bd' := (0, 0)) rfl ?_
  refine (wq_K_addTapeTo_ok H).conI (fun v2 h1 H => ?_)
  exact wp_iret rfl rfl H
def wq_K_isLikeSource (p0 : Nat) (p1 : Int32) (p2 : Int32) (h : HP) (K : Int32 → HP → Prop) : Prop :=
  isO h p0 9 ∧ 0 < gR h p0 1 ∧ isO h (gR h p0 1) 0 ∧ 0 < gR h (gR h p0 1) 1 ∧ 0 < gR h (gR h p0 1) 1 ∧ gR h (gR h p0 1) 1 < gS h ∧ (gK h (gR h (gR h p0 1) 1) = 104 ∨ gK h (gR h (gR h p0 1) 1) = 105) ∧ vp_in p1 (gL h (gR h (gR h p0 1) 1)) ∧ 0 < gR h (gR h (gR h p0 1) 1) p1.toNatClampNeg ∧ isO h p0 9 ∧ 0 < gR h p0 2 ∧ isO h (gR h p0 2) 2 ∧ 0 < gR h (gR h p0 2) 1 ∧ 0 < gR h (gR h p0 2) 1 ∧ gR h (gR h p0 2) 1 < gS h ∧ (gK h (gR h (gR h p0 2) 1) = 104 ∨ gK h (gR h (gR h p0 2) 1) = 105) ∧ vp_in p2 (gL h (gR h (gR h p0 2) 1)) ∧ 0 < gR h (gR h (gR h p0 2) 1) p2.toNatClampNeg ∧ isO h (gR h (gR h (gR h p0 1) 1) p1.toNatClampNeg) 6 ∧ wq_Row_isLike (gR h (gR h (gR h p0 1) 1) p1.toNatClampNeg) (gR h (gR h (gR h p0 2) 1) p2.toNatClampNeg) h (fun v2 h1 => (v2 = 0 ∨ v2 = 1) ∧ K v2 h1)
theorem wq_K_isLikeSource_ok {p0 : Nat} {p1 : Int32} {p2 : Int32} {h : HP} {K : Int32 → HP → Prop} (H : wq_K_isLikeSource p0 p1 p2 h K) : Wp k_K_isLikeSource 0 [some (.ref p0), some (.int p1), some (.int p2)] [] h (0, 0) (QI K) := by
  unfold wq_K_isLikeSource at H
  refine wp_aload_n rfl rfl ?_
  obtain ⟨g20, g21, H⟩ := H
  refine wp_getR rfl rfl g20 g21 ?_
  obtain ⟨g18, g19, H⟩ := H
  refine wp_getR rfl rfl g18 g19 ?_
  refine wp_iload_n rfl rfl ?_
  obtain ⟨g13, g14, g15, g16, g17, H⟩ := H
  refine wp_aald rfl g13 g14 g15 g16 g17 ?_
  refine wp_aload_n rfl rfl ?_
  obtain ⟨g11, g12, H⟩ := H
  refine wp_getR rfl rfl g11 g12 ?_
  obtain ⟨g9, g10, H⟩ := H
  refine wp_getR rfl rfl g9 g10 ?_
  refine wp_iload_n rfl rfl ?_
  obtain ⟨g4, g5, g6, g7, g8, H⟩ := H
  refine wp_aald rfl g4 g5 g6 g7 g8 ?_
  obtain ⟨g3, H⟩ := H
  refine wp_callvI rfl rfl (Or.inr rfl) (lo' := [some (.ref p0), some (.int p1), some (.int p2)]) rfl g3 ⟨Nat.le_of_ble_eq_true rfl, Nat.le_of_ble_eq_true rfl, Nat.le_of_ble_eq_true rfl, Nat.le_of_ble_eq_true rfl⟩ (bd' := (0, 0)) rfl ?_
  refine (wq_Row_isLike_ok H).conI (fun v2 h1 H => ?_)
  exact wp_zret rfl rfl H.1 H.2
def wq_M_readRow (p0 : Nat) (p1 : Int32) (p2 : Int32) (h : HP) (K : HP → Prop) : Prop :=
  isO h p0 10 ∧ 0 < gR h p0 2 ∧ isL h (gR h p0 2) 100 p2 ∧ wq_M_pointOf p2 h (fun v2 h1 => isO h1 p0 10 ∧ wq_M_read p0 p1 ((600 : Int32) * p2) (gI h (gR h p0 2) p2.toNatClampNeg) v2 (0 : Int32) h1 (fun h3 => K h3))
theorem wq_M_readRow_ok {p0 : Nat} {p1 : Int32} {p2 : Int32} {h : HP} {K : HP → Prop} (H : wq_M_readRow p0 p1 p2 h K) : Wp k_M_readRow 0 [some (.ref p0), some (.int p1), some (.int p2)] [] h (0, 0) (QV K) := by
  unfold wq_M_readRow at H
  refine wp_aload_n rfl rfl ?_
  refine wp_iload_n rfl rfl ?_
  refine wp_sipush rfl ?_
  refine wp_iload_n rfl rfl ?_
  refine wp_imul rfl ?_
  refine wp_aload_n rfl rfl ?_
  obtain ⟨g6, g7, H⟩ := H
  refine wp_getR rfl rfl g6 g7 ?_
  refine wp_iload_n rfl rfl ?_
  obtain ⟨g5, H⟩ := H
  refine wp_iald rfl g5 ?_
  refine wp_iload_n rfl rfl ?_
  refine wp_callsI rfl rfl rfl (Or.inl rfl) (lo' := [some (.ref p0), some (.int p1), some (.int p2)]) rfl ⟨Nat.le_of_ble_eq_true rfl, Nat.le_of_ble_eq_true rfl, Nat.le_of_ble_eq_true rfl, Nat.le_of_ble_eq_true rfl⟩ (bd' := (0, 0)) rfl ?_
  refine (wq_M_pointOf_ok H).conI (fun v2 h1 H => ?_)
  refine wp_iconst rfl ?_
  obtain ⟨g4, H⟩ := H
  refine wp_callvV rfl rfl rfl (lo' := [some (.ref p0), some (.int p1), some (.int p2)]) rfl g4 ⟨Nat.le_of_ble_eq_true rfl, Nat.le_of_ble_eq_true rfl, Nat.le_of_ble_eq_true rfl, Nat.le_of_ble_eq_true rfl⟩ (bd' := (0, 0)) rfl ?_
  refine (wq_M_read_ok H).conV (fun h3 H => ?_)
  exact wp_vret rfl rfl H
