def wq_K_patch (p0 : Nat) (p1 : Int32) (p2 : Int32) (h : HP) (K : Int32 → HP → Prop) : Prop :=
  isO h p0 9 ∧ wq_K_isSegment p0 p1 h (fun v2 h1 => (v2 = 0 → K (-1 : Int32) h1) ∧ (¬ v2 = 0 → isO h1 p0 9 ∧ wq_K_isPair p0 p2 h1 (fun v4 h3 => (¬ v4 = 0 → isO h3 p0 9 ∧ wq_K_isLikeSource p0 p1 p2 h3 (fun v6 h5 => (¬ v6 = 0 → isO h5 p0 9 ∧ wq_K_readRenderingOf p0 p2 h5 (fun h7 => isO h7 p0 9 ∧ 0 < gR h7 p0 5 ∧ isO h7 p0 9 ∧ 0 < gR h7 p0 7 ∧ isO h7 p0 9 ∧ 0 < gR h7 p0 2 ∧ isO h7 (gR h7 p0 2) 2 ∧ 0 < gR h7 (gR h7 p0 2) 1 ∧ 0 < gR h7 (gR h7 p0 2) 1 ∧ gR h7 (gR h7 p0 2) 1 < gS h7 ∧ (gK h7 (gR h7 (gR h7 p0 2) 1) = 104 ∨ gK h7 (gR h7 (gR h7 p0 2) 1) = 105) ∧ vp_in p2 (gL h7 (gR h7 (gR h7 p0 2) 1)) ∧ 0 < gR h7 (gR h7 (gR h7 p0 2) 1) p2.toNatClampNeg ∧ isO h7 p0 9 ∧ 0 < gR h7 p0 1 ∧ isO h7 (gR h7 p0 1) 0 ∧ 0 < gR h7 (gR h7 p0 1) 1 ∧ 0 < gR h7 (gR h7 p0 1) 1 ∧ gR h7 (gR h7 p0 1) 1 < gS h7 ∧ (gK h7 (gR h7 (gR h7 p0 1) 1) = 104 ∨ gK h7 (gR h7 (gR h7 p0 1) 1) = 105) ∧ vp_in p1 (gL h7 (gR h7 (gR h7 p0 1) 1)) ∧ 0 < gR h7 (gR h7 (gR h7 p0 1) 1) p1.toNatClampNeg ∧ isO h7 (gR h7 p0 5) 5 ∧ wq_Patch_make (gR h7 p0 5) (gR h7 p0 7) (gR h7 (gR h7 (gR h7 p0 2) 1) p2.toNatClampNeg) (gR h7 (gR h7 (gR h7 p0 1) 1) p1.toNatClampNeg) h7 (fun v9 h8 => (¬ v9 = 0 → isO h8 p0 9 ∧ 0 < gR h8 p0 5 ∧ isO h8 (gR h8 p0 5) 5 ∧ 0 < gR h8 (gR h8 p0 5) 0 ∧ isO h8 (gR h8 (gR h8 p0 5) 0) 7 ∧ (gI h8 (gR h8 (gR h8 p0 5) 0) 1 ≤ (600 : Int32) → isO h8 p0 9 ∧ 0 < gR h8 p0 0 ∧ isO h8 p0 9 ∧ 0 < gR h8 p0 5 ∧ isO h8 (gR h8 p0 5) 5 ∧ 0 < gR h8 (gR h8 p0 5) 0 ∧ isO h8 p0 9 ∧ 0 < gR h8 p0 5 ∧ isO h8 (gR h8 p0 5) 5 ∧ 0 < gR h8 (gR h8 p0 5) 0 ∧ isO h8 (gR h8 (gR h8 p0 5) 0) 7 ∧ isO h8 (gR h8 p0 0) 7 ∧ wq_Text_take (gR h8 p0 0) (gR h8 (gR h8 p0 5) 0) (0 : Int32) (gI h8 (gR h8 (gR h8 p0 5) 0) 1) h8 (fun h10 => isO h10 p0 9 ∧ 0 < gR h10 p0 0 ∧ isO h10 (gR h10 p0 0) 7 ∧ K (gI h10 (gR h10 p0 0) 1) h10)) ∧ (¬ gI h8 (gR h8 (gR h8 p0 5) 0) 1 ≤ (600 : Int32) → K (-5 : Int32) h8)) ∧ (v9 = 0 → K (-4 : Int32) h8)))) ∧ (v6 = 0 → K (-4 : Int32) h5))) ∧ (v4 = 0 → K (-1 : Int32) h3))))
set_option maxRecDepth 100000 in
set_option maxHeartbeats 4000000 in
theorem wq_K_patch_ok {p0 : Nat} {p1 : Int32} {p2 : Int32} {h : HP} {K : Int32 → HP → Prop} (H : wq_K_patch p0 p1 p2 h K) : Wp k_K_patch 0 [some (.ref p0), some (.int p1), some (.int p2)] [] h (1, 640) (QI K) := by
  unfold wq_K_patch at H
  refine wp_aload_n rfl rfl ?_
  refine wp_iload_n rfl rfl ?_
  obtain ⟨g62, H⟩ := H
  refine wp_callvI rfl rfl (Or.inr rfl) (lo' := [some (.ref p0), some (.int p1), some (.int p2)]) rfl g62 ⟨Nat.le_of_ble_eq_true rfl, Nat.le_of_ble_eq_true rfl, Nat.le_of_ble_eq_true rfl, Nat.le_of_ble_eq_true rfl⟩ (bd' := (1, 640)) rfl ?_
  refine (wq_K_isSegment_ok H).conI (fun v2 h1 H => ?_)
  refine wp_if_eq rfl (lo1 := [none, none, none]) (lo2 := [some (.ref p0), some (.int p1), some (.int p2)]) rfl rfl (fun q61 => ?_) (fun q61 => ?_)
  · have H := H.1 q61
    refine wp_iconst rfl ?_
    exact wp_iret rfl rfl H
  · have H := H.2 q61
    refine wp_aload_n rfl rfl ?_
    refine wp_iload_n rfl rfl ?_
    obtain ⟨g60, H⟩ := H
    refine wp_callvI rfl rfl (Or.inr rfl) (lo' := [some (.ref p0), some (.int p1), some (.int p2)]) rfl g60 ⟨Nat.le_of_ble_eq_true rfl, Nat.le_of_ble_eq_true rfl, Nat.le_of_ble_eq_true rfl, Nat.le_of_ble_eq_true rfl⟩ (bd' := (1, 640)) rfl ?_
    refine (wq_K_isPair_ok H).conI (fun v4 h3 H => ?_)
    refine wp_if_ne rfl (lo1 := [some (.ref p0), some (.int p1), some (.int p2)]) (lo2 := [none, none, none]) rfl rfl (fun q59 => ?_) (fun q59 => ?_)
    · have H := H.1 q59
      refine wp_aload_n rfl rfl ?_
      refine wp_iload_n rfl rfl ?_
      refine wp_iload_n rfl rfl ?_
      obtain ⟨g58, H⟩ := H
      refine wp_callvI rfl rfl (Or.inr rfl) (lo' := [some (.ref p0), some (.int p1), some (.int p2)]) rfl g58 ⟨Nat.le_of_ble_eq_true rfl, Nat.le_of_ble_eq_true rfl, Nat.le_of_ble_eq_true rfl, Nat.le_of_ble_eq_true rfl⟩ (bd' := (1, 640)) rfl ?_
      refine (wq_K_isLikeSource_ok H).conI (fun v6 h5 H => ?_)
      refine wp_if_ne rfl (lo1 := [some (.ref p0), some (.int p1), some (.int p2)]) (lo2 := [some (.ref p0), some (.int p1), some (.int p2)]) rfl rfl (fun q57 => ?_) (fun q57 => ?_)
      · have H := H.1 q57
        refine wp_aload_n rfl rfl ?_
        refine wp_iload_n rfl rfl ?_
        obtain ⟨g56, H⟩ := H
        refine wp_callvV rfl rfl rfl (lo' := [some (.ref p0), some (.int p1), some (.int p2)]) rfl g56 ⟨Nat.le_of_ble_eq_true rfl, Nat.le_of_ble_eq_true rfl, Nat.le_of_ble_eq_true rfl, Nat.le_of_ble_eq_true rfl⟩ (bd' := (1, 640)) rfl ?_
        refine (wq_K_readRenderingOf_ok H).conV (fun h7 H => ?_)
        refine wp_aload_n rfl rfl ?_
        obtain ⟨g54, g55, H⟩ := H
        refine wp_getR rfl rfl g54 g55 ?_
        refine wp_aload_n rfl rfl ?_
        obtain ⟨g52, g53, H⟩ := H
        refine wp_getR rfl rfl g52 g53 ?_
        refine wp_aload_n rfl rfl ?_
        obtain ⟨g50, g51, H⟩ := H
        refine wp_getR rfl rfl g50 g51 ?_
        obtain ⟨g48, g49, H⟩ := H
        refine wp_getR rfl rfl g48 g49 ?_
        refine wp_iload_n rfl rfl ?_
        obtain ⟨g43, g44, g45, g46, g47, H⟩ := H
        refine wp_aald rfl g43 g44 g45 g46 g47 ?_
        refine wp_aload_n rfl rfl ?_
        obtain ⟨g41, g42, H⟩ := H
        refine wp_getR rfl rfl g41 g42 ?_
        obtain ⟨g39, g40, H⟩ := H
        refine wp_getR rfl rfl g39 g40 ?_
        refine wp_iload_n rfl rfl ?_
        obtain ⟨g34, g35, g36, g37, g38, H⟩ := H
        refine wp_aald rfl g34 g35 g36 g37 g38 ?_
        obtain ⟨g33, H⟩ := H
        refine wp_callvI rfl rfl (Or.inr rfl) (lo' := [some (.ref p0), some (.int p1), some (.int p2)]) rfl g33 ⟨Nat.le_of_ble_eq_true rfl, Nat.le_of_ble_eq_true rfl, Nat.le_of_ble_eq_true rfl, Nat.le_of_ble_eq_true rfl⟩ (bd' := (1, 640)) rfl ?_
        refine (wq_Patch_make_ok H).conI (fun v9 h8 H => ?_)
        refine wp_if_ne rfl (lo1 := [some (.ref p0), some (.int p1), some (.int p2)]) (lo2 := [some (.ref p0), some (.int p1), some (.int p2)]) rfl rfl (fun q32 => ?_) (fun q32 => ?_)
        · have H := H.1 q32
          refine wp_aload_n rfl rfl ?_
          obtain ⟨g30, g31, H⟩ := H
          refine wp_getR rfl rfl g30 g31 ?_
          obtain ⟨g28, g29, H⟩ := H
          refine wp_getR rfl rfl g28 g29 ?_
          obtain ⟨g27, H⟩ := H
          refine wp_getI rfl rfl g27 ?_
          refine wp_sipush rfl ?_
          refine wp_icmp_le rfl (lo1 := [some (.ref p0), some (.int p1), some (.int p2)]) (lo2 := [some (.ref p0), some (.int p1), some (.int p2)]) rfl rfl (fun q26 => ?_) (fun q26 => ?_)
          · have H := H.1 q26
            refine wp_aload_n rfl rfl ?_
            obtain ⟨g24, g25, H⟩ := H
            refine wp_getR rfl rfl g24 g25 ?_
            refine wp_aload_n rfl rfl ?_
            obtain ⟨g22, g23, H⟩ := H
            refine wp_getR rfl rfl g22 g23 ?_
            obtain ⟨g20, g21, H⟩ := H
            refine wp_getR rfl rfl g20 g21 ?_
            refine wp_iconst rfl ?_
            refine wp_aload_n rfl rfl ?_
            obtain ⟨g18, g19, H⟩ := H
            refine wp_getR rfl rfl g18 g19 ?_
            obtain ⟨g16, g17, H⟩ := H
            refine wp_getR rfl rfl g16 g17 ?_
            obtain ⟨g15, H⟩ := H
            refine wp_getI rfl rfl g15 ?_
            obtain ⟨g14, H⟩ := H
            refine wp_callvV rfl rfl rfl (lo' := [some (.ref p0), some (.int p1), some (.int p2)]) rfl g14 ⟨Nat.le_of_ble_eq_true rfl, Nat.le_of_ble_eq_true rfl, Nat.le_of_ble_eq_true rfl, Nat.le_of_ble_eq_true rfl⟩ (bd' := (0, 0)) rfl ?_
            refine (wq_Text_take_ok H).conV (fun h10 H => ?_)
            refine wp_aload_n rfl rfl ?_
            obtain ⟨g12, g13, H⟩ := H
            refine wp_getR rfl rfl g12 g13 ?_
            obtain ⟨g11, H⟩ := H
            refine wp_getI rfl rfl g11 ?_
            exact wp_iret rfl rfl H
          · have H := H.2 q26
            refine wp_bipush rfl ?_
            exact wp_iret rfl rfl H
        · have H := H.2 q32
          refine wp_bipush rfl ?_
          exact wp_iret rfl rfl H
      · have H := H.2 q57
        refine wp_bipush rfl ?_
        exact wp_iret rfl rfl H
    · have H := H.2 q59
      refine wp_iconst rfl ?_
      exact wp_iret rfl rfl H
def wb_K_faults_27 (l0 : Nat) (l2 : Nat) (l3 : Int32) (h : HP) (K : Int32 → HP → Prop) : Prop :=
  isO h l0 9 ∧ 0 < gR h l0 9 ∧ isO h (gR h l0 9) 8 ∧ (gI h (gR h l0 9) 1 ≤ l3 → Wp k_K_faults 80 [some (.ref l0), none, none, some (.int (0 : Int32))] [] h (0, 0) (QI K)) ∧ (¬ gI h (gR h l0 9) 1 ≤ l3 → isO h l0 9 ∧ 0 < gR h l0 9 ∧ isO h (gR h l0 9) 8 ∧ 0 < gR h (gR h l0 9) 0 ∧ isA h (gR h (gR h l0 9) 0) 103 l3 ∧ isO h l2 6 ∧ wq_Row_timesOf l2 (gJ h (gR h (gR h l0 9) 0) l3.toNatClampNeg) h (fun v17 h16 => isO h16 l0 9 ∧ 0 < gR h16 l0 7 ∧ isO h16 l0 9 ∧ 0 < gR h16 l0 10 ∧ isO h16 (gR h16 l0 10) 8 ∧ 0 < gR h16 (gR h16 l0 10) 0 ∧ isA h16 (gR h16 (gR h16 l0 10) 0) 103 l3 ∧ isO h16 (gR h16 l0 7) 6 ∧ wq_Row_timesOf (gR h16 l0 7) (gJ h16 (gR h16 (gR h16 l0 10) 0) l3.toNatClampNeg) h16 (fun v19 h18 => (v17 = v19 → Wp k_K_faults 27 [some (.ref l0), none, some (.ref l2), some (.int (l3 + (1 : Int32)))] [] h18 (0, 0) (QI K)) ∧ (¬ v17 = v19 → K l3 h18))))
theorem wb_K_faults_27_ok {l0 : Nat} {l2 : Nat} {l3 : Int32} {h : HP} {K : Int32 → HP → Prop} (H : wb_K_faults_27 l0 l2 l3 h K) : Wp k_K_faults 27 [some (.ref l0), none, some (.ref l2), some (.int l3)] [] h (0, 0) (QI K) := by
  unfold wb_K_faults_27 at H
  refine wp_iload_n rfl rfl ?_
  refine wp_aload_n rfl rfl ?_
  obtain ⟨g37, g38, H⟩ := H
  refine wp_getR rfl rfl g37 g38 ?_
  obtain ⟨g36, H⟩ := H
  refine wp_getI rfl rfl g36 ?_
  refine wp_icmp_ge rfl (lo1 := [some (.ref l0), none, some (.ref l2), some (.int l3)]) (lo2 := [some (.ref l0), none, some (.ref l2), some (.int l3)]) rfl rfl (fun q35 => ?_) (fun q35 => ?_)
  · have H := H.1 q35
    refine wp_iconst rfl ?_
    refine wp_istore_n rfl rfl (lo' := [some (.ref l0), none, none, some (.int (0 : Int32))]) rfl ?_
    exact H
  · have H := H.2 q35
    refine wp_aload_n rfl rfl ?_
    refine wp_aload_n rfl rfl ?_
    obtain ⟨g33, g34, H⟩ := H
    refine wp_getR rfl rfl g33 g34 ?_
    obtain ⟨g31, g32, H⟩ := H
    refine wp_getR rfl rfl g31 g32 ?_
    refine wp_iload_n rfl rfl ?_
    obtain ⟨g30, H⟩ := H
    refine wp_lald rfl g30 ?_
    obtain ⟨g29, H⟩ := H
    refine wp_callvI rfl rfl (Or.inl rfl) (lo' := [some (.ref l0), none, some (.ref l2), some (.int l3)]) rfl g29 ⟨Nat.le_of_ble_eq_true rfl, Nat.le_of_ble_eq_true rfl, Nat.le_of_ble_eq_true rfl, Nat.le_of_ble_eq_true rfl⟩ (bd' := (0, 0)) rfl ?_
    refine (wq_Row_timesOf_ok H).conI (fun v17 h16 H => ?_)
    refine wp_aload_n rfl rfl ?_
    obtain ⟨g27, g28, H⟩ := H
    refine wp_getR rfl rfl g27 g28 ?_
    refine wp_aload_n rfl rfl ?_
    obtain ⟨g25, g26, H⟩ := H
    refine wp_getR rfl rfl g25 g26 ?_
    obtain ⟨g23, g24, H⟩ := H
    refine wp_getR rfl rfl g23 g24 ?_
    refine wp_iload_n rfl rfl ?_
    obtain ⟨g22, H⟩ := H
    refine wp_lald rfl g22 ?_
    obtain ⟨g21, H⟩ := H
    refine wp_callvI rfl rfl (Or.inl rfl) (lo' := [some (.ref l0), none, some (.ref l2), some (.int l3)]) rfl g21 ⟨Nat.le_of_ble_eq_true rfl, Nat.le_of_ble_eq_true rfl, Nat.le_of_ble_eq_true rfl, Nat.le_of_ble_eq_true rfl⟩ (bd' := (0, 0)) rfl ?_
    refine (wq_Row_timesOf_ok H).conI (fun v19 h18 H => ?_)
    refine wp_icmp_eq rfl (lo1 := [some (.ref l0), none, some (.ref l2), some (.int l3)]) (lo2 := [some (.ref l0), none, some (.ref l2), some (.int l3)]) rfl rfl (fun q20 => ?_) (fun q20 => ?_)
    · have H := H.1 q20
      refine wp_iinc rfl rfl rfl (lo' := [some (.ref l0), none, some (.ref l2), some (.int (l3 + (1 : Int32)))]) rfl ?_
      refine wp_goto rfl (lo' := [some (.ref l0), none, some (.ref l2), some (.int (l3 + (1 : Int32)))]) rfl ?_
      exact H
    · have H := H.2 q20
      refine wp_iload_n rfl rfl ?_
      exact wp_iret rfl rfl H
def wb_K_faults_80 (l0 : Nat) (l3 : Int32) (h : HP) (K : Int32 → HP → Prop) : Prop :=
  isO h l0 9 ∧ 0 < gR h l0 11 ∧ isO h (gR h l0 11) 8 ∧ (gI h (gR h l0 11) 1 ≤ l3 → K (200 : Int32) h) ∧ (¬ gI h (gR h l0 11) 1 ≤ l3 → isO h l0 9 ∧ 0 < gR h l0 7 ∧ isO h l0 9 ∧ 0 < gR h l0 11 ∧ isO h (gR h l0 11) 8 ∧ 0 < gR h (gR h l0 11) 0 ∧ isA h (gR h (gR h l0 11) 0) 103 l3 ∧ isO h (gR h l0 7) 6 ∧ wq_Row_timesOf (gR h l0 7) (gJ h (gR h (gR h l0 11) 0) l3.toNatClampNeg) h (fun v40 h39 => (v40 ≤ 0 → Wp k_K_faults 80 [some (.ref l0), none, none, some (.int (l3 + (1 : Int32)))] [] h39 (0, 0) (QI K)) ∧ (¬ v40 ≤ 0 → K ((100 : Int32) + l3) h39)))
theorem wb_K_faults_80_ok {l0 : Nat} {l3 : Int32} {h : HP} {K : Int32 → HP → Prop} (H : wb_K_faults_80 l0 l3 h K) : Wp k_K_faults 80 [some (.ref l0), none, none, some (.int l3)] [] h (0, 0) (QI K) := by
  unfold wb_K_faults_80 at H
  refine wp_iload_n rfl rfl ?_
  refine wp_aload_n rfl rfl ?_
  obtain ⟨g52, g53, H⟩ := H
  refine wp_getR rfl rfl g52 g53 ?_
  obtain ⟨g51, H⟩ := H
  refine wp_getI rfl rfl g51 ?_
  refine wp_icmp_ge rfl (lo1 := [some (.ref l0), none, none, some (.int l3)]) (lo2 := [some (.ref l0), none, none, some (.int l3)]) rfl rfl (fun q50 => ?_) (fun q50 => ?_)
  · have H := H.1 q50
    refine wp_sipush rfl ?_
    exact wp_iret rfl rfl H
  · have H := H.2 q50
    refine wp_aload_n rfl rfl ?_
    obtain ⟨g48, g49, H⟩ := H
    refine wp_getR rfl rfl g48 g49 ?_
    refine wp_aload_n rfl rfl ?_
    obtain ⟨g46, g47, H⟩ := H
    refine wp_getR rfl rfl g46 g47 ?_
    obtain ⟨g44, g45, H⟩ := H
    refine wp_getR rfl rfl g44 g45 ?_
    refine wp_iload_n rfl rfl ?_
    obtain ⟨g43, H⟩ := H
    refine wp_lald rfl g43 ?_
    obtain ⟨g42, H⟩ := H
    refine wp_callvI rfl rfl (Or.inl rfl) (lo' := [some (.ref l0), none, none, some (.int l3)]) rfl g42 ⟨Nat.le_of_ble_eq_true rfl, Nat.le_of_ble_eq_true rfl, Nat.le_of_ble_eq_true rfl, Nat.le_of_ble_eq_true rfl⟩ (bd' := (0, 0)) rfl ?_
    refine (wq_Row_timesOf_ok H).conI (fun v40 h39 H => ?_)
    refine wp_if_le rfl (lo1 := [some (.ref l0), none, none, some (.int l3)]) (lo2 := [some (.ref l0), none, none, some (.int l3)]) rfl rfl (fun q41 => ?_) (fun q41 => ?_)
    · have H := H.1 q41
      refine wp_iinc rfl rfl rfl (lo' := [some (.ref l0), none, none, some (.int (l3 + (1 : Int32)))]) rfl ?_
      refine wp_goto rfl (lo' := [some (.ref l0), none, none, some (.int (l3 + (1 : Int32)))]) rfl ?_
      exact H
    · have H := H.2 q41
      refine wp_bipush rfl ?_
      refine wp_iload_n rfl rfl ?_
      refine wp_iadd rfl ?_
      exact wp_iret rfl rfl H
def wq_K_faults (p0 : Nat) (p1 : Int32) (h : HP) (K : Int32 → HP → Prop) : Prop :=
  isO h p0 9 ∧ wq_K_isPair p0 p1 h (fun v2 h1 => (¬ v2 = 0 → isO h1 p0 9 ∧ wq_K_readRenderingOf p0 p1 h1 (fun h3 => isO h3 p0 9 ∧ 0 < gR h3 p0 2 ∧ isO h3 (gR h3 p0 2) 2 ∧ 0 < gR h3 (gR h3 p0 2) 1 ∧ 0 < gR h3 (gR h3 p0 2) 1 ∧ gR h3 (gR h3 p0 2) 1 < gS h3 ∧ (gK h3 (gR h3 (gR h3 p0 2) 1) = 104 ∨ gK h3 (gR h3 (gR h3 p0 2) 1) = 105) ∧ vp_in p1 (gL h3 (gR h3 (gR h3 p0 2) 1)) ∧ 0 < gR h3 (gR h3 (gR h3 p0 2) 1) p1.toNatClampNeg ∧ Wp k_K_faults 27 [some (.ref p0), none, some (.ref (gR h3 (gR h3 (gR h3 p0 2) 1) p1.toNatClampNeg)), some (.int (0 : Int32))] [] h3 (0, 0) (QI K))) ∧ (v2 = 0 → K (-1 : Int32) h1))
theorem wq_K_faults_ok {p0 : Nat} {p1 : Int32} {h : HP} {K : Int32 → HP → Prop} (H : wq_K_faults p0 p1 h K) : Wp k_K_faults 0 [some (.ref p0), some (.int p1), none, none] [] h (0, 0) (QI K) := by
  unfold wq_K_faults at H
  refine wp_aload_n rfl rfl ?_
  refine wp_iload_n rfl rfl ?_
  obtain ⟨g15, H⟩ := H
  refine wp_callvI rfl rfl (Or.inr rfl) (lo' := [some (.ref p0), some (.int p1), none, none]) rfl g15 ⟨Nat.le_of_ble_eq_true rfl, Nat.le_of_ble_eq_true rfl, Nat.le_of_ble_eq_true rfl, Nat.le_of_ble_eq_true rfl⟩ (bd' := (0, 0)) rfl ?_
  refine (wq_K_isPair_ok H).conI (fun v2 h1 H => ?_)
  refine wp_if_ne rfl (lo1 := [some (.ref p0), some (.int p1), none, none]) (lo2 := [some (.ref p0), some (.int p1), none, none]) rfl rfl (fun q14 => ?_) (fun q14 => ?_)
  · have H := H.1 q14
    refine wp_aload_n rfl rfl ?_
    refine wp_iload_n rfl rfl ?_
    obtain ⟨g13, H⟩ := H
    refine wp_callvV rfl rfl rfl (lo' := [some (.ref p0), some (.int p1), none, none]) rfl g13 ⟨Nat.le_of_ble_eq_true rfl, Nat.le_of_ble_eq_true rfl, Nat.le_of_ble_eq_true rfl, Nat.le_of_ble_eq_true rfl⟩ (bd' := (0, 0)) rfl ?_
    refine (wq_K_readRenderingOf_ok H).conV (fun h3 H => ?_)
    refine wp_aload_n rfl rfl ?_
    obtain ⟨g11, g12, H⟩ := H
    refine wp_getR rfl rfl g11 g12 ?_
    obtain ⟨g9, g10, H⟩ := H
    refine wp_getR rfl rfl g9 g10 ?_
    refine wp_iload_n rfl rfl ?_
    obtain ⟨g4, g5, g6, g7, g8, H⟩ := H
    refine wp_aald rfl g4 g5 g6 g7 g8 ?_
    refine wp_astore_n rfl rfl (lo' := [some (.ref p0), some (.int p1), some (.ref (gR h3 (gR h3 (gR h3 p0 2) 1) p1.toNatClampNeg)), none]) rfl ?_
    refine wp_iconst rfl ?_
    refine wp_istore_n rfl rfl (lo' := [some (.ref p0), none, some (.ref (gR h3 (gR h3 (gR h3 p0 2) 1) p1.toNatClampNeg)), some (.int (0 : Int32))]) rfl ?_
    exact H
  · have H := H.2 q14
    refine wp_iconst rfl ?_
    exact wp_iret rfl rfl H
def wq_K_counted (p0 : Nat) (p1 : Int32) (h : HP) (K : Int32 → HP → Prop) : Prop :=
  isO h p0 9 ∧ wq_K_isSegment p0 p1 h (fun v2 h1 => (v2 = 0 → K (-1 : Int32) h1) ∧ (¬ v2 = 0 → isO h1 p0 9 ∧ wq_K_kindCounted p0 p1 h1 (fun v4 h3 => K v4 h3)))
theorem wq_K_counted_ok {p0 : Nat} {p1 : Int32} {h : HP} {K : Int32 → HP → Prop} (H : wq_K_counted p0 p1 h K) : Wp k_K_counted 0 [some (.ref p0), some (.int p1)] [] h (0, 0) (QI K) := by
  unfold wq_K_counted at H
  refine wp_aload_n rfl rfl ?_
  refine wp_iload_n rfl rfl ?_
  obtain ⟨g7, H⟩ := H
  refine wp_callvI rfl rfl (Or.inr rfl) (lo' := [some (.ref p0), some (.int p1)]) rfl g7 ⟨Nat.le_of_ble_eq_true rfl, Nat.le_of_ble_eq_true rfl, Nat.le_of_ble_eq_true rfl, Nat.le_of_ble_eq_true rfl⟩ (bd' := (0, 0)) rfl ?_
  refine (wq_K_isSegment_ok H).conI (fun v2 h1 H => ?_)
  refine wp_if_eq rfl (lo1 := [some (.ref p0), some (.int p1)]) (lo2 := [some (.ref p0), some (.int p1)]) rfl rfl (fun q6 => ?_) (fun q6 => ?_)
  · have H := H.1 q6
    refine wp_iconstk (lo' := [none, none]) rfl rfl ?_
    exact wp_iret rfl rfl H
  · have H := H.2 q6
    refine wp_aload_n rfl rfl ?_
    refine wp_iload_n rfl rfl ?_
    obtain ⟨g5, H⟩ := H
    refine wp_callvI rfl rfl (Or.inl rfl) (lo' := [some (.ref p0), some (.int p1)]) rfl g5 ⟨Nat.le_of_ble_eq_true rfl, Nat.le_of_ble_eq_true rfl, Nat.le_of_ble_eq_true rfl, Nat.le_of_ble_eq_true rfl⟩ (bd' := (0, 0)) rfl ?_
    refine (wq_K_kindCounted_ok H).conI (fun v4 h3 H => ?_)
    refine wp_goto rfl (lo' := [none, none]) rfl ?_
    exact wp_iret rfl rfl H
def wb_K_count_28 (l0 : Nat) (l1 : Int32) (l2 : Int32) (l3 : Int32) (l4 : Int32) (h : HP) (K : Int32 → HP → Prop) : Prop :=
  isO h l0 9 ∧ 0 < gR h l0 1 ∧ isO h (gR h l0 1) 0 ∧ (gI h (gR h l0 1) 3 ≤ l4 → K l3 h) ∧ (¬ gI h (gR h l0 1) 3 ≤ l4 → isO h l0 9 ∧ wq_K_kindCounted l0 l4 h (fun v6 h5 => (¬ v6 = l1 → Wp k_K_count 28 [some (.ref l0), some (.int l1), some (.int l2), some (.int l3), some (.int (l4 + (1 : Int32)))] [] h5 (0, 0) (QI K)) ∧ (v6 = l1 → (¬ l2 = 0 → isO h5 l0 9 ∧ 0 < gR h5 l0 1 ∧ isO h5 (gR h5 l0 1) 0 ∧ 0 < gR h5 (gR h5 l0 1) 1 ∧ 0 < gR h5 (gR h5 l0 1) 1 ∧ gR h5 (gR h5 l0 1) 1 < gS h5 ∧ (gK h5 (gR h5 (gR h5 l0 1) 1) = 104 ∨ gK h5 (gR h5 (gR h5 l0 1) 1) = 105) ∧ vp_in l4 (gL h5 (gR h5 (gR h5 l0 1) 1)) ∧ 0 < gR h5 (gR h5 (gR h5 l0 1) 1) l4.toNatClampNeg ∧ isO h5 (gR h5 (gR h5 (gR h5 l0 1) 1) l4.toNatClampNeg) 6 ∧ Wp k_K_count 28 [some (.ref l0), some (.int l1), some (.int l2), some (.int (l3 + (gI h5 (gR h5 (gR h5 (gR h5 l0 1) 1) l4.toNatClampNeg) 8))), some (.int (l4 + (1 : Int32)))] [] h5 (0, 0) (QI K)) ∧ (l2 = 0 → Wp k_K_count 28 [some (.ref l0), some (.int l1), some (.int l2), some (.int (l3 + (1 : Int32))), some (.int (l4 + (1 : Int32)))] [] h5 (0, 0) (QI K)))))
set_option maxRecDepth 100000 in
set_option maxHeartbeats 4000000 in
theorem wb_K_count_28_ok {l0 : Nat} {l1 : Int32} {l2 : Int32} {l3 : Int32} {l4 : Int32} {h : HP} {K : Int32 → HP → Prop} (H : wb_K_count_28 l0 l1 l2 l3 l4 h K) : Wp k_K_count 28 [some (.ref l0), some (.int l1), some (.int l2), some (.int l3), some (.int l4)] [] h (0, 0) (QI K) := by
  unfold wb_K_count_28 at H
  refine wp_iload rfl rfl ?_
  refine wp_aload_n rfl rfl ?_
  obtain ⟨g22, g23, H⟩ := H
  refine wp_getR rfl rfl g22 g23 ?_
  obtain ⟨g21, H⟩ := H
  refine wp_getI rfl rfl g21 ?_
  refine wp_icmp_ge rfl (lo1 := [some (.ref l0), some (.int l1), some (.int l2), some (.int l3), some (.int l4)]) (lo2 := [some (.ref l0), some (.int l1), some (.int l2), some (.int l3), some (.int l4)]) rfl rfl (fun q20 => ?_) (fun q20 => ?_)
  · have H := H.1 q20
    refine wp_iload_n rfl rfl ?_
    exact wp_iret rfl rfl H
  · have H := H.2 q20
    refine wp_aload_n rfl rfl ?_
    refine wp_iload rfl rfl ?_
    obtain ⟨g19, H⟩ := H
    refine wp_callvI rfl rfl (Or.inl rfl) (lo' := [some (.ref l0), some (.int l1), some (.int l2), some (.int l3), some (.int l4)]) rfl g19 ⟨Nat.le_of_ble_eq_true rfl, Nat.le_of_ble_eq_true rfl, Nat.le_of_ble_eq_true rfl, Nat.le_of_ble_eq_true rfl⟩ (bd' := (0, 0)) rfl ?_
    refine (wq_K_kindCounted_ok H).conI (fun v6 h5 H => ?_)
    refine wp_iload_n rfl rfl ?_
    refine wp_icmp_ne rfl (lo1 := [some (.ref l0), some (.int l1), some (.int l2), some (.int l3), some (.int l4)]) (lo2 := [some (.ref l0), some (.int l1), some (.int l2), some (.int l3), some (.int l4)]) rfl rfl (fun q18 => ?_) (fun q18 => ?_)
    · have H := H.1 q18
      refine wp_iinc rfl rfl rfl (lo' := [some (.ref l0), some (.int l1), some (.int l2), some (.int l3), some (.int (l4 + (1 : Int32)))]) rfl ?_
      refine wp_goto rfl (lo' := [some (.ref l0), some (.int l1), some (.int l2), some (.int l3), some (.int (l4 + (1 : Int32)))]) rfl ?_
      exact H
    · have H := H.2 q18
      refine wp_iload_n rfl rfl ?_
      refine wp_iload_n rfl rfl ?_
      refine wp_if_ne rfl (lo1 := [some (.ref l0), some (.int l1), some (.int l2), some (.int l3), some (.int l4)]) (lo2 := [some (.ref l0), some (.int l1), some (.int l2), some (.int l3), some (.int l4)]) rfl rfl (fun q17 => ?_) (fun q17 => ?_)
      · have H := H.1 q17
        refine wp_aload_n rfl rfl ?_
        obtain ⟨g15, g16, H⟩ := H
        refine wp_getR rfl rfl g15 g16 ?_
        obtain ⟨g13, g14, H⟩ := H
        refine wp_getR rfl rfl g13 g14 ?_
        refine wp_iload rfl rfl ?_
        obtain ⟨g8, g9, g10, g11, g12, H⟩ := H
        refine wp_aald rfl g8 g9 g10 g11 g12 ?_
        obtain ⟨g7, H⟩ := H
        refine wp_getIk (lo' := [some (.ref l0), some (.int l1), some (.int l2), none, some (.int l4)]) rfl rfl rfl g7 ?_
        refine wp_iadd rfl ?_
        refine wp_istore_n rfl rfl (lo' := [some (.ref l0), some (.int l1), some (.int l2), some (.int (l3 + (gI h5 (gR h5 (gR h5 (gR h5 l0 1) 1) l4.toNatClampNeg) 8))), some (.int l4)]) rfl ?_
        refine wp_iinc rfl rfl rfl (lo' := [some (.ref l0), some (.int l1), some (.int l2), some (.int (l3 + (gI h5 (gR h5 (gR h5 (gR h5 l0 1) 1) l4.toNatClampNeg) 8))), some (.int (l4 + (1 : Int32)))]) rfl ?_
        refine wp_goto rfl (lo' := [some (.ref l0), some (.int l1), some (.int l2), some (.int (l3 + (gI h5 (gR h5 (gR h5 (gR h5 l0 1) 1) l4.toNatClampNeg) 8))), some (.int (l4 + (1 : Int32)))]) rfl ?_
        exact H
      · have H := H.2 q17
        refine wp_iconst rfl ?_
        refine wp_goto rfl (lo' := [some (.ref l0), some (.int l1), some (.int l2), none, some (.int l4)]) rfl ?_
        refine wp_iadd rfl ?_
        refine wp_istore_n rfl rfl (lo' := [some (.ref l0), some (.int l1), some (.int l2), some (.int (l3 + (1 : Int32))), some (.int l4)]) rfl ?_
        refine wp_iinc rfl rfl rfl (lo' := [some (.ref l0), some (.int l1), some (.int l2), some (.int (l3 + (1 : Int32))), some (.int (l4 + (1 : Int32)))]) rfl ?_
        refine wp_goto rfl (lo' := [some (.ref l0), some (.int l1), some (.int l2), some (.int (l3 + (1 : Int32))), some (.int (l4 + (1 : Int32)))]) rfl ?_
        exact H
def wq_K_count (p0 : Nat) (p1 : Int32) (p2 : Int32) (h : HP) (K : Int32 → HP → Prop) : Prop :=
  (p1 < 0 → K (-1 : Int32) h) ∧ (¬ p1 < 0 → (p1 < (5 : Int32) → (p2 = 0 → Wp k_K_count 28 [some (.ref p0), some (.int p1), some (.int p2), some (.int (0 : Int32)), some (.int (0 : Int32))] [] h (0, 0) (QI K)) ∧ (¬ p2 = 0 → (p2 = (1 : Int32) → Wp k_K_count 28 [some (.ref p0), some (.int p1), some (.int p2), some (.int (0 : Int32)), some (.int (0 : Int32))] [] h (0, 0) (QI K)) ∧ (¬ p2 = (1 : Int32) → K (-2 : Int32) h))) ∧ (¬ p1 < (5 : Int32) → K (-1 : Int32) h))
theorem wq_K_count_ok {p0 : Nat} {p1 : Int32} {p2 : Int32} {h : HP} {K : Int32 → HP → Prop} (H : wq_K_count p0 p1 p2 h K) : Wp k_K_count 0 [some (.ref p0), some (.int p1), some (.int p2), none, none] [] h (0, 0) (QI K) := by
  unfold wq_K_count at H
  refine wp_iload_n rfl rfl ?_
  refine wp_if_lt rfl (lo1 := [none, none, none, none, none]) (lo2 := [some (.ref p0), some (.int p1), some (.int p2), none, none]) rfl rfl (fun q4 => ?_) (fun q4 => ?_)
  · have H := H.1 q4
    refine wp_iconst rfl ?_
    exact wp_iret rfl rfl H
  · have H := H.2 q4
    refine wp_iload_n rfl rfl ?_
    refine wp_iconst rfl ?_
    refine wp_icmp_lt rfl (lo1 := [some (.ref p0), some (.int p1), some (.int p2), none, none]) (lo2 := [none, none, none, none, none]) rfl rfl (fun q3 => ?_) (fun q3 => ?_)
    · have H := H.1 q3
      refine wp_iload_n rfl rfl ?_
      refine wp_if_eq rfl (lo1 := [some (.ref p0), some (.int p1), some (.int p2), none, none]) (lo2 := [some (.ref p0), some (.int p1), some (.int p2), none, none]) rfl rfl (fun q2 => ?_) (fun q2 => ?_)
      · have H := H.1 q2
        refine wp_iconst rfl ?_
        refine wp_istore_n rfl rfl (lo' := [some (.ref p0), some (.int p1), some (.int p2), some (.int (0 : Int32)), none]) rfl ?_
        refine wp_iconst rfl ?_
        refine wp_istore rfl rfl (lo' := [some (.ref p0), some (.int p1), some (.int p2), some (.int (0 : Int32)), some (.int (0 : Int32))]) rfl ?_
        exact H
      · have H := H.2 q2
        refine wp_iload_n rfl rfl ?_
        refine wp_iconst rfl ?_
        refine wp_icmp_eq rfl (lo1 := [some (.ref p0), some (.int p1), some (.int p2), none, none]) (lo2 := [some (.ref p0), some (.int p1), some (.int p2), none, none]) rfl rfl (fun q1 => ?_) (fun q1 => ?_)
        · have H := H.1 q1
          refine wp_iconst rfl ?_
          refine wp_istore_n rfl rfl (lo' := [some (.ref p0), some (.int p1), some (.int p2), some (.int (0 : Int32)), none]) rfl ?_
          refine wp_iconst rfl ?_
          refine wp_istore rfl rfl (lo' := [some (.ref p0), some (.int p1), some (.int p2), some (.int (0 : Int32)), some (.int (0 : Int32))]) rfl ?_
          exact H
        · have H := H.2 q1
          refine wp_bipush rfl ?_
          exact wp_iret rfl rfl H
    · have H := H.2 q3
      refine wp_iconst rfl ?_
      exact wp_iret rfl rfl H
def wq_M_score (p0 : Nat) (p1 : Int32) (p2 : Int32) (h : HP) (K : Int32 → HP → Prop) : Prop :=
  isO h p0 10 ∧ wq_M_isSegment p0 p1 h (fun v2 h1 => (v2 = 0 → K (-1 : Int32) h1) ∧ (¬ v2 = 0 → isO h1 p0 10 ∧ wq_M_isPair p0 p2 h1 (fun v4 h3 => (v4 = 0 → K (-1 : Int32) h3) ∧ (¬ v4 = 0 → isO h3 p0 10 ∧ wq_M_scoreOf p0 p1 p2 h3 (fun v6 h5 => K v6 h5)))))
theorem wq_M_score_ok {p0 : Nat} {p1 : Int32} {p2 : Int32} {h : HP} {K : Int32 → HP → Prop} (H : wq_M_score p0 p1 p2 h K) : Wp k_M_score 0 [some (.ref p0), some (.int p1), some (.int p2)] [] h (0, 0) (QI K) := by
  unfold wq_M_score at H
  refine wp_aload_n rfl rfl ?_
  refine wp_iload_n rfl rfl ?_
  obtain ⟨g11, H⟩ := H
  refine wp_callvI rfl rfl (Or.inr rfl) (lo' := [some (.ref p0), some (.int p1), some (.int p2)]) rfl g11 ⟨Nat.le_of_ble_eq_true rfl, Nat.le_of_ble_eq_true rfl, Nat.le_of_ble_eq_true rfl, Nat.le_of_ble_eq_true rfl⟩ (bd' := (0, 0)) rfl ?_
  refine (wq_M_isSegment_ok H).conI (fun v2 h1 H => ?_)
  refine wp_if_eq rfl (lo1 := [none, none, none]) (lo2 := [some (.ref p0), some (.int p1), some (.int p2)]) rfl rfl (fun q10 => ?_) (fun q10 => ?_)
  · have H := H.1 q10
    refine wp_iconstk (lo' := [none, none, none]) rfl rfl ?_
    exact wp_iret rfl rfl H
  · have H := H.2 q10
    refine wp_aload_n rfl rfl ?_
    refine wp_iload_n rfl rfl ?_
    obtain ⟨g9, H⟩ := H
    refine wp_callvI rfl rfl (Or.inr rfl) (lo' := [some (.ref p0), some (.int p1), some (.int p2)]) rfl g9 ⟨Nat.le_of_ble_eq_true rfl, Nat.le_of_ble_eq_true rfl, Nat.le_of_ble_eq_true rfl, Nat.le_of_ble_eq_true rfl⟩ (bd' := (0, 0)) rfl ?_
    refine (wq_M_isPair_ok H).conI (fun v4 h3 H => ?_)
    refine wp_if_eq rfl (lo1 := [none, none, none]) (lo2 := [some (.ref p0), some (.int p1), some (.int p2)]) rfl rfl (fun q8 => ?_) (fun q8 => ?_)
    · have H := H.1 q8
      refine wp_iconstk (lo' := [none, none, none]) rfl rfl ?_
      exact wp_iret rfl rfl H
    · have H := H.2 q8
      refine wp_aload_n rfl rfl ?_
      refine wp_iload_n rfl rfl ?_
      refine wp_iload_n rfl rfl ?_
      obtain ⟨g7, H⟩ := H
      refine wp_callvI rfl rfl (Or.inl rfl) (lo' := [some (.ref p0), some (.int p1), some (.int p2)]) rfl g7 ⟨Nat.le_of_ble_eq_true rfl, Nat.le_of_ble_eq_true rfl, Nat.le_of_ble_eq_true rfl, Nat.le_of_ble_eq_true rfl⟩ (bd' := (0, 0)) rfl ?_
      refine (wq_M_scoreOf_ok H).conI (fun v6 h5 H => ?_)
      refine wp_goto rfl (lo' := [none, none, none]) rfl ?_
      exact wp_iret rfl rfl H
def wb_M_found_30 (l0 : Nat) (l1 : Int32) (l2 : Int32) (l3 : Int32) (l4 : Int32) (h : HP) (K : Int32 → HP → Prop) : Prop :=
  isO h l0 10 ∧ (gI h l0 19 ≤ l4 → Wp k_M_found 62 [some (.ref l0), none, some (.int l2), some (.int l3), some (.int (0 : Int32)), none, none] [] h (0, 0) (QI K)) ∧ (¬ gI h l0 19 ≤ l4 → isO h l0 10 ∧ 0 < gR h l0 24 ∧ isO h l0 10 ∧ wq_M_scoreOf l0 l1 l4 h (fun v10 h9 => isA h9 (gR h l0 24) 100 l4 ∧ (∀ h11 : HP, h11 = stI h9 (gR h l0 24) l4.toNatClampNeg v10 → Wp k_M_found 30 [some (.ref l0), some (.int l1), some (.int l2), some (.int l3), some (.int (l4 + (1 : Int32))), none, none] [] h11 (0, 0) (QI K))))
theorem wb_M_found_30_ok {l0 : Nat} {l1 : Int32} {l2 : Int32} {l3 : Int32} {l4 : Int32} {h : HP} {K : Int32 → HP → Prop} (H : wb_M_found_30 l0 l1 l2 l3 l4 h K) : Wp k_M_found 30 [some (.ref l0), some (.int l1), some (.int l2), some (.int l3), some (.int l4), none, none] [] h (0, 0) (QI K) := by
  unfold wb_M_found_30 at H
  refine wp_iload rfl rfl ?_
  refine wp_aload_n rfl rfl ?_
  obtain ⟨g18, H⟩ := H
  refine wp_getI rfl rfl g18 ?_
  refine wp_icmp_ge rfl (lo1 := [some (.ref l0), some (.int l1), some (.int l2), some (.int l3), some (.int l4), none, none]) (lo2 := [some (.ref l0), some (.int l1), some (.int l2), some (.int l3), some (.int l4), none, none]) rfl rfl (fun q17 => ?_) (fun q17 => ?_)
  · have H := H.1 q17
    refine wp_iconst rfl ?_
    refine wp_istore rfl rfl (lo' := [some (.ref l0), none, some (.int l2), some (.int l3), some (.int (0 : Int32)), none, none]) rfl ?_
    exact H
  · have H := H.2 q17
    refine wp_aload_n rfl rfl ?_
    obtain ⟨g15, g16, H⟩ := H
    refine wp_getR rfl rfl g15 g16 ?_
    refine wp_iload rfl rfl ?_
    refine wp_aload_n rfl rfl ?_
    refine wp_iload_n rfl rfl ?_
    refine wp_iload rfl rfl ?_
    obtain ⟨g14, H⟩ := H
    refine wp_callvI rfl rfl (Or.inl rfl) (lo' := [some (.ref l0), some (.int l1), some (.int l2), some (.int l3), some (.int l4), none, none]) rfl g14 ⟨Nat.le_of_ble_eq_true rfl, Nat.le_of_ble_eq_true rfl, Nat.le_of_ble_eq_true rfl, Nat.le_of_ble_eq_true rfl⟩ (bd' := (0, 0)) rfl ?_
    refine (wq_M_scoreOf_ok H).conI (fun v10 h9 H => ?_)
    obtain ⟨g12, H⟩ := H
    obtain ⟨h11, e13⟩ : ∃ z : HP, z = stI h9 (gR h l0 24) l4.toNatClampNeg v10 := ⟨_, rfl⟩
    have H := H h11 e13
    refine wp_iast rfl g12 e13 ?_
    refine wp_iinc rfl rfl rfl (lo' := [some (.ref l0), some (.int l1), some (.int l2), some (.int l3), some (.int (l4 + (1 : Int32))), none, none]) rfl ?_
    refine wp_goto rfl (lo' := [some (.ref l0), some (.int l1), some (.int l2), some (.int l3), some (.int (l4 + (1 : Int32))), none, none]) rfl ?_
    exact H
def wb_M_found_62 (l0 : Nat) (l2 : Int32) (l3 : Int32) (l4 : Int32) (h : HP) (K : Int32 → HP → Prop) : Prop :=
  isO h l0 10 ∧ (gI h l0 19 ≤ l4 → K (-1 : Int32) h) ∧ (¬ gI h l0 19 ≤ l4 → isO h l0 10 ∧ 0 < gR h l0 24 ∧ isL h (gR h l0 24) 100 l4 ∧ (l2 ≤ gI h (gR h l0 24) l4.toNatClampNeg → Wp k_M_found 91 [some (.ref l0), none, some (.int l2), some (.int l3), some (.int l4), some (.int (0 : Int32)), some (.int (0 : Int32))] [] h (0, 0) (QI K)) ∧ (¬ l2 ≤ gI h (gR h l0 24) l4.toNatClampNeg → Wp k_M_found 62 [some (.ref l0), none, some (.int l2), some (.int l3), some (.int (l4 + (1 : Int32))), none, none] [] h (0, 0) (QI K)))
theorem wb_M_found_62_ok {l0 : Nat} {l2 : Int32} {l3 : Int32} {l4 : Int32} {h : HP} {K : Int32 → HP → Prop} (H : wb_M_found_62 l0 l2 l3 l4 h K) : Wp k_M_found 62 [some (.ref l0), none, some (.int l2), some (.int l3), some (.int l4), none, none] [] h (0, 0) (QI K) := by
  unfold wb_M_found_62 at H
  refine wp_iload rfl rfl ?_
  refine wp_aload_n rfl rfl ?_
  obtain ⟨g24, H⟩ := H
  refine wp_getI rfl rfl g24 ?_
  refine wp_icmp_ge rfl (lo1 := [some (.ref l0), none, some (.int l2), some (.int l3), some (.int l4), none, none]) (lo2 := [some (.ref l0), none, some (.int l2), some (.int l3), some (.int l4), none, none]) rfl rfl (fun q23 => ?_) (fun q23 => ?_)
  · have H := H.1 q23
    refine wp_iconst rfl ?_
    exact wp_iret rfl rfl H
  · have H := H.2 q23
    refine wp_aload_n rfl rfl ?_
    obtain ⟨g21, g22, H⟩ := H
    refine wp_getR rfl rfl g21 g22 ?_
    refine wp_iload rfl rfl ?_
    obtain ⟨g20, H⟩ := H
    refine wp_iald rfl g20 ?_
    refine wp_iload_n rfl rfl ?_
    refine wp_icmp_ge rfl (lo1 := [some (.ref l0), none, some (.int l2), some (.int l3), some (.int l4), none, none]) (lo2 := [some (.ref l0), none, some (.int l2), some (.int l3), some (.int l4), none, none]) rfl rfl (fun q19 => ?_) (fun q19 => ?_)
    · have H := H.1 q19
      refine wp_iconst rfl ?_
      refine wp_istore rfl rfl (lo' := [some (.ref l0), none, some (.int l2), some (.int l3), some (.int l4), some (.int (0 : Int32)), none]) rfl ?_
      refine wp_iconst rfl ?_
      refine wp_istore rfl rfl (lo' := [some (.ref l0), none, some (.int l2), some (.int l3), some (.int l4), some (.int (0 : Int32)), some (.int (0 : Int32))]) rfl ?_
      exact H
    · have H := H.2 q19
      refine wp_goto rfl (lo' := [some (.ref l0), none, some (.int l2), some (.int l3), some (.int l4), none, none]) rfl ?_
      refine wp_iinc rfl rfl rfl (lo' := [some (.ref l0), none, some (.int l2), some (.int l3), some (.int (l4 + (1 : Int32))), none, none]) rfl ?_
      refine wp_goto rfl (lo' := [some (.ref l0), none, some (.int l2), some (.int l3), some (.int (l4 + (1 : Int32))), none, none]) rfl ?_
      exact H
def wb_M_found_91 (l0 : Nat) (l2 : Int32) (l3 : Int32) (l4 : Int32) (l5 : Int32) (l6 : Int32) (h : HP) (K : Int32 → HP → Prop) : Prop :=
  isO h l0 10 ∧ (gI h l0 19 ≤ l6 → (¬ l5 = l3 → Wp k_M_found 62 [some (.ref l0), none, some (.int l2), some (.int l3), some (.int (l4 + (1 : Int32))), none, none] [] h (0, 0) (QI K)) ∧ (l5 = l3 → K l4 h)) ∧ (¬ gI h l0 19 ≤ l6 → isO h l0 10 ∧ 0 < gR h l0 24 ∧ isL h (gR h l0 24) 100 l6 ∧ isO h l0 10 ∧ 0 < gR h l0 24 ∧ isL h (gR h l0 24) 100 l4 ∧ (gI h (gR h l0 24) l4.toNatClampNeg < gI h (gR h l0 24) l6.toNatClampNeg → Wp k_M_found 91 [some (.ref l0), none, some (.int l2), some (.int l3), some (.int l4), some (.int (l5 + (1 : Int32))), some (.int (l6 + (1 : Int32)))] [] h (0, 0) (QI K)) ∧ (¬ gI h (gR h l0 24) l4.toNatClampNeg < gI h (gR h l0 24) l6.toNatClampNeg → isO h l0 10 ∧ 0 < gR h l0 24 ∧ isL h (gR h l0 24) 100 l6 ∧ isO h l0 10 ∧ 0 < gR h l0 24 ∧ isL h (gR h l0 24) 100 l4 ∧ (¬ gI h (gR h l0 24) l6.toNatClampNeg = gI h (gR h l0 24) l4.toNatClampNeg → Wp k_M_found 91 [some (.ref l0), none, some (.int l2), some (.int l3), some (.int l4), some (.int (l5 + (0 : Int32))), some (.int (l6 + (1 : Int32)))] [] h (0, 0) (QI K)) ∧ (gI h (gR h l0 24) l6.toNatClampNeg = gI h (gR h l0 24) l4.toNatClampNeg → isO h l0 10 ∧ isO h l0 10 ∧ wq_M_latest l0 l6 (gI h l0 20) h (fun v27 h26 => isO h26 l0 10 ∧ isO h26 l0 10 ∧ wq_M_latest l0 l4 (gI h26 l0 20) h26 (fun v29 h28 => (v27 ≤ v29 → Wp k_M_found 91 [some (.ref l0), none, some (.int l2), some (.int l3), some (.int l4), some (.int (l5 + (0 : Int32))), some (.int (l6 + (1 : Int32)))] [] h28 (0, 0) (QI K)) ∧ (¬ v27 ≤ v29 → Wp k_M_found 91 [some (.ref l0), none, some (.int l2), some (.int l3), some (.int l4), some (.int (l5 + (1 : Int32))), some (.int (l6 + (1 : Int32)))] [] h28 (0, 0) (QI K)))))))
set_option maxRecDepth 100000 in
set_option maxHeartbeats 4000000 in
theorem wb_M_found_91_ok {l0 : Nat} {l2 : Int32} {l3 : Int32} {l4 : Int32} {l5 : Int32} {l6 : Int32} {h : HP} {K : Int32 → HP → Prop} (H : wb_M_found_91 l0 l2 l3 l4 l5 l6 h K) : Wp k_M_found 91 [some (.ref l0), none, some (.int l2), some (.int l3), some (.int l4), some (.int l5), some (.int l6)] [] h (0, 0) (QI K) := by
  unfold wb_M_found_91 at H
  refine wp_iload rfl rfl ?_
  refine wp_aload_n rfl rfl ?_
  obtain ⟨g50, H⟩ := H
  refine wp_getI rfl rfl g50 ?_
  refine wp_icmp_ge rfl (lo1 := [some (.ref l0), none, some (.int l2), some (.int l3), some (.int l4), some (.int l5), some (.int l6)]) (lo2 := [some (.ref l0), none, some (.int l2), some (.int l3), some (.int l4), some (.int l5), some (.int l6)]) rfl rfl (fun q49 => ?_) (fun q49 => ?_)
  · have H := H.1 q49
    refine wp_iload rfl rfl ?_
    refine wp_iload_n rfl rfl ?_
    refine wp_icmp_ne rfl (lo1 := [some (.ref l0), none, some (.int l2), some (.int l3), some (.int l4), none, none]) (lo2 := [some (.ref l0), none, some (.int l2), some (.int l3), some (.int l4), some (.int l5), some (.int l6)]) rfl rfl (fun q25 => ?_) (fun q25 => ?_)
    · have H := H.1 q25
      refine wp_iinc rfl rfl rfl (lo' := [some (.ref l0), none, some (.int l2), some (.int l3), some (.int (l4 + (1 : Int32))), none, none]) rfl ?_
      refine wp_goto rfl (lo' := [some (.ref l0), none, some (.int l2), some (.int l3), some (.int (l4 + (1 : Int32))), none, none]) rfl ?_
      exact H
    · have H := H.2 q25
      refine wp_iload rfl rfl ?_
      exact wp_iret rfl rfl H
  · have H := H.2 q49
    refine wp_iload rfl rfl ?_
    refine wp_aload_n rfl rfl ?_
    obtain ⟨g47, g48, H⟩ := H
    refine wp_getR rfl rfl g47 g48 ?_
    refine wp_iload rfl rfl ?_
    obtain ⟨g46, H⟩ := H
    refine wp_iald rfl g46 ?_
    refine wp_aload_n rfl rfl ?_
    obtain ⟨g44, g45, H⟩ := H
    refine wp_getR rfl rfl g44 g45 ?_
    refine wp_iload rfl rfl ?_
    obtain ⟨g43, H⟩ := H
    refine wp_iald rfl g43 ?_
    refine wp_icmp_gt rfl (lo1 := [some (.ref l0), none, some (.int l2), some (.int l3), some (.int l4), none, some (.int l6)]) (lo2 := [some (.ref l0), none, some (.int l2), some (.int l3), some (.int l4), some (.int l5), some (.int l6)]) rfl rfl (fun q42 => ?_) (fun q42 => ?_)
    · have H := H.1 q42
      refine wp_iconst rfl ?_
      refine wp_goto rfl (lo' := [some (.ref l0), none, some (.int l2), some (.int l3), some (.int l4), none, some (.int l6)]) rfl ?_
      refine wp_iadd rfl ?_
      refine wp_istore rfl rfl (lo' := [some (.ref l0), none, some (.int l2), some (.int l3), some (.int l4), some (.int (l5 + (1 : Int32))), some (.int l6)]) rfl ?_
      refine wp_iinc rfl rfl rfl (lo' := [some (.ref l0), none, some (.int l2), some (.int l3), some (.int l4), some (.int (l5 + (1 : Int32))), some (.int (l6 + (1 : Int32)))]) rfl ?_
      refine wp_goto rfl (lo' := [some (.ref l0), none, some (.int l2), some (.int l3), some (.int l4), some (.int (l5 + (1 : Int32))), some (.int (l6 + (1 : Int32)))]) rfl ?_
      exact H
    · have H := H.2 q42
      refine wp_aload_n rfl rfl ?_
      obtain ⟨g40, g41, H⟩ := H
      refine wp_getR rfl rfl g40 g41 ?_
      refine wp_iload rfl rfl ?_
      obtain ⟨g39, H⟩ := H
      refine wp_iald rfl g39 ?_
      refine wp_aload_n rfl rfl ?_
      obtain ⟨g37, g38, H⟩ := H
      refine wp_getR rfl rfl g37 g38 ?_
      refine wp_iload rfl rfl ?_
      obtain ⟨g36, H⟩ := H
      refine wp_iald rfl g36 ?_
      refine wp_icmp_ne rfl (lo1 := [some (.ref l0), none, some (.int l2), some (.int l3), some (.int l4), none, some (.int l6)]) (lo2 := [some (.ref l0), none, some (.int l2), some (.int l3), some (.int l4), some (.int l5), some (.int l6)]) rfl rfl (fun q35 => ?_) (fun q35 => ?_)
      · have H := H.1 q35
        refine wp_iconstk (lo' := [some (.ref l0), none, some (.int l2), some (.int l3), some (.int l4), none, some (.int l6)]) rfl rfl ?_
        refine wp_iadd rfl ?_
        refine wp_istore rfl rfl (lo' := [some (.ref l0), none, some (.int l2), some (.int l3), some (.int l4), some (.int (l5 + (0 : Int32))), some (.int l6)]) rfl ?_
        refine wp_iinc rfl rfl rfl (lo' := [some (.ref l0), none, some (.int l2), some (.int l3), some (.int l4), some (.int (l5 + (0 : Int32))), some (.int (l6 + (1 : Int32)))]) rfl ?_
        refine wp_goto rfl (lo' := [some (.ref l0), none, some (.int l2), some (.int l3), some (.int l4), some (.int (l5 + (0 : Int32))), some (.int (l6 + (1 : Int32)))]) rfl ?_
        exact H
      · have H := H.2 q35
        refine wp_aload_n rfl rfl ?_
        refine wp_iload rfl rfl ?_
        refine wp_aload_n rfl rfl ?_
        obtain ⟨g34, H⟩ := H
        refine wp_getI rfl rfl g34 ?_
        obtain ⟨g33, H⟩ := H
        refine wp_callvI rfl rfl (Or.inl rfl) (lo' := [some (.ref l0), none, some (.int l2), some (.int l3), some (.int l4), some (.int l5), some (.int l6)]) rfl g33 ⟨Nat.le_of_ble_eq_true rfl, Nat.le_of_ble_eq_true rfl, Nat.le_of_ble_eq_true rfl, Nat.le_of_ble_eq_true rfl⟩ (bd' := (0, 0)) rfl ?_
        refine (wq_M_latest_ok H).conI (fun v27 h26 H => ?_)
        refine wp_aload_n rfl rfl ?_
        refine wp_iload rfl rfl ?_
        refine wp_aload_n rfl rfl ?_
        obtain ⟨g32, H⟩ := H
        refine wp_getI rfl rfl g32 ?_
        obtain ⟨g31, H⟩ := H
        refine wp_callvI rfl rfl (Or.inl rfl) (lo' := [some (.ref l0), none, some (.int l2), some (.int l3), some (.int l4), some (.int l5), some (.int l6)]) rfl g31 ⟨Nat.le_of_ble_eq_true rfl, Nat.le_of_ble_eq_true rfl, Nat.le_of_ble_eq_true rfl, Nat.le_of_ble_eq_true rfl⟩ (bd' := (0, 0)) rfl ?_
        refine (wq_M_latest_ok H).conI (fun v29 h28 H => ?_)
        refine wp_icmp_le rfl (lo1 := [some (.ref l0), none, some (.int l2), some (.int l3), some (.int l4), none, some (.int l6)]) (lo2 := [some (.ref l0), none, some (.int l2), some (.int l3), some (.int l4), none, some (.int l6)]) rfl rfl (fun q30 => ?_) (fun q30 => ?_)
        · have H := H.1 q30
          refine wp_iconstk (lo' := [some (.ref l0), none, some (.int l2), some (.int l3), some (.int l4), none, some (.int l6)]) rfl rfl ?_
          refine wp_iadd rfl ?_
          refine wp_istore rfl rfl (lo' := [some (.ref l0), none, some (.int l2), some (.int l3), some (.int l4), some (.int (l5 + (0 : Int32))), some (.int l6)]) rfl ?_
          refine wp_iinc rfl rfl rfl (lo' := [some (.ref l0), none, some (.int l2), some (.int l3), some (.int l4), some (.int (l5 + (0 : Int32))), some (.int (l6 + (1 : Int32)))]) rfl ?_
          refine wp_goto rfl (lo' := [some (.ref l0), none, some (.int l2), some (.int l3), some (.int l4), some (.int (l5 + (0 : Int32))), some (.int (l6 + (1 : Int32)))]) rfl ?_
          exact H
        · have H := H.2 q30
          refine wp_iconst rfl ?_
          refine wp_goto rfl (lo' := [some (.ref l0), none, some (.int l2), some (.int l3), some (.int l4), none, some (.int l6)]) rfl ?_
          refine wp_iadd rfl ?_
          refine wp_istore rfl rfl (lo' := [some (.ref l0), none, some (.int l2), some (.int l3), some (.int l4), some (.int (l5 + (1 : Int32))), some (.int l6)]) rfl ?_
          refine wp_iinc rfl rfl rfl (lo' := [some (.ref l0), none, some (.int l2), some (.int l3), some (.int l4), some (.int (l5 + (1 : Int32))), some (.int (l6 + (1 : Int32)))]) rfl ?_
          refine wp_goto rfl (lo' := [some (.ref l0), none, some (.int l2), some (.int l3), some (.int l4), some (.int (l5 + (1 : Int32))), some (.int (l6 + (1 : Int32)))]) rfl ?_
          exact H
def wq_M_found (p0 : Nat) (p1 : Int32) (p2 : Int32) (p3 : Int32) (h : HP) (K : Int32 → HP → Prop) : Prop :=
  isO h p0 10 ∧ wq_M_isSegment p0 p1 h (fun v2 h1 => (v2 = 0 → K (-1 : Int32) h1) ∧ (¬ v2 = 0 → (0 ≤ p3 → wq_M_in p2 (0 : Int32) (100 : Int32) h1 (fun v4 h3 => (¬ v4 = 0 → Wp k_M_found 30 [some (.ref p0), some (.int p1), some (.int p2), some (.int p3), some (.int (0 : Int32)), none, none] [] h3 (0, 0) (QI K)) ∧ (v4 = 0 → K (-2 : Int32) h3))) ∧ (¬ 0 ≤ p3 → K (-1 : Int32) h1)))
theorem wq_M_found_ok {p0 : Nat} {p1 : Int32} {p2 : Int32} {p3 : Int32} {h : HP} {K : Int32 → HP → Prop} (H : wq_M_found p0 p1 p2 p3 h K) : Wp k_M_found 0 [some (.ref p0), some (.int p1), some (.int p2), some (.int p3), none, none, none] [] h (0, 0) (QI K) := by
  unfold wq_M_found at H
  refine wp_aload_n rfl rfl ?_
  refine wp_iload_n rfl rfl ?_
  obtain ⟨g8, H⟩ := H
  refine wp_callvI rfl rfl (Or.inr rfl) (lo' := [some (.ref p0), some (.int p1), some (.int p2), some (.int p3), none, none, none]) rfl g8 ⟨Nat.le_of_ble_eq_true rfl, Nat.le_of_ble_eq_true rfl, Nat.le_of_ble_eq_true rfl, Nat.le_of_ble_eq_true rfl⟩ (bd' := (0, 0)) rfl ?_
  refine (wq_M_isSegment_ok H).conI (fun v2 h1 H => ?_)
  refine wp_if_eq rfl (lo1 := [none, none, none, none, none, none, none]) (lo2 := [some (.ref p0), some (.int p1), some (.int p2), some (.int p3), none, none, none]) rfl rfl (fun q7 => ?_) (fun q7 => ?_)
  · have H := H.1 q7
    refine wp_iconst rfl ?_
    exact wp_iret rfl rfl H
  · have H := H.2 q7
    refine wp_iload_n rfl rfl ?_
    refine wp_if_ge rfl (lo1 := [some (.ref p0), some (.int p1), some (.int p2), some (.int p3), none, none, none]) (lo2 := [none, none, none, none, none, none, none]) rfl rfl (fun q6 => ?_) (fun q6 => ?_)
    · have H := H.1 q6
      refine wp_iload_n rfl rfl ?_
      refine wp_iconst rfl ?_
      refine wp_bipush rfl ?_
      refine wp_callsI rfl rfl rfl (Or.inr rfl) (lo' := [some (.ref p0), some (.int p1), some (.int p2), some (.int p3), none, none, none]) rfl ⟨Nat.le_of_ble_eq_true rfl, Nat.le_of_ble_eq_true rfl, Nat.le_of_ble_eq_true rfl, Nat.le_of_ble_eq_true rfl⟩ (bd' := (0, 0)) rfl ?_
      refine (wq_M_in_ok H).conI (fun v4 h3 H => ?_)
      refine wp_if_ne rfl (lo1 := [some (.ref p0), some (.int p1), some (.int p2), some (.int p3), none, none, none]) (lo2 := [some (.ref p0), some (.int p1), some (.int p2), some (.int p3), none, none, none]) rfl rfl (fun q5 => ?_) (fun q5 => ?_)
      · have H := H.1 q5
        refine wp_iconst rfl ?_
        refine wp_istore rfl rfl (lo' := [some (.ref p0), some (.int p1), some (.int p2), some (.int p3), some (.int (0 : Int32)), none, none]) rfl ?_
        exact H
      · have H := H.2 q5
        refine wp_bipush rfl ?_
        exact wp_iret rfl rfl H
    · have H := H.2 q6
      refine wp_iconst rfl ?_
      exact wp_iret rfl rfl H
def wb_M_countedOf_8 (l0 : Nat) (l1 : Int32) (l2 : Int32) (h : HP) (K : Int32 → HP → Prop) : Prop :=
  (l1 ≤ l2 → Wp k_M_countedOf 36 [some (.ref l0), some (.int l1), some (.int (0 : Int32)), none, none] [] h (0, 0) (QI K)) ∧ (¬ l1 ≤ l2 → isO h l0 10 ∧ wq_M_readSegment l0 (0 : Int32) l2 h (fun h3 => isO h3 l0 10 ∧ wq_M_like l0 h3 (fun v5 h4 => (v5 = 0 → Wp k_M_countedOf 8 [some (.ref l0), some (.int l1), some (.int (l2 + (1 : Int32))), none, none] [] h4 (0, 0) (QI K)) ∧ (¬ v5 = 0 → K (0 : Int32) h4))))
theorem wb_M_countedOf_8_ok {l0 : Nat} {l1 : Int32} {l2 : Int32} {h : HP} {K : Int32 → HP → Prop} (H : wb_M_countedOf_8 l0 l1 l2 h K) : Wp k_M_countedOf 8 [some (.ref l0), some (.int l1), some (.int l2), none, none] [] h (0, 0) (QI K) := by
  unfold wb_M_countedOf_8 at H
  refine wp_iload_n rfl rfl ?_
  refine wp_iload_n rfl rfl ?_
  refine wp_icmp_ge rfl (lo1 := [some (.ref l0), some (.int l1), some (.int l2), none, none]) (lo2 := [some (.ref l0), some (.int l1), some (.int l2), none, none]) rfl rfl (fun q9 => ?_) (fun q9 => ?_)
  · have H := H.1 q9
    refine wp_iconst rfl ?_
    refine wp_istore_n rfl rfl (lo' := [some (.ref l0), some (.int l1), some (.int (0 : Int32)), none, none]) rfl ?_
    exact H
  · have H := H.2 q9
    refine wp_aload_n rfl rfl ?_
    refine wp_iconst rfl ?_
    refine wp_iload_n rfl rfl ?_
    obtain ⟨g8, H⟩ := H
    refine wp_callvV rfl rfl rfl (lo' := [some (.ref l0), some (.int l1), some (.int l2), none, none]) rfl g8 ⟨Nat.le_of_ble_eq_true rfl, Nat.le_of_ble_eq_true rfl, Nat.le_of_ble_eq_true rfl, Nat.le_of_ble_eq_true rfl⟩ (bd' := (0, 0)) rfl ?_
    refine (wq_M_readSegment_ok H).conV (fun h3 H => ?_)
    refine wp_aload_n rfl rfl ?_
    obtain ⟨g7, H⟩ := H
    refine wp_callvI rfl rfl (Or.inr rfl) (lo' := [some (.ref l0), some (.int l1), some (.int l2), none, none]) rfl g7 ⟨Nat.le_of_ble_eq_true rfl, Nat.le_of_ble_eq_true rfl, Nat.le_of_ble_eq_true rfl, Nat.le_of_ble_eq_true rfl⟩ (bd' := (0, 0)) rfl ?_
    refine (wq_M_like_ok H).conI (fun v5 h4 H => ?_)
    refine wp_if_eq rfl (lo1 := [some (.ref l0), some (.int l1), some (.int l2), none, none]) (lo2 := [some (.ref l0), some (.int l1), some (.int l2), none, none]) rfl rfl (fun q6 => ?_) (fun q6 => ?_)
    · have H := H.1 q6
      refine wp_iinc rfl rfl rfl (lo' := [some (.ref l0), some (.int l1), some (.int (l2 + (1 : Int32))), none, none]) rfl ?_
      refine wp_goto rfl (lo' := [some (.ref l0), some (.int l1), some (.int (l2 + (1 : Int32))), none, none]) rfl ?_
      exact H
    · have H := H.2 q6
      refine wp_iconst rfl ?_
      exact wp_iret rfl rfl H
def wb_M_countedOf_36 (l0 : Nat) (l1 : Int32) (l2 : Int32) (h : HP) (K : Int32 → HP → Prop) : Prop :=
  isO h l0 10 ∧ (gI h l0 19 ≤ l2 → Wp k_M_countedOf 71 [some (.ref l0), some (.int l1), some (.int (-1 : Int32)), some (.int (0 : Int32)), none] [] h (0, 0) (QI K)) ∧ (¬ gI h l0 19 ≤ l2 → isO h l0 10 ∧ wq_M_readRow l0 (0 : Int32) ((2 : Int32) + l2) h (fun h10 => isO h10 l0 10 ∧ wq_M_like l0 h10 (fun v12 h11 => (v12 = 0 → Wp k_M_countedOf 36 [some (.ref l0), some (.int l1), some (.int (l2 + (1 : Int32))), none, none] [] h11 (0, 0) (QI K)) ∧ (¬ v12 = 0 → K (1 : Int32) h11))))
theorem wb_M_countedOf_36_ok {l0 : Nat} {l1 : Int32} {l2 : Int32} {h : HP} {K : Int32 → HP → Prop} (H : wb_M_countedOf_36 l0 l1 l2 h K) : Wp k_M_countedOf 36 [some (.ref l0), some (.int l1), some (.int l2), none, none] [] h (0, 0) (QI K) := by
  unfold wb_M_countedOf_36 at H
  refine wp_iload_n rfl rfl ?_
  refine wp_aload_n rfl rfl ?_
  obtain ⟨g17, H⟩ := H
  refine wp_getI rfl rfl g17 ?_
  refine wp_icmp_ge rfl (lo1 := [some (.ref l0), some (.int l1), some (.int l2), none, none]) (lo2 := [some (.ref l0), some (.int l1), some (.int l2), none, none]) rfl rfl (fun q16 => ?_) (fun q16 => ?_)
  · have H := H.1 q16
    refine wp_iconst rfl ?_
    refine wp_istore_n rfl rfl (lo' := [some (.ref l0), some (.int l1), some (.int (-1 : Int32)), none, none]) rfl ?_
    refine wp_iconst rfl ?_
    refine wp_istore_n rfl rfl (lo' := [some (.ref l0), some (.int l1), some (.int (-1 : Int32)), some (.int (0 : Int32)), none]) rfl ?_
    exact H
  · have H := H.2 q16
    refine wp_aload_n rfl rfl ?_
    refine wp_iconst rfl ?_
    refine wp_iconst rfl ?_
    refine wp_iload_n rfl rfl ?_
    refine wp_iadd rfl ?_
    obtain ⟨g15, H⟩ := H
    refine wp_callvV rfl rfl rfl (lo' := [some (.ref l0), some (.int l1), some (.int l2), none, none]) rfl g15 ⟨Nat.le_of_ble_eq_true rfl, Nat.le_of_ble_eq_true rfl, Nat.le_of_ble_eq_true rfl, Nat.le_of_ble_eq_true rfl⟩ (bd' := (0, 0)) rfl ?_
    refine (wq_M_readRow_ok H).conV (fun h10 H => ?_)
    refine wp_aload_n rfl rfl ?_
    obtain ⟨g14, H⟩ := H
    refine wp_callvI rfl rfl (Or.inr rfl) (lo' := [some (.ref l0), some (.int l1), some (.int l2), none, none]) rfl g14 ⟨Nat.le_of_ble_eq_true rfl, Nat.le_of_ble_eq_true rfl, Nat.le_of_ble_eq_true rfl, Nat.le_of_ble_eq_true rfl⟩ (bd' := (0, 0)) rfl ?_
    refine (wq_M_like_ok H).conI (fun v12 h11 H => ?_)
    refine wp_if_eq rfl (lo1 := [some (.ref l0), some (.int l1), some (.int l2), none, none]) (lo2 := [some (.ref l0), some (.int l1), some (.int l2), none, none]) rfl rfl (fun q13 => ?_) (fun q13 => ?_)
    · have H := H.1 q13
      refine wp_iinc rfl rfl rfl (lo' := [some (.ref l0), some (.int l1), some (.int (l2 + (1 : Int32))), none, none]) rfl ?_
      refine wp_goto rfl (lo' := [some (.ref l0), some (.int l1), some (.int (l2 + (1 : Int32))), none, none]) rfl ?_
      exact H
    · have H := H.2 q13
      refine wp_iconst rfl ?_
      exact wp_iret rfl rfl H
def wb_M_countedOf_71 (l0 : Nat) (l1 : Int32) (l2 : Int32) (l3 : Int32) (h : HP) (K : Int32 → HP → Prop) : Prop :=
  isO h l0 10 ∧ (gI h l0 19 ≤ l3 → (l2 < (75 : Int32) → (l2 < (50 : Int32) → K (4 : Int32) h) ∧ (¬ l2 < (50 : Int32) → K (3 : Int32) h)) ∧ (¬ l2 < (75 : Int32) → K (2 : Int32) h)) ∧ (¬ gI h l0 19 ≤ l3 → isO h l0 10 ∧ wq_M_scoreOf l0 l1 l3 h (fun v21 h20 => (v21 ≤ l2 → Wp k_M_countedOf 71 [some (.ref l0), some (.int l1), some (.int l2), some (.int (l3 + (1 : Int32))), none] [] h20 (0, 0) (QI K)) ∧ (¬ v21 ≤ l2 → Wp k_M_countedOf 71 [some (.ref l0), some (.int l1), some (.int v21), some (.int (l3 + (1 : Int32))), none] [] h20 (0, 0) (QI K))))
theorem wb_M_countedOf_71_ok {l0 : Nat} {l1 : Int32} {l2 : Int32} {l3 : Int32} {h : HP} {K : Int32 → HP → Prop} (H : wb_M_countedOf_71 l0 l1 l2 l3 h K) : Wp k_M_countedOf 71 [some (.ref l0), some (.int l1), some (.int l2), some (.int l3), none] [] h (0, 0) (QI K) := by
  unfold wb_M_countedOf_71 at H
  refine wp_iload_n rfl rfl ?_
  refine wp_aload_n rfl rfl ?_
  obtain ⟨g25, H⟩ := H
  refine wp_getI rfl rfl g25 ?_
  refine wp_icmp_ge rfl (lo1 := [some (.ref l0), some (.int l1), some (.int l2), some (.int l3), none]) (lo2 := [some (.ref l0), some (.int l1), some (.int l2), some (.int l3), none]) rfl rfl (fun q24 => ?_) (fun q24 => ?_)
  · have H := H.1 q24
    refine wp_iload_n rfl rfl ?_
    refine wp_bipush rfl ?_
    refine wp_icmp_lt rfl (lo1 := [some (.ref l0), some (.int l1), some (.int l2), some (.int l3), none]) (lo2 := [some (.ref l0), some (.int l1), some (.int l2), some (.int l3), none]) rfl rfl (fun q19 => ?_) (fun q19 => ?_)
    · have H := H.1 q19
      refine wp_iload_n rfl rfl ?_
      refine wp_bipush rfl ?_
      refine wp_icmp_lt rfl (lo1 := [some (.ref l0), some (.int l1), some (.int l2), some (.int l3), none]) (lo2 := [some (.ref l0), some (.int l1), some (.int l2), some (.int l3), none]) rfl rfl (fun q18 => ?_) (fun q18 => ?_)
      · have H := H.1 q18
        refine wp_iconstk (lo' := [none, none, none, none, none]) rfl rfl ?_
        exact wp_iret rfl rfl H
      · have H := H.2 q18
        refine wp_iconst rfl ?_
        refine wp_goto rfl (lo' := [none, none, none, none, none]) rfl ?_
        exact wp_iret rfl rfl H
    · have H := H.2 q19
      refine wp_iconst rfl ?_
      refine wp_goto rfl (lo' := [none, none, none, none, none]) rfl ?_
      exact wp_iret rfl rfl H
  · have H := H.2 q24
    refine wp_aload_n rfl rfl ?_
    refine wp_iload_n rfl rfl ?_
    refine wp_iload_n rfl rfl ?_
    obtain ⟨g23, H⟩ := H
    refine wp_callvI rfl rfl (Or.inl rfl) (lo' := [some (.ref l0), some (.int l1), some (.int l2), some (.int l3), none]) rfl g23 ⟨Nat.le_of_ble_eq_true rfl, Nat.le_of_ble_eq_true rfl, Nat.le_of_ble_eq_true rfl, Nat.le_of_ble_eq_true rfl⟩ (bd' := (0, 0)) rfl ?_
    refine (wq_M_scoreOf_ok H).conI (fun v21 h20 H => ?_)
    refine wp_istore rfl rfl (lo' := [some (.ref l0), some (.int l1), some (.int l2), some (.int l3), some (.int v21)]) rfl ?_
    refine wp_iload rfl rfl ?_
    refine wp_iload_n rfl rfl ?_
    refine wp_icmp_le rfl (lo1 := [some (.ref l0), some (.int l1), some (.int l2), some (.int l3), some (.int v21)]) (lo2 := [some (.ref l0), some (.int l1), some (.int l2), some (.int l3), some (.int v21)]) rfl rfl (fun q22 => ?_) (fun q22 => ?_)
    · have H := H.1 q22
      refine wp_iload_nk (lo' := [some (.ref l0), some (.int l1), none, some (.int l3), none]) rfl rfl rfl ?_
      refine wp_istore_n rfl rfl (lo' := [some (.ref l0), some (.int l1), some (.int l2), some (.int l3), none]) rfl ?_
      refine wp_iinc rfl rfl rfl (lo' := [some (.ref l0), some (.int l1), some (.int l2), some (.int (l3 + (1 : Int32))), none]) rfl ?_
      refine wp_goto rfl (lo' := [some (.ref l0), some (.int l1), some (.int l2), some (.int (l3 + (1 : Int32))), none]) rfl ?_
      exact H
    · have H := H.2 q22
      refine wp_iload rfl rfl ?_
      refine wp_goto rfl (lo' := [some (.ref l0), some (.int l1), none, some (.int l3), none]) rfl ?_
      refine wp_istore_n rfl rfl (lo' := [some (.ref l0), some (.int l1), some (.int v21), some (.int l3), none]) rfl ?_
      refine wp_iinc rfl rfl rfl (lo' := [some (.ref l0), some (.int l1), some (.int v21), some (.int (l3 + (1 : Int32))), none]) rfl ?_
      refine wp_goto rfl (lo' := [some (.ref l0), some (.int l1), some (.int v21), some (.int (l3 + (1 : Int32))), none]) rfl ?_
      exact H
def wq_M_countedOf (p0 : Nat) (p1 : Int32) (h : HP) (K : Int32 → HP → Prop) : Prop :=
  isO h p0 10 ∧ wq_M_readSegment p0 (1 : Int32) p1 h (fun h1 => Wp k_M_countedOf 8 [some (.ref p0), some (.int p1), some (.int (0 : Int32)), none, none] [] h1 (0, 0) (QI K))
theorem wq_M_countedOf_ok {p0 : Nat} {p1 : Int32} {h : HP} {K : Int32 → HP → Prop} (H : wq_M_countedOf p0 p1 h K) : Wp k_M_countedOf 0 [some (.ref p0), some (.int p1), none, none, none] [] h (0, 0) (QI K) := by
  unfold wq_M_countedOf at H
  refine wp_aload_n rfl rfl ?_
  refine wp_iconst rfl ?_
  refine wp_iload_n rfl rfl ?_
  obtain ⟨g2, H⟩ := H
  refine wp_callvV rfl rfl rfl (lo' := [some (.ref p0), some (.int p1), none, none, none]) rfl g2 ⟨Nat.le_of_ble_eq_true rfl, Nat.le_of_ble_eq_true rfl, Nat.le_of_ble_eq_true rfl, Nat.le_of_ble_eq_true rfl⟩ (bd' := (0, 0)) rfl ?_
  refine (wq_M_readSegment_ok H).conV (fun h1 H => ?_)
  refine wp_iconst rfl ?_
  refine wp_istore_n rfl rfl (lo' := [some (.ref p0), some (.int p1), some (.int (0 : Int32)), none, none]) rfl ?_
  exact H
def wq_M_counted (p0 : Nat) (p1 : Int32) (h : HP) (K : Int32 → HP → Prop) : Prop :=
  isO h p0 10 ∧ wq_M_isSegment p0 p1 h (fun v2 h1 => (v2 = 0 → K (-1 : Int32) h1) ∧ (¬ v2 = 0 → isO h1 p0 10 ∧ wq_M_countedOf p0 p1 h1 (fun v4 h3 => K v4 h3)))
theorem wq_M_counted_ok {p0 : Nat} {p1 : Int32} {h : HP} {K : Int32 → HP → Prop} (H : wq_M_counted p0 p1 h K) : Wp k_M_counted 0 [some (.ref p0), some (.int p1)] [] h (0, 0) (QI K) := by
  unfold wq_M_counted at H
  refine wp_aload_n rfl rfl ?_
  refine wp_iload_n rfl rfl ?_
  obtain ⟨g7, H⟩ := H
  refine wp_callvI rfl rfl (Or.inr rfl) (lo' := [some (.ref p0), some (.int p1)]) rfl g7 ⟨Nat.le_of_ble_eq_true rfl, Nat.le_of_ble_eq_true rfl, Nat.le_of_ble_eq_true rfl, Nat.le_of_ble_eq_true rfl⟩ (bd' := (0, 0)) rfl ?_
  refine (wq_M_isSegment_ok H).conI (fun v2 h1 H => ?_)
  refine wp_if_eq rfl (lo1 := [some (.ref p0), some (.int p1)]) (lo2 := [some (.ref p0), some (.int p1)]) rfl rfl (fun q6 => ?_) (fun q6 => ?_)
  · have H := H.1 q6
    refine wp_iconstk (lo' := [none, none]) rfl rfl ?_
    exact wp_iret rfl rfl H
  · have H := H.2 q6
    refine wp_aload_n rfl rfl ?_
    refine wp_iload_n rfl rfl ?_
    obtain ⟨g5, H⟩ := H
    refine wp_callvI rfl rfl (Or.inl rfl) (lo' := [some (.ref p0), some (.int p1)]) rfl g5 ⟨Nat.le_of_ble_eq_true rfl, Nat.le_of_ble_eq_true rfl, Nat.le_of_ble_eq_true rfl, Nat.le_of_ble_eq_true rfl⟩ (bd' := (0, 0)) rfl ?_
    refine (wq_M_countedOf_ok H).conI (fun v4 h3 H => ?_)
    refine wp_goto rfl (lo' := [none, none]) rfl ?_
    exact wp_iret rfl rfl H
def wb_M_count_28 (l0 : Nat) (l1 : Int32) (l2 : Int32) (l3 : Int32) (l4 : Int32) (h : HP) (K : Int32 → HP → Prop) : Prop :=
  isO h l0 10 ∧ (gI h l0 15 ≤ l4 → K l3 h) ∧ (¬ gI h l0 15 ≤ l4 → isO h l0 10 ∧ wq_M_countedOf l0 l4 h (fun v8 h7 => (v8 = l1 → isO h7 l0 10 ∧ wq_M_readSegment l0 (1 : Int32) l4 h7 (fun h9 => (¬ l2 = (1 : Int32) → Wp k_M_count 28 [some (.ref l0), some (.int l1), some (.int l2), some (.int (l3 + (1 : Int32))), some (.int (l4 + (1 : Int32)))] [] h9 (0, 0) (QI K)) ∧ (l2 = (1 : Int32) → isO h9 l0 10 ∧ wq_M_wordsOf l0 (1 : Int32) h9 (fun v11 h10 => Wp k_M_count 28 [some (.ref l0), some (.int l1), some (.int l2), some (.int (l3 + v11)), some (.int (l4 + (1 : Int32)))] [] h10 (0, 0) (QI K))))) ∧ (¬ v8 = l1 → Wp k_M_count 28 [some (.ref l0), some (.int l1), some (.int l2), some (.int l3), some (.int (l4 + (1 : Int32)))] [] h7 (0, 0) (QI K))))
set_option maxRecDepth 100000 in
set_option maxHeartbeats 4000000 in
theorem wb_M_count_28_ok {l0 : Nat} {l1 : Int32} {l2 : Int32} {l3 : Int32} {l4 : Int32} {h : HP} {K : Int32 → HP → Prop} (H : wb_M_count_28 l0 l1 l2 l3 l4 h K) : Wp k_M_count 28 [some (.ref l0), some (.int l1), some (.int l2), some (.int l3), some (.int l4)] [] h (0, 0) (QI K) := by
  unfold wb_M_count_28 at H
  refine wp_iload rfl rfl ?_
  refine wp_aload_n rfl rfl ?_
  obtain ⟨g18, H⟩ := H
  refine wp_getI rfl rfl g18 ?_
  refine wp_icmp_ge rfl (lo1 := [some (.ref l0), some (.int l1), some (.int l2), some (.int l3), some (.int l4)]) (lo2 := [some (.ref l0), some (.int l1), some (.int l2), some (.int l3), some (.int l4)]) rfl rfl (fun q17 => ?_) (fun q17 => ?_)
  · have H := H.1 q17
    refine wp_iload_n rfl rfl ?_
    exact wp_iret rfl rfl H
  · have H := H.2 q17
    refine wp_aload_n rfl rfl ?_
    refine wp_iload rfl rfl ?_
    obtain ⟨g16, H⟩ := H
    refine wp_callvI rfl rfl (Or.inl rfl) (lo' := [some (.ref l0), some (.int l1), some (.int l2), some (.int l3), some (.int l4)]) rfl g16 ⟨Nat.le_of_ble_eq_true rfl, Nat.le_of_ble_eq_true rfl, Nat.le_of_ble_eq_true rfl, Nat.le_of_ble_eq_true rfl⟩ (bd' := (0, 0)) rfl ?_
    refine (wq_M_countedOf_ok H).conI (fun v8 h7 H => ?_)
    refine wp_iload_n rfl rfl ?_
    refine wp_icmp_eq rfl (lo1 := [some (.ref l0), some (.int l1), some (.int l2), some (.int l3), some (.int l4)]) (lo2 := [some (.ref l0), some (.int l1), some (.int l2), some (.int l3), some (.int l4)]) rfl rfl (fun q15 => ?_) (fun q15 => ?_)
    · have H := H.1 q15
      refine wp_aload_n rfl rfl ?_
      refine wp_iconst rfl ?_
      refine wp_iload rfl rfl ?_
      obtain ⟨g14, H⟩ := H
      refine wp_callvV rfl rfl rfl (lo' := [some (.ref l0), some (.int l1), some (.int l2), some (.int l3), some (.int l4)]) rfl g14 ⟨Nat.le_of_ble_eq_true rfl, Nat.le_of_ble_eq_true rfl, Nat.le_of_ble_eq_true rfl, Nat.le_of_ble_eq_true rfl⟩ (bd' := (0, 0)) rfl ?_
      refine (wq_M_readSegment_ok H).conV (fun h9 H => ?_)
      refine wp_iload_n rfl rfl ?_
      refine wp_iload_n rfl rfl ?_
      refine wp_iconst rfl ?_
      refine wp_icmp_ne rfl (lo1 := [some (.ref l0), some (.int l1), some (.int l2), some (.int l3), some (.int l4)]) (lo2 := [some (.ref l0), some (.int l1), some (.int l2), some (.int l3), some (.int l4)]) rfl rfl (fun q13 => ?_) (fun q13 => ?_)
      · have H := H.1 q13
        refine wp_iconstk (lo' := [some (.ref l0), some (.int l1), some (.int l2), none, some (.int l4)]) rfl rfl ?_
        refine wp_iadd rfl ?_
        refine wp_istore_n rfl rfl (lo' := [some (.ref l0), some (.int l1), some (.int l2), some (.int (l3 + (1 : Int32))), some (.int l4)]) rfl ?_
        refine wp_iinc rfl rfl rfl (lo' := [some (.ref l0), some (.int l1), some (.int l2), some (.int (l3 + (1 : Int32))), some (.int (l4 + (1 : Int32)))]) rfl ?_
        refine wp_goto rfl (lo' := [some (.ref l0), some (.int l1), some (.int l2), some (.int (l3 + (1 : Int32))), some (.int (l4 + (1 : Int32)))]) rfl ?_
        exact H
      · have H := H.2 q13
        refine wp_aload_n rfl rfl ?_
        refine wp_iconst rfl ?_
        obtain ⟨g12, H⟩ := H
        refine wp_callvI rfl rfl (Or.inl rfl) (lo' := [some (.ref l0), some (.int l1), some (.int l2), some (.int l3), some (.int l4)]) rfl g12 ⟨Nat.le_of_ble_eq_true rfl, Nat.le_of_ble_eq_true rfl, Nat.le_of_ble_eq_true rfl, Nat.le_of_ble_eq_true rfl⟩ (bd' := (0, 0)) rfl ?_
        refine (wq_M_wordsOf_ok H).conI (fun v11 h10 H => ?_)
        refine wp_goto rfl (lo' := [some (.ref l0), some (.int l1), some (.int l2), none, some (.int l4)]) rfl ?_
        refine wp_iadd rfl ?_
        refine wp_istore_n rfl rfl (lo' := [some (.ref l0), some (.int l1), some (.int l2), some (.int (l3 + v11)), some (.int l4)]) rfl ?_
        refine wp_iinc rfl rfl rfl (lo' := [some (.ref l0), some (.int l1), some (.int l2), some (.int (l3 + v11)), some (.int (l4 + (1 : Int32)))]) rfl ?_
        refine wp_goto rfl (lo' := [some (.ref l0), some (.int l1), some (.int l2), some (.int (l3 + v11)), some (.int (l4 + (1 : Int32)))]) rfl ?_
        exact H
    · have H := H.2 q15
      refine wp_goto rfl (lo' := [some (.ref l0), some (.int l1), some (.int l2), some (.int l3), some (.int l4)]) rfl ?_
      refine wp_iinc rfl rfl rfl (lo' := [some (.ref l0), some (.int l1), some (.int l2), some (.int l3), some (.int (l4 + (1 : Int32)))]) rfl ?_
      refine wp_goto rfl (lo' := [some (.ref l0), some (.int l1), some (.int l2), some (.int l3), some (.int (l4 + (1 : Int32)))]) rfl ?_
      exact H
def wq_M_count (p0 : Nat) (p1 : Int32) (p2 : Int32) (h : HP) (K : Int32 → HP → Prop) : Prop :=
  wq_M_in p1 (0 : Int32) (4 : Int32) h (fun v2 h1 => (¬ v2 = 0 → wq_M_in p2 (0 : Int32) (1 : Int32) h1 (fun v4 h3 => (¬ v4 = 0 → Wp k_M_count 28 [some (.ref p0), some (.int p1), some (.int p2), some (.int (0 : Int32)), some (.int (0 : Int32))] [] h3 (0, 0) (QI K)) ∧ (v4 = 0 → K (-2 : Int32) h3))) ∧ (v2 = 0 → K (-1 : Int32) h1))
theorem wq_M_count_ok {p0 : Nat} {p1 : Int32} {p2 : Int32} {h : HP} {K : Int32 → HP → Prop} (H : wq_M_count p0 p1 p2 h K) : Wp k_M_count 0 [some (.ref p0), some (.int p1), some (.int p2), none, none] [] h (0, 0) (QI K) := by
  unfold wq_M_count at H
  refine wp_iload_n rfl rfl ?_
  refine wp_iconst rfl ?_
  refine wp_iconst rfl ?_
  refine wp_callsI rfl rfl rfl (Or.inr rfl) (lo' := [some (.ref p0), some (.int p1), some (.int p2), none, none]) rfl ⟨Nat.le_of_ble_eq_true rfl, Nat.le_of_ble_eq_true rfl, Nat.le_of_ble_eq_true rfl, Nat.le_of_ble_eq_true rfl⟩ (bd' := (0, 0)) rfl ?_
  refine (wq_M_in_ok H).conI (fun v2 h1 H => ?_)
  refine wp_if_ne rfl (lo1 := [some (.ref p0), some (.int p1), some (.int p2), none, none]) (lo2 := [some (.ref p0), some (.int p1), some (.int p2), none, none]) rfl rfl (fun q6 => ?_) (fun q6 => ?_)
  · have H := H.1 q6
    refine wp_iload_n rfl rfl ?_
    refine wp_iconst rfl ?_
    refine wp_iconst rfl ?_
    refine wp_callsI rfl rfl rfl (Or.inr rfl) (lo' := [some (.ref p0), some (.int p1), some (.int p2), none, none]) rfl ⟨Nat.le_of_ble_eq_true rfl, Nat.le_of_ble_eq_true rfl, Nat.le_of_ble_eq_true rfl, Nat.le_of_ble_eq_true rfl⟩ (bd' := (0, 0)) rfl ?_
    refine (wq_M_in_ok H).conI (fun v4 h3 H => ?_)
    refine wp_if_ne rfl (lo1 := [some (.ref p0), some (.int p1), some (.int p2), none, none]) (lo2 := [some (.ref p0), some (.int p1), some (.int p2), none, none]) rfl rfl (fun q5 => ?_) (fun q5 => ?_)
    · have H := H.1 q5
      refine wp_iconst rfl ?_
      refine wp_istore_n rfl rfl (lo' := [some (.ref p0), some (.int p1), some (.int p2), some (.int (0 : Int32)), none]) rfl ?_
      refine wp_iconst rfl ?_
      refine wp_istore rfl rfl (lo' := [some (.ref p0), some (.int p1), some (.int p2), some (.int (0 : Int32)), some (.int (0 : Int32))]) rfl ?_
      exact H
    · have H := H.2 q5
      refine wp_bipush rfl ?_
      exact wp_iret rfl rfl H
  · have H := H.2 q6
    refine wp_iconst rfl ?_
    exact wp_iret rfl rfl H
