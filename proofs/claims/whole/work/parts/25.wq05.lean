def wb_M_load_131 (l0 : Nat) (l1 : Int32) (l2 : Int32) (h : HP) (K : Int32 → HP → Prop) : Prop :=
  (l2 ≤ (24 : Int32) → Wp k_M_load 145 [some (.ref l0), some (.int l1), some (.int l2), some (.int (0 : Int32)), some (.int (0 : Int32)), none] [] h (0, 0) (QI K)) ∧ (¬ l2 ≤ (24 : Int32) → K (-5 : Int32) h)
theorem wb_M_load_131_ok {l0 : Nat} {l1 : Int32} {l2 : Int32} {h : HP} {K : Int32 → HP → Prop} (H : wb_M_load_131 l0 l1 l2 h K) : Wp k_M_load 131 [some (.ref l0), some (.int l1), some (.int l2), none, none, none] [] h (0, 0) (QI K) := by
  unfold wb_M_load_131 at H
  refine wp_iload_n rfl rfl ?_
  refine wp_bipush rfl ?_
  refine wp_icmp_le rfl (lo1 := [some (.ref l0), some (.int l1), some (.int l2), none, none, none]) (lo2 := [some (.ref l0), some (.int l1), some (.int l2), none, none, none]) rfl rfl (fun q27 => ?_) (fun q27 => ?_)
  · have H := H.1 q27
    refine wp_iconst rfl ?_
    refine wp_istore_n rfl rfl (lo' := [some (.ref l0), some (.int l1), some (.int l2), some (.int (0 : Int32)), none, none]) rfl ?_
    refine wp_iconst rfl ?_
    refine wp_istore rfl rfl (lo' := [some (.ref l0), some (.int l1), some (.int l2), some (.int (0 : Int32)), some (.int (0 : Int32)), none]) rfl ?_
    exact H
  · have H := H.2 q27
    refine wp_bipush rfl ?_
    exact wp_iret rfl rfl H
def wb_M_load_116 (l0 : Nat) (l1 : Int32) (l2 : Int32) (h : HP) (K : Int32 → HP → Prop) : Prop :=
  isO h l0 10 ∧ 0 < gR h l0 18 ∧ isO h l0 10 ∧ 0 < gR h l0 2 ∧ isL h (gR h l0 2) 100 (0 : Int32) ∧ isA h (gR h l0 18) 100 l2 ∧ (∀ h28 : HP, h28 = stI h (gR h l0 18) l2.toNatClampNeg (gI h (gR h l0 2) (0 : Int32).toNatClampNeg) → wb_M_load_131 l0 l1 (l2 + (1 : Int32)) h28 K)
theorem wb_M_load_116_ok {l0 : Nat} {l1 : Int32} {l2 : Int32} {h : HP} {K : Int32 → HP → Prop} (H : wb_M_load_116 l0 l1 l2 h K) : Wp k_M_load 116 [some (.ref l0), some (.int l1), some (.int l2), none, none, none] [] h (0, 0) (QI K) := by
  unfold wb_M_load_116 at H
  refine wp_aload_n rfl rfl ?_
  obtain ⟨g34, g35, H⟩ := H
  refine wp_getR rfl rfl g34 g35 ?_
  refine wp_iload_n rfl rfl ?_
  refine wp_aload_n rfl rfl ?_
  obtain ⟨g32, g33, H⟩ := H
  refine wp_getR rfl rfl g32 g33 ?_
  refine wp_iconst rfl ?_
  obtain ⟨g31, H⟩ := H
  refine wp_iald rfl g31 ?_
  obtain ⟨g29, H⟩ := H
  obtain ⟨h28, e30⟩ : ∃ z : HP, z = stI h (gR h l0 18) l2.toNatClampNeg (gI h (gR h l0 2) (0 : Int32).toNatClampNeg) := ⟨_, rfl⟩
  have H := H h28 e30
  refine wp_iast rfl g29 e30 ?_
  refine wp_iinc rfl rfl rfl (lo' := [some (.ref l0), some (.int l1), some (.int (l2 + (1 : Int32))), none, none, none]) rfl ?_
  exact wb_M_load_131_ok H
def wb_M_load_54 (l0 : Nat) (l1 : Int32) (l2 : Int32) (l3 : Int32) (s0 : Int32) (h : HP) (K : Int32 → HP → Prop) : Prop :=
  isO h l0 10 ∧ 0 < gR h l0 18 ∧ isO h l0 10 ∧ 0 < gR h l0 4 ∧ isL h (gR h l0 4) 100 s0 ∧ isO h l0 10 ∧ 0 < gR h l0 5 ∧ isL h (gR h l0 5) 100 s0 ∧ isA h (gR h l0 18) 100 l2 ∧ (∀ h36 : HP, h36 = stI h (gR h l0 18) l2.toNatClampNeg ((gI h (gR h l0 4) s0.toNatClampNeg) + (gI h (gR h l0 5) s0.toNatClampNeg)) → Wp k_M_load 26 [some (.ref l0), some (.int l1), some (.int (l2 + (1 : Int32))), some (.int (l3 + (1 : Int32))), none, none] [] h36 (0, 0) (QI K))
theorem wb_M_load_54_ok {l0 : Nat} {l1 : Int32} {l2 : Int32} {l3 : Int32} {s0 : Int32} {h : HP} {K : Int32 → HP → Prop} (H : wb_M_load_54 l0 l1 l2 l3 s0 h K) : Wp k_M_load 54 [some (.ref l0), some (.int l1), some (.int l2), some (.int l3), none, none] [.int s0] h (0, 0) (QI K) := by
  unfold wb_M_load_54 at H
  refine wp_istore rfl rfl (lo' := [some (.ref l0), some (.int l1), some (.int l2), some (.int l3), some (.int s0), none]) rfl ?_
  refine wp_aload_n rfl rfl ?_
  obtain ⟨g45, g46, H⟩ := H
  refine wp_getR rfl rfl g45 g46 ?_
  refine wp_iload_n rfl rfl ?_
  refine wp_aload_n rfl rfl ?_
  obtain ⟨g43, g44, H⟩ := H
  refine wp_getR rfl rfl g43 g44 ?_
  refine wp_iload rfl rfl ?_
  obtain ⟨g42, H⟩ := H
  refine wp_iald rfl g42 ?_
  refine wp_aload_n rfl rfl ?_
  obtain ⟨g40, g41, H⟩ := H
  refine wp_getR rfl rfl g40 g41 ?_
  refine wp_iload rfl rfl ?_
  obtain ⟨g39, H⟩ := H
  refine wp_iald rfl g39 ?_
  refine wp_iadd rfl ?_
  obtain ⟨g37, H⟩ := H
  obtain ⟨h36, e38⟩ : ∃ z : HP, z = stI h (gR h l0 18) l2.toNatClampNeg ((gI h (gR h l0 4) s0.toNatClampNeg) + (gI h (gR h l0 5) s0.toNatClampNeg)) := ⟨_, rfl⟩
  have H := H h36 e38
  refine wp_iast rfl g37 e38 ?_
  refine wp_iinc rfl rfl rfl (lo' := [some (.ref l0), some (.int l1), some (.int (l2 + (1 : Int32))), some (.int l3), none, none]) rfl ?_
  refine wp_iinc rfl rfl rfl (lo' := [some (.ref l0), some (.int l1), some (.int (l2 + (1 : Int32))), some (.int (l3 + (1 : Int32))), none, none]) rfl ?_
  refine wp_goto rfl (lo' := [some (.ref l0), some (.int l1), some (.int (l2 + (1 : Int32))), some (.int (l3 + (1 : Int32))), none, none]) rfl ?_
  exact H
def wb_M_load_26 (l0 : Nat) (l1 : Int32) (l2 : Int32) (l3 : Int32) (h : HP) (K : Int32 → HP → Prop) : Prop :=
  (l1 ≤ l3 → isO h l0 10 ∧ 0 < gR h l0 2 ∧ isL h (gR h l0 2) 100 (0 : Int32) ∧ (gI h (gR h l0 2) (0 : Int32).toNatClampNeg ≤ 0 → wb_M_load_131 l0 l1 l2 h K) ∧ (¬ gI h (gR h l0 2) (0 : Int32).toNatClampNeg ≤ 0 → (l2 = 0 → wb_M_load_116 l0 l1 l2 h K) ∧ (¬ l2 = 0 → isO h l0 10 ∧ 0 < gR h l0 18 ∧ isL h (gR h l0 18) 100 (l2 - (1 : Int32)) ∧ isO h l0 10 ∧ 0 < gR h l0 2 ∧ isL h (gR h l0 2) 100 (0 : Int32) ∧ (gI h (gR h l0 2) (0 : Int32).toNatClampNeg ≤ gI h (gR h l0 18) (l2 - (1 : Int32)).toNatClampNeg → wb_M_load_131 l0 l1 l2 h K) ∧ (¬ gI h (gR h l0 2) (0 : Int32).toNatClampNeg ≤ gI h (gR h l0 18) (l2 - (1 : Int32)).toNatClampNeg → wb_M_load_116 l0 l1 l2 h K)))) ∧ (¬ l1 ≤ l3 → isO h l0 10 ∧ wq_M_ends l0 l3 l1 h (fun v22 h21 => (v22 = 0 → Wp k_M_load 26 [some (.ref l0), some (.int l1), some (.int l2), some (.int (l3 + (1 : Int32))), none, none] [] h21 (0, 0) (QI K)) ∧ (¬ v22 = 0 → (l1 ≤ l3 + (1 : Int32) → wb_M_load_54 l0 l1 l2 l3 l3 h21 K) ∧ (¬ l1 ≤ l3 + (1 : Int32) → wb_M_load_54 l0 l1 l2 l3 (l3 + (1 : Int32)) h21 K))))
set_option maxRecDepth 100000 in
set_option maxHeartbeats 4000000 in
theorem wb_M_load_26_ok {l0 : Nat} {l1 : Int32} {l2 : Int32} {l3 : Int32} {h : HP} {K : Int32 → HP → Prop} (H : wb_M_load_26 l0 l1 l2 l3 h K) : Wp k_M_load 26 [some (.ref l0), some (.int l1), some (.int l2), some (.int l3), none, none] [] h (0, 0) (QI K) := by
  unfold wb_M_load_26 at H
  refine wp_iload_n rfl rfl ?_
  refine wp_iload_n rfl rfl ?_
  refine wp_icmp_ge rfl (lo1 := [some (.ref l0), some (.int l1), some (.int l2), some (.int l3), none, none]) (lo2 := [some (.ref l0), some (.int l1), some (.int l2), some (.int l3), none, none]) rfl rfl (fun q26 => ?_) (fun q26 => ?_)
  · have H := H.1 q26
    refine wp_aload_n rfl rfl ?_
    obtain ⟨g19, g20, H⟩ := H
    refine wp_getR rfl rfl g19 g20 ?_
    refine wp_iconst rfl ?_
    obtain ⟨g18, H⟩ := H
    refine wp_iald rfl g18 ?_
    refine wp_if_le rfl (lo1 := [some (.ref l0), some (.int l1), some (.int l2), none, none, none]) (lo2 := [some (.ref l0), some (.int l1), some (.int l2), some (.int l3), none, none]) rfl rfl (fun q17 => ?_) (fun q17 => ?_)
    · have H := H.1 q17
      exact wb_M_load_131_ok H
    · have H := H.2 q17
      refine wp_iload_n rfl rfl ?_
      refine wp_if_eq rfl (lo1 := [some (.ref l0), some (.int l1), some (.int l2), none, none, none]) (lo2 := [some (.ref l0), some (.int l1), some (.int l2), some (.int l3), none, none]) rfl rfl (fun q16 => ?_) (fun q16 => ?_)
      · have H := H.1 q16
        exact wb_M_load_116_ok H
      · have H := H.2 q16
        refine wp_aload_n rfl rfl ?_
        obtain ⟨g14, g15, H⟩ := H
        refine wp_getR rfl rfl g14 g15 ?_
        refine wp_iload_n rfl rfl ?_
        refine wp_iconst rfl ?_
        refine wp_isub rfl ?_
        obtain ⟨g13, H⟩ := H
        refine wp_iald rfl g13 ?_
        refine wp_aload_n rfl rfl ?_
        obtain ⟨g11, g12, H⟩ := H
        refine wp_getR rfl rfl g11 g12 ?_
        refine wp_iconst rfl ?_
        obtain ⟨g10, H⟩ := H
        refine wp_iald rfl g10 ?_
        refine wp_icmp_ge rfl (lo1 := [some (.ref l0), some (.int l1), some (.int l2), none, none, none]) (lo2 := [some (.ref l0), some (.int l1), some (.int l2), none, none, none]) rfl rfl (fun q9 => ?_) (fun q9 => ?_)
        · have H := H.1 q9
          exact wb_M_load_131_ok H
        · have H := H.2 q9
          exact wb_M_load_116_ok H
  · have H := H.2 q26
    refine wp_aload_n rfl rfl ?_
    refine wp_iload_n rfl rfl ?_
    refine wp_iload_n rfl rfl ?_
    obtain ⟨g25, H⟩ := H
    refine wp_callvI rfl rfl (Or.inr rfl) (lo' := [some (.ref l0), some (.int l1), some (.int l2), some (.int l3), none, none]) rfl g25 ⟨Nat.le_of_ble_eq_true rfl, Nat.le_of_ble_eq_true rfl, Nat.le_of_ble_eq_true rfl, Nat.le_of_ble_eq_true rfl⟩ (bd' := (0, 0)) rfl ?_
    refine (wq_M_ends_ok H).conI (fun v22 h21 H => ?_)
    refine wp_if_eq rfl (lo1 := [some (.ref l0), some (.int l1), some (.int l2), some (.int l3), none, none]) (lo2 := [some (.ref l0), some (.int l1), some (.int l2), some (.int l3), none, none]) rfl rfl (fun q24 => ?_) (fun q24 => ?_)
    · have H := H.1 q24
      refine wp_iinc rfl rfl rfl (lo' := [some (.ref l0), some (.int l1), some (.int l2), some (.int (l3 + (1 : Int32))), none, none]) rfl ?_
      refine wp_goto rfl (lo' := [some (.ref l0), some (.int l1), some (.int l2), some (.int (l3 + (1 : Int32))), none, none]) rfl ?_
      exact H
    · have H := H.2 q24
      refine wp_iload_n rfl rfl ?_
      refine wp_iconst rfl ?_
      refine wp_iadd rfl ?_
      refine wp_iload_n rfl rfl ?_
      refine wp_icmp_ge rfl (lo1 := [some (.ref l0), some (.int l1), some (.int l2), some (.int l3), none, none]) (lo2 := [some (.ref l0), some (.int l1), some (.int l2), some (.int l3), none, none]) rfl rfl (fun q23 => ?_) (fun q23 => ?_)
      · have H := H.1 q23
        refine wp_iload_nk (lo' := [some (.ref l0), some (.int l1), some (.int l2), some (.int l3), none, none]) rfl rfl rfl ?_
        exact wb_M_load_54_ok H
      · have H := H.2 q23
        refine wp_iload_n rfl rfl ?_
        refine wp_iconst rfl ?_
        refine wp_iadd rfl ?_
        refine wp_goto rfl (lo' := [some (.ref l0), some (.int l1), some (.int l2), some (.int l3), none, none]) rfl ?_
        exact wb_M_load_54_ok H
def wb_M_load_145 (l0 : Nat) (l1 : Int32) (l2 : Int32) (l3 : Int32) (l4 : Int32) (h : HP) (K : Int32 → HP → Prop) : Prop :=
  (l2 ≤ l4 → isO h l0 10 ∧ 0 < gR h l0 2 ∧ isL h (gR h l0 2) 100 (0 : Int32) ∧ isO h l0 10 ∧ wq_M_copy l0 (0 : Int32) (gI h (gR h l0 2) (0 : Int32).toNatClampNeg) (1 : Int32) h (fun h47 => isO h47 l0 10 ∧ 0 < gR h47 l0 2 ∧ isA h47 (gR h47 l0 2) 100 (0 : Int32) ∧ (∀ h48 : HP, h48 = stI h47 (gR h47 l0 2) (0 : Int32).toNatClampNeg (0 : Int32) → isO h48 l0 10 ∧ (∀ h49 : HP, h49 = stI h48 l0 15 l2 → Wp k_M_load 245 [some (.ref l0), none, some (.int l2), none, some (.int (0 : Int32)), none] [] h49 (0, 0) (QI K))))) ∧ (¬ l2 ≤ l4 → Wp k_M_load 154 [some (.ref l0), some (.int l1), some (.int l2), some (.int l3), some (.int l4), some (.int (0 : Int32))] [] h (0, 0) (QI K))
theorem wb_M_load_145_ok {l0 : Nat} {l1 : Int32} {l2 : Int32} {l3 : Int32} {l4 : Int32} {h : HP} {K : Int32 → HP → Prop} (H : wb_M_load_145 l0 l1 l2 l3 l4 h K) : Wp k_M_load 145 [some (.ref l0), some (.int l1), some (.int l2), some (.int l3), some (.int l4), none] [] h (0, 0) (QI K) := by
  unfold wb_M_load_145 at H
  refine wp_iload rfl rfl ?_
  refine wp_iload_n rfl rfl ?_
  refine wp_icmp_ge rfl (lo1 := [some (.ref l0), some (.int l1), some (.int l2), some (.int l3), some (.int l4), none]) (lo2 := [some (.ref l0), some (.int l1), some (.int l2), some (.int l3), some (.int l4), none]) rfl rfl (fun q60 => ?_) (fun q60 => ?_)
  · have H := H.1 q60
    refine wp_aload_n rfl rfl ?_
    refine wp_iconst rfl ?_
    refine wp_aload_n rfl rfl ?_
    obtain ⟨g58, g59, H⟩ := H
    refine wp_getR rfl rfl g58 g59 ?_
    refine wp_iconst rfl ?_
    obtain ⟨g57, H⟩ := H
    refine wp_iald rfl g57 ?_
    refine wp_iconst rfl ?_
    obtain ⟨g56, H⟩ := H
    refine wp_callvV rfl rfl rfl (lo' := [some (.ref l0), some (.int l1), some (.int l2), some (.int l3), some (.int l4), none]) rfl g56 ⟨Nat.le_of_ble_eq_true rfl, Nat.le_of_ble_eq_true rfl, Nat.le_of_ble_eq_true rfl, Nat.le_of_ble_eq_true rfl⟩ (bd' := (0, 0)) rfl ?_
    refine (wq_M_copy_ok H).conV (fun h47 H => ?_)
    refine wp_aload_n rfl rfl ?_
    obtain ⟨g54, g55, H⟩ := H
    refine wp_getR rfl rfl g54 g55 ?_
    refine wp_iconst rfl ?_
    refine wp_iconst rfl ?_
    obtain ⟨g52, H⟩ := H
    obtain ⟨h48, e53⟩ : ∃ z : HP, z = stI h47 (gR h47 l0 2) (0 : Int32).toNatClampNeg (0 : Int32) := ⟨_, rfl⟩
    have H := H h48 e53
    refine wp_iast rfl g52 e53 ?_
    refine wp_aload_n rfl rfl ?_
    refine wp_iload_n rfl rfl ?_
    obtain ⟨g50, H⟩ := H
    obtain ⟨h49, e51⟩ : ∃ z : HP, z = stI h48 l0 15 l2 := ⟨_, rfl⟩
    have H := H h49 e51
    refine wp_putI rfl rfl g50 e51 ?_
    refine wp_iconst rfl ?_
    refine wp_istore rfl rfl (lo' := [some (.ref l0), none, some (.int l2), none, some (.int (0 : Int32)), none]) rfl ?_
    exact H
  · have H := H.2 q60
    refine wp_iconst rfl ?_
    refine wp_istore rfl rfl (lo' := [some (.ref l0), some (.int l1), some (.int l2), some (.int l3), some (.int l4), some (.int (0 : Int32))]) rfl ?_
    exact H
def wb_M_load_275 (l0 : Nat) (l2 : Int32) (l4 : Int32) (s0 : Int32) (s1 : Int32) (s2 : Nat) (h : HP) (K : Int32 → HP → Prop) : Prop :=
  isA h s2 100 s1 ∧ (∀ h83 : HP, h83 = stI h s2 s1.toNatClampNeg s0 → isO h83 l0 10 ∧ 0 < gR h83 l0 17 ∧ isO h83 l0 10 ∧ 0 < gR h83 l0 18 ∧ isL h83 (gR h83 l0 18) 100 l4 ∧ isO h83 l0 10 ∧ 0 < gR h83 l0 16 ∧ isL h83 (gR h83 l0 16) 100 l4 ∧ isA h83 (gR h83 l0 17) 100 l4 ∧ (∀ h84 : HP, h84 = stI h83 (gR h83 l0 17) l4.toNatClampNeg ((gI h83 (gR h83 l0 18) l4.toNatClampNeg) - (gI h83 (gR h83 l0 16) l4.toNatClampNeg)) → Wp k_M_load 245 [some (.ref l0), none, some (.int l2), none, some (.int (l4 + (1 : Int32))), none] [] h84 (0, 0) (QI K)))
theorem wb_M_load_275_ok {l0 : Nat} {l2 : Int32} {l4 : Int32} {s0 : Int32} {s1 : Int32} {s2 : Nat} {h : HP} {K : Int32 → HP → Prop} (H : wb_M_load_275 l0 l2 l4 s0 s1 s2 h K) : Wp k_M_load 275 [some (.ref l0), none, some (.int l2), none, some (.int l4), none] [.int s0, .int s1, .ref s2] h (0, 0) (QI K) := by
  unfold wb_M_load_275 at H
  obtain ⟨g95, H⟩ := H
  obtain ⟨h83, e96⟩ : ∃ z : HP, z = stI h s2 s1.toNatClampNeg s0 := ⟨_, rfl⟩
  have H := H h83 e96
  refine wp_iast rfl g95 e96 ?_
  refine wp_aload_n rfl rfl ?_
  obtain ⟨g93, g94, H⟩ := H
  refine wp_getR rfl rfl g93 g94 ?_
  refine wp_iload rfl rfl ?_
  refine wp_aload_n rfl rfl ?_
  obtain ⟨g91, g92, H⟩ := H
  refine wp_getR rfl rfl g91 g92 ?_
  refine wp_iload rfl rfl ?_
  obtain ⟨g90, H⟩ := H
  refine wp_iald rfl g90 ?_
  refine wp_aload_n rfl rfl ?_
  obtain ⟨g88, g89, H⟩ := H
  refine wp_getR rfl rfl g88 g89 ?_
  refine wp_iload rfl rfl ?_
  obtain ⟨g87, H⟩ := H
  refine wp_iald rfl g87 ?_
  refine wp_isub rfl ?_
  obtain ⟨g85, H⟩ := H
  obtain ⟨h84, e86⟩ : ∃ z : HP, z = stI h83 (gR h83 l0 17) l4.toNatClampNeg ((gI h83 (gR h83 l0 18) l4.toNatClampNeg) - (gI h83 (gR h83 l0 16) l4.toNatClampNeg)) := ⟨_, rfl⟩
  have H := H h84 e86
  refine wp_iast rfl g85 e86 ?_
  refine wp_iinc rfl rfl rfl (lo' := [some (.ref l0), none, some (.int l2), none, some (.int (l4 + (1 : Int32))), none]) rfl ?_
  refine wp_goto rfl (lo' := [some (.ref l0), none, some (.int l2), none, some (.int (l4 + (1 : Int32))), none]) rfl ?_
  exact H
def wb_M_load_245 (l0 : Nat) (l2 : Int32) (l4 : Int32) (h : HP) (K : Int32 → HP → Prop) : Prop :=
  (l2 ≤ l4 → isO h l0 10 ∧ K (gI h l0 15) h) ∧ (¬ l2 ≤ l4 → isO h l0 10 ∧ 0 < gR h l0 16 ∧ (¬ l4 = 0 → isO h l0 10 ∧ 0 < gR h l0 18 ∧ isL h (gR h l0 18) 100 (l4 - (1 : Int32)) ∧ wb_M_load_275 l0 l2 l4 (gI h (gR h l0 18) (l4 - (1 : Int32)).toNatClampNeg) l4 (gR h l0 16) h K) ∧ (l4 = 0 → wb_M_load_275 l0 l2 l4 (0 : Int32) l4 (gR h l0 16) h K))
theorem wb_M_load_245_ok {l0 : Nat} {l2 : Int32} {l4 : Int32} {h : HP} {K : Int32 → HP → Prop} (H : wb_M_load_245 l0 l2 l4 h K) : Wp k_M_load 245 [some (.ref l0), none, some (.int l2), none, some (.int l4), none] [] h (0, 0) (QI K) := by
  unfold wb_M_load_245 at H
  refine wp_iload rfl rfl ?_
  refine wp_iload_n rfl rfl ?_
  refine wp_icmp_ge rfl (lo1 := [some (.ref l0), none, some (.int l2), none, some (.int l4), none]) (lo2 := [some (.ref l0), none, some (.int l2), none, some (.int l4), none]) rfl rfl (fun q68 => ?_) (fun q68 => ?_)
  · have H := H.1 q68
    refine wp_aload_n rfl rfl ?_
    obtain ⟨g61, H⟩ := H
    refine wp_getI rfl rfl g61 ?_
    exact wp_iret rfl rfl H
  · have H := H.2 q68
    refine wp_aload_n rfl rfl ?_
    obtain ⟨g66, g67, H⟩ := H
    refine wp_getR rfl rfl g66 g67 ?_
    refine wp_iload rfl rfl ?_
    refine wp_iload rfl rfl ?_
    refine wp_if_ne rfl (lo1 := [some (.ref l0), none, some (.int l2), none, some (.int l4), none]) (lo2 := [some (.ref l0), none, some (.int l2), none, some (.int l4), none]) rfl rfl (fun q65 => ?_) (fun q65 => ?_)
    · have H := H.1 q65
      refine wp_aload_n rfl rfl ?_
      obtain ⟨g63, g64, H⟩ := H
      refine wp_getR rfl rfl g63 g64 ?_
      refine wp_iload rfl rfl ?_
      refine wp_iconst rfl ?_
      refine wp_isub rfl ?_
      obtain ⟨g62, H⟩ := H
      refine wp_ialdk (lo' := [some (.ref l0), none, some (.int l2), none, some (.int l4), none]) rfl rfl g62 ?_
      exact wb_M_load_275_ok H
    · have H := H.2 q65
      refine wp_iconst rfl ?_
      refine wp_goto rfl (lo' := [some (.ref l0), none, some (.int l2), none, some (.int l4), none]) rfl ?_
      exact wb_M_load_275_ok H
def wb_M_load_154 (l0 : Nat) (l1 : Int32) (l2 : Int32) (l3 : Int32) (l4 : Int32) (l5 : Int32) (h : HP) (K : Int32 → HP → Prop) : Prop :=
  (l1 ≤ l3 → (l5 ≤ (20 : Int32) → Wp k_M_load 145 [some (.ref l0), some (.int l1), some (.int l2), some (.int l3), some (.int (l4 + (1 : Int32))), none] [] h (0, 0) (QI K)) ∧ (¬ l5 ≤ (20 : Int32) → K (-5 : Int32) h)) ∧ (¬ l1 ≤ l3 → isO h l0 10 ∧ 0 < gR h l0 4 ∧ isL h (gR h l0 4) 100 l3 ∧ isO h l0 10 ∧ 0 < gR h l0 18 ∧ isL h (gR h l0 18) 100 l4 ∧ (gI h (gR h l0 18) l4.toNatClampNeg ≤ gI h (gR h l0 4) l3.toNatClampNeg → (l5 ≤ (20 : Int32) → Wp k_M_load 145 [some (.ref l0), some (.int l1), some (.int l2), some (.int l3), some (.int (l4 + (1 : Int32))), none] [] h (0, 0) (QI K)) ∧ (¬ l5 ≤ (20 : Int32) → K (-5 : Int32) h)) ∧ (¬ gI h (gR h l0 18) l4.toNatClampNeg ≤ gI h (gR h l0 4) l3.toNatClampNeg → isO h l0 10 ∧ 0 < gR h l0 3 ∧ isL h (gR h l0 3) 100 l3 ∧ (¬ gI h (gR h l0 3) l3.toNatClampNeg = (6 : Int32) → Wp k_M_load 154 [some (.ref l0), some (.int l1), some (.int l2), some (.int (l3 + (1 : Int32))), some (.int l4), some (.int (l5 + (1 : Int32)))] [] h (0, 0) (QI K)) ∧ (gI h (gR h l0 3) l3.toNatClampNeg = (6 : Int32) → Wp k_M_load 154 [some (.ref l0), some (.int l1), some (.int l2), some (.int (l3 + (1 : Int32))), some (.int l4), some (.int (l5 + (0 : Int32)))] [] h (0, 0) (QI K))))
set_option maxRecDepth 100000 in
set_option maxHeartbeats 4000000 in
theorem wb_M_load_154_ok {l0 : Nat} {l1 : Int32} {l2 : Int32} {l3 : Int32} {l4 : Int32} {l5 : Int32} {h : HP} {K : Int32 → HP → Prop} (H : wb_M_load_154 l0 l1 l2 l3 l4 l5 h K) : Wp k_M_load 154 [some (.ref l0), some (.int l1), some (.int l2), some (.int l3), some (.int l4), some (.int l5)] [] h (0, 0) (QI K) := by
  unfold wb_M_load_154 at H
  refine wp_iload_n rfl rfl ?_
  refine wp_iload_n rfl rfl ?_
  refine wp_icmp_ge rfl (lo1 := [some (.ref l0), some (.int l1), some (.int l2), some (.int l3), some (.int l4), some (.int l5)]) (lo2 := [some (.ref l0), some (.int l1), some (.int l2), some (.int l3), some (.int l4), some (.int l5)]) rfl rfl (fun q82 => ?_) (fun q82 => ?_)
  · have H := H.1 q82
    refine wp_iload rfl rfl ?_
    refine wp_bipush rfl ?_
    refine wp_icmp_le rfl (lo1 := [some (.ref l0), some (.int l1), some (.int l2), some (.int l3), some (.int l4), some (.int l5)]) (lo2 := [some (.ref l0), some (.int l1), some (.int l2), some (.int l3), some (.int l4), some (.int l5)]) rfl rfl (fun q69 => ?_) (fun q69 => ?_)
    · have H := H.1 q69
      refine wp_iinc rfl rfl rfl (lo' := [some (.ref l0), some (.int l1), some (.int l2), some (.int l3), some (.int (l4 + (1 : Int32))), some (.int l5)]) rfl ?_
      refine wp_goto rfl (lo' := [some (.ref l0), some (.int l1), some (.int l2), some (.int l3), some (.int (l4 + (1 : Int32))), none]) rfl ?_
      exact H
    · have H := H.2 q69
      refine wp_bipush rfl ?_
      exact wp_iret rfl rfl H
  · have H := H.2 q82
    refine wp_aload_n rfl rfl ?_
    obtain ⟨g80, g81, H⟩ := H
    refine wp_getR rfl rfl g80 g81 ?_
    refine wp_iload_n rfl rfl ?_
    obtain ⟨g79, H⟩ := H
    refine wp_iald rfl g79 ?_
    refine wp_aload_n rfl rfl ?_
    obtain ⟨g77, g78, H⟩ := H
    refine wp_getR rfl rfl g77 g78 ?_
    refine wp_iload rfl rfl ?_
    obtain ⟨g76, H⟩ := H
    refine wp_iald rfl g76 ?_
    refine wp_icmp_ge rfl (lo1 := [some (.ref l0), some (.int l1), some (.int l2), some (.int l3), some (.int l4), some (.int l5)]) (lo2 := [some (.ref l0), some (.int l1), some (.int l2), some (.int l3), some (.int l4), some (.int l5)]) rfl rfl (fun q75 => ?_) (fun q75 => ?_)
    · have H := H.1 q75
      refine wp_iload rfl rfl ?_
      refine wp_bipush rfl ?_
      refine wp_icmp_le rfl (lo1 := [some (.ref l0), some (.int l1), some (.int l2), some (.int l3), some (.int l4), some (.int l5)]) (lo2 := [some (.ref l0), some (.int l1), some (.int l2), some (.int l3), some (.int l4), some (.int l5)]) rfl rfl (fun q70 => ?_) (fun q70 => ?_)
      · have H := H.1 q70
        refine wp_iinc rfl rfl rfl (lo' := [some (.ref l0), some (.int l1), some (.int l2), some (.int l3), some (.int (l4 + (1 : Int32))), some (.int l5)]) rfl ?_
        refine wp_goto rfl (lo' := [some (.ref l0), some (.int l1), some (.int l2), some (.int l3), some (.int (l4 + (1 : Int32))), none]) rfl ?_
        exact H
      · have H := H.2 q70
        refine wp_bipush rfl ?_
        exact wp_iret rfl rfl H
    · have H := H.2 q75
      refine wp_iload rfl rfl ?_
      refine wp_aload_n rfl rfl ?_
      obtain ⟨g73, g74, H⟩ := H
      refine wp_getR rfl rfl g73 g74 ?_
      refine wp_iload_n rfl rfl ?_
      obtain ⟨g72, H⟩ := H
      refine wp_iald rfl g72 ?_
      refine wp_bipush rfl ?_
      refine wp_icmp_ne rfl (lo1 := [some (.ref l0), some (.int l1), some (.int l2), some (.int l3), some (.int l4), some (.int l5)]) (lo2 := [some (.ref l0), some (.int l1), some (.int l2), some (.int l3), some (.int l4), some (.int l5)]) rfl rfl (fun q71 => ?_) (fun q71 => ?_)
      · have H := H.1 q71
        refine wp_iconstk (lo' := [some (.ref l0), some (.int l1), some (.int l2), some (.int l3), some (.int l4), none]) rfl rfl ?_
        refine wp_iadd rfl ?_
        refine wp_istore rfl rfl (lo' := [some (.ref l0), some (.int l1), some (.int l2), some (.int l3), some (.int l4), some (.int (l5 + (1 : Int32)))]) rfl ?_
        refine wp_iinc rfl rfl rfl (lo' := [some (.ref l0), some (.int l1), some (.int l2), some (.int (l3 + (1 : Int32))), some (.int l4), some (.int (l5 + (1 : Int32)))]) rfl ?_
        refine wp_goto rfl (lo' := [some (.ref l0), some (.int l1), some (.int l2), some (.int (l3 + (1 : Int32))), some (.int l4), some (.int (l5 + (1 : Int32)))]) rfl ?_
        exact H
      · have H := H.2 q71
        refine wp_iconst rfl ?_
        refine wp_goto rfl (lo' := [some (.ref l0), some (.int l1), some (.int l2), some (.int l3), some (.int l4), none]) rfl ?_
        refine wp_iadd rfl ?_
        refine wp_istore rfl rfl (lo' := [some (.ref l0), some (.int l1), some (.int l2), some (.int l3), some (.int l4), some (.int (l5 + (0 : Int32)))]) rfl ?_
        refine wp_iinc rfl rfl rfl (lo' := [some (.ref l0), some (.int l1), some (.int l2), some (.int (l3 + (1 : Int32))), some (.int l4), some (.int (l5 + (0 : Int32)))]) rfl ?_
        refine wp_goto rfl (lo' := [some (.ref l0), some (.int l1), some (.int l2), some (.int (l3 + (1 : Int32))), some (.int l4), some (.int (l5 + (0 : Int32)))]) rfl ?_
        exact H
def wq_M_load (p0 : Nat) (h : HP) (K : Int32 → HP → Prop) : Prop :=
  isO h p0 10 ∧ 0 < gR h p0 2 ∧ isL h (gR h p0 2) 100 (0 : Int32) ∧ isO h p0 10 ∧ wq_M_read p0 (0 : Int32) (0 : Int32) (gI h (gR h p0 2) (0 : Int32).toNatClampNeg) (46 : Int32) (1 : Int32) h (fun h1 => isO h1 p0 10 ∧ 0 < gR h1 p0 7 ∧ isL h1 (gR h1 p0 7) 100 (0 : Int32) ∧ Wp k_M_load 26 [some (.ref p0), some (.int (gI h1 (gR h1 p0 7) (0 : Int32).toNatClampNeg)), some (.int (0 : Int32)), some (.int (0 : Int32)), none, none] [] h1 (0, 0) (QI K))
theorem wq_M_load_ok {p0 : Nat} {h : HP} {K : Int32 → HP → Prop} (H : wq_M_load p0 h K) : Wp k_M_load 0 [some (.ref p0), none, none, none, none, none] [] h (0, 0) (QI K) := by
  unfold wq_M_load at H
  refine wp_aload_n rfl rfl ?_
  refine wp_iconst rfl ?_
  refine wp_iconst rfl ?_
  refine wp_aload_n rfl rfl ?_
  obtain ⟨g7, g8, H⟩ := H
  refine wp_getR rfl rfl g7 g8 ?_
  refine wp_iconst rfl ?_
  obtain ⟨g6, H⟩ := H
  refine wp_iald rfl g6 ?_
  refine wp_bipush rfl ?_
  refine wp_iconst rfl ?_
  obtain ⟨g5, H⟩ := H
  refine wp_callvV rfl rfl rfl (lo' := [some (.ref p0), none, none, none, none, none]) rfl g5 ⟨Nat.le_of_ble_eq_true rfl, Nat.le_of_ble_eq_true rfl, Nat.le_of_ble_eq_true rfl, Nat.le_of_ble_eq_true rfl⟩ (bd' := (0, 0)) rfl ?_
  refine (wq_M_read_ok H).conV (fun h1 H => ?_)
  refine wp_aload_n rfl rfl ?_
  obtain ⟨g3, g4, H⟩ := H
  refine wp_getR rfl rfl g3 g4 ?_
  refine wp_iconst rfl ?_
  obtain ⟨g2, H⟩ := H
  refine wp_iald rfl g2 ?_
  refine wp_istore_n rfl rfl (lo' := [some (.ref p0), some (.int (gI h1 (gR h1 p0 7) (0 : Int32).toNatClampNeg)), none, none, none, none]) rfl ?_
  refine wp_iconst rfl ?_
  refine wp_istore_n rfl rfl (lo' := [some (.ref p0), some (.int (gI h1 (gR h1 p0 7) (0 : Int32).toNatClampNeg)), some (.int (0 : Int32)), none, none, none]) rfl ?_
  refine wp_iconst rfl ?_
  refine wp_istore_n rfl rfl (lo' := [some (.ref p0), some (.int (gI h1 (gR h1 p0 7) (0 : Int32).toNatClampNeg)), some (.int (0 : Int32)), some (.int (0 : Int32)), none, none]) rfl ?_
  exact H
def wq_M_readSegment (p0 : Nat) (p1 : Int32) (p2 : Int32) (h : HP) (K : HP → Prop) : Prop :=
  isO h p0 10 ∧ 0 < gR h p0 16 ∧ isL h (gR h p0 16) 100 p2 ∧ isO h p0 10 ∧ 0 < gR h p0 17 ∧ isL h (gR h p0 17) 100 p2 ∧ isO h p0 10 ∧ wq_M_read p0 p1 ((600 : Int32) + (gI h (gR h p0 16) p2.toNatClampNeg)) (gI h (gR h p0 17) p2.toNatClampNeg) (46 : Int32) (0 : Int32) h (fun h1 => K h1)
theorem wq_M_readSegment_ok {p0 : Nat} {p1 : Int32} {p2 : Int32} {h : HP} {K : HP → Prop} (H : wq_M_readSegment p0 p1 p2 h K) : Wp k_M_readSegment 0 [some (.ref p0), some (.int p1), some (.int p2)] [] h (0, 0) (QV K) := by
  unfold wq_M_readSegment at H
  refine wp_aload_n rfl rfl ?_
  refine wp_iload_n rfl rfl ?_
  refine wp_sipush rfl ?_
  refine wp_aload_n rfl rfl ?_
  obtain ⟨g7, g8, H⟩ := H
  refine wp_getR rfl rfl g7 g8 ?_
  refine wp_iload_n rfl rfl ?_
  obtain ⟨g6, H⟩ := H
  refine wp_iald rfl g6 ?_
  refine wp_iadd rfl ?_
  refine wp_aload_n rfl rfl ?_
  obtain ⟨g4, g5, H⟩ := H
  refine wp_getR rfl rfl g4 g5 ?_
  refine wp_iload_n rfl rfl ?_
  obtain ⟨g3, H⟩ := H
  refine wp_iald rfl g3 ?_
  refine wp_bipush rfl ?_
  refine wp_iconst rfl ?_
  obtain ⟨g2, H⟩ := H
  refine wp_callvV rfl rfl rfl (lo' := [some (.ref p0), some (.int p1), some (.int p2)]) rfl g2 ⟨Nat.le_of_ble_eq_true rfl, Nat.le_of_ble_eq_true rfl, Nat.le_of_ble_eq_true rfl, Nat.le_of_ble_eq_true rfl⟩ (bd' := (0, 0)) rfl ?_
  refine (wq_M_read_ok H).conV (fun h1 H => ?_)
  exact wp_vret rfl rfl H
def wb_M_work_16 (l0 : Nat) (l1 : Int32) (l2 : Int32) (l3 : Int32) (h : HP) (K : Int32 → HP → Prop) : Prop :=
  (l3 < 0 → isO h l0 10 ∧ 0 < gR h l0 23 ∧ isL h (gR h l0 23) 100 (0 : Int32) ∧ K (gI h (gR h l0 23) (0 : Int32).toNatClampNeg) h) ∧ (¬ l3 < 0 → Wp k_M_work 23 [some (.ref l0), some (.int l1), some (.int l2), some (.int l3), some (.int l2), none, none] [] h (0, 0) (QI K))
theorem wb_M_work_16_ok {l0 : Nat} {l1 : Int32} {l2 : Int32} {l3 : Int32} {h : HP} {K : Int32 → HP → Prop} (H : wb_M_work_16 l0 l1 l2 l3 h K) : Wp k_M_work 16 [some (.ref l0), some (.int l1), some (.int l2), some (.int l3), none, none, none] [] h (0, 0) (QI K) := by
  unfold wb_M_work_16 at H
  refine wp_iload_n rfl rfl ?_
  refine wp_if_lt rfl (lo1 := [some (.ref l0), some (.int l1), some (.int l2), some (.int l3), none, none, none]) (lo2 := [some (.ref l0), some (.int l1), some (.int l2), some (.int l3), none, none, none]) rfl rfl (fun q10 => ?_) (fun q10 => ?_)
  · have H := H.1 q10
    refine wp_aload_n rfl rfl ?_
    obtain ⟨g8, g9, H⟩ := H
    refine wp_getR rfl rfl g8 g9 ?_
    refine wp_iconst rfl ?_
    obtain ⟨g7, H⟩ := H
    refine wp_iald rfl g7 ?_
    exact wp_iret rfl rfl H
  · have H := H.2 q10
    refine wp_iload_n rfl rfl ?_
    refine wp_istore rfl rfl (lo' := [some (.ref l0), some (.int l1), some (.int l2), some (.int l3), some (.int l2), none, none]) rfl ?_
    exact H
def wb_M_work_141 (l0 : Nat) (l1 : Int32) (l2 : Int32) (l3 : Int32) (l4 : Int32) (l5 : Int32) (l6 : Int32) (h : HP) (K : Int32 → HP → Prop) : Prop :=
  (l2 ≤ l4 → isO h l0 10 ∧ 0 < gR h l0 23 ∧ isA h (gR h l0 23) 100 l5 ∧ (∀ h36 : HP, h36 = stI h (gR h l0 23) l5.toNatClampNeg l6 → Wp k_M_work 23 [some (.ref l0), some (.int l1), some (.int l2), some (.int l3), some (.int (l4 + (-1 : Int32))), none, none] [] h36 (0, 0) (QI K))) ∧ (¬ l2 ≤ l4 → isO h l0 10 ∧ 0 < gR h l0 23 ∧ isL h (gR h l0 23) 100 (l5 + (1 : Int32)) ∧ isO h l0 10 ∧ wq_M_loneCost l0 ((600 : Int32) + l4) h (fun v42 h41 => (l6 ≤ (gI h (gR h l0 23) (l5 + (1 : Int32)).toNatClampNeg) + v42 → isO h41 l0 10 ∧ 0 < gR h41 l0 23 ∧ isA h41 (gR h41 l0 23) 100 l5 ∧ (∀ h43 : HP, h43 = stI h41 (gR h41 l0 23) l5.toNatClampNeg l6 → Wp k_M_work 23 [some (.ref l0), some (.int l1), some (.int l2), some (.int l3), some (.int (l4 + (-1 : Int32))), none, none] [] h43 (0, 0) (QI K))) ∧ (¬ l6 ≤ (gI h (gR h l0 23) (l5 + (1 : Int32)).toNatClampNeg) + v42 → isO h41 l0 10 ∧ 0 < gR h41 l0 23 ∧ isL h41 (gR h41 l0 23) 100 (l5 + (1 : Int32)) ∧ isO h41 l0 10 ∧ wq_M_loneCost l0 ((600 : Int32) + l4) h41 (fun v49 h48 => isO h48 l0 10 ∧ 0 < gR h48 l0 23 ∧ isA h48 (gR h48 l0 23) 100 l5 ∧ (∀ h50 : HP, h50 = stI h48 (gR h48 l0 23) l5.toNatClampNeg ((gI h41 (gR h41 l0 23) (l5 + (1 : Int32)).toNatClampNeg) + v49) → Wp k_M_work 23 [some (.ref l0), some (.int l1), some (.int l2), some (.int l3), some (.int (l4 + (-1 : Int32))), none, none] [] h50 (0, 0) (QI K))))))
set_option maxRecDepth 100000 in
set_option maxHeartbeats 4000000 in
theorem wb_M_work_141_ok {l0 : Nat} {l1 : Int32} {l2 : Int32} {l3 : Int32} {l4 : Int32} {l5 : Int32} {l6 : Int32} {h : HP} {K : Int32 → HP → Prop} (H : wb_M_work_141 l0 l1 l2 l3 l4 l5 l6 h K) : Wp k_M_work 141 [some (.ref l0), some (.int l1), some (.int l2), some (.int l3), some (.int l4), some (.int l5), some (.int l6)] [] h (0, 0) (QI K) := by
  unfold wb_M_work_141 at H
  refine wp_iload rfl rfl ?_
  refine wp_iload_n rfl rfl ?_
  refine wp_icmp_ge rfl (lo1 := [some (.ref l0), some (.int l1), some (.int l2), some (.int l3), some (.int l4), some (.int l5), some (.int l6)]) (lo2 := [some (.ref l0), some (.int l1), some (.int l2), some (.int l3), some (.int l4), some (.int l5), some (.int l6)]) rfl rfl (fun q64 => ?_) (fun q64 => ?_)
  · have H := H.1 q64
    refine wp_aload_n rfl rfl ?_
    obtain ⟨g39, g40, H⟩ := H
    refine wp_getR rfl rfl g39 g40 ?_
    refine wp_iload rfl rfl ?_
    refine wp_iload rfl rfl ?_
    obtain ⟨g37, H⟩ := H
    obtain ⟨h36, e38⟩ : ∃ z : HP, z = stI h (gR h l0 23) l5.toNatClampNeg l6 := ⟨_, rfl⟩
    have H := H h36 e38
    refine wp_iast rfl g37 e38 ?_
    refine wp_iinc rfl rfl rfl (lo' := [some (.ref l0), some (.int l1), some (.int l2), some (.int l3), some (.int (l4 + (-1 : Int32))), some (.int l5), some (.int l6)]) rfl ?_
    refine wp_goto rfl (lo' := [some (.ref l0), some (.int l1), some (.int l2), some (.int l3), some (.int (l4 + (-1 : Int32))), none, none]) rfl ?_
    exact H
  · have H := H.2 q64
    refine wp_aload_n rfl rfl ?_
    obtain ⟨g62, g63, H⟩ := H
    refine wp_getR rfl rfl g62 g63 ?_
    refine wp_iload rfl rfl ?_
    refine wp_iconst rfl ?_
    refine wp_iadd rfl ?_
    obtain ⟨g61, H⟩ := H
    refine wp_iald rfl g61 ?_
    refine wp_aload_n rfl rfl ?_
    refine wp_sipush rfl ?_
    refine wp_iload rfl rfl ?_
    refine wp_iadd rfl ?_
    obtain ⟨g60, H⟩ := H
    refine wp_callvI rfl rfl (Or.inl rfl) (lo' := [some (.ref l0), some (.int l1), some (.int l2), some (.int l3), some (.int l4), some (.int l5), some (.int l6)]) rfl g60 ⟨Nat.le_of_ble_eq_true rfl, Nat.le_of_ble_eq_true rfl, Nat.le_of_ble_eq_true rfl, Nat.le_of_ble_eq_true rfl⟩ (bd' := (0, 0)) rfl ?_
    refine (wq_M_loneCost_ok H).conI (fun v42 h41 H => ?_)
    refine wp_iadd rfl ?_
    refine wp_iload rfl rfl ?_
    refine wp_icmp_ge rfl (lo1 := [some (.ref l0), some (.int l1), some (.int l2), some (.int l3), some (.int l4), some (.int l5), some (.int l6)]) (lo2 := [some (.ref l0), some (.int l1), some (.int l2), some (.int l3), some (.int l4), some (.int l5), some (.int l6)]) rfl rfl (fun q59 => ?_) (fun q59 => ?_)
    · have H := H.1 q59
      refine wp_aload_n rfl rfl ?_
      obtain ⟨g46, g47, H⟩ := H
      refine wp_getR rfl rfl g46 g47 ?_
      refine wp_iload rfl rfl ?_
      refine wp_iload rfl rfl ?_
      obtain ⟨g44, H⟩ := H
      obtain ⟨h43, e45⟩ : ∃ z : HP, z = stI h41 (gR h41 l0 23) l5.toNatClampNeg l6 := ⟨_, rfl⟩
      have H := H h43 e45
      refine wp_iast rfl g44 e45 ?_
      refine wp_iinc rfl rfl rfl (lo' := [some (.ref l0), some (.int l1), some (.int l2), some (.int l3), some (.int (l4 + (-1 : Int32))), some (.int l5), some (.int l6)]) rfl ?_
      refine wp_goto rfl (lo' := [some (.ref l0), some (.int l1), some (.int l2), some (.int l3), some (.int (l4 + (-1 : Int32))), none, none]) rfl ?_
      exact H
    · have H := H.2 q59
      refine wp_aload_n rfl rfl ?_
      obtain ⟨g57, g58, H⟩ := H
      refine wp_getR rfl rfl g57 g58 ?_
      refine wp_iload rfl rfl ?_
      refine wp_iconst rfl ?_
      refine wp_iadd rfl ?_
      obtain ⟨g56, H⟩ := H
      refine wp_iald rfl g56 ?_
      refine wp_aload_n rfl rfl ?_
      refine wp_sipush rfl ?_
      refine wp_iload rfl rfl ?_
      refine wp_iadd rfl ?_
      obtain ⟨g55, H⟩ := H
      refine wp_callvI rfl rfl (Or.inl rfl) (lo' := [some (.ref l0), some (.int l1), some (.int l2), some (.int l3), some (.int l4), some (.int l5), some (.int l6)]) rfl g55 ⟨Nat.le_of_ble_eq_true rfl, Nat.le_of_ble_eq_true rfl, Nat.le_of_ble_eq_true rfl, Nat.le_of_ble_eq_true rfl⟩ (bd' := (0, 0)) rfl ?_
      refine (wq_M_loneCost_ok H).conI (fun v49 h48 H => ?_)
      refine wp_iadd rfl ?_
      refine wp_istore rfl rfl (lo' := [some (.ref l0), some (.int l1), some (.int l2), some (.int l3), some (.int l4), some (.int l5), some (.int ((gI h41 (gR h41 l0 23) (l5 + (1 : Int32)).toNatClampNeg) + v49))]) rfl ?_
      refine wp_aload_n rfl rfl ?_
      obtain ⟨g53, g54, H⟩ := H
      refine wp_getR rfl rfl g53 g54 ?_
      refine wp_iload rfl rfl ?_
      refine wp_iload rfl rfl ?_
      obtain ⟨g51, H⟩ := H
      obtain ⟨h50, e52⟩ : ∃ z : HP, z = stI h48 (gR h48 l0 23) l5.toNatClampNeg ((gI h41 (gR h41 l0 23) (l5 + (1 : Int32)).toNatClampNeg) + v49) := ⟨_, rfl⟩
      have H := H h50 e52
      refine wp_iast rfl g51 e52 ?_
      refine wp_iinc rfl rfl rfl (lo' := [some (.ref l0), some (.int l1), some (.int l2), some (.int l3), some (.int (l4 + (-1 : Int32))), some (.int l5), some (.int ((gI h41 (gR h41 l0 23) (l5 + (1 : Int32)).toNatClampNeg) + v49))]) rfl ?_
      refine wp_goto rfl (lo' := [some (.ref l0), some (.int l1), some (.int l2), some (.int l3), some (.int (l4 + (-1 : Int32))), none, none]) rfl ?_
      exact H
def wb_M_work_93 (l0 : Nat) (l1 : Int32) (l2 : Int32) (l3 : Int32) (l4 : Int32) (l5 : Int32) (l6 : Int32) (h : HP) (K : Int32 → HP → Prop) : Prop :=
  (l1 ≤ l3 → wb_M_work_141 l0 l1 l2 l3 l4 l5 l6 h K) ∧ (¬ l1 ≤ l3 → isO h l0 10 ∧ 0 < gR h l0 23 ∧ isL h (gR h l0 23) 100 (l5 + (21 : Int32)) ∧ isO h l0 10 ∧ wq_M_loneCost l0 ((0 : Int32) + l3) h (fun v23 h22 => (l6 ≤ (gI h (gR h l0 23) (l5 + (21 : Int32)).toNatClampNeg) + v23 → wb_M_work_141 l0 l1 l2 l3 l4 l5 l6 h22 K) ∧ (¬ l6 ≤ (gI h (gR h l0 23) (l5 + (21 : Int32)).toNatClampNeg) + v23 → isO h22 l0 10 ∧ 0 < gR h22 l0 23 ∧ isL h22 (gR h22 l0 23) 100 (l5 + (21 : Int32)) ∧ isO h22 l0 10 ∧ wq_M_loneCost l0 ((0 : Int32) + l3) h22 (fun v25 h24 => wb_M_work_141 l0 l1 l2 l3 l4 l5 ((gI h22 (gR h22 l0 23) (l5 + (21 : Int32)).toNatClampNeg) + v25) h24 K))))
theorem wb_M_work_93_ok {l0 : Nat} {l1 : Int32} {l2 : Int32} {l3 : Int32} {l4 : Int32} {l5 : Int32} {l6 : Int32} {h : HP} {K : Int32 → HP → Prop} (H : wb_M_work_93 l0 l1 l2 l3 l4 l5 l6 h K) : Wp k_M_work 93 [some (.ref l0), some (.int l1), some (.int l2), some (.int l3), some (.int l4), some (.int l5), some (.int l6)] [] h (0, 0) (QI K) := by
  unfold wb_M_work_93 at H
  refine wp_iload_n rfl rfl ?_
  refine wp_iload_n rfl rfl ?_
  refine wp_icmp_ge rfl (lo1 := [some (.ref l0), some (.int l1), some (.int l2), some (.int l3), some (.int l4), some (.int l5), some (.int l6)]) (lo2 := [some (.ref l0), some (.int l1), some (.int l2), some (.int l3), some (.int l4), some (.int l5), some (.int l6)]) rfl rfl (fun q35 => ?_) (fun q35 => ?_)
  · have H := H.1 q35
    exact wb_M_work_141_ok H
  · have H := H.2 q35
    refine wp_aload_n rfl rfl ?_
    obtain ⟨g33, g34, H⟩ := H
    refine wp_getR rfl rfl g33 g34 ?_
    refine wp_iload rfl rfl ?_
    refine wp_bipush rfl ?_
    refine wp_iadd rfl ?_
    obtain ⟨g32, H⟩ := H
    refine wp_iald rfl g32 ?_
    refine wp_aload_n rfl rfl ?_
    refine wp_iconst rfl ?_
    refine wp_iload_n rfl rfl ?_
    refine wp_iadd rfl ?_
    obtain ⟨g31, H⟩ := H
    refine wp_callvI rfl rfl (Or.inl rfl) (lo' := [some (.ref l0), some (.int l1), some (.int l2), some (.int l3), some (.int l4), some (.int l5), some (.int l6)]) rfl g31 ⟨Nat.le_of_ble_eq_true rfl, Nat.le_of_ble_eq_true rfl, Nat.le_of_ble_eq_true rfl, Nat.le_of_ble_eq_true rfl⟩ (bd' := (0, 0)) rfl ?_
    refine (wq_M_loneCost_ok H).conI (fun v23 h22 H => ?_)
    refine wp_iadd rfl ?_
    refine wp_iload rfl rfl ?_
    refine wp_icmp_ge rfl (lo1 := [some (.ref l0), some (.int l1), some (.int l2), some (.int l3), some (.int l4), some (.int l5), some (.int l6)]) (lo2 := [some (.ref l0), some (.int l1), some (.int l2), some (.int l3), some (.int l4), some (.int l5), some (.int l6)]) rfl rfl (fun q30 => ?_) (fun q30 => ?_)
    · have H := H.1 q30
      exact wb_M_work_141_ok H
    · have H := H.2 q30
      refine wp_aload_n rfl rfl ?_
      obtain ⟨g28, g29, H⟩ := H
      refine wp_getR rfl rfl g28 g29 ?_
      refine wp_iload rfl rfl ?_
      refine wp_bipush rfl ?_
      refine wp_iadd rfl ?_
      obtain ⟨g27, H⟩ := H
      refine wp_iald rfl g27 ?_
      refine wp_aload_n rfl rfl ?_
      refine wp_iconst rfl ?_
      refine wp_iload_n rfl rfl ?_
      refine wp_iadd rfl ?_
      obtain ⟨g26, H⟩ := H
      refine wp_callvI rfl rfl (Or.inl rfl) (lo' := [some (.ref l0), some (.int l1), some (.int l2), some (.int l3), some (.int l4), some (.int l5), some (.int l6)]) rfl g26 ⟨Nat.le_of_ble_eq_true rfl, Nat.le_of_ble_eq_true rfl, Nat.le_of_ble_eq_true rfl, Nat.le_of_ble_eq_true rfl⟩ (bd' := (0, 0)) rfl ?_
      refine (wq_M_loneCost_ok H).conI (fun v25 h24 H => ?_)
      refine wp_iadd rfl ?_
      refine wp_istore rfl rfl (lo' := [some (.ref l0), some (.int l1), some (.int l2), some (.int l3), some (.int l4), some (.int l5), some (.int ((gI h22 (gR h22 l0 23) (l5 + (21 : Int32)).toNatClampNeg) + v25))]) rfl ?_
      exact wb_M_work_141_ok H
def wb_M_work_54 (l0 : Nat) (l1 : Int32) (l2 : Int32) (l3 : Int32) (l4 : Int32) (l5 : Int32) (s0 : Int32) (h : HP) (K : Int32 → HP → Prop) : Prop :=
  (l1 ≤ l3 → wb_M_work_93 l0 l1 l2 l3 l4 l5 s0 h K) ∧ (¬ l1 ≤ l3 → (l2 ≤ l4 → wb_M_work_93 l0 l1 l2 l3 l4 l5 s0 h K) ∧ (¬ l2 ≤ l4 → isO h l0 10 ∧ 0 < gR h l0 23 ∧ isL h (gR h l0 23) 100 (l5 + (22 : Int32)) ∧ isO h l0 10 ∧ wq_M_keepCost l0 ((0 : Int32) + l3) ((600 : Int32) + l4) h (fun v15 h14 => wb_M_work_93 l0 l1 l2 l3 l4 l5 ((gI h (gR h l0 23) (l5 + (22 : Int32)).toNatClampNeg) + v15) h14 K)))
theorem wb_M_work_54_ok {l0 : Nat} {l1 : Int32} {l2 : Int32} {l3 : Int32} {l4 : Int32} {l5 : Int32} {s0 : Int32} {h : HP} {K : Int32 → HP → Prop} (H : wb_M_work_54 l0 l1 l2 l3 l4 l5 s0 h K) : Wp k_M_work 54 [some (.ref l0), some (.int l1), some (.int l2), some (.int l3), some (.int l4), some (.int l5), none] [.int s0] h (0, 0) (QI K) := by
  unfold wb_M_work_54 at H
  refine wp_istore rfl rfl (lo' := [some (.ref l0), some (.int l1), some (.int l2), some (.int l3), some (.int l4), some (.int l5), some (.int s0)]) rfl ?_
  refine wp_iload_n rfl rfl ?_
  refine wp_iload_n rfl rfl ?_
  refine wp_icmp_ge rfl (lo1 := [some (.ref l0), some (.int l1), some (.int l2), some (.int l3), some (.int l4), some (.int l5), some (.int s0)]) (lo2 := [some (.ref l0), some (.int l1), some (.int l2), some (.int l3), some (.int l4), some (.int l5), some (.int s0)]) rfl rfl (fun q21 => ?_) (fun q21 => ?_)
  · have H := H.1 q21
    exact wb_M_work_93_ok H
  · have H := H.2 q21
    refine wp_iload rfl rfl ?_
    refine wp_iload_n rfl rfl ?_
    refine wp_icmp_ge rfl (lo1 := [some (.ref l0), some (.int l1), some (.int l2), some (.int l3), some (.int l4), some (.int l5), some (.int s0)]) (lo2 := [some (.ref l0), some (.int l1), some (.int l2), some (.int l3), some (.int l4), some (.int l5), some (.int s0)]) rfl rfl (fun q20 => ?_) (fun q20 => ?_)
    · have H := H.1 q20
      exact wb_M_work_93_ok H
    · have H := H.2 q20
      refine wp_aload_n rfl rfl ?_
      obtain ⟨g18, g19, H⟩ := H
      refine wp_getR rfl rfl g18 g19 ?_
      refine wp_iload rfl rfl ?_
      refine wp_bipush rfl ?_
      refine wp_iadd rfl ?_
      obtain ⟨g17, H⟩ := H
      refine wp_iald rfl g17 ?_
      refine wp_aload_n rfl rfl ?_
      refine wp_iconst rfl ?_
      refine wp_iload_n rfl rfl ?_
      refine wp_iadd rfl ?_
      refine wp_sipush rfl ?_
      refine wp_iload rfl rfl ?_
      refine wp_iadd rfl ?_
      obtain ⟨g16, H⟩ := H
      refine wp_callvI rfl rfl (Or.inl rfl) (lo' := [some (.ref l0), some (.int l1), some (.int l2), some (.int l3), some (.int l4), some (.int l5), some (.int s0)]) rfl g16 ⟨Nat.le_of_ble_eq_true rfl, Nat.le_of_ble_eq_true rfl, Nat.le_of_ble_eq_true rfl, Nat.le_of_ble_eq_true rfl⟩ (bd' := (0, 0)) rfl ?_
      refine (wq_M_keepCost_ok H).conI (fun v15 h14 H => ?_)
      refine wp_iadd rfl ?_
      refine wp_istore rfl rfl (lo' := [some (.ref l0), some (.int l1), some (.int l2), some (.int l3), some (.int l4), some (.int l5), some (.int ((gI h (gR h l0 23) (l5 + (22 : Int32)).toNatClampNeg) + v15))]) rfl ?_
      exact wb_M_work_93_ok H
def wb_M_work_23 (l0 : Nat) (l1 : Int32) (l2 : Int32) (l3 : Int32) (l4 : Int32) (h : HP) (K : Int32 → HP → Prop) : Prop :=
  (l4 < 0 → Wp k_M_work 16 [some (.ref l0), some (.int l1), some (.int l2), some (.int (l3 + (-1 : Int32))), none, none, none] [] h (0, 0) (QI K)) ∧ (¬ l4 < 0 → (¬ l3 = l1 → wb_M_work_54 l0 l1 l2 l3 l4 (((21 : Int32) * l3) + l4) (1000000 : Int32) h K) ∧ (l3 = l1 → (¬ l4 = l2 → wb_M_work_54 l0 l1 l2 l3 l4 (((21 : Int32) * l3) + l4) (1000000 : Int32) h K) ∧ (l4 = l2 → wb_M_work_54 l0 l1 l2 l3 l4 (((21 : Int32) * l3) + l4) (0 : Int32) h K)))
theorem wb_M_work_23_ok {l0 : Nat} {l1 : Int32} {l2 : Int32} {l3 : Int32} {l4 : Int32} {h : HP} {K : Int32 → HP → Prop} (H : wb_M_work_23 l0 l1 l2 l3 l4 h K) : Wp k_M_work 23 [some (.ref l0), some (.int l1), some (.int l2), some (.int l3), some (.int l4), none, none] [] h (0, 0) (QI K) := by
  unfold wb_M_work_23 at H
  refine wp_iload rfl rfl ?_
  refine wp_if_lt rfl (lo1 := [some (.ref l0), some (.int l1), some (.int l2), some (.int l3), some (.int l4), none, none]) (lo2 := [some (.ref l0), some (.int l1), some (.int l2), some (.int l3), some (.int l4), none, none]) rfl rfl (fun q13 => ?_) (fun q13 => ?_)
  · have H := H.1 q13
    refine wp_iinc rfl rfl rfl (lo' := [some (.ref l0), some (.int l1), some (.int l2), some (.int (l3 + (-1 : Int32))), some (.int l4), none, none]) rfl ?_
    refine wp_goto rfl (lo' := [some (.ref l0), some (.int l1), some (.int l2), some (.int (l3 + (-1 : Int32))), none, none, none]) rfl ?_
    exact H
  · have H := H.2 q13
    refine wp_bipush rfl ?_
    refine wp_iload_n rfl rfl ?_
    refine wp_imul rfl ?_
    refine wp_iload rfl rfl ?_
    refine wp_iadd rfl ?_
    refine wp_istore rfl rfl (lo' := [some (.ref l0), some (.int l1), some (.int l2), some (.int l3), some (.int l4), some (.int (((21 : Int32) * l3) + l4)), none]) rfl ?_
    refine wp_iload_n rfl rfl ?_
    refine wp_iload_n rfl rfl ?_
    refine wp_icmp_ne rfl (lo1 := [some (.ref l0), some (.int l1), some (.int l2), some (.int l3), some (.int l4), some (.int (((21 : Int32) * l3) + l4)), none]) (lo2 := [some (.ref l0), some (.int l1), some (.int l2), some (.int l3), some (.int l4), some (.int (((21 : Int32) * l3) + l4)), none]) rfl rfl (fun q12 => ?_) (fun q12 => ?_)
    · have H := H.1 q12
      refine wp_ldck (lo' := [some (.ref l0), some (.int l1), some (.int l2), some (.int l3), some (.int l4), some (.int (((21 : Int32) * l3) + l4)), none]) rfl rfl ?_
      exact wb_M_work_54_ok H
    · have H := H.2 q12
      refine wp_iload rfl rfl ?_
      refine wp_iload_n rfl rfl ?_
      refine wp_icmp_ne rfl (lo1 := [some (.ref l0), some (.int l1), some (.int l2), some (.int l3), some (.int l4), some (.int (((21 : Int32) * l3) + l4)), none]) (lo2 := [some (.ref l0), some (.int l1), some (.int l2), some (.int l3), some (.int l4), some (.int (((21 : Int32) * l3) + l4)), none]) rfl rfl (fun q11 => ?_) (fun q11 => ?_)
      · have H := H.1 q11
        refine wp_ldck (lo' := [some (.ref l0), some (.int l1), some (.int l2), some (.int l3), some (.int l4), some (.int (((21 : Int32) * l3) + l4)), none]) rfl rfl ?_
        exact wb_M_work_54_ok H
      · have H := H.2 q11
        refine wp_iconst rfl ?_
        refine wp_goto rfl (lo' := [some (.ref l0), some (.int l1), some (.int l2), some (.int l3), some (.int l4), some (.int (((21 : Int32) * l3) + l4)), none]) rfl ?_
        exact wb_M_work_54_ok H
def wq_M_work (p0 : Nat) (h : HP) (K : Int32 → HP → Prop) : Prop :=
  isO h p0 10 ∧ 0 < gR h p0 7 ∧ isL h (gR h p0 7) 100 (0 : Int32) ∧ isO h p0 10 ∧ 0 < gR h p0 7 ∧ isL h (gR h p0 7) 100 (1 : Int32) ∧ Wp k_M_work 16 [some (.ref p0), some (.int (gI h (gR h p0 7) (0 : Int32).toNatClampNeg)), some (.int (gI h (gR h p0 7) (1 : Int32).toNatClampNeg)), some (.int (gI h (gR h p0 7) (0 : Int32).toNatClampNeg)), none, none, none] [] h (0, 0) (QI K)
theorem wq_M_work_ok {p0 : Nat} {h : HP} {K : Int32 → HP → Prop} (H : wq_M_work p0 h K) : Wp k_M_work 0 [some (.ref p0), none, none, none, none, none, none] [] h (0, 0) (QI K) := by
  unfold wq_M_work at H
  refine wp_aload_n rfl rfl ?_
  obtain ⟨g5, g6, H⟩ := H
  refine wp_getR rfl rfl g5 g6 ?_
  refine wp_iconst rfl ?_
  obtain ⟨g4, H⟩ := H
  refine wp_iald rfl g4 ?_
  refine wp_istore_n rfl rfl (lo' := [some (.ref p0), some (.int (gI h (gR h p0 7) (0 : Int32).toNatClampNeg)), none, none, none, none, none]) rfl ?_
  refine wp_aload_n rfl rfl ?_
  obtain ⟨g2, g3, H⟩ := H
  refine wp_getR rfl rfl g2 g3 ?_
  refine wp_iconst rfl ?_
  obtain ⟨g1, H⟩ := H
  refine wp_iald rfl g1 ?_
  refine wp_istore_n rfl rfl (lo' := [some (.ref p0), some (.int (gI h (gR h p0 7) (0 : Int32).toNatClampNeg)), some (.int (gI h (gR h p0 7) (1 : Int32).toNatClampNeg)), none, none, none, none]) rfl ?_
  refine wp_iload_n rfl rfl ?_
  refine wp_istore_n rfl rfl (lo' := [some (.ref p0), some (.int (gI h (gR h p0 7) (0 : Int32).toNatClampNeg)), some (.int (gI h (gR h p0 7) (1 : Int32).toNatClampNeg)), some (.int (gI h (gR h p0 7) (0 : Int32).toNatClampNeg)), none, none, none]) rfl ?_
  exact H
def wb_Book_findEnds_189 (l0 : Nat) (l1 : Nat) (l2 : Nat) (l3 : Int32) (l4 : Int32) (l7 : Int32) (l8 : Int32) (l9 : Int32) (h : HP) (K : Int32 → HP → Prop) : Prop :=
  (¬ l8 = 0 → Wp k_Book_findEnds 11 [some (.ref l0), some (.ref l1), some (.ref l2), some (.int l3), some (.int l4), some (.long (lN 0)), none, some (.int l9), none, none, none, none] [] h (0, 0) (QI K)) ∧ (l8 = 0 → wq_Words_packed l1 l7 l9 h (fun v46 h45 => Wp k_Book_findEnds 11 [some (.ref l0), some (.ref l1), some (.ref l2), some (.int l3), some (.int l4), some (.long v46), none, some (.int l9), none, none, none, none] [] h45 (0, 0) (QI K)))
theorem wb_Book_findEnds_189_ok {l0 : Nat} {l1 : Nat} {l2 : Nat} {l3 : Int32} {l4 : Int32} {l7 : Int32} {l8 : Int32} {l9 : Int32} {h : HP} {K : Int32 → HP → Prop} (H : wb_Book_findEnds_189 l0 l1 l2 l3 l4 l7 l8 l9 h K) : Wp k_Book_findEnds 189 [some (.ref l0), some (.ref l1), some (.ref l2), some (.int l3), some (.int l4), none, none, some (.int l7), some (.int l8), some (.int l9), none, none] [] h (0, 0) (QI K) := by
  unfold wb_Book_findEnds_189 at H
  refine wp_iload rfl rfl ?_
  refine wp_if_ne rfl (lo1 := [some (.ref l0), some (.ref l1), some (.ref l2), some (.int l3), some (.int l4), none, none, some (.int l7), some (.int l8), some (.int l9), none, none]) (lo2 := [some (.ref l0), some (.ref l1), some (.ref l2), some (.int l3), some (.int l4), none, none, some (.int l7), some (.int l8), some (.int l9), none, none]) rfl rfl (fun q47 => ?_) (fun q47 => ?_)
  · have H := H.1 q47
    refine wp_lconstk (lo' := [some (.ref l0), some (.ref l1), some (.ref l2), some (.int l3), some (.int l4), none, none, none, none, some (.int l9), none, none]) rfl rfl ?_
    refine wp_lstore rfl rfl (lo' := [some (.ref l0), some (.ref l1), some (.ref l2), some (.int l3), some (.int l4), some (.long (lN 0)), none, none, none, some (.int l9), none, none]) rfl ?_
    refine wp_iload rfl rfl ?_
    refine wp_istore rfl rfl (lo' := [some (.ref l0), some (.ref l1), some (.ref l2), some (.int l3), some (.int l4), some (.long (lN 0)), none, some (.int l9), none, some (.int l9), none, none]) rfl ?_
    refine wp_goto rfl (lo' := [some (.ref l0), some (.ref l1), some (.ref l2), some (.int l3), some (.int l4), some (.long (lN 0)), none, some (.int l9), none, none, none, none]) rfl ?_
    exact H
  · have H := H.2 q47
    refine wp_aload_n rfl rfl ?_
    refine wp_iload rfl rfl ?_
    refine wp_iload rfl rfl ?_
    refine wp_callsJ rfl rfl rfl rfl (lo' := [some (.ref l0), some (.ref l1), some (.ref l2), some (.int l3), some (.int l4), none, none, some (.int l7), some (.int l8), some (.int l9), none, none]) rfl ⟨Nat.le_of_ble_eq_true rfl, Nat.le_of_ble_eq_true rfl, Nat.le_of_ble_eq_true rfl, Nat.le_of_ble_eq_true rfl⟩ (bd' := (0, 0)) rfl ?_
    refine (wq_Words_packed_ok H).conJ (fun v46 h45 H => ?_)
    refine wp_goto rfl (lo' := [some (.ref l0), some (.ref l1), some (.ref l2), some (.int l3), some (.int l4), none, none, none, none, some (.int l9), none, none]) rfl ?_
    refine wp_lstore rfl rfl (lo' := [some (.ref l0), some (.ref l1), some (.ref l2), some (.int l3), some (.int l4), some (.long v46), none, none, none, some (.int l9), none, none]) rfl ?_
    refine wp_iload rfl rfl ?_
    refine wp_istore rfl rfl (lo' := [some (.ref l0), some (.ref l1), some (.ref l2), some (.int l3), some (.int l4), some (.long v46), none, some (.int l9), none, some (.int l9), none, none]) rfl ?_
    refine wp_goto rfl (lo' := [some (.ref l0), some (.ref l1), some (.ref l2), some (.int l3), some (.int l4), some (.long v46), none, some (.int l9), none, none, none, none]) rfl ?_
    exact H
def wb_Book_findEnds_166 (l0 : Nat) (l1 : Nat) (l2 : Nat) (l3 : Int32) (l7 : Int32) (l8 : Int32) (l9 : Int32) (h : HP) (K : Int32 → HP → Prop) : Prop :=
  (l3 < (24 : Int32) → isO h l0 0 ∧ 0 < gR h l0 2 ∧ isA h (gR h l0 2) 100 l3 ∧ (∀ h39 : HP, h39 = stI h (gR h l0 2) l3.toNatClampNeg l9 → wb_Book_findEnds_189 l0 l1 l2 (l3 + (1 : Int32)) (0 : Int32) l7 l8 l9 h39 K)) ∧ (¬ l3 < (24 : Int32) → K (-5 : Int32) h)
theorem wb_Book_findEnds_166_ok {l0 : Nat} {l1 : Nat} {l2 : Nat} {l3 : Int32} {l7 : Int32} {l8 : Int32} {l9 : Int32} {h : HP} {K : Int32 → HP → Prop} (H : wb_Book_findEnds_166 l0 l1 l2 l3 l7 l8 l9 h K) : Wp k_Book_findEnds 166 [some (.ref l0), some (.ref l1), some (.ref l2), some (.int l3), none, none, none, some (.int l7), some (.int l8), some (.int l9), none, none] [] h (0, 0) (QI K) := by
  unfold wb_Book_findEnds_166 at H
  refine wp_iload_n rfl rfl ?_
  refine wp_bipush rfl ?_
  refine wp_icmp_lt rfl (lo1 := [some (.ref l0), some (.ref l1), some (.ref l2), some (.int l3), none, none, none, some (.int l7), some (.int l8), some (.int l9), none, none]) (lo2 := [some (.ref l0), some (.ref l1), some (.ref l2), some (.int l3), none, none, none, some (.int l7), some (.int l8), some (.int l9), none, none]) rfl rfl (fun q44 => ?_) (fun q44 => ?_)
  · have H := H.1 q44
    refine wp_aload_n rfl rfl ?_
    obtain ⟨g42, g43, H⟩ := H
    refine wp_getR rfl rfl g42 g43 ?_
    refine wp_iload_n rfl rfl ?_
    refine wp_iload rfl rfl ?_
    obtain ⟨g40, H⟩ := H
    obtain ⟨h39, e41⟩ : ∃ z : HP, z = stI h (gR h l0 2) l3.toNatClampNeg l9 := ⟨_, rfl⟩
    have H := H h39 e41
    refine wp_iast rfl g40 e41 ?_
    refine wp_iinc rfl rfl rfl (lo' := [some (.ref l0), some (.ref l1), some (.ref l2), some (.int (l3 + (1 : Int32))), none, none, none, some (.int l7), some (.int l8), some (.int l9), none, none]) rfl ?_
    refine wp_iconst rfl ?_
    refine wp_istore rfl rfl (lo' := [some (.ref l0), some (.ref l1), some (.ref l2), some (.int (l3 + (1 : Int32))), some (.int (0 : Int32)), none, none, some (.int l7), some (.int l8), some (.int l9), none, none]) rfl ?_
    exact wb_Book_findEnds_189_ok H
  · have H := H.2 q44
    refine wp_bipush rfl ?_
    exact wp_iret rfl rfl H
def wb_Book_findEnds_133 (l0 : Nat) (l1 : Nat) (l2 : Nat) (l3 : Int32) (l4 : Int32) (l7 : Int32) (l8 : Int32) (l9 : Int32) (s0 : Int32) (h : HP) (K : Int32 → HP → Prop) : Prop :=
  (s0 = 0 → (¬ s0 = 0 → wb_Book_findEnds_166 l0 l1 l2 l3 l7 l8 l9 h K) ∧ (s0 = 0 → isO h l1 7 ∧ (l9 < gI h l1 1 → wb_Book_findEnds_189 l0 l1 l2 l3 l4 l7 l8 l9 h K) ∧ (¬ l9 < gI h l1 1 → wb_Book_findEnds_166 l0 l1 l2 l3 l7 l8 l9 h K))) ∧ (¬ s0 = 0 → isO h l1 7 ∧ wq_Scan_blanksEnd l1 l9 (gI h l1 1) h (fun v33 h32 => (¬ s0 = 0 → wb_Book_findEnds_166 l0 l1 l2 l3 l7 l8 v33 h32 K) ∧ (s0 = 0 → isO h32 l1 7 ∧ (v33 < gI h32 l1 1 → wb_Book_findEnds_189 l0 l1 l2 l3 l4 l7 l8 v33 h32 K) ∧ (¬ v33 < gI h32 l1 1 → wb_Book_findEnds_166 l0 l1 l2 l3 l7 l8 v33 h32 K))))
set_option maxRecDepth 100000 in
set_option maxHeartbeats 4000000 in
theorem wb_Book_findEnds_133_ok {l0 : Nat} {l1 : Nat} {l2 : Nat} {l3 : Int32} {l4 : Int32} {l7 : Int32} {l8 : Int32} {l9 : Int32} {s0 : Int32} {h : HP} {K : Int32 → HP → Prop} (H : wb_Book_findEnds_133 l0 l1 l2 l3 l4 l7 l8 l9 s0 h K) : Wp k_Book_findEnds 133 [some (.ref l0), some (.ref l1), some (.ref l2), some (.int l3), some (.int l4), none, none, some (.int l7), some (.int l8), some (.int l9), none, none] [.int s0] h (0, 0) (QI K) := by
  unfold wb_Book_findEnds_133 at H
  refine wp_istore rfl rfl (lo' := [some (.ref l0), some (.ref l1), some (.ref l2), some (.int l3), some (.int l4), none, none, some (.int l7), some (.int l8), some (.int l9), none, some (.int s0)]) rfl ?_
  refine wp_iload rfl rfl ?_
  refine wp_if_eq rfl (lo1 := [some (.ref l0), some (.ref l1), some (.ref l2), some (.int l3), some (.int l4), none, none, some (.int l7), some (.int l8), some (.int l9), none, some (.int s0)]) (lo2 := [some (.ref l0), some (.ref l1), some (.ref l2), some (.int l3), some (.int l4), none, none, some (.int l7), some (.int l8), some (.int l9), none, some (.int s0)]) rfl rfl (fun q38 => ?_) (fun q38 => ?_)
  · have H := H.1 q38
    refine wp_iload rfl rfl ?_
    refine wp_if_ne rfl (lo1 := [some (.ref l0), some (.ref l1), some (.ref l2), some (.int l3), none, none, none, some (.int l7), some (.int l8), some (.int l9), none, none]) (lo2 := [some (.ref l0), some (.ref l1), some (.ref l2), some (.int l3), some (.int l4), none, none, some (.int l7), some (.int l8), some (.int l9), none, some (.int s0)]) rfl rfl (fun q31 => ?_) (fun q31 => ?_)
    · have H := H.1 q31
      exact wb_Book_findEnds_166_ok H
    · have H := H.2 q31
      refine wp_iload rfl rfl ?_
      refine wp_aload_n rfl rfl ?_
      obtain ⟨g30, H⟩ := H
      refine wp_getI rfl rfl g30 ?_
      refine wp_icmp_lt rfl (lo1 := [some (.ref l0), some (.ref l1), some (.ref l2), some (.int l3), some (.int l4), none, none, some (.int l7), some (.int l8), some (.int l9), none, none]) (lo2 := [some (.ref l0), some (.ref l1), some (.ref l2), some (.int l3), none, none, none, some (.int l7), some (.int l8), some (.int l9), none, none]) rfl rfl (fun q29 => ?_) (fun q29 => ?_)
      · have H := H.1 q29
        exact wb_Book_findEnds_189_ok H
      · have H := H.2 q29
        exact wb_Book_findEnds_166_ok H
  · have H := H.2 q38
    refine wp_aload_n rfl rfl ?_
    refine wp_iload rfl rfl ?_
    refine wp_aload_n rfl rfl ?_
    obtain ⟨g37, H⟩ := H
    refine wp_getI rfl rfl g37 ?_
    refine wp_callsI rfl rfl rfl (Or.inl rfl) (lo' := [some (.ref l0), some (.ref l1), some (.ref l2), some (.int l3), some (.int l4), none, none, some (.int l7), some (.int l8), some (.int l9), none, some (.int s0)]) rfl ⟨Nat.le_of_ble_eq_true rfl, Nat.le_of_ble_eq_true rfl, Nat.le_of_ble_eq_true rfl, Nat.le_of_ble_eq_true rfl⟩ (bd' := (0, 0)) rfl ?_
    refine (wq_Scan_blanksEnd_ok H).conI (fun v33 h32 H => ?_)
    refine wp_istore rfl rfl (lo' := [some (.ref l0), some (.ref l1), some (.ref l2), some (.int l3), some (.int l4), none, none, some (.int l7), some (.int l8), some (.int v33), none, some (.int s0)]) rfl ?_
    refine wp_iload rfl rfl ?_
    refine wp_if_ne rfl (lo1 := [some (.ref l0), some (.ref l1), some (.ref l2), some (.int l3), none, none, none, some (.int l7), some (.int l8), some (.int v33), none, none]) (lo2 := [some (.ref l0), some (.ref l1), some (.ref l2), some (.int l3), some (.int l4), none, none, some (.int l7), some (.int l8), some (.int v33), none, some (.int s0)]) rfl rfl (fun q36 => ?_) (fun q36 => ?_)
    · have H := H.1 q36
      exact wb_Book_findEnds_166_ok H
    · have H := H.2 q36
      refine wp_iload rfl rfl ?_
      refine wp_aload_n rfl rfl ?_
      obtain ⟨g35, H⟩ := H
      refine wp_getI rfl rfl g35 ?_
      refine wp_icmp_lt rfl (lo1 := [some (.ref l0), some (.ref l1), some (.ref l2), some (.int l3), some (.int l4), none, none, some (.int l7), some (.int l8), some (.int v33), none, none]) (lo2 := [some (.ref l0), some (.ref l1), some (.ref l2), some (.int l3), none, none, none, some (.int l7), some (.int l8), some (.int v33), none, none]) rfl rfl (fun q34 => ?_) (fun q34 => ?_)
      · have H := H.1 q34
        exact wb_Book_findEnds_189_ok H
      · have H := H.2 q34
        exact wb_Book_findEnds_166_ok H
def wb_Book_findEnds_100 (l0 : Nat) (l1 : Nat) (l2 : Nat) (l3 : Int32) (l4 : Int32) (l7 : Int32) (l8 : Int32) (l9 : Int32) (s0 : Int32) (h : HP) (K : Int32 → HP → Prop) : Prop :=
  (¬ s0 = 0 → wb_Book_findEnds_133 l0 l1 l2 l3 l4 l7 l8 l9 (0 : Int32) h K) ∧ (s0 = 0 → isO h l1 7 ∧ wq_Text_at l1 l7 h (fun v20 h19 => wq_Book_isStop v20 h19 (fun v22 h21 => (v22 = 0 → wb_Book_findEnds_133 l0 l1 l2 l3 l4 l7 l8 l9 (0 : Int32) h21 K) ∧ (¬ v22 = 0 → wq_Book_isBlankOrEnd l1 l9 h21 (fun v24 h23 => (v24 = 0 → wb_Book_findEnds_133 l0 l1 l2 l3 l4 l7 l8 l9 (0 : Int32) h23 K) ∧ (¬ v24 = 0 → wb_Book_findEnds_133 l0 l1 l2 l3 l4 l7 l8 l9 (1 : Int32) h23 K))))))
set_option maxRecDepth 100000 in
set_option maxHeartbeats 4000000 in
theorem wb_Book_findEnds_100_ok {l0 : Nat} {l1 : Nat} {l2 : Nat} {l3 : Int32} {l4 : Int32} {l7 : Int32} {l8 : Int32} {l9 : Int32} {s0 : Int32} {h : HP} {K : Int32 → HP → Prop} (H : wb_Book_findEnds_100 l0 l1 l2 l3 l4 l7 l8 l9 s0 h K) : Wp k_Book_findEnds 100 [some (.ref l0), some (.ref l1), some (.ref l2), some (.int l3), some (.int l4), none, none, some (.int l7), some (.int l8), some (.int l9), none, none] [.int s0] h (0, 0) (QI K) := by
  unfold wb_Book_findEnds_100 at H
  refine wp_istore rfl rfl (lo' := [some (.ref l0), some (.ref l1), some (.ref l2), some (.int l3), some (.int l4), none, none, some (.int l7), some (.int l8), some (.int l9), some (.int s0), none]) rfl ?_
  refine wp_iload rfl rfl ?_
  refine wp_if_ne rfl (lo1 := [some (.ref l0), some (.ref l1), some (.ref l2), some (.int l3), some (.int l4), none, none, some (.int l7), some (.int l8), some (.int l9), none, none]) (lo2 := [some (.ref l0), some (.ref l1), some (.ref l2), some (.int l3), some (.int l4), none, none, some (.int l7), some (.int l8), some (.int l9), some (.int s0), none]) rfl rfl (fun q28 => ?_) (fun q28 => ?_)
  · have H := H.1 q28
    refine wp_iconstk (lo' := [some (.ref l0), some (.ref l1), some (.ref l2), some (.int l3), some (.int l4), none, none, some (.int l7), some (.int l8), some (.int l9), none, none]) rfl rfl ?_
    exact wb_Book_findEnds_133_ok H
  · have H := H.2 q28
    refine wp_aload_n rfl rfl ?_
    refine wp_iload rfl rfl ?_
    obtain ⟨g27, H⟩ := H
    refine wp_callvI rfl rfl (Or.inl rfl) (lo' := [some (.ref l0), some (.ref l1), some (.ref l2), some (.int l3), some (.int l4), none, none, some (.int l7), some (.int l8), some (.int l9), some (.int s0), none]) rfl g27 ⟨Nat.le_of_ble_eq_true rfl, Nat.le_of_ble_eq_true rfl, Nat.le_of_ble_eq_true rfl, Nat.le_of_ble_eq_true rfl⟩ (bd' := (0, 0)) rfl ?_
    refine (wq_Text_at_ok H).conI (fun v20 h19 H => ?_)
    refine wp_callsI rfl rfl rfl (Or.inr rfl) (lo' := [some (.ref l0), some (.ref l1), some (.ref l2), some (.int l3), some (.int l4), none, none, some (.int l7), some (.int l8), some (.int l9), some (.int s0), none]) rfl ⟨Nat.le_of_ble_eq_true rfl, Nat.le_of_ble_eq_true rfl, Nat.le_of_ble_eq_true rfl, Nat.le_of_ble_eq_true rfl⟩ (bd' := (0, 0)) rfl ?_
    refine (wq_Book_isStop_ok H).conI (fun v22 h21 H => ?_)
    refine wp_if_eq rfl (lo1 := [some (.ref l0), some (.ref l1), some (.ref l2), some (.int l3), some (.int l4), none, none, some (.int l7), some (.int l8), some (.int l9), none, none]) (lo2 := [some (.ref l0), some (.ref l1), some (.ref l2), some (.int l3), some (.int l4), none, none, some (.int l7), some (.int l8), some (.int l9), some (.int s0), none]) rfl rfl (fun q26 => ?_) (fun q26 => ?_)
    · have H := H.1 q26
      refine wp_iconstk (lo' := [some (.ref l0), some (.ref l1), some (.ref l2), some (.int l3), some (.int l4), none, none, some (.int l7), some (.int l8), some (.int l9), none, none]) rfl rfl ?_
      exact wb_Book_findEnds_133_ok H
    · have H := H.2 q26
      refine wp_aload_n rfl rfl ?_
      refine wp_iload rfl rfl ?_
      refine wp_callsI rfl rfl rfl (Or.inr rfl) (lo' := [some (.ref l0), some (.ref l1), some (.ref l2), some (.int l3), some (.int l4), none, none, some (.int l7), some (.int l8), some (.int l9), some (.int s0), none]) rfl ⟨Nat.le_of_ble_eq_true rfl, Nat.le_of_ble_eq_true rfl, Nat.le_of_ble_eq_true rfl, Nat.le_of_ble_eq_true rfl⟩ (bd' := (0, 0)) rfl ?_
      refine (wq_Book_isBlankOrEnd_ok H).conI (fun v24 h23 H => ?_)
      refine wp_if_eq rfl (lo1 := [some (.ref l0), some (.ref l1), some (.ref l2), some (.int l3), some (.int l4), none, none, some (.int l7), some (.int l8), some (.int l9), none, none]) (lo2 := [some (.ref l0), some (.ref l1), some (.ref l2), some (.int l3), some (.int l4), none, none, some (.int l7), some (.int l8), some (.int l9), some (.int s0), none]) rfl rfl (fun q25 => ?_) (fun q25 => ?_)
      · have H := H.1 q25
        refine wp_iconstk (lo' := [some (.ref l0), some (.ref l1), some (.ref l2), some (.int l3), some (.int l4), none, none, some (.int l7), some (.int l8), some (.int l9), none, none]) rfl rfl ?_
        exact wb_Book_findEnds_133_ok H
      · have H := H.2 q25
        refine wp_iconst rfl ?_
        refine wp_goto rfl (lo' := [some (.ref l0), some (.ref l1), some (.ref l2), some (.int l3), some (.int l4), none, none, some (.int l7), some (.int l8), some (.int l9), none, none]) rfl ?_
        exact wb_Book_findEnds_133_ok H
def wb_Book_findEnds_65 (l0 : Nat) (l1 : Nat) (l2 : Nat) (l3 : Int32) (l4 : Int32) (l5 : Int64) (l7 : Int32) (l8 : Int32) (l9 : Int32) (h : HP) (K : Int32 → HP → Prop) : Prop :=
  (l4 ≤ (20 : Int32) → isO h l1 7 ∧ wq_Text_at l1 l7 h (fun v11 h10 => (¬ v11 = (46 : Int32) → wb_Book_findEnds_100 l0 l1 l2 l3 l4 l7 l8 l9 (0 : Int32) h10 K) ∧ (v11 = (46 : Int32) → isO h10 l2 8 ∧ wq_Words_has l2 l5 h10 (fun v13 h12 => (v13 = 0 → wb_Book_findEnds_100 l0 l1 l2 l3 l4 l7 l8 l9 (0 : Int32) h12 K) ∧ (¬ v13 = 0 → wb_Book_findEnds_100 l0 l1 l2 l3 l4 l7 l8 l9 (1 : Int32) h12 K))))) ∧ (¬ l4 ≤ (20 : Int32) → K (-5 : Int32) h)
theorem wb_Book_findEnds_65_ok {l0 : Nat} {l1 : Nat} {l2 : Nat} {l3 : Int32} {l4 : Int32} {l5 : Int64} {l7 : Int32} {l8 : Int32} {l9 : Int32} {h : HP} {K : Int32 → HP → Prop} (H : wb_Book_findEnds_65 l0 l1 l2 l3 l4 l5 l7 l8 l9 h K) : Wp k_Book_findEnds 65 [some (.ref l0), some (.ref l1), some (.ref l2), some (.int l3), some (.int l4), some (.long l5), none, some (.int l7), some (.int l8), some (.int l9), none, none] [] h (0, 0) (QI K) := by
  unfold wb_Book_findEnds_65 at H
  refine wp_iload rfl rfl ?_
  refine wp_bipush rfl ?_
  refine wp_icmp_le rfl (lo1 := [some (.ref l0), some (.ref l1), some (.ref l2), some (.int l3), some (.int l4), some (.long l5), none, some (.int l7), some (.int l8), some (.int l9), none, none]) (lo2 := [some (.ref l0), some (.ref l1), some (.ref l2), some (.int l3), some (.int l4), some (.long l5), none, some (.int l7), some (.int l8), some (.int l9), none, none]) rfl rfl (fun q18 => ?_) (fun q18 => ?_)
  · have H := H.1 q18
    refine wp_aload_n rfl rfl ?_
    refine wp_iload rfl rfl ?_
    obtain ⟨g17, H⟩ := H
    refine wp_callvI rfl rfl (Or.inl rfl) (lo' := [some (.ref l0), some (.ref l1), some (.ref l2), some (.int l3), some (.int l4), some (.long l5), none, some (.int l7), some (.int l8), some (.int l9), none, none]) rfl g17 ⟨Nat.le_of_ble_eq_true rfl, Nat.le_of_ble_eq_true rfl, Nat.le_of_ble_eq_true rfl, Nat.le_of_ble_eq_true rfl⟩ (bd' := (0, 0)) rfl ?_
    refine (wq_Text_at_ok H).conI (fun v11 h10 H => ?_)
    refine wp_bipush rfl ?_
    refine wp_icmp_ne rfl (lo1 := [some (.ref l0), some (.ref l1), some (.ref l2), some (.int l3), some (.int l4), none, none, some (.int l7), some (.int l8), some (.int l9), none, none]) (lo2 := [some (.ref l0), some (.ref l1), some (.ref l2), some (.int l3), some (.int l4), some (.long l5), none, some (.int l7), some (.int l8), some (.int l9), none, none]) rfl rfl (fun q16 => ?_) (fun q16 => ?_)
    · have H := H.1 q16
      refine wp_iconstk (lo' := [some (.ref l0), some (.ref l1), some (.ref l2), some (.int l3), some (.int l4), none, none, some (.int l7), some (.int l8), some (.int l9), none, none]) rfl rfl ?_
      exact wb_Book_findEnds_100_ok H
    · have H := H.2 q16
      refine wp_aload_n rfl rfl ?_
      refine wp_lload rfl rfl ?_
      obtain ⟨g15, H⟩ := H
      refine wp_callvI rfl rfl (Or.inr rfl) (lo' := [some (.ref l0), some (.ref l1), some (.ref l2), some (.int l3), some (.int l4), some (.long l5), none, some (.int l7), some (.int l8), some (.int l9), none, none]) rfl g15 ⟨Nat.le_of_ble_eq_true rfl, Nat.le_of_ble_eq_true rfl, Nat.le_of_ble_eq_true rfl, Nat.le_of_ble_eq_true rfl⟩ (bd' := (0, 0)) rfl ?_
      refine (wq_Words_has_ok H).conI (fun v13 h12 H => ?_)
      refine wp_if_eq rfl (lo1 := [some (.ref l0), some (.ref l1), some (.ref l2), some (.int l3), some (.int l4), none, none, some (.int l7), some (.int l8), some (.int l9), none, none]) (lo2 := [some (.ref l0), some (.ref l1), some (.ref l2), some (.int l3), some (.int l4), some (.long l5), none, some (.int l7), some (.int l8), some (.int l9), none, none]) rfl rfl (fun q14 => ?_) (fun q14 => ?_)
      · have H := H.1 q14
        refine wp_iconstk (lo' := [some (.ref l0), some (.ref l1), some (.ref l2), some (.int l3), some (.int l4), none, none, some (.int l7), some (.int l8), some (.int l9), none, none]) rfl rfl ?_
        exact wb_Book_findEnds_100_ok H
      · have H := H.2 q14
        refine wp_iconst rfl ?_
        refine wp_goto rfl (lo' := [some (.ref l0), some (.ref l1), some (.ref l2), some (.int l3), some (.int l4), none, none, some (.int l7), some (.int l8), some (.int l9), none, none]) rfl ?_
        exact wb_Book_findEnds_100_ok H
  · have H := H.2 q18
    refine wp_bipush rfl ?_
    exact wp_iret rfl rfl H
def wb_Book_findEnds_11 (l0 : Nat) (l1 : Nat) (l2 : Nat) (l3 : Int32) (l4 : Int32) (l5 : Int64) (l7 : Int32) (h : HP) (K : Int32 → HP → Prop) : Prop :=
  isO h l1 7 ∧ (gI h l1 1 ≤ l7 → K l3 h) ∧ (¬ gI h l1 1 ≤ l7 → isO h l1 7 ∧ wq_Scan_kindAt l1 l7 (gI h l1 1) h (fun v2 h1 => isO h1 l1 7 ∧ wq_Scan_endOf l1 l7 (gI h1 l1 1) v2 (46 : Int32) h1 (fun v4 h3 => (v2 = (6 : Int32) → wb_Book_findEnds_65 l0 l1 l2 l3 l4 l5 l7 v2 (if l7 + (1 : Int32) < v4 then v4 else l7 + (1 : Int32)) h3 K) ∧ (¬ v2 = (6 : Int32) → wb_Book_findEnds_65 l0 l1 l2 l3 (l4 + (1 : Int32)) l5 l7 v2 (if l7 + (1 : Int32) < v4 then v4 else l7 + (1 : Int32)) h3 K))))
theorem wb_Book_findEnds_11_ok {l0 : Nat} {l1 : Nat} {l2 : Nat} {l3 : Int32} {l4 : Int32} {l5 : Int64} {l7 : Int32} {h : HP} {K : Int32 → HP → Prop} (H : wb_Book_findEnds_11 l0 l1 l2 l3 l4 l5 l7 h K) : Wp k_Book_findEnds 11 [some (.ref l0), some (.ref l1), some (.ref l2), some (.int l3), some (.int l4), some (.long l5), none, some (.int l7), none, none, none, none] [] h (0, 0) (QI K) := by
  unfold wb_Book_findEnds_11 at H
  refine wp_iload rfl rfl ?_
  refine wp_aload_n rfl rfl ?_
  obtain ⟨g9, H⟩ := H
  refine wp_getI rfl rfl g9 ?_
  refine wp_icmp_ge rfl (lo1 := [some (.ref l0), some (.ref l1), some (.ref l2), some (.int l3), some (.int l4), some (.long l5), none, some (.int l7), none, none, none, none]) (lo2 := [some (.ref l0), some (.ref l1), some (.ref l2), some (.int l3), some (.int l4), some (.long l5), none, some (.int l7), none, none, none, none]) rfl rfl (fun q8 => ?_) (fun q8 => ?_)
  · have H := H.1 q8
    refine wp_iload_n rfl rfl ?_
    exact wp_iret rfl rfl H
  · have H := H.2 q8
    refine wp_aload_n rfl rfl ?_
    refine wp_iload rfl rfl ?_
    refine wp_aload_n rfl rfl ?_
    obtain ⟨g7, H⟩ := H
    refine wp_getI rfl rfl g7 ?_
    refine wp_callsI rfl rfl rfl (Or.inl rfl) (lo' := [some (.ref l0), some (.ref l1), some (.ref l2), some (.int l3), some (.int l4), some (.long l5), none, some (.int l7), none, none, none, none]) rfl ⟨Nat.le_of_ble_eq_true rfl, Nat.le_of_ble_eq_true rfl, Nat.le_of_ble_eq_true rfl, Nat.le_of_ble_eq_true rfl⟩ (bd' := (0, 0)) rfl ?_
    refine (wq_Scan_kindAt_ok H).conI (fun v2 h1 H => ?_)
    refine wp_istore rfl rfl (lo' := [some (.ref l0), some (.ref l1), some (.ref l2), some (.int l3), some (.int l4), some (.long l5), none, some (.int l7), some (.int v2), none, none, none]) rfl ?_
    refine wp_iload rfl rfl ?_
    refine wp_iconst rfl ?_
    refine wp_iadd rfl ?_
    refine wp_aload_n rfl rfl ?_
    refine wp_iload rfl rfl ?_
    refine wp_aload_n rfl rfl ?_
    obtain ⟨g6, H⟩ := H
    refine wp_getI rfl rfl g6 ?_
    refine wp_iload rfl rfl ?_
    refine wp_bipush rfl ?_
    refine wp_callsI rfl rfl rfl (Or.inl rfl) (lo' := [some (.ref l0), some (.ref l1), some (.ref l2), some (.int l3), some (.int l4), some (.long l5), none, some (.int l7), some (.int v2), none, none, none]) rfl ⟨Nat.le_of_ble_eq_true rfl, Nat.le_of_ble_eq_true rfl, Nat.le_of_ble_eq_true rfl, Nat.le_of_ble_eq_true rfl⟩ (bd' := (0, 0)) rfl ?_
    refine (wq_Scan_endOf_ok H).conI (fun v4 h3 H => ?_)
    refine wp_max rfl (Nat.le_of_ble_eq_true rfl) (lo' := [some (.ref l0), some (.ref l1), some (.ref l2), some (.int l3), some (.int l4), some (.long l5), none, some (.int l7), some (.int v2), none, none, none]) rfl ?_
    refine wp_istore rfl rfl (lo' := [some (.ref l0), some (.ref l1), some (.ref l2), some (.int l3), some (.int l4), some (.long l5), none, some (.int l7), some (.int v2), some (.int (if l7 + (1 : Int32) < v4 then v4 else l7 + (1 : Int32))), none, none]) rfl ?_
    refine wp_iload rfl rfl ?_
    refine wp_bipush rfl ?_
    refine wp_icmp_eq rfl (lo1 := [some (.ref l0), some (.ref l1), some (.ref l2), some (.int l3), some (.int l4), some (.long l5), none, some (.int l7), some (.int v2), some (.int (if l7 + (1 : Int32) < v4 then v4 else l7 + (1 : Int32))), none, none]) (lo2 := [some (.ref l0), some (.ref l1), some (.ref l2), some (.int l3), some (.int l4), some (.long l5), none, some (.int l7), some (.int v2), some (.int (if l7 + (1 : Int32) < v4 then v4 else l7 + (1 : Int32))), none, none]) rfl rfl (fun q5 => ?_) (fun q5 => ?_)
    · have H := H.1 q5
      exact wb_Book_findEnds_65_ok H
    · have H := H.2 q5
      refine wp_iinc rfl rfl rfl (lo' := [some (.ref l0), some (.ref l1), some (.ref l2), some (.int l3), some (.int (l4 + (1 : Int32))), some (.long l5), none, some (.int l7), some (.int v2), some (.int (if l7 + (1 : Int32) < v4 then v4 else l7 + (1 : Int32))), none, none]) rfl ?_
      exact wb_Book_findEnds_65_ok H
def wq_Book_findEnds (p0 : Nat) (p1 : Nat) (p2 : Nat) (h : HP) (K : Int32 → HP → Prop) : Prop :=
  Wp k_Book_findEnds 11 [some (.ref p0), some (.ref p1), some (.ref p2), some (.int (0 : Int32)), some (.int (0 : Int32)), some (.long (lN 0)), none, some (.int (0 : Int32)), none, none, none, none] [] h (0, 0) (QI K)
theorem wq_Book_findEnds_ok {p0 : Nat} {p1 : Nat} {p2 : Nat} {h : HP} {K : Int32 → HP → Prop} (H : wq_Book_findEnds p0 p1 p2 h K) : Wp k_Book_findEnds 0 [some (.ref p0), some (.ref p1), some (.ref p2), none, none, none, none, none, none, none, none, none] [] h (0, 0) (QI K) := by
  unfold wq_Book_findEnds at H
  refine wp_iconst rfl ?_
  refine wp_istore_n rfl rfl (lo' := [some (.ref p0), some (.ref p1), some (.ref p2), some (.int (0 : Int32)), none, none, none, none, none, none, none, none]) rfl ?_
  refine wp_iconst rfl ?_
  refine wp_istore rfl rfl (lo' := [some (.ref p0), some (.ref p1), some (.ref p2), some (.int (0 : Int32)), some (.int (0 : Int32)), none, none, none, none, none, none, none]) rfl ?_
  refine wp_lconst rfl ?_
  refine wp_lstore rfl rfl (lo' := [some (.ref p0), some (.ref p1), some (.ref p2), some (.int (0 : Int32)), some (.int (0 : Int32)), some (.long (lN 0)), none, none, none, none, none, none]) rfl ?_
  refine wp_iconst rfl ?_
  refine wp_istore rfl rfl (lo' := [some (.ref p0), some (.ref p1), some (.ref p2), some (.int (0 : Int32)), some (.int (0 : Int32)), some (.long (lN 0)), none, some (.int (0 : Int32)), none, none, none, none]) rfl ?_
  exact H
def wb_Row_read_33 (l0 : Nat) (l1 : Nat) (l3 : Int32) (l4 : Int32) (l5 : Int32) (h : HP) (K : HP → Prop) : Prop :=
  (l3 ≤ l5 → K h) ∧ (¬ l3 ≤ l5 → wq_Scan_kindAt l1 l5 l3 h (fun v21 h20 => wq_Scan_endOf l1 l5 l3 v21 l4 h20 (fun v23 h22 => isO h22 l0 6 ∧ wq_Row_addPiece l0 v21 l5 ((if l5 + (1 : Int32) < v23 then v23 else l5 + (1 : Int32)) - l5) h22 (fun h24 => Wp k_Row_read 33 [some (.ref l0), some (.ref l1), none, some (.int l3), some (.int l4), some (.int (if l5 + (1 : Int32) < v23 then v23 else l5 + (1 : Int32))), none, none] [] h24 (0, 0) (QV K)))))
theorem wb_Row_read_33_ok {l0 : Nat} {l1 : Nat} {l3 : Int32} {l4 : Int32} {l5 : Int32} {h : HP} {K : HP → Prop} (H : wb_Row_read_33 l0 l1 l3 l4 l5 h K) : Wp k_Row_read 33 [some (.ref l0), some (.ref l1), none, some (.int l3), some (.int l4), some (.int l5), none, none] [] h (0, 0) (QV K) := by
  unfold wb_Row_read_33 at H
  refine wp_iload rfl rfl ?_
  refine wp_iload_n rfl rfl ?_
  refine wp_icmp_ge rfl (lo1 := [some (.ref l0), some (.ref l1), none, some (.int l3), some (.int l4), some (.int l5), none, none]) (lo2 := [some (.ref l0), some (.ref l1), none, some (.int l3), some (.int l4), some (.int l5), none, none]) rfl rfl (fun q26 => ?_) (fun q26 => ?_)
  · have H := H.1 q26
    exact wp_vret rfl rfl H
  · have H := H.2 q26
    refine wp_aload_n rfl rfl ?_
    refine wp_iload rfl rfl ?_
    refine wp_iload_n rfl rfl ?_
    refine wp_callsI rfl rfl rfl (Or.inl rfl) (lo' := [some (.ref l0), some (.ref l1), none, some (.int l3), some (.int l4), some (.int l5), none, none]) rfl ⟨Nat.le_of_ble_eq_true rfl, Nat.le_of_ble_eq_true rfl, Nat.le_of_ble_eq_true rfl, Nat.le_of_ble_eq_true rfl⟩ (bd' := (0, 0)) rfl ?_
    refine (wq_Scan_kindAt_ok H).conI (fun v21 h20 H => ?_)
    refine wp_istore rfl rfl (lo' := [some (.ref l0), some (.ref l1), none, some (.int l3), some (.int l4), some (.int l5), some (.int v21), none]) rfl ?_
    refine wp_iload rfl rfl ?_
    refine wp_iconst rfl ?_
    refine wp_iadd rfl ?_
    refine wp_aload_n rfl rfl ?_
    refine wp_iload rfl rfl ?_
    refine wp_iload_n rfl rfl ?_
    refine wp_iload rfl rfl ?_
    refine wp_iload rfl rfl ?_
    refine wp_callsI rfl rfl rfl (Or.inl rfl) (lo' := [some (.ref l0), some (.ref l1), none, some (.int l3), some (.int l4), some (.int l5), some (.int v21), none]) rfl ⟨Nat.le_of_ble_eq_true rfl, Nat.le_of_ble_eq_true rfl, Nat.le_of_ble_eq_true rfl, Nat.le_of_ble_eq_true rfl⟩ (bd' := (0, 0)) rfl ?_
    refine (wq_Scan_endOf_ok H).conI (fun v23 h22 H => ?_)
    refine wp_max rfl (Nat.le_of_ble_eq_true rfl) (lo' := [some (.ref l0), some (.ref l1), none, some (.int l3), some (.int l4), some (.int l5), some (.int v21), none]) rfl ?_
    refine wp_istore rfl rfl (lo' := [some (.ref l0), some (.ref l1), none, some (.int l3), some (.int l4), some (.int l5), some (.int v21), some (.int (if l5 + (1 : Int32) < v23 then v23 else l5 + (1 : Int32)))]) rfl ?_
    refine wp_aload_n rfl rfl ?_
    refine wp_iload rfl rfl ?_
    refine wp_iload rfl rfl ?_
    refine wp_iload rfl rfl ?_
    refine wp_iload rfl rfl ?_
    refine wp_isub rfl ?_
    obtain ⟨g25, H⟩ := H
    refine wp_callvV rfl rfl rfl (lo' := [some (.ref l0), some (.ref l1), none, some (.int l3), some (.int l4), some (.int l5), some (.int v21), some (.int (if l5 + (1 : Int32) < v23 then v23 else l5 + (1 : Int32)))]) rfl g25 ⟨Nat.le_of_ble_eq_true rfl, Nat.le_of_ble_eq_true rfl, Nat.le_of_ble_eq_true rfl, Nat.le_of_ble_eq_true rfl⟩ (bd' := (0, 0)) rfl ?_
    refine (wq_Row_addPiece_ok H).conV (fun h24 H => ?_)
    refine wp_iload rfl rfl ?_
    refine wp_istore rfl rfl (lo' := [some (.ref l0), some (.ref l1), none, some (.int l3), some (.int l4), some (.int (if l5 + (1 : Int32) < v23 then v23 else l5 + (1 : Int32))), some (.int v21), some (.int (if l5 + (1 : Int32) < v23 then v23 else l5 + (1 : Int32)))]) rfl ?_
    refine wp_goto rfl (lo' := [some (.ref l0), some (.ref l1), none, some (.int l3), some (.int l4), some (.int (if l5 + (1 : Int32) < v23 then v23 else l5 + (1 : Int32))), none, none]) rfl ?_
    exact H
def wq_Row_read (p0 : Nat) (p1 : Nat) (p2 : Int32) (p3 : Int32) (p4 : Int32) (h : HP) (K : HP → Prop) : Prop :=
  isO h p0 6 ∧ 0 < p1 ∧ (∀ h1 : HP, h1 = stR h p0 3 p1 → isO h1 p0 6 ∧ (∀ h2 : HP, h2 = stI h1 p0 4 p2 → isO h2 p0 6 ∧ (∀ h3 : HP, h3 = stI h2 p0 5 p3 → isO h3 p0 6 ∧ (∀ h4 : HP, h4 = stI h3 p0 6 (0 : Int32) → isO h4 p0 6 ∧ (∀ h5 : HP, h5 = stI h4 p0 7 (0 : Int32) → isO h5 p0 6 ∧ (∀ h6 : HP, h6 = stI h5 p0 8 (0 : Int32) → Wp k_Row_read 33 [some (.ref p0), some (.ref p1), none, some (.int p3), some (.int p4), some (.int p2), none, none] [] h6 (0, 0) (QV K)))))))
theorem wq_Row_read_ok {p0 : Nat} {p1 : Nat} {p2 : Int32} {p3 : Int32} {p4 : Int32} {h : HP} {K : HP → Prop} (H : wq_Row_read p0 p1 p2 p3 p4 h K) : Wp k_Row_read 0 [some (.ref p0), some (.ref p1), some (.int p2), some (.int p3), some (.int p4), none, none, none] [] h (0, 0) (QV K) := by
  unfold wq_Row_read at H
  refine wp_aload_n rfl rfl ?_
  refine wp_aload_n rfl rfl ?_
  obtain ⟨g17, g18, H⟩ := H
  obtain ⟨h1, e19⟩ : ∃ z : HP, z = stR h p0 3 p1 := ⟨_, rfl⟩
  have H := H h1 e19
  refine wp_putR rfl rfl g17 g18 e19 ?_
  refine wp_aload_n rfl rfl ?_
  refine wp_iload_n rfl rfl ?_
  obtain ⟨g15, H⟩ := H
  obtain ⟨h2, e16⟩ : ∃ z : HP, z = stI h1 p0 4 p2 := ⟨_, rfl⟩
  have H := H h2 e16
  refine wp_putI rfl rfl g15 e16 ?_
  refine wp_aload_n rfl rfl ?_
  refine wp_iload_n rfl rfl ?_
  obtain ⟨g13, H⟩ := H
  obtain ⟨h3, e14⟩ : ∃ z : HP, z = stI h2 p0 5 p3 := ⟨_, rfl⟩
  have H := H h3 e14
  refine wp_putI rfl rfl g13 e14 ?_
  refine wp_aload_n rfl rfl ?_
  refine wp_iconst rfl ?_
  obtain ⟨g11, H⟩ := H
  obtain ⟨h4, e12⟩ : ∃ z : HP, z = stI h3 p0 6 (0 : Int32) := ⟨_, rfl⟩
  have H := H h4 e12
  refine wp_putI rfl rfl g11 e12 ?_
  refine wp_aload_n rfl rfl ?_
  refine wp_iconst rfl ?_
  obtain ⟨g9, H⟩ := H
  obtain ⟨h5, e10⟩ : ∃ z : HP, z = stI h4 p0 7 (0 : Int32) := ⟨_, rfl⟩
  have H := H h5 e10
  refine wp_putI rfl rfl g9 e10 ?_
  refine wp_aload_n rfl rfl ?_
  refine wp_iconst rfl ?_
  obtain ⟨g7, H⟩ := H
  obtain ⟨h6, e8⟩ : ∃ z : HP, z = stI h5 p0 8 (0 : Int32) := ⟨_, rfl⟩
  have H := H h6 e8
  refine wp_putI rfl rfl g7 e8 ?_
  refine wp_iload_n rfl rfl ?_
  refine wp_istore rfl rfl (lo' := [some (.ref p0), some (.ref p1), none, some (.int p3), some (.int p4), some (.int p2), none, none]) rfl ?_
  exact H
def wq_K_like (p0 : Nat) (p1 : Int32) (p2 : Int32) (h : HP) (K : Int32 → HP → Prop) : Prop :=
  isO h p0 9 ∧ wq_K_isSegment p0 p1 h (fun v2 h1 => (v2 = 0 → K (-1 : Int32) h1) ∧ (¬ v2 = 0 → isO h1 p0 9 ∧ wq_K_isPair p0 p2 h1 (fun v4 h3 => (¬ v4 = 0 → isO h3 p0 9 ∧ wq_K_isLikeSource p0 p1 p2 h3 (fun v6 h5 => (v6 = 0 → K (0 : Int32) h5) ∧ (¬ v6 = 0 → K (1 : Int32) h5))) ∧ (v4 = 0 → K (-1 : Int32) h3))))
theorem wq_K_like_ok {p0 : Nat} {p1 : Int32} {p2 : Int32} {h : HP} {K : Int32 → HP → Prop} (H : wq_K_like p0 p1 p2 h K) : Wp k_K_like 0 [some (.ref p0), some (.int p1), some (.int p2)] [] h (0, 0) (QI K) := by
  unfold wq_K_like at H
  refine wp_aload_n rfl rfl ?_
  refine wp_iload_n rfl rfl ?_
  obtain ⟨g12, H⟩ := H
  refine wp_callvI rfl rfl (Or.inr rfl) (lo' := [some (.ref p0), some (.int p1), some (.int p2)]) rfl g12 ⟨Nat.le_of_ble_eq_true rfl, Nat.le_of_ble_eq_true rfl, Nat.le_of_ble_eq_true rfl, Nat.le_of_ble_eq_true rfl⟩ (bd' := (0, 0)) rfl ?_
  refine (wq_K_isSegment_ok H).conI (fun v2 h1 H => ?_)
  refine wp_if_eq rfl (lo1 := [none, none, none]) (lo2 := [some (.ref p0), some (.int p1), some (.int p2)]) rfl rfl (fun q11 => ?_) (fun q11 => ?_)
  · have H := H.1 q11
    refine wp_iconst rfl ?_
    exact wp_iret rfl rfl H
  · have H := H.2 q11
    refine wp_aload_n rfl rfl ?_
    refine wp_iload_n rfl rfl ?_
    obtain ⟨g10, H⟩ := H
    refine wp_callvI rfl rfl (Or.inr rfl) (lo' := [some (.ref p0), some (.int p1), some (.int p2)]) rfl g10 ⟨Nat.le_of_ble_eq_true rfl, Nat.le_of_ble_eq_true rfl, Nat.le_of_ble_eq_true rfl, Nat.le_of_ble_eq_true rfl⟩ (bd' := (0, 0)) rfl ?_
    refine (wq_K_isPair_ok H).conI (fun v4 h3 H => ?_)
    refine wp_if_ne rfl (lo1 := [some (.ref p0), some (.int p1), some (.int p2)]) (lo2 := [none, none, none]) rfl rfl (fun q9 => ?_) (fun q9 => ?_)
    · have H := H.1 q9
      refine wp_aload_n rfl rfl ?_
      refine wp_iload_n rfl rfl ?_
      refine wp_iload_n rfl rfl ?_
      obtain ⟨g8, H⟩ := H
      refine wp_callvI rfl rfl (Or.inr rfl) (lo' := [some (.ref p0), some (.int p1), some (.int p2)]) rfl g8 ⟨Nat.le_of_ble_eq_true rfl, Nat.le_of_ble_eq_true rfl, Nat.le_of_ble_eq_true rfl, Nat.le_of_ble_eq_true rfl⟩ (bd' := (0, 0)) rfl ?_
      refine (wq_K_isLikeSource_ok H).conI (fun v6 h5 H => ?_)
      refine wp_if_eq rfl (lo1 := [some (.ref p0), some (.int p1), some (.int p2)]) (lo2 := [some (.ref p0), some (.int p1), some (.int p2)]) rfl rfl (fun q7 => ?_) (fun q7 => ?_)
      · have H := H.1 q7
        refine wp_iconstk (lo' := [none, none, none]) rfl rfl ?_
        exact wp_iret rfl rfl H
      · have H := H.2 q7
        refine wp_iconst rfl ?_
        refine wp_goto rfl (lo' := [none, none, none]) rfl ?_
        exact wp_iret rfl rfl H
    · have H := H.2 q9
      refine wp_iconst rfl ?_
      exact wp_iret rfl rfl H
def wq_K_differ (p0 : Nat) (p1 : Int32) (p2 : Int32) (h : HP) (K : Int32 → HP → Prop) : Prop :=
  isO h p0 9 ∧ wq_K_isPair p0 p1 h (fun v2 h1 => (v2 = 0 → K (-1 : Int32) h1) ∧ (¬ v2 = 0 → isO h1 p0 9 ∧ wq_K_isSegment p0 p2 h1 (fun v4 h3 => (¬ v4 = 0 → isO h3 p0 9 ∧ 0 < gR h3 p0 4 ∧ isO h3 p0 9 ∧ 0 < gR h3 p0 2 ∧ isO h3 (gR h3 p0 2) 2 ∧ 0 < gR h3 (gR h3 p0 2) 1 ∧ 0 < gR h3 (gR h3 p0 2) 1 ∧ gR h3 (gR h3 p0 2) 1 < gS h3 ∧ (gK h3 (gR h3 (gR h3 p0 2) 1) = 104 ∨ gK h3 (gR h3 (gR h3 p0 2) 1) = 105) ∧ vp_in p1 (gL h3 (gR h3 (gR h3 p0 2) 1)) ∧ 0 < gR h3 (gR h3 (gR h3 p0 2) 1) p1.toNatClampNeg ∧ isO h3 p0 9 ∧ 0 < gR h3 p0 1 ∧ isO h3 (gR h3 p0 1) 0 ∧ 0 < gR h3 (gR h3 p0 1) 1 ∧ 0 < gR h3 (gR h3 p0 1) 1 ∧ gR h3 (gR h3 p0 1) 1 < gS h3 ∧ (gK h3 (gR h3 (gR h3 p0 1) 1) = 104 ∨ gK h3 (gR h3 (gR h3 p0 1) 1) = 105) ∧ vp_in p2 (gL h3 (gR h3 (gR h3 p0 1) 1)) ∧ 0 < gR h3 (gR h3 (gR h3 p0 1) 1) p2.toNatClampNeg ∧ isO h3 (gR h3 p0 4) 1 ∧ wq_Ladder_tell (gR h3 p0 4) (gR h3 (gR h3 (gR h3 p0 2) 1) p1.toNatClampNeg) (gR h3 (gR h3 (gR h3 p0 1) 1) p2.toNatClampNeg) h3 (fun h5 => isO h5 p0 9 ∧ 0 < gR h5 p0 4 ∧ isO h5 (gR h5 p0 4) 1 ∧ K (gI h5 (gR h5 p0 4) 4) h5)) ∧ (v4 = 0 → K (-1 : Int32) h3))))
theorem wq_K_differ_ok {p0 : Nat} {p1 : Int32} {p2 : Int32} {h : HP} {K : Int32 → HP → Prop} (H : wq_K_differ p0 p1 p2 h K) : Wp k_K_differ 0 [some (.ref p0), some (.int p1), some (.int p2)] [] h (0, 0) (QI K) := by
  unfold wq_K_differ at H
  refine wp_aload_n rfl rfl ?_
  refine wp_iload_n rfl rfl ?_
  obtain ⟨g33, H⟩ := H
  refine wp_callvI rfl rfl (Or.inr rfl) (lo' := [some (.ref p0), some (.int p1), some (.int p2)]) rfl g33 ⟨Nat.le_of_ble_eq_true rfl, Nat.le_of_ble_eq_true rfl, Nat.le_of_ble_eq_true rfl, Nat.le_of_ble_eq_true rfl⟩ (bd' := (0, 0)) rfl ?_
  refine (wq_K_isPair_ok H).conI (fun v2 h1 H => ?_)
  refine wp_if_eq rfl (lo1 := [none, none, none]) (lo2 := [some (.ref p0), some (.int p1), some (.int p2)]) rfl rfl (fun q32 => ?_) (fun q32 => ?_)
  · have H := H.1 q32
    refine wp_iconst rfl ?_
    exact wp_iret rfl rfl H
  · have H := H.2 q32
    refine wp_aload_n rfl rfl ?_
    refine wp_iload_n rfl rfl ?_
    obtain ⟨g31, H⟩ := H
    refine wp_callvI rfl rfl (Or.inr rfl) (lo' := [some (.ref p0), some (.int p1), some (.int p2)]) rfl g31 ⟨Nat.le_of_ble_eq_true rfl, Nat.le_of_ble_eq_true rfl, Nat.le_of_ble_eq_true rfl, Nat.le_of_ble_eq_true rfl⟩ (bd' := (0, 0)) rfl ?_
    refine (wq_K_isSegment_ok H).conI (fun v4 h3 H => ?_)
    refine wp_if_ne rfl (lo1 := [some (.ref p0), some (.int p1), some (.int p2)]) (lo2 := [none, none, none]) rfl rfl (fun q30 => ?_) (fun q30 => ?_)
    · have H := H.1 q30
      refine wp_aload_n rfl rfl ?_
      obtain ⟨g28, g29, H⟩ := H
      refine wp_getR rfl rfl g28 g29 ?_
      refine wp_aload_n rfl rfl ?_
      obtain ⟨g26, g27, H⟩ := H
      refine wp_getR rfl rfl g26 g27 ?_
      obtain ⟨g24, g25, H⟩ := H
      refine wp_getR rfl rfl g24 g25 ?_
      refine wp_iload_n rfl rfl ?_
      obtain ⟨g19, g20, g21, g22, g23, H⟩ := H
      refine wp_aald rfl g19 g20 g21 g22 g23 ?_
      refine wp_aload_n rfl rfl ?_
      obtain ⟨g17, g18, H⟩ := H
      refine wp_getR rfl rfl g17 g18 ?_
      obtain ⟨g15, g16, H⟩ := H
      refine wp_getR rfl rfl g15 g16 ?_
      refine wp_iload_n rfl rfl ?_
      obtain ⟨g10, g11, g12, g13, g14, H⟩ := H
      refine wp_aald rfl g10 g11 g12 g13 g14 ?_
      obtain ⟨g9, H⟩ := H
      refine wp_callvV rfl rfl rfl (lo' := [some (.ref p0), some (.int p1), some (.int p2)]) rfl g9 ⟨Nat.le_of_ble_eq_true rfl, Nat.le_of_ble_eq_true rfl, Nat.le_of_ble_eq_true rfl, Nat.le_of_ble_eq_true rfl⟩ (bd' := (0, 0)) rfl ?_
      refine (wq_Ladder_tell_ok H).conV (fun h5 H => ?_)
      refine wp_aload_n rfl rfl ?_
      obtain ⟨g7, g8, H⟩ := H
      refine wp_getR rfl rfl g7 g8 ?_
      obtain ⟨g6, H⟩ := H
      refine wp_getI rfl rfl g6 ?_
      exact wp_iret rfl rfl H
    · have H := H.2 q30
      refine wp_iconst rfl ?_
      exact wp_iret rfl rfl H
def wb_K_spread_14 (l0 : Nat) (l1 : Int32) (l2 : Int32) (l3 : Int32) (h : HP) (K : Int32 → HP → Prop) : Prop :=
  isO h l0 9 ∧ 0 < gR h l0 1 ∧ isO h (gR h l0 1) 0 ∧ (gI h (gR h l0 1) 3 ≤ l3 → K l2 h) ∧ (¬ gI h (gR h l0 1) 3 ≤ l3 → isO h l0 9 ∧ wq_K_isLikeSource l0 l3 l1 h (fun v6 h5 => (v6 = 0 → Wp k_K_spread 14 [some (.ref l0), some (.int l1), some (.int l2), some (.int (l3 + (1 : Int32)))] [] h5 (0, 0) (QI K)) ∧ (¬ v6 = 0 → Wp k_K_spread 14 [some (.ref l0), some (.int l1), some (.int (l2 + (1 : Int32))), some (.int (l3 + (1 : Int32)))] [] h5 (0, 0) (QI K))))
theorem wb_K_spread_14_ok {l0 : Nat} {l1 : Int32} {l2 : Int32} {l3 : Int32} {h : HP} {K : Int32 → HP → Prop} (H : wb_K_spread_14 l0 l1 l2 l3 h K) : Wp k_K_spread 14 [some (.ref l0), some (.int l1), some (.int l2), some (.int l3)] [] h (0, 0) (QI K) := by
  unfold wb_K_spread_14 at H
  refine wp_iload_n rfl rfl ?_
  refine wp_aload_n rfl rfl ?_
  obtain ⟨g11, g12, H⟩ := H
  refine wp_getR rfl rfl g11 g12 ?_
  obtain ⟨g10, H⟩ := H
  refine wp_getI rfl rfl g10 ?_
  refine wp_icmp_ge rfl (lo1 := [some (.ref l0), some (.int l1), some (.int l2), some (.int l3)]) (lo2 := [some (.ref l0), some (.int l1), some (.int l2), some (.int l3)]) rfl rfl (fun q9 => ?_) (fun q9 => ?_)
  · have H := H.1 q9
    refine wp_iload_n rfl rfl ?_
    exact wp_iret rfl rfl H
  · have H := H.2 q9
    refine wp_aload_n rfl rfl ?_
    refine wp_iload_n rfl rfl ?_
    refine wp_iload_n rfl rfl ?_
    obtain ⟨g8, H⟩ := H
    refine wp_callvI rfl rfl (Or.inr rfl) (lo' := [some (.ref l0), some (.int l1), some (.int l2), some (.int l3)]) rfl g8 ⟨Nat.le_of_ble_eq_true rfl, Nat.le_of_ble_eq_true rfl, Nat.le_of_ble_eq_true rfl, Nat.le_of_ble_eq_true rfl⟩ (bd' := (0, 0)) rfl ?_
    refine (wq_K_isLikeSource_ok H).conI (fun v6 h5 H => ?_)
    refine wp_if_eq rfl (lo1 := [some (.ref l0), some (.int l1), some (.int l2), some (.int l3)]) (lo2 := [some (.ref l0), some (.int l1), some (.int l2), some (.int l3)]) rfl rfl (fun q7 => ?_) (fun q7 => ?_)
    · have H := H.1 q7
      refine wp_iinc rfl rfl rfl (lo' := [some (.ref l0), some (.int l1), some (.int l2), some (.int (l3 + (1 : Int32)))]) rfl ?_
      refine wp_goto rfl (lo' := [some (.ref l0), some (.int l1), some (.int l2), some (.int (l3 + (1 : Int32)))]) rfl ?_
      exact H
    · have H := H.2 q7
      refine wp_iinc rfl rfl rfl (lo' := [some (.ref l0), some (.int l1), some (.int (l2 + (1 : Int32))), some (.int l3)]) rfl ?_
      refine wp_iinc rfl rfl rfl (lo' := [some (.ref l0), some (.int l1), some (.int (l2 + (1 : Int32))), some (.int (l3 + (1 : Int32)))]) rfl ?_
      refine wp_goto rfl (lo' := [some (.ref l0), some (.int l1), some (.int (l2 + (1 : Int32))), some (.int (l3 + (1 : Int32)))]) rfl ?_
      exact H
def wq_K_spread (p0 : Nat) (p1 : Int32) (h : HP) (K : Int32 → HP → Prop) : Prop :=
  isO h p0 9 ∧ wq_K_isPair p0 p1 h (fun v2 h1 => (¬ v2 = 0 → Wp k_K_spread 14 [some (.ref p0), some (.int p1), some (.int (0 : Int32)), some (.int (0 : Int32))] [] h1 (0, 0) (QI K)) ∧ (v2 = 0 → K (-1 : Int32) h1))
theorem wq_K_spread_ok {p0 : Nat} {p1 : Int32} {h : HP} {K : Int32 → HP → Prop} (H : wq_K_spread p0 p1 h K) : Wp k_K_spread 0 [some (.ref p0), some (.int p1), none, none] [] h (0, 0) (QI K) := by
  unfold wq_K_spread at H
  refine wp_aload_n rfl rfl ?_
  refine wp_iload_n rfl rfl ?_
  obtain ⟨g4, H⟩ := H
  refine wp_callvI rfl rfl (Or.inr rfl) (lo' := [some (.ref p0), some (.int p1), none, none]) rfl g4 ⟨Nat.le_of_ble_eq_true rfl, Nat.le_of_ble_eq_true rfl, Nat.le_of_ble_eq_true rfl, Nat.le_of_ble_eq_true rfl⟩ (bd' := (0, 0)) rfl ?_
  refine (wq_K_isPair_ok H).conI (fun v2 h1 H => ?_)
  refine wp_if_ne rfl (lo1 := [some (.ref p0), some (.int p1), none, none]) (lo2 := [some (.ref p0), some (.int p1), none, none]) rfl rfl (fun q3 => ?_) (fun q3 => ?_)
  · have H := H.1 q3
    refine wp_iconst rfl ?_
    refine wp_istore_n rfl rfl (lo' := [some (.ref p0), some (.int p1), some (.int (0 : Int32)), none]) rfl ?_
    refine wp_iconst rfl ?_
    refine wp_istore_n rfl rfl (lo' := [some (.ref p0), some (.int p1), some (.int (0 : Int32)), some (.int (0 : Int32))]) rfl ?_
    exact H
  · have H := H.2 q3
    refine wp_iconst rfl ?_
    exact wp_iret rfl rfl H
def wq_K_scoreOf (p0 : Nat) (p1 : Int32) (p2 : Int32) (h : HP) (K : Int32 → HP → Prop) : Prop :=
  isO h p0 9 ∧ 0 < gR h p0 3 ∧ isO h p0 9 ∧ 0 < gR h p0 2 ∧ isO h (gR h p0 2) 2 ∧ 0 < gR h (gR h p0 2) 1 ∧ 0 < gR h (gR h p0 2) 1 ∧ gR h (gR h p0 2) 1 < gS h ∧ (gK h (gR h (gR h p0 2) 1) = 104 ∨ gK h (gR h (gR h p0 2) 1) = 105) ∧ vp_in p2 (gL h (gR h (gR h p0 2) 1)) ∧ 0 < gR h (gR h (gR h p0 2) 1) p2.toNatClampNeg ∧ isO h p0 9 ∧ 0 < gR h p0 1 ∧ isO h (gR h p0 1) 0 ∧ 0 < gR h (gR h p0 1) 1 ∧ 0 < gR h (gR h p0 1) 1 ∧ gR h (gR h p0 1) 1 < gS h ∧ (gK h (gR h (gR h p0 1) 1) = 104 ∨ gK h (gR h (gR h p0 1) 1) = 105) ∧ vp_in p1 (gL h (gR h (gR h p0 1) 1)) ∧ 0 < gR h (gR h (gR h p0 1) 1) p1.toNatClampNeg ∧ isO h (gR h p0 3) 3 ∧ wq_Near_between (gR h p0 3) p2 (gR h (gR h (gR h p0 2) 1) p2.toNatClampNeg) p1 (gR h (gR h (gR h p0 1) 1) p1.toNatClampNeg) h (fun v2 h1 => K v2 h1)
theorem wq_K_scoreOf_ok {p0 : Nat} {p1 : Int32} {p2 : Int32} {h : HP} {K : Int32 → HP → Prop} (H : wq_K_scoreOf p0 p1 p2 h K) : Wp k_K_scoreOf 0 [some (.ref p0), some (.int p1), some (.int p2)] [] h (0, 0) (QI K) := by
  unfold wq_K_scoreOf at H
  refine wp_aload_n rfl rfl ?_
  obtain ⟨g22, g23, H⟩ := H
  refine wp_getR rfl rfl g22 g23 ?_
  refine wp_iload_n rfl rfl ?_
  refine wp_aload_n rfl rfl ?_
  obtain ⟨g20, g21, H⟩ := H
  refine wp_getR rfl rfl g20 g21 ?_
  obtain ⟨g18, g19, H⟩ := H
  refine wp_getR rfl rfl g18 g19 ?_
  refine wp_iload_n rfl rfl ?_
  obtain ⟨g13, g14, g15, g16, g17, H⟩ := H
  refine wp_aald rfl g13 g14 g15 g16 g17 ?_
  refine wp_iload_n rfl rfl ?_
  refine wp_aload_n rfl rfl ?_
  obtain ⟨g11, g12, H⟩ := H
  refine wp_getR rfl rfl g11 g12 ?_
  obtain ⟨g9, g10, H⟩ := H
  refine wp_getR rfl rfl g9 g10 ?_
  refine wp_iload_n rfl rfl ?_
  obtain ⟨g4, g5, g6, g7, g8, H⟩ := H
  refine wp_aald rfl g4 g5 g6 g7 g8 ?_
  obtain ⟨g3, H⟩ := H
  refine wp_callvI rfl rfl (Or.inl rfl) (lo' := [some (.ref p0), some (.int p1), some (.int p2)]) rfl g3 ⟨Nat.le_of_ble_eq_true rfl, Nat.le_of_ble_eq_true rfl, Nat.le_of_ble_eq_true rfl, Nat.le_of_ble_eq_true rfl⟩ (bd' := (0, 0)) rfl ?_
  refine (wq_Near_between_ok H).conI (fun v2 h1 H => ?_)
  exact wp_iret rfl rfl H
def wq_M_segment (p0 : Nat) (p1 : Int32) (p2 : Int32) (h : HP) (K : Int32 → HP → Prop) : Prop :=
  isO h p0 10 ∧ wq_M_isSegment p0 p1 h (fun v2 h1 => (¬ v2 = 0 → isO h1 p0 10 ∧ wq_M_readSegment p0 (1 : Int32) p1 h1 (fun h3 => (¬ p2 = 0 → ¬ p2 = 1 → ¬ p2 = 2 → ¬ p2 = 3 → ¬ p2 = 4 → ¬ p2 = 5 → K (-1 : Int32) h3) ∧ (p2 = 0 → isO h3 p0 10 ∧ 0 < gR h3 p0 16 ∧ isL h3 (gR h3 p0 16) 100 p1 ∧ K (gI h3 (gR h3 p0 16) p1.toNatClampNeg) h3) ∧ (p2 = 1 → isO h3 p0 10 ∧ 0 < gR h3 p0 17 ∧ isL h3 (gR h3 p0 17) 100 p1 ∧ K (gI h3 (gR h3 p0 17) p1.toNatClampNeg) h3) ∧ (p2 = 2 → isO h3 p0 10 ∧ 0 < gR h3 p0 6 ∧ isL h3 (gR h3 p0 6) 100 (1 : Int32) ∧ K (gI h3 (gR h3 p0 6) (1 : Int32).toNatClampNeg) h3) ∧ (p2 = 3 → isO h3 p0 10 ∧ 0 < gR h3 p0 7 ∧ isL h3 (gR h3 p0 7) 100 (1 : Int32) ∧ K (gI h3 (gR h3 p0 7) (1 : Int32).toNatClampNeg) h3) ∧ (p2 = 4 → isO h3 p0 10 ∧ wq_M_wordsOf p0 (1 : Int32) h3 (fun v17 h16 => K v17 h16)) ∧ (p2 = 5 → isO h3 p0 10 ∧ wq_M_isTorn p0 (1 : Int32) h3 (fun v20 h19 => (v20 = 0 → K (0 : Int32) h19) ∧ (¬ v20 = 0 → K (1 : Int32) h19))))) ∧ (v2 = 0 → K (-1 : Int32) h1))
set_option maxRecDepth 100000 in
set_option maxHeartbeats 4000000 in
theorem wq_M_segment_ok {p0 : Nat} {p1 : Int32} {p2 : Int32} {h : HP} {K : Int32 → HP → Prop} (H : wq_M_segment p0 p1 p2 h K) : Wp k_M_segment 0 [some (.ref p0), some (.int p1), some (.int p2)] [] h (0, 0) (QI K) := by
  unfold wq_M_segment at H
  refine wp_aload_n rfl rfl ?_
  refine wp_iload_n rfl rfl ?_
  obtain ⟨g26, H⟩ := H
  refine wp_callvI rfl rfl (Or.inr rfl) (lo' := [some (.ref p0), some (.int p1), some (.int p2)]) rfl g26 ⟨Nat.le_of_ble_eq_true rfl, Nat.le_of_ble_eq_true rfl, Nat.le_of_ble_eq_true rfl, Nat.le_of_ble_eq_true rfl⟩ (bd' := (0, 0)) rfl ?_
  refine (wq_M_isSegment_ok H).conI (fun v2 h1 H => ?_)
  refine wp_if_ne rfl (lo1 := [some (.ref p0), some (.int p1), some (.int p2)]) (lo2 := [some (.ref p0), some (.int p1), some (.int p2)]) rfl rfl (fun q25 => ?_) (fun q25 => ?_)
  · have H := H.1 q25
    refine wp_aload_n rfl rfl ?_
    refine wp_iconst rfl ?_
    refine wp_iload_n rfl rfl ?_
    obtain ⟨g24, H⟩ := H
    refine wp_callvV rfl rfl rfl (lo' := [some (.ref p0), some (.int p1), some (.int p2)]) rfl g24 ⟨Nat.le_of_ble_eq_true rfl, Nat.le_of_ble_eq_true rfl, Nat.le_of_ble_eq_true rfl, Nat.le_of_ble_eq_true rfl⟩ (bd' := (0, 0)) rfl ?_
    refine (wq_M_readSegment_ok H).conV (fun h3 H => ?_)
    refine wp_iload_n rfl rfl ?_
    refine wp_table rfl (lo' := [some (.ref p0), some (.int p1), some (.int p2)]) rfl (fun q23 => ?_) (fun i off ho hx => ?_)
    · have H := H.1 (sw_ne q23 (by decide)) (sw_ne q23 (by decide)) (sw_ne q23 (by decide)) (sw_ne q23 (by decide)) (sw_ne q23 (by decide)) (sw_ne q23 (by decide))
      refine wp_iconst rfl ?_
      exact wp_iret rfl rfl H
    · match i, ho, hx with
      | 0, ho, hx =>
        cases ho
        have H := H.2.1 (sw_eq hx (by decide))
        show Wp k_M_segment 56 _ _ _ _ _
        refine wp_aload_n rfl rfl ?_
        obtain ⟨g5, g6, H⟩ := H
        refine wp_getR rfl rfl g5 g6 ?_
        refine wp_iload_n rfl rfl ?_
        obtain ⟨g4, H⟩ := H
        refine wp_iald rfl g4 ?_
        exact wp_iret rfl rfl H
      | 1, ho, hx =>
        cases ho
        have H := H.2.2.1 (sw_eq hx (by decide))
        show Wp k_M_segment 63 _ _ _ _ _
        refine wp_aload_n rfl rfl ?_
        obtain ⟨g8, g9, H⟩ := H
        refine wp_getR rfl rfl g8 g9 ?_
        refine wp_iload_n rfl rfl ?_
        obtain ⟨g7, H⟩ := H
        refine wp_iald rfl g7 ?_
        exact wp_iret rfl rfl H
      | 2, ho, hx =>
        cases ho
        have H := H.2.2.2.1 (sw_eq hx (by decide))
        show Wp k_M_segment 70 _ _ _ _ _
        refine wp_aload_n rfl rfl ?_
        obtain ⟨g11, g12, H⟩ := H
        refine wp_getR rfl rfl g11 g12 ?_
        refine wp_iconst rfl ?_
        obtain ⟨g10, H⟩ := H
        refine wp_iald rfl g10 ?_
        exact wp_iret rfl rfl H
      | 3, ho, hx =>
        cases ho
        have H := H.2.2.2.2.1 (sw_eq hx (by decide))
        show Wp k_M_segment 77 _ _ _ _ _
        refine wp_aload_n rfl rfl ?_
        obtain ⟨g14, g15, H⟩ := H
        refine wp_getR rfl rfl g14 g15 ?_
        refine wp_iconst rfl ?_
        obtain ⟨g13, H⟩ := H
        refine wp_iald rfl g13 ?_
        exact wp_iret rfl rfl H
      | 4, ho, hx =>
        cases ho
        have H := H.2.2.2.2.2.1 (sw_eq hx (by decide))
        show Wp k_M_segment 84 _ _ _ _ _
        refine wp_aload_n rfl rfl ?_
        refine wp_iconst rfl ?_
        obtain ⟨g18, H⟩ := H
        refine wp_callvI rfl rfl (Or.inl rfl) (lo' := [some (.ref p0), some (.int p1), some (.int p2)]) rfl g18 ⟨Nat.le_of_ble_eq_true rfl, Nat.le_of_ble_eq_true rfl, Nat.le_of_ble_eq_true rfl, Nat.le_of_ble_eq_true rfl⟩ (bd' := (0, 0)) rfl ?_
        refine (wq_M_wordsOf_ok H).conI (fun v17 h16 H => ?_)
        exact wp_iret rfl rfl H
      | 5, ho, hx =>
        cases ho
        have H := H.2.2.2.2.2.2 (sw_eq hx (by decide))
        show Wp k_M_segment 90 _ _ _ _ _
        refine wp_aload_n rfl rfl ?_
        refine wp_iconst rfl ?_
        obtain ⟨g22, H⟩ := H
        refine wp_callvI rfl rfl (Or.inr rfl) (lo' := [some (.ref p0), some (.int p1), some (.int p2)]) rfl g22 ⟨Nat.le_of_ble_eq_true rfl, Nat.le_of_ble_eq_true rfl, Nat.le_of_ble_eq_true rfl, Nat.le_of_ble_eq_true rfl⟩ (bd' := (0, 0)) rfl ?_
        refine (wq_M_isTorn_ok H).conI (fun v20 h19 H => ?_)
        refine wp_if_eq rfl (lo1 := [some (.ref p0), some (.int p1), some (.int p2)]) (lo2 := [some (.ref p0), some (.int p1), some (.int p2)]) rfl rfl (fun q21 => ?_) (fun q21 => ?_)
        · have H := H.1 q21
          refine wp_iconstk (lo' := [none, none, none]) rfl rfl ?_
          exact wp_iret rfl rfl H
        · have H := H.2 q21
          refine wp_iconst rfl ?_
          refine wp_goto rfl (lo' := [none, none, none]) rfl ?_
          exact wp_iret rfl rfl H
      | i + 6, ho, _ => exact absurd ho (by simp)
  · have H := H.2 q25
    refine wp_iconst rfl ?_
    exact wp_iret rfl rfl H
def wq_M_piece (p0 : Nat) (p1 : Int32) (p2 : Int32) (p3 : Int32) (h : HP) (K : Int32 → HP → Prop) : Prop :=
  isO h p0 10 ∧ wq_M_isSegment p0 p1 h (fun v2 h1 => (¬ v2 = 0 → isO h1 p0 10 ∧ wq_M_readSegment p0 (1 : Int32) p1 h1 (fun h3 => isO h3 p0 10 ∧ 0 < gR h3 p0 7 ∧ isL h3 (gR h3 p0 7) 100 (1 : Int32) ∧ wq_M_in p2 (0 : Int32) ((gI h3 (gR h3 p0 7) (1 : Int32).toNatClampNeg) - (1 : Int32)) h3 (fun v5 h4 => (¬ v5 = 0 → (¬ p3 = 0 → (¬ p3 = (1 : Int32) → (¬ p3 = (2 : Int32) → K (-1 : Int32) h4) ∧ (p3 = (2 : Int32) → isO h4 p0 10 ∧ 0 < gR h4 p0 5 ∧ isL h4 (gR h4 p0 5) 100 ((600 : Int32) + p2) ∧ K (gI h4 (gR h4 p0 5) ((600 : Int32) + p2).toNatClampNeg) h4)) ∧ (p3 = (1 : Int32) → isO h4 p0 10 ∧ 0 < gR h4 p0 4 ∧ isL h4 (gR h4 p0 4) 100 ((600 : Int32) + p2) ∧ K ((gI h4 (gR h4 p0 4) ((600 : Int32) + p2).toNatClampNeg) - (600 : Int32)) h4)) ∧ (p3 = 0 → isO h4 p0 10 ∧ 0 < gR h4 p0 3 ∧ isL h4 (gR h4 p0 3) 100 ((600 : Int32) + p2) ∧ K (gI h4 (gR h4 p0 3) ((600 : Int32) + p2).toNatClampNeg) h4)) ∧ (v5 = 0 → K (-1 : Int32) h4)))) ∧ (v2 = 0 → K (-1 : Int32) h1))
set_option maxRecDepth 100000 in
set_option maxHeartbeats 4000000 in
theorem wq_M_piece_ok {p0 : Nat} {p1 : Int32} {p2 : Int32} {p3 : Int32} {h : HP} {K : Int32 → HP → Prop} (H : wq_M_piece p0 p1 p2 p3 h K) : Wp k_M_piece 0 [some (.ref p0), some (.int p1), some (.int p2), some (.int p3), none] [] h (0, 0) (QI K) := by
  unfold wq_M_piece at H
  refine wp_aload_n rfl rfl ?_
  refine wp_iload_n rfl rfl ?_
  obtain ⟨g24, H⟩ := H
  refine wp_callvI rfl rfl (Or.inr rfl) (lo' := [some (.ref p0), some (.int p1), some (.int p2), some (.int p3), none]) rfl g24 ⟨Nat.le_of_ble_eq_true rfl, Nat.le_of_ble_eq_true rfl, Nat.le_of_ble_eq_true rfl, Nat.le_of_ble_eq_true rfl⟩ (bd' := (0, 0)) rfl ?_
  refine (wq_M_isSegment_ok H).conI (fun v2 h1 H => ?_)
  refine wp_if_ne rfl (lo1 := [some (.ref p0), some (.int p1), some (.int p2), some (.int p3), none]) (lo2 := [some (.ref p0), some (.int p1), some (.int p2), some (.int p3), none]) rfl rfl (fun q23 => ?_) (fun q23 => ?_)
  · have H := H.1 q23
    refine wp_aload_n rfl rfl ?_
    refine wp_iconst rfl ?_
    refine wp_iload_n rfl rfl ?_
    obtain ⟨g22, H⟩ := H
    refine wp_callvV rfl rfl rfl (lo' := [some (.ref p0), some (.int p1), some (.int p2), some (.int p3), none]) rfl g22 ⟨Nat.le_of_ble_eq_true rfl, Nat.le_of_ble_eq_true rfl, Nat.le_of_ble_eq_true rfl, Nat.le_of_ble_eq_true rfl⟩ (bd' := (0, 0)) rfl ?_
    refine (wq_M_readSegment_ok H).conV (fun h3 H => ?_)
    refine wp_iload_n rfl rfl ?_
    refine wp_iconst rfl ?_
    refine wp_aload_n rfl rfl ?_
    obtain ⟨g20, g21, H⟩ := H
    refine wp_getR rfl rfl g20 g21 ?_
    refine wp_iconst rfl ?_
    obtain ⟨g19, H⟩ := H
    refine wp_iald rfl g19 ?_
    refine wp_iconst rfl ?_
    refine wp_isub rfl ?_
    refine wp_callsI rfl rfl rfl (Or.inr rfl) (lo' := [some (.ref p0), some (.int p1), some (.int p2), some (.int p3), none]) rfl ⟨Nat.le_of_ble_eq_true rfl, Nat.le_of_ble_eq_true rfl, Nat.le_of_ble_eq_true rfl, Nat.le_of_ble_eq_true rfl⟩ (bd' := (0, 0)) rfl ?_
    refine (wq_M_in_ok H).conI (fun v5 h4 H => ?_)
    refine wp_if_ne rfl (lo1 := [some (.ref p0), some (.int p1), some (.int p2), some (.int p3), none]) (lo2 := [some (.ref p0), some (.int p1), some (.int p2), some (.int p3), none]) rfl rfl (fun q18 => ?_) (fun q18 => ?_)
    · have H := H.1 q18
      refine wp_sipush rfl ?_
      refine wp_iload_n rfl rfl ?_
      refine wp_iadd rfl ?_
      refine wp_istore rfl rfl (lo' := [some (.ref p0), some (.int p1), some (.int p2), some (.int p3), some (.int ((600 : Int32) + p2))]) rfl ?_
      refine wp_iload_n rfl rfl ?_
      refine wp_if_ne rfl (lo1 := [some (.ref p0), some (.int p1), some (.int p2), some (.int p3), some (.int ((600 : Int32) + p2))]) (lo2 := [some (.ref p0), some (.int p1), some (.int p2), some (.int p3), some (.int ((600 : Int32) + p2))]) rfl rfl (fun q17 => ?_) (fun q17 => ?_)
      · have H := H.1 q17
        refine wp_iload_n rfl rfl ?_
        refine wp_iconst rfl ?_
        refine wp_icmp_ne rfl (lo1 := [some (.ref p0), some (.int p1), some (.int p2), some (.int p3), some (.int ((600 : Int32) + p2))]) (lo2 := [some (.ref p0), some (.int p1), some (.int p2), some (.int p3), some (.int ((600 : Int32) + p2))]) rfl rfl (fun q13 => ?_) (fun q13 => ?_)
        · have H := H.1 q13
          refine wp_iload_n rfl rfl ?_
          refine wp_iconst rfl ?_
          refine wp_icmp_ne rfl (lo1 := [some (.ref p0), some (.int p1), some (.int p2), some (.int p3), some (.int ((600 : Int32) + p2))]) (lo2 := [some (.ref p0), some (.int p1), some (.int p2), some (.int p3), some (.int ((600 : Int32) + p2))]) rfl rfl (fun q9 => ?_) (fun q9 => ?_)
          · have H := H.1 q9
            refine wp_iconstk (lo' := [none, none, none, none, none]) rfl rfl ?_
            exact wp_iret rfl rfl H
          · have H := H.2 q9
            refine wp_aload_n rfl rfl ?_
            obtain ⟨g7, g8, H⟩ := H
            refine wp_getR rfl rfl g7 g8 ?_
            refine wp_iload rfl rfl ?_
            obtain ⟨g6, H⟩ := H
            refine wp_iald rfl g6 ?_
            refine wp_goto rfl (lo' := [none, none, none, none, none]) rfl ?_
            exact wp_iret rfl rfl H
        · have H := H.2 q13
          refine wp_aload_n rfl rfl ?_
          obtain ⟨g11, g12, H⟩ := H
          refine wp_getR rfl rfl g11 g12 ?_
          refine wp_iload rfl rfl ?_
          obtain ⟨g10, H⟩ := H
          refine wp_iald rfl g10 ?_
          refine wp_sipush rfl ?_
          refine wp_isub rfl ?_
          refine wp_goto rfl (lo' := [none, none, none, none, none]) rfl ?_
          exact wp_iret rfl rfl H
      · have H := H.2 q17
        refine wp_aload_n rfl rfl ?_
        obtain ⟨g15, g16, H⟩ := H
        refine wp_getR rfl rfl g15 g16 ?_
        refine wp_iload rfl rfl ?_
        obtain ⟨g14, H⟩ := H
        refine wp_iald rfl g14 ?_
        refine wp_goto rfl (lo' := [none, none, none, none, none]) rfl ?_
        exact wp_iret rfl rfl H
    · have H := H.2 q18
      refine wp_iconst rfl ?_
      exact wp_iret rfl rfl H
  · have H := H.2 q23
    refine wp_iconst rfl ?_
    exact wp_iret rfl rfl H
def wq_M_keep (p0 : Nat) (p1 : Int32) (p2 : Int32) (h : HP) (K : Int32 → HP → Prop) : Prop :=
  isO h p0 10 ∧ wq_M_isSegment p0 p1 h (fun v2 h1 => (¬ v2 = 0 → wq_M_in p2 (0 : Int32) (99 : Int32) h1 (fun v4 h3 => (¬ v4 = 0 → isO h3 p0 10 ∧ wq_M_readSegment p0 (1 : Int32) p1 h3 (fun h5 => isO h5 p0 10 ∧ wq_M_readRow p0 (2 : Int32) (0 : Int32) h5 (fun h6 => isO h6 p0 10 ∧ wq_M_isTorn p0 (1 : Int32) h6 (fun v8 h7 => (¬ v8 = 0 → K (-3 : Int32) h7) ∧ (v8 = 0 → isO h7 p0 10 ∧ wq_M_isTorn p0 (2 : Int32) h7 (fun v10 h9 => (v10 = 0 → isO h9 p0 10 ∧ (gI h9 p0 19 = (20 : Int32) → K (-5 : Int32) h9) ∧ (¬ gI h9 p0 19 = (20 : Int32) → isO h9 p0 10 ∧ (¬ gI h9 p0 20 = (40 : Int32) → isO h9 p0 10 ∧ 0 < gR h9 p0 16 ∧ isL h9 (gR h9 p0 16) 100 p1 ∧ isO h9 p0 10 ∧ 0 < gR h9 p0 17 ∧ isL h9 (gR h9 p0 17) 100 p1 ∧ isO h9 p0 10 ∧ isO h9 p0 10 ∧ wq_M_copy p0 ((600 : Int32) + (gI h9 (gR h9 p0 16) p1.toNatClampNeg)) (gI h9 (gR h9 p0 17) p1.toNatClampNeg) ((2 : Int32) + (gI h9 p0 19)) h9 (fun h11 => isO h11 p0 10 ∧ isO h11 p0 10 ∧ (∀ h12 : HP, h12 = stI h11 p0 19 ((gI h11 p0 19) + (1 : Int32)) → isO h12 p0 10 ∧ isO h12 p0 10 ∧ wq_M_comes p0 ((gI h12 p0 19) - (1 : Int32)) p2 h12 (fun h13 => isO h13 p0 10 ∧ K ((gI h13 p0 19) - (1 : Int32)) h13)))) ∧ (gI h9 p0 20 = (40 : Int32) → K (-5 : Int32) h9))) ∧ (¬ v10 = 0 → K (-3 : Int32) h9))))))) ∧ (v4 = 0 → K (-2 : Int32) h3))) ∧ (v2 = 0 → K (-1 : Int32) h1))
set_option maxRecDepth 100000 in
set_option maxHeartbeats 4000000 in
theorem wq_M_keep_ok {p0 : Nat} {p1 : Int32} {p2 : Int32} {h : HP} {K : Int32 → HP → Prop} (H : wq_M_keep p0 p1 p2 h K) : Wp k_M_keep 0 [some (.ref p0), some (.int p1), some (.int p2)] [] h (0, 0) (QI K) := by
  unfold wq_M_keep at H
  refine wp_aload_n rfl rfl ?_
  refine wp_iload_n rfl rfl ?_
  obtain ⟨g40, H⟩ := H
  refine wp_callvI rfl rfl (Or.inr rfl) (lo' := [some (.ref p0), some (.int p1), some (.int p2)]) rfl g40 ⟨Nat.le_of_ble_eq_true rfl, Nat.le_of_ble_eq_true rfl, Nat.le_of_ble_eq_true rfl, Nat.le_of_ble_eq_true rfl⟩ (bd' := (0, 0)) rfl ?_
  refine (wq_M_isSegment_ok H).conI (fun v2 h1 H => ?_)
  refine wp_if_ne rfl (lo1 := [some (.ref p0), some (.int p1), some (.int p2)]) (lo2 := [some (.ref p0), some (.int p1), some (.int p2)]) rfl rfl (fun q39 => ?_) (fun q39 => ?_)
  · have H := H.1 q39
    refine wp_iload_n rfl rfl ?_
    refine wp_iconst rfl ?_
    refine wp_bipush rfl ?_
    refine wp_callsI rfl rfl rfl (Or.inr rfl) (lo' := [some (.ref p0), some (.int p1), some (.int p2)]) rfl ⟨Nat.le_of_ble_eq_true rfl, Nat.le_of_ble_eq_true rfl, Nat.le_of_ble_eq_true rfl, Nat.le_of_ble_eq_true rfl⟩ (bd' := (0, 0)) rfl ?_
    refine (wq_M_in_ok H).conI (fun v4 h3 H => ?_)
    refine wp_if_ne rfl (lo1 := [some (.ref p0), some (.int p1), some (.int p2)]) (lo2 := [some (.ref p0), some (.int p1), some (.int p2)]) rfl rfl (fun q38 => ?_) (fun q38 => ?_)
    · have H := H.1 q38
      refine wp_aload_n rfl rfl ?_
      refine wp_iconst rfl ?_
      refine wp_iload_n rfl rfl ?_
      obtain ⟨g37, H⟩ := H
      refine wp_callvV rfl rfl rfl (lo' := [some (.ref p0), some (.int p1), some (.int p2)]) rfl g37 ⟨Nat.le_of_ble_eq_true rfl, Nat.le_of_ble_eq_true rfl, Nat.le_of_ble_eq_true rfl, Nat.le_of_ble_eq_true rfl⟩ (bd' := (0, 0)) rfl ?_
      refine (wq_M_readSegment_ok H).conV (fun h5 H => ?_)
      refine wp_aload_n rfl rfl ?_
      refine wp_iconst rfl ?_
      refine wp_iconst rfl ?_
      obtain ⟨g36, H⟩ := H
      refine wp_callvV rfl rfl rfl (lo' := [some (.ref p0), some (.int p1), some (.int p2)]) rfl g36 ⟨Nat.le_of_ble_eq_true rfl, Nat.le_of_ble_eq_true rfl, Nat.le_of_ble_eq_true rfl, Nat.le_of_ble_eq_true rfl⟩ (bd' := (0, 0)) rfl ?_
      refine (wq_M_readRow_ok H).conV (fun h6 H => ?_)
      refine wp_aload_n rfl rfl ?_
      refine wp_iconst rfl ?_
      obtain ⟨g35, H⟩ := H
      refine wp_callvI rfl rfl (Or.inr rfl) (lo' := [some (.ref p0), some (.int p1), some (.int p2)]) rfl g35 ⟨Nat.le_of_ble_eq_true rfl, Nat.le_of_ble_eq_true rfl, Nat.le_of_ble_eq_true rfl, Nat.le_of_ble_eq_true rfl⟩ (bd' := (0, 0)) rfl ?_
      refine (wq_M_isTorn_ok H).conI (fun v8 h7 H => ?_)
      refine wp_if_ne rfl (lo1 := [none, none, none]) (lo2 := [some (.ref p0), some (.int p1), some (.int p2)]) rfl rfl (fun q34 => ?_) (fun q34 => ?_)
      · have H := H.1 q34
        refine wp_bipush rfl ?_
        exact wp_iret rfl rfl H
      · have H := H.2 q34
        refine wp_aload_n rfl rfl ?_
        refine wp_iconst rfl ?_
        obtain ⟨g33, H⟩ := H
        refine wp_callvI rfl rfl (Or.inr rfl) (lo' := [some (.ref p0), some (.int p1), some (.int p2)]) rfl g33 ⟨Nat.le_of_ble_eq_true rfl, Nat.le_of_ble_eq_true rfl, Nat.le_of_ble_eq_true rfl, Nat.le_of_ble_eq_true rfl⟩ (bd' := (0, 0)) rfl ?_
        refine (wq_M_isTorn_ok H).conI (fun v10 h9 H => ?_)
        refine wp_if_eq rfl (lo1 := [some (.ref p0), some (.int p1), some (.int p2)]) (lo2 := [none, none, none]) rfl rfl (fun q32 => ?_) (fun q32 => ?_)
        · have H := H.1 q32
          refine wp_aload_n rfl rfl ?_
          obtain ⟨g31, H⟩ := H
          refine wp_getI rfl rfl g31 ?_
          refine wp_bipush rfl ?_
          refine wp_icmp_eq rfl (lo1 := [none, none, none]) (lo2 := [some (.ref p0), some (.int p1), some (.int p2)]) rfl rfl (fun q30 => ?_) (fun q30 => ?_)
          · have H := H.1 q30
            refine wp_bipush rfl ?_
            exact wp_iret rfl rfl H
          · have H := H.2 q30
            refine wp_aload_n rfl rfl ?_
            obtain ⟨g29, H⟩ := H
            refine wp_getI rfl rfl g29 ?_
            refine wp_bipush rfl ?_
            refine wp_icmp_ne rfl (lo1 := [some (.ref p0), some (.int p1), some (.int p2)]) (lo2 := [none, none, none]) rfl rfl (fun q28 => ?_) (fun q28 => ?_)
            · have H := H.1 q28
              refine wp_aload_n rfl rfl ?_
              refine wp_sipush rfl ?_
              refine wp_aload_n rfl rfl ?_
              obtain ⟨g26, g27, H⟩ := H
              refine wp_getR rfl rfl g26 g27 ?_
              refine wp_iload_n rfl rfl ?_
              obtain ⟨g25, H⟩ := H
              refine wp_iald rfl g25 ?_
              refine wp_iadd rfl ?_
              refine wp_aload_n rfl rfl ?_
              obtain ⟨g23, g24, H⟩ := H
              refine wp_getR rfl rfl g23 g24 ?_
              refine wp_iload_n rfl rfl ?_
              obtain ⟨g22, H⟩ := H
              refine wp_iald rfl g22 ?_
              refine wp_iconst rfl ?_
              refine wp_aload_n rfl rfl ?_
              obtain ⟨g21, H⟩ := H
              refine wp_getI rfl rfl g21 ?_
              refine wp_iadd rfl ?_
              obtain ⟨g20, H⟩ := H
              refine wp_callvV rfl rfl rfl (lo' := [some (.ref p0), some (.int p1), some (.int p2)]) rfl g20 ⟨Nat.le_of_ble_eq_true rfl, Nat.le_of_ble_eq_true rfl, Nat.le_of_ble_eq_true rfl, Nat.le_of_ble_eq_true rfl⟩ (bd' := (0, 0)) rfl ?_
              refine (wq_M_copy_ok H).conV (fun h11 H => ?_)
              refine wp_aload_n rfl rfl ?_
              refine wp_dupR rfl ?_
              obtain ⟨g19, H⟩ := H
              refine wp_getI rfl rfl g19 ?_
              refine wp_iconst rfl ?_
              refine wp_iadd rfl ?_
              obtain ⟨g17, H⟩ := H
              obtain ⟨h12, e18⟩ : ∃ z : HP, z = stI h11 p0 19 ((gI h11 p0 19) + (1 : Int32)) := ⟨_, rfl⟩
              have H := H h12 e18
              refine wp_putI rfl rfl g17 e18 ?_
              refine wp_aload_n rfl rfl ?_
              refine wp_aload_n rfl rfl ?_
              obtain ⟨g16, H⟩ := H
              refine wp_getI rfl rfl g16 ?_
              refine wp_iconst rfl ?_
              refine wp_isub rfl ?_
              refine wp_iload_n rfl rfl ?_
              obtain ⟨g15, H⟩ := H
              refine wp_callvV rfl rfl rfl (lo' := [some (.ref p0), some (.int p1), some (.int p2)]) rfl g15 ⟨Nat.le_of_ble_eq_true rfl, Nat.le_of_ble_eq_true rfl, Nat.le_of_ble_eq_true rfl, Nat.le_of_ble_eq_true rfl⟩ (bd' := (0, 0)) rfl ?_
              refine (wq_M_comes_ok H).conV (fun h13 H => ?_)
              refine wp_aload_n rfl rfl ?_
              obtain ⟨g14, H⟩ := H
              refine wp_getI rfl rfl g14 ?_
              refine wp_iconst rfl ?_
              refine wp_isub rfl ?_
              exact wp_iret rfl rfl H
            · have H := H.2 q28
              refine wp_bipush rfl ?_
              exact wp_iret rfl rfl H
        · have H := H.2 q32
          refine wp_bipush rfl ?_
          exact wp_iret rfl rfl H
    · have H := H.2 q38
      refine wp_bipush rfl ?_
      exact wp_iret rfl rfl H
  · have H := H.2 q39
    refine wp_iconst rfl ?_
    exact wp_iret rfl rfl H
def wq_M_change (p0 : Nat) (p1 : Int32) (p2 : Int32) (h : HP) (K : Int32 → HP → Prop) : Prop :=
  isO h p0 10 ∧ wq_M_isPair p0 p1 h (fun v2 h1 => (¬ v2 = 0 → wq_M_in p2 (0 : Int32) (99 : Int32) h1 (fun v4 h3 => (¬ v4 = 0 → isO h3 p0 10 ∧ wq_M_readRow p0 (2 : Int32) (0 : Int32) h3 (fun h5 => isO h5 p0 10 ∧ wq_M_isTorn p0 (2 : Int32) h5 (fun v7 h6 => (v7 = 0 → isO h6 p0 10 ∧ (¬ gI h6 p0 20 = (40 : Int32) → isO h6 p0 10 ∧ wq_M_comes p0 p1 p2 h6 (fun h8 => isO h8 p0 10 ∧ K (gI h8 p0 20) h8)) ∧ (gI h6 p0 20 = (40 : Int32) → K (-5 : Int32) h6)) ∧ (¬ v7 = 0 → K (-3 : Int32) h6)))) ∧ (v4 = 0 → K (-2 : Int32) h3))) ∧ (v2 = 0 → K (-1 : Int32) h1))
theorem wq_M_change_ok {p0 : Nat} {p1 : Int32} {p2 : Int32} {h : HP} {K : Int32 → HP → Prop} (H : wq_M_change p0 p1 p2 h K) : Wp k_M_change 0 [some (.ref p0), some (.int p1), some (.int p2)] [] h (0, 0) (QI K) := by
  unfold wq_M_change at H
  refine wp_aload_n rfl rfl ?_
  refine wp_iload_n rfl rfl ?_
  obtain ⟨g18, H⟩ := H
  refine wp_callvI rfl rfl (Or.inr rfl) (lo' := [some (.ref p0), some (.int p1), some (.int p2)]) rfl g18 ⟨Nat.le_of_ble_eq_true rfl, Nat.le_of_ble_eq_true rfl, Nat.le_of_ble_eq_true rfl, Nat.le_of_ble_eq_true rfl⟩ (bd' := (0, 0)) rfl ?_
  refine (wq_M_isPair_ok H).conI (fun v2 h1 H => ?_)
  refine wp_if_ne rfl (lo1 := [some (.ref p0), some (.int p1), some (.int p2)]) (lo2 := [some (.ref p0), some (.int p1), some (.int p2)]) rfl rfl (fun q17 => ?_) (fun q17 => ?_)
  · have H := H.1 q17
    refine wp_iload_n rfl rfl ?_
    refine wp_iconst rfl ?_
    refine wp_bipush rfl ?_
    refine wp_callsI rfl rfl rfl (Or.inr rfl) (lo' := [some (.ref p0), some (.int p1), some (.int p2)]) rfl ⟨Nat.le_of_ble_eq_true rfl, Nat.le_of_ble_eq_true rfl, Nat.le_of_ble_eq_true rfl, Nat.le_of_ble_eq_true rfl⟩ (bd' := (0, 0)) rfl ?_
    refine (wq_M_in_ok H).conI (fun v4 h3 H => ?_)
    refine wp_if_ne rfl (lo1 := [some (.ref p0), some (.int p1), some (.int p2)]) (lo2 := [some (.ref p0), some (.int p1), some (.int p2)]) rfl rfl (fun q16 => ?_) (fun q16 => ?_)
    · have H := H.1 q16
      refine wp_aload_n rfl rfl ?_
      refine wp_iconst rfl ?_
      refine wp_iconst rfl ?_
      obtain ⟨g15, H⟩ := H
      refine wp_callvV rfl rfl rfl (lo' := [some (.ref p0), some (.int p1), some (.int p2)]) rfl g15 ⟨Nat.le_of_ble_eq_true rfl, Nat.le_of_ble_eq_true rfl, Nat.le_of_ble_eq_true rfl, Nat.le_of_ble_eq_true rfl⟩ (bd' := (0, 0)) rfl ?_
      refine (wq_M_readRow_ok H).conV (fun h5 H => ?_)
      refine wp_aload_n rfl rfl ?_
      refine wp_iconst rfl ?_
      obtain ⟨g14, H⟩ := H
      refine wp_callvI rfl rfl (Or.inr rfl) (lo' := [some (.ref p0), some (.int p1), some (.int p2)]) rfl g14 ⟨Nat.le_of_ble_eq_true rfl, Nat.le_of_ble_eq_true rfl, Nat.le_of_ble_eq_true rfl, Nat.le_of_ble_eq_true rfl⟩ (bd' := (0, 0)) rfl ?_
      refine (wq_M_isTorn_ok H).conI (fun v7 h6 H => ?_)
      refine wp_if_eq rfl (lo1 := [some (.ref p0), some (.int p1), some (.int p2)]) (lo2 := [some (.ref p0), some (.int p1), some (.int p2)]) rfl rfl (fun q13 => ?_) (fun q13 => ?_)
      · have H := H.1 q13
        refine wp_aload_n rfl rfl ?_
        obtain ⟨g12, H⟩ := H
        refine wp_getI rfl rfl g12 ?_
        refine wp_bipush rfl ?_
        refine wp_icmp_ne rfl (lo1 := [some (.ref p0), some (.int p1), some (.int p2)]) (lo2 := [some (.ref p0), some (.int p1), some (.int p2)]) rfl rfl (fun q11 => ?_) (fun q11 => ?_)
        · have H := H.1 q11
          refine wp_aload_n rfl rfl ?_
          refine wp_iload_n rfl rfl ?_
          refine wp_iload_n rfl rfl ?_
          obtain ⟨g10, H⟩ := H
          refine wp_callvV rfl rfl rfl (lo' := [some (.ref p0), some (.int p1), some (.int p2)]) rfl g10 ⟨Nat.le_of_ble_eq_true rfl, Nat.le_of_ble_eq_true rfl, Nat.le_of_ble_eq_true rfl, Nat.le_of_ble_eq_true rfl⟩ (bd' := (0, 0)) rfl ?_
          refine (wq_M_comes_ok H).conV (fun h8 H => ?_)
          refine wp_aload_n rfl rfl ?_
          obtain ⟨g9, H⟩ := H
          refine wp_getI rfl rfl g9 ?_
          exact wp_iret rfl rfl H
        · have H := H.2 q11
          refine wp_bipush rfl ?_
          exact wp_iret rfl rfl H
      · have H := H.2 q13
        refine wp_bipush rfl ?_
        exact wp_iret rfl rfl H
    · have H := H.2 q16
      refine wp_bipush rfl ?_
      exact wp_iret rfl rfl H
  · have H := H.2 q17
    refine wp_iconst rfl ?_
    exact wp_iret rfl rfl H
def wq_M_readBoth (p0 : Nat) (p1 : Int32) (p2 : Int32) (h : HP) (K : HP → Prop) : Prop :=
  isO h p0 10 ∧ wq_M_readRow p0 (0 : Int32) ((2 : Int32) + p2) h (fun h1 => isO h1 p0 10 ∧ wq_M_readSegment p0 (1 : Int32) p1 h1 (fun h2 => K h2))
theorem wq_M_readBoth_ok {p0 : Nat} {p1 : Int32} {p2 : Int32} {h : HP} {K : HP → Prop} (H : wq_M_readBoth p0 p1 p2 h K) : Wp k_M_readBoth 0 [some (.ref p0), some (.int p1), some (.int p2)] [] h (0, 0) (QV K) := by
  unfold wq_M_readBoth at H
  refine wp_aload_n rfl rfl ?_
  refine wp_iconst rfl ?_
  refine wp_iconst rfl ?_
  refine wp_iload_n rfl rfl ?_
  refine wp_iadd rfl ?_
  obtain ⟨g4, H⟩ := H
  refine wp_callvV rfl rfl rfl (lo' := [some (.ref p0), some (.int p1), some (.int p2)]) rfl g4 ⟨Nat.le_of_ble_eq_true rfl, Nat.le_of_ble_eq_true rfl, Nat.le_of_ble_eq_true rfl, Nat.le_of_ble_eq_true rfl⟩ (bd' := (0, 0)) rfl ?_
  refine (wq_M_readRow_ok H).conV (fun h1 H => ?_)
  refine wp_aload_n rfl rfl ?_
  refine wp_iconst rfl ?_
  refine wp_iload_n rfl rfl ?_
  obtain ⟨g3, H⟩ := H
  refine wp_callvV rfl rfl rfl (lo' := [some (.ref p0), some (.int p1), some (.int p2)]) rfl g3 ⟨Nat.le_of_ble_eq_true rfl, Nat.le_of_ble_eq_true rfl, Nat.le_of_ble_eq_true rfl, Nat.le_of_ble_eq_true rfl⟩ (bd' := (0, 0)) rfl ?_
  refine (wq_M_readSegment_ok H).conV (fun h2 H => ?_)
  exact wp_vret rfl rfl H
