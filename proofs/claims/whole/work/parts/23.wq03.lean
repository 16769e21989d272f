def wb_Row_timesOf_5 (l0 : Nat) (l1 : Int64) (l3 : Int32) (l4 : Int32) (h : HP) (K : Int32 → HP → Prop) : Prop :=
  isO h l0 6 ∧ (gI h l0 7 ≤ l4 → K l3 h) ∧ (¬ gI h l0 7 ≤ l4 → isO h l0 6 ∧ 0 < gR h l0 0 ∧ isL h (gR h l0 0) 100 l4 ∧ (¬ gI h (gR h l0 0) l4.toNatClampNeg = 0 → Wp k_Row_timesOf 5 [some (.ref l0), some (.long l1), none, some (.int l3), some (.int (l4 + (1 : Int32)))] [] h (0, 0) (QI K)) ∧ (gI h (gR h l0 0) l4.toNatClampNeg = 0 → isO h l0 6 ∧ 0 < gR h l0 3 ∧ isO h l0 6 ∧ 0 < gR h l0 1 ∧ isL h (gR h l0 1) 100 l4 ∧ isO h l0 6 ∧ 0 < gR h l0 1 ∧ isL h (gR h l0 1) 100 l4 ∧ isO h l0 6 ∧ 0 < gR h l0 2 ∧ isL h (gR h l0 2) 100 l4 ∧ wq_Words_packed (gR h l0 3) (gI h (gR h l0 1) l4.toNatClampNeg) ((gI h (gR h l0 1) l4.toNatClampNeg) + (gI h (gR h l0 2) l4.toNatClampNeg)) h (fun v2 h1 => (¬ lg_cmp v2 l1 = 0 → Wp k_Row_timesOf 5 [some (.ref l0), some (.long l1), none, some (.int l3), some (.int (l4 + (1 : Int32)))] [] h1 (0, 0) (QI K)) ∧ (lg_cmp v2 l1 = 0 → Wp k_Row_timesOf 5 [some (.ref l0), some (.long l1), none, some (.int (l3 + (1 : Int32))), some (.int (l4 + (1 : Int32)))] [] h1 (0, 0) (QI K)))))
theorem wb_Row_timesOf_5_ok {l0 : Nat} {l1 : Int64} {l3 : Int32} {l4 : Int32} {h : HP} {K : Int32 → HP → Prop} (H : wb_Row_timesOf_5 l0 l1 l3 l4 h K) : Wp k_Row_timesOf 5 [some (.ref l0), some (.long l1), none, some (.int l3), some (.int l4)] [] h (0, 0) (QI K) := by
  unfold wb_Row_timesOf_5 at H
  refine wp_iload rfl rfl ?_
  refine wp_aload_n rfl rfl ?_
  obtain ⟨g20, H⟩ := H
  refine wp_getI rfl rfl g20 ?_
  refine wp_icmp_ge rfl (lo1 := [some (.ref l0), some (.long l1), none, some (.int l3), some (.int l4)]) (lo2 := [some (.ref l0), some (.long l1), none, some (.int l3), some (.int l4)]) rfl rfl (fun q19 => ?_) (fun q19 => ?_)
  · have H := H.1 q19
    refine wp_iload_n rfl rfl ?_
    exact wp_iret rfl rfl H
  · have H := H.2 q19
    refine wp_aload_n rfl rfl ?_
    obtain ⟨g17, g18, H⟩ := H
    refine wp_getR rfl rfl g17 g18 ?_
    refine wp_iload rfl rfl ?_
    obtain ⟨g16, H⟩ := H
    refine wp_iald rfl g16 ?_
    refine wp_if_ne rfl (lo1 := [some (.ref l0), some (.long l1), none, some (.int l3), some (.int l4)]) (lo2 := [some (.ref l0), some (.long l1), none, some (.int l3), some (.int l4)]) rfl rfl (fun q15 => ?_) (fun q15 => ?_)
    · have H := H.1 q15
      refine wp_iinc rfl rfl rfl (lo' := [some (.ref l0), some (.long l1), none, some (.int l3), some (.int (l4 + (1 : Int32)))]) rfl ?_
      refine wp_goto rfl (lo' := [some (.ref l0), some (.long l1), none, some (.int l3), some (.int (l4 + (1 : Int32)))]) rfl ?_
      exact H
    · have H := H.2 q15
      refine wp_aload_n rfl rfl ?_
      obtain ⟨g13, g14, H⟩ := H
      refine wp_getR rfl rfl g13 g14 ?_
      refine wp_aload_n rfl rfl ?_
      obtain ⟨g11, g12, H⟩ := H
      refine wp_getR rfl rfl g11 g12 ?_
      refine wp_iload rfl rfl ?_
      obtain ⟨g10, H⟩ := H
      refine wp_iald rfl g10 ?_
      refine wp_aload_n rfl rfl ?_
      obtain ⟨g8, g9, H⟩ := H
      refine wp_getR rfl rfl g8 g9 ?_
      refine wp_iload rfl rfl ?_
      obtain ⟨g7, H⟩ := H
      refine wp_iald rfl g7 ?_
      refine wp_aload_n rfl rfl ?_
      obtain ⟨g5, g6, H⟩ := H
      refine wp_getR rfl rfl g5 g6 ?_
      refine wp_iload rfl rfl ?_
      obtain ⟨g4, H⟩ := H
      refine wp_iald rfl g4 ?_
      refine wp_iadd rfl ?_
      refine wp_callsJ rfl rfl rfl rfl (lo' := [some (.ref l0), some (.long l1), none, some (.int l3), some (.int l4)]) rfl ⟨Nat.le_of_ble_eq_true rfl, Nat.le_of_ble_eq_true rfl, Nat.le_of_ble_eq_true rfl, Nat.le_of_ble_eq_true rfl⟩ (bd' := (0, 0)) rfl ?_
      refine (wq_Words_packed_ok H).conJ (fun v2 h1 H => ?_)
      refine wp_lload_n rfl rfl ?_
      refine wp_lcmp rfl ?_
      refine wp_if_ne rfl (lo1 := [some (.ref l0), some (.long l1), none, some (.int l3), some (.int l4)]) (lo2 := [some (.ref l0), some (.long l1), none, some (.int l3), some (.int l4)]) rfl rfl (fun q3 => ?_) (fun q3 => ?_)
      · have H := H.1 q3
        refine wp_iinc rfl rfl rfl (lo' := [some (.ref l0), some (.long l1), none, some (.int l3), some (.int (l4 + (1 : Int32)))]) rfl ?_
        refine wp_goto rfl (lo' := [some (.ref l0), some (.long l1), none, some (.int l3), some (.int (l4 + (1 : Int32)))]) rfl ?_
        exact H
      · have H := H.2 q3
        refine wp_iinc rfl rfl rfl (lo' := [some (.ref l0), some (.long l1), none, some (.int (l3 + (1 : Int32))), some (.int l4)]) rfl ?_
        refine wp_iinc rfl rfl rfl (lo' := [some (.ref l0), some (.long l1), none, some (.int (l3 + (1 : Int32))), some (.int (l4 + (1 : Int32)))]) rfl ?_
        refine wp_goto rfl (lo' := [some (.ref l0), some (.long l1), none, some (.int (l3 + (1 : Int32))), some (.int (l4 + (1 : Int32)))]) rfl ?_
        exact H
def wq_Row_timesOf (p0 : Nat) (p1 : Int64) (h : HP) (K : Int32 → HP → Prop) : Prop :=
  Wp k_Row_timesOf 5 [some (.ref p0), some (.long p1), none, some (.int (0 : Int32)), some (.int (0 : Int32))] [] h (0, 0) (QI K)
theorem wq_Row_timesOf_ok {p0 : Nat} {p1 : Int64} {h : HP} {K : Int32 → HP → Prop} (H : wq_Row_timesOf p0 p1 h K) : Wp k_Row_timesOf 0 [some (.ref p0), some (.long p1), none, none, none] [] h (0, 0) (QI K) := by
  unfold wq_Row_timesOf at H
  refine wp_iconst rfl ?_
  refine wp_istore_n rfl rfl (lo' := [some (.ref p0), some (.long p1), none, some (.int (0 : Int32)), none]) rfl ?_
  refine wp_iconst rfl ?_
  refine wp_istore rfl rfl (lo' := [some (.ref p0), some (.long p1), none, some (.int (0 : Int32)), some (.int (0 : Int32))]) rfl ?_
  exact H
def wb_Scan_kindBehindBracket_66 (l3 : Int32) (l4 : Int32) (h : HP) (K : Int32 → HP → Prop) : Prop :=
  wq_Scan_isDigit l3 h (fun v17 h16 => (v17 = 0 → K (5 : Int32) h16) ∧ (¬ v17 = 0 → (¬ l4 = (47 : Int32) → K (5 : Int32) h16) ∧ (l4 = (47 : Int32) → K (4 : Int32) h16)))
theorem wb_Scan_kindBehindBracket_66_ok {l3 : Int32} {l4 : Int32} {h : HP} {K : Int32 → HP → Prop} (H : wb_Scan_kindBehindBracket_66 l3 l4 h K) : Wp k_Scan_kindBehindBracket 66 [none, none, none, some (.int l3), some (.int l4)] [] h (0, 0) (QI K) := by
  unfold wb_Scan_kindBehindBracket_66 at H
  refine wp_iload_n rfl rfl ?_
  refine wp_callsI rfl rfl rfl (Or.inr rfl) (lo' := [none, none, none, some (.int l3), some (.int l4)]) rfl ⟨Nat.le_of_ble_eq_true rfl, Nat.le_of_ble_eq_true rfl, Nat.le_of_ble_eq_true rfl, Nat.le_of_ble_eq_true rfl⟩ (bd' := (0, 0)) rfl ?_
  refine (wq_Scan_isDigit_ok H).conI (fun v17 h16 H => ?_)
  refine wp_if_eq rfl (lo1 := [none, none, none, none, none]) (lo2 := [none, none, none, some (.int l3), some (.int l4)]) rfl rfl (fun q19 => ?_) (fun q19 => ?_)
  · have H := H.1 q19
    refine wp_iconstk (lo' := [none, none, none, none, none]) rfl rfl ?_
    exact wp_iret rfl rfl H
  · have H := H.2 q19
    refine wp_iload rfl rfl ?_
    refine wp_bipush rfl ?_
    refine wp_icmp_ne rfl (lo1 := [none, none, none, none, none]) (lo2 := [none, none, none, some (.int l3), some (.int l4)]) rfl rfl (fun q18 => ?_) (fun q18 => ?_)
    · have H := H.1 q18
      refine wp_iconstk (lo' := [none, none, none, none, none]) rfl rfl ?_
      exact wp_iret rfl rfl H
    · have H := H.2 q18
      refine wp_iconst rfl ?_
      refine wp_goto rfl (lo' := [none, none, none, none, none]) rfl ?_
      exact wp_iret rfl rfl H
def wb_Scan_kindBehindBracket_35 (l0 : Nat) (l1 : Int32) (l2 : Int32) (l3 : Int32) (l4 : Int32) (h : HP) (K : Int32 → HP → Prop) : Prop :=
  wq_Scan_byteAt l0 (l1 + (3 : Int32)) l2 h (fun v10 h9 => (v10 = (62 : Int32) → (¬ l3 = (47 : Int32) → wb_Scan_kindBehindBracket_66 l3 l4 h9 K) ∧ (l3 = (47 : Int32) → wq_Scan_isDigit l4 h9 (fun v12 h11 => (v12 = 0 → wb_Scan_kindBehindBracket_66 l3 l4 h11 K) ∧ (¬ v12 = 0 → K (3 : Int32) h11)))) ∧ (¬ v10 = (62 : Int32) → K (5 : Int32) h9))
theorem wb_Scan_kindBehindBracket_35_ok {l0 : Nat} {l1 : Int32} {l2 : Int32} {l3 : Int32} {l4 : Int32} {h : HP} {K : Int32 → HP → Prop} (H : wb_Scan_kindBehindBracket_35 l0 l1 l2 l3 l4 h K) : Wp k_Scan_kindBehindBracket 35 [some (.ref l0), some (.int l1), some (.int l2), some (.int l3), some (.int l4)] [] h (0, 0) (QI K) := by
  unfold wb_Scan_kindBehindBracket_35 at H
  refine wp_aload_n rfl rfl ?_
  refine wp_iload_n rfl rfl ?_
  refine wp_iconst rfl ?_
  refine wp_iadd rfl ?_
  refine wp_iload_n rfl rfl ?_
  refine wp_callsI rfl rfl rfl (Or.inl rfl) (lo' := [some (.ref l0), some (.int l1), some (.int l2), some (.int l3), some (.int l4)]) rfl ⟨Nat.le_of_ble_eq_true rfl, Nat.le_of_ble_eq_true rfl, Nat.le_of_ble_eq_true rfl, Nat.le_of_ble_eq_true rfl⟩ (bd' := (0, 0)) rfl ?_
  refine (wq_Scan_byteAt_ok H).conI (fun v10 h9 H => ?_)
  refine wp_bipush rfl ?_
  refine wp_icmp_eq rfl (lo1 := [some (.ref l0), some (.int l1), some (.int l2), some (.int l3), some (.int l4)]) (lo2 := [some (.ref l0), some (.int l1), some (.int l2), some (.int l3), some (.int l4)]) rfl rfl (fun q15 => ?_) (fun q15 => ?_)
  · have H := H.1 q15
    refine wp_iload_n rfl rfl ?_
    refine wp_bipush rfl ?_
    refine wp_icmp_ne rfl (lo1 := [none, none, none, some (.int l3), some (.int l4)]) (lo2 := [some (.ref l0), some (.int l1), some (.int l2), some (.int l3), some (.int l4)]) rfl rfl (fun q14 => ?_) (fun q14 => ?_)
    · have H := H.1 q14
      exact wb_Scan_kindBehindBracket_66_ok H
    · have H := H.2 q14
      refine wp_iload rfl rfl ?_
      refine wp_callsI rfl rfl rfl (Or.inr rfl) (lo' := [some (.ref l0), some (.int l1), some (.int l2), some (.int l3), some (.int l4)]) rfl ⟨Nat.le_of_ble_eq_true rfl, Nat.le_of_ble_eq_true rfl, Nat.le_of_ble_eq_true rfl, Nat.le_of_ble_eq_true rfl⟩ (bd' := (0, 0)) rfl ?_
      refine (wq_Scan_isDigit_ok H).conI (fun v12 h11 H => ?_)
      refine wp_if_eq rfl (lo1 := [none, none, none, some (.int l3), some (.int l4)]) (lo2 := [some (.ref l0), some (.int l1), some (.int l2), some (.int l3), some (.int l4)]) rfl rfl (fun q13 => ?_) (fun q13 => ?_)
      · have H := H.1 q13
        exact wb_Scan_kindBehindBracket_66_ok H
      · have H := H.2 q13
        refine wp_iconst rfl ?_
        exact wp_iret rfl rfl H
  · have H := H.2 q15
    refine wp_iconst rfl ?_
    exact wp_iret rfl rfl H
def wq_Scan_kindBehindBracket (p0 : Nat) (p1 : Int32) (p2 : Int32) (h : HP) (K : Int32 → HP → Prop) : Prop :=
  wq_Scan_byteAt p0 (p1 + (1 : Int32)) p2 h (fun v2 h1 => wq_Scan_byteAt p0 (p1 + (2 : Int32)) p2 h1 (fun v4 h3 => wq_Scan_isDigit v2 h3 (fun v6 h5 => (v6 = 0 → wb_Scan_kindBehindBracket_35 p0 p1 p2 v2 v4 h5 K) ∧ (¬ v6 = 0 → (¬ v4 = (62 : Int32) → wb_Scan_kindBehindBracket_35 p0 p1 p2 v2 v4 h5 K) ∧ (v4 = (62 : Int32) → K (2 : Int32) h5)))))
theorem wq_Scan_kindBehindBracket_ok {p0 : Nat} {p1 : Int32} {p2 : Int32} {h : HP} {K : Int32 → HP → Prop} (H : wq_Scan_kindBehindBracket p0 p1 p2 h K) : Wp k_Scan_kindBehindBracket 0 [some (.ref p0), some (.int p1), some (.int p2), none, none] [] h (0, 0) (QI K) := by
  unfold wq_Scan_kindBehindBracket at H
  refine wp_aload_n rfl rfl ?_
  refine wp_iload_n rfl rfl ?_
  refine wp_iconst rfl ?_
  refine wp_iadd rfl ?_
  refine wp_iload_n rfl rfl ?_
  refine wp_callsI rfl rfl rfl (Or.inl rfl) (lo' := [some (.ref p0), some (.int p1), some (.int p2), none, none]) rfl ⟨Nat.le_of_ble_eq_true rfl, Nat.le_of_ble_eq_true rfl, Nat.le_of_ble_eq_true rfl, Nat.le_of_ble_eq_true rfl⟩ (bd' := (0, 0)) rfl ?_
  refine (wq_Scan_byteAt_ok H).conI (fun v2 h1 H => ?_)
  refine wp_istore_n rfl rfl (lo' := [some (.ref p0), some (.int p1), some (.int p2), some (.int v2), none]) rfl ?_
  refine wp_aload_n rfl rfl ?_
  refine wp_iload_n rfl rfl ?_
  refine wp_iconst rfl ?_
  refine wp_iadd rfl ?_
  refine wp_iload_n rfl rfl ?_
  refine wp_callsI rfl rfl rfl (Or.inl rfl) (lo' := [some (.ref p0), some (.int p1), some (.int p2), some (.int v2), none]) rfl ⟨Nat.le_of_ble_eq_true rfl, Nat.le_of_ble_eq_true rfl, Nat.le_of_ble_eq_true rfl, Nat.le_of_ble_eq_true rfl⟩ (bd' := (0, 0)) rfl ?_
  refine (wq_Scan_byteAt_ok H).conI (fun v4 h3 H => ?_)
  refine wp_istore rfl rfl (lo' := [some (.ref p0), some (.int p1), some (.int p2), some (.int v2), some (.int v4)]) rfl ?_
  refine wp_iload_n rfl rfl ?_
  refine wp_callsI rfl rfl rfl (Or.inr rfl) (lo' := [some (.ref p0), some (.int p1), some (.int p2), some (.int v2), some (.int v4)]) rfl ⟨Nat.le_of_ble_eq_true rfl, Nat.le_of_ble_eq_true rfl, Nat.le_of_ble_eq_true rfl, Nat.le_of_ble_eq_true rfl⟩ (bd' := (0, 0)) rfl ?_
  refine (wq_Scan_isDigit_ok H).conI (fun v6 h5 H => ?_)
  refine wp_if_eq rfl (lo1 := [some (.ref p0), some (.int p1), some (.int p2), some (.int v2), some (.int v4)]) (lo2 := [some (.ref p0), some (.int p1), some (.int p2), some (.int v2), some (.int v4)]) rfl rfl (fun q8 => ?_) (fun q8 => ?_)
  · have H := H.1 q8
    exact wb_Scan_kindBehindBracket_35_ok H
  · have H := H.2 q8
    refine wp_iload rfl rfl ?_
    refine wp_bipush rfl ?_
    refine wp_icmp_ne rfl (lo1 := [some (.ref p0), some (.int p1), some (.int p2), some (.int v2), some (.int v4)]) (lo2 := [some (.ref p0), some (.int p1), some (.int p2), some (.int v2), some (.int v4)]) rfl rfl (fun q7 => ?_) (fun q7 => ?_)
    · have H := H.1 q7
      exact wb_Scan_kindBehindBracket_35_ok H
    · have H := H.2 q7
      refine wp_iconst rfl ?_
      exact wp_iret rfl rfl H
def wq_Scan_numberEnd (p0 : Nat) (p1 : Int32) (p2 : Int32) (p3 : Int32) (h : HP) (K : Int32 → HP → Prop) : Prop :=
  wq_Scan_digitsEnd p0 p1 p2 (9 : Int32) h (fun v2 h1 => wq_Scan_byteAt p0 v2 p2 h1 (fun v4 h3 => (v4 = p3 → wq_Scan_digitsEnd p0 (v2 + (1 : Int32)) p2 (4 : Int32) h3 (fun v6 h5 => (v6 ≤ v2 + (1 : Int32) → K v2 h5) ∧ (¬ v6 ≤ v2 + (1 : Int32) → K v6 h5))) ∧ (¬ v4 = p3 → K v2 h3)))
theorem wq_Scan_numberEnd_ok {p0 : Nat} {p1 : Int32} {p2 : Int32} {p3 : Int32} {h : HP} {K : Int32 → HP → Prop} (H : wq_Scan_numberEnd p0 p1 p2 p3 h K) : Wp k_Scan_numberEnd 0 [some (.ref p0), some (.int p1), some (.int p2), some (.int p3), none, none] [] h (0, 0) (QI K) := by
  unfold wq_Scan_numberEnd at H
  refine wp_aload_n rfl rfl ?_
  refine wp_iload_n rfl rfl ?_
  refine wp_iload_n rfl rfl ?_
  refine wp_bipush rfl ?_
  refine wp_callsI rfl rfl rfl (Or.inl rfl) (lo' := [some (.ref p0), some (.int p1), some (.int p2), some (.int p3), none, none]) rfl ⟨Nat.le_of_ble_eq_true rfl, Nat.le_of_ble_eq_true rfl, Nat.le_of_ble_eq_true rfl, Nat.le_of_ble_eq_true rfl⟩ (bd' := (0, 0)) rfl ?_
  refine (wq_Scan_digitsEnd_ok H).conI (fun v2 h1 H => ?_)
  refine wp_istore rfl rfl (lo' := [some (.ref p0), some (.int p1), some (.int p2), some (.int p3), some (.int v2), none]) rfl ?_
  refine wp_aload_n rfl rfl ?_
  refine wp_iload rfl rfl ?_
  refine wp_iload_n rfl rfl ?_
  refine wp_callsI rfl rfl rfl (Or.inl rfl) (lo' := [some (.ref p0), some (.int p1), some (.int p2), some (.int p3), some (.int v2), none]) rfl ⟨Nat.le_of_ble_eq_true rfl, Nat.le_of_ble_eq_true rfl, Nat.le_of_ble_eq_true rfl, Nat.le_of_ble_eq_true rfl⟩ (bd' := (0, 0)) rfl ?_
  refine (wq_Scan_byteAt_ok H).conI (fun v4 h3 H => ?_)
  refine wp_iload_n rfl rfl ?_
  refine wp_icmp_eq rfl (lo1 := [some (.ref p0), some (.int p1), some (.int p2), some (.int p3), some (.int v2), none]) (lo2 := [some (.ref p0), some (.int p1), some (.int p2), some (.int p3), some (.int v2), none]) rfl rfl (fun q8 => ?_) (fun q8 => ?_)
  · have H := H.1 q8
    refine wp_aload_n rfl rfl ?_
    refine wp_iload rfl rfl ?_
    refine wp_iconst rfl ?_
    refine wp_iadd rfl ?_
    refine wp_iload_n rfl rfl ?_
    refine wp_iconst rfl ?_
    refine wp_callsI rfl rfl rfl (Or.inl rfl) (lo' := [some (.ref p0), some (.int p1), some (.int p2), some (.int p3), some (.int v2), none]) rfl ⟨Nat.le_of_ble_eq_true rfl, Nat.le_of_ble_eq_true rfl, Nat.le_of_ble_eq_true rfl, Nat.le_of_ble_eq_true rfl⟩ (bd' := (0, 0)) rfl ?_
    refine (wq_Scan_digitsEnd_ok H).conI (fun v6 h5 H => ?_)
    refine wp_istore rfl rfl (lo' := [some (.ref p0), some (.int p1), some (.int p2), some (.int p3), some (.int v2), some (.int v6)]) rfl ?_
    refine wp_iload rfl rfl ?_
    refine wp_iload rfl rfl ?_
    refine wp_iconst rfl ?_
    refine wp_iadd rfl ?_
    refine wp_icmp_le rfl (lo1 := [some (.ref p0), some (.int p1), some (.int p2), some (.int p3), some (.int v2), some (.int v6)]) (lo2 := [some (.ref p0), some (.int p1), some (.int p2), some (.int p3), some (.int v2), some (.int v6)]) rfl rfl (fun q7 => ?_) (fun q7 => ?_)
    · have H := H.1 q7
      refine wp_iloadk (lo' := [none, none, none, none, none, none]) rfl rfl rfl ?_
      exact wp_iret rfl rfl H
    · have H := H.2 q7
      refine wp_iload rfl rfl ?_
      refine wp_goto rfl (lo' := [none, none, none, none, none, none]) rfl ?_
      exact wp_iret rfl rfl H
  · have H := H.2 q8
    refine wp_iload rfl rfl ?_
    exact wp_iret rfl rfl H
def wq_K_undo (p0 : Nat) (h : HP) (K : Int32 → HP → Prop) : Prop :=
  isO h p0 9 ∧ 0 < gR h p0 2 ∧ isO h (gR h p0 2) 2 ∧ (¬ gI h (gR h p0 2) 7 = 0 → isO h p0 9 ∧ 0 < gR h p0 2 ∧ isO h (gR h p0 2) 2 ∧ wq_Memory_takeBack (gR h p0 2) h (fun v2 h1 => K v2 h1)) ∧ (gI h (gR h p0 2) 7 = 0 → K (-4 : Int32) h)
theorem wq_K_undo_ok {p0 : Nat} {h : HP} {K : Int32 → HP → Prop} (H : wq_K_undo p0 h K) : Wp k_K_undo 0 [some (.ref p0)] [] h (0, 0) (QI K) := by
  unfold wq_K_undo at H
  refine wp_aload_n rfl rfl ?_
  obtain ⟨g8, g9, H⟩ := H
  refine wp_getR rfl rfl g8 g9 ?_
  obtain ⟨g7, H⟩ := H
  refine wp_getI rfl rfl g7 ?_
  refine wp_if_ne rfl (lo1 := [some (.ref p0)]) (lo2 := [some (.ref p0)]) rfl rfl (fun q6 => ?_) (fun q6 => ?_)
  · have H := H.1 q6
    refine wp_aload_n rfl rfl ?_
    obtain ⟨g4, g5, H⟩ := H
    refine wp_getR rfl rfl g4 g5 ?_
    obtain ⟨g3, H⟩ := H
    refine wp_callvI rfl rfl (Or.inl rfl) (lo' := [none]) rfl g3 ⟨Nat.le_of_ble_eq_true rfl, Nat.le_of_ble_eq_true rfl, Nat.le_of_ble_eq_true rfl, Nat.le_of_ble_eq_true rfl⟩ (bd' := (0, 0)) rfl ?_
    refine (wq_Memory_takeBack_ok H).conI (fun v2 h1 H => ?_)
    exact wp_iret rfl rfl H
  · have H := H.2 q6
    refine wp_bipush rfl ?_
    refine wp_goto rfl (lo' := [none]) rfl ?_
    exact wp_iret rfl rfl H
def wq_K_term (p0 : Nat) (h : HP) (K : Int32 → HP → Prop) : Prop :=
  isO h p0 9 ∧ 0 < gR h p0 0 ∧ isO h (gR h p0 0) 7 ∧ wq_Text_firstBlank (gR h p0 0) h (fun v2 h1 => isO h1 p0 9 ∧ 0 < gR h1 p0 0 ∧ wq_Words_packed (gR h1 p0 0) (0 : Int32) v2 h1 (fun v4 h3 => isO h3 p0 9 ∧ 0 < gR h3 p0 0 ∧ isO h3 p0 9 ∧ 0 < gR h3 p0 0 ∧ isO h3 (gR h3 p0 0) 7 ∧ wq_Words_packed (gR h3 p0 0) (v2 + (1 : Int32)) (gI h3 (gR h3 p0 0) 1) h3 (fun v6 h5 => (lg_cmp v4 (lN 0) = 0 → K (-2 : Int32) h5) ∧ (¬ lg_cmp v4 (lN 0) = 0 → (¬ lg_cmp v6 (lN 0) = 0 → isO h5 p0 9 ∧ 0 < gR h5 p0 9 ∧ isO h5 (gR h5 p0 9) 8 ∧ wq_Words_isFull (gR h5 p0 9) h5 (fun v8 h7 => (v8 = 0 → isO h7 p0 9 ∧ 0 < gR h7 p0 9 ∧ isO h7 (gR h7 p0 9) 8 ∧ wq_Words_add (gR h7 p0 9) v4 h7 (fun h9 => isO h9 p0 9 ∧ 0 < gR h9 p0 10 ∧ isO h9 (gR h9 p0 10) 8 ∧ wq_Words_add (gR h9 p0 10) v6 h9 (fun h10 => isO h10 p0 9 ∧ 0 < gR h10 p0 0 ∧ isO h10 (gR h10 p0 0) 7 ∧ (∀ h11 : HP, h11 = stI h10 (gR h10 p0 0) 1 (0 : Int32) → isO h11 p0 9 ∧ 0 < gR h11 p0 9 ∧ isO h11 (gR h11 p0 9) 8 ∧ K ((gI h11 (gR h11 p0 9) 1) - (1 : Int32)) h11)))) ∧ (¬ v8 = 0 → K (-5 : Int32) h7))) ∧ (lg_cmp v6 (lN 0) = 0 → K (-2 : Int32) h5)))))
set_option maxRecDepth 100000 in
set_option maxHeartbeats 4000000 in
theorem wq_K_term_ok {p0 : Nat} {h : HP} {K : Int32 → HP → Prop} (H : wq_K_term p0 h K) : Wp k_K_term 0 [some (.ref p0), none, none, none, none, none] [] h (0, 0) (QI K) := by
  unfold wq_K_term at H
  refine wp_aload_n rfl rfl ?_
  obtain ⟨g39, g40, H⟩ := H
  refine wp_getR rfl rfl g39 g40 ?_
  obtain ⟨g38, H⟩ := H
  refine wp_callvI rfl rfl (Or.inl rfl) (lo' := [some (.ref p0), none, none, none, none, none]) rfl g38 ⟨Nat.le_of_ble_eq_true rfl, Nat.le_of_ble_eq_true rfl, Nat.le_of_ble_eq_true rfl, Nat.le_of_ble_eq_true rfl⟩ (bd' := (0, 0)) rfl ?_
  refine (wq_Text_firstBlank_ok H).conI (fun v2 h1 H => ?_)
  refine wp_istore_n rfl rfl (lo' := [some (.ref p0), some (.int v2), none, none, none, none]) rfl ?_
  refine wp_aload_n rfl rfl ?_
  obtain ⟨g36, g37, H⟩ := H
  refine wp_getR rfl rfl g36 g37 ?_
  refine wp_iconst rfl ?_
  refine wp_iload_n rfl rfl ?_
  refine wp_callsJ rfl rfl rfl rfl (lo' := [some (.ref p0), some (.int v2), none, none, none, none]) rfl ⟨Nat.le_of_ble_eq_true rfl, Nat.le_of_ble_eq_true rfl, Nat.le_of_ble_eq_true rfl, Nat.le_of_ble_eq_true rfl⟩ (bd' := (0, 0)) rfl ?_
  refine (wq_Words_packed_ok H).conJ (fun v4 h3 H => ?_)
  refine wp_lstore_n rfl rfl (lo' := [some (.ref p0), some (.int v2), some (.long v4), none, none, none]) rfl ?_
  refine wp_aload_n rfl rfl ?_
  obtain ⟨g34, g35, H⟩ := H
  refine wp_getR rfl rfl g34 g35 ?_
  refine wp_iload_n rfl rfl ?_
  refine wp_iconst rfl ?_
  refine wp_iadd rfl ?_
  refine wp_aload_n rfl rfl ?_
  obtain ⟨g32, g33, H⟩ := H
  refine wp_getR rfl rfl g32 g33 ?_
  obtain ⟨g31, H⟩ := H
  refine wp_getI rfl rfl g31 ?_
  refine wp_callsJ rfl rfl rfl rfl (lo' := [some (.ref p0), some (.int v2), some (.long v4), none, none, none]) rfl ⟨Nat.le_of_ble_eq_true rfl, Nat.le_of_ble_eq_true rfl, Nat.le_of_ble_eq_true rfl, Nat.le_of_ble_eq_true rfl⟩ (bd' := (0, 0)) rfl ?_
  refine (wq_Words_packed_ok H).conJ (fun v6 h5 H => ?_)
  refine wp_lstore rfl rfl (lo' := [some (.ref p0), some (.int v2), some (.long v4), none, some (.long v6), none]) rfl ?_
  refine wp_lload_n rfl rfl ?_
  refine wp_lconst rfl ?_
  refine wp_lcmp rfl ?_
  refine wp_if_eq rfl (lo1 := [none, none, none, none, none, none]) (lo2 := [some (.ref p0), some (.int v2), some (.long v4), none, some (.long v6), none]) rfl rfl (fun q30 => ?_) (fun q30 => ?_)
  · have H := H.1 q30
    refine wp_bipush rfl ?_
    exact wp_iret rfl rfl H
  · have H := H.2 q30
    refine wp_lload rfl rfl ?_
    refine wp_lconst rfl ?_
    refine wp_lcmp rfl ?_
    refine wp_if_ne rfl (lo1 := [some (.ref p0), some (.int v2), some (.long v4), none, some (.long v6), none]) (lo2 := [none, none, none, none, none, none]) rfl rfl (fun q29 => ?_) (fun q29 => ?_)
    · have H := H.1 q29
      refine wp_aload_n rfl rfl ?_
      obtain ⟨g27, g28, H⟩ := H
      refine wp_getR rfl rfl g27 g28 ?_
      obtain ⟨g26, H⟩ := H
      refine wp_callvI rfl rfl (Or.inr rfl) (lo' := [some (.ref p0), some (.int v2), some (.long v4), none, some (.long v6), none]) rfl g26 ⟨Nat.le_of_ble_eq_true rfl, Nat.le_of_ble_eq_true rfl, Nat.le_of_ble_eq_true rfl, Nat.le_of_ble_eq_true rfl⟩ (bd' := (0, 0)) rfl ?_
      refine (wq_Words_isFull_ok H).conI (fun v8 h7 H => ?_)
      refine wp_if_eq rfl (lo1 := [some (.ref p0), some (.int v2), some (.long v4), none, some (.long v6), none]) (lo2 := [some (.ref p0), some (.int v2), some (.long v4), none, some (.long v6), none]) rfl rfl (fun q25 => ?_) (fun q25 => ?_)
      · have H := H.1 q25
        refine wp_aload_n rfl rfl ?_
        obtain ⟨g23, g24, H⟩ := H
        refine wp_getR rfl rfl g23 g24 ?_
        refine wp_lload_n rfl rfl ?_
        obtain ⟨g22, H⟩ := H
        refine wp_callvV rfl rfl rfl (lo' := [some (.ref p0), some (.int v2), some (.long v4), none, some (.long v6), none]) rfl g22 ⟨Nat.le_of_ble_eq_true rfl, Nat.le_of_ble_eq_true rfl, Nat.le_of_ble_eq_true rfl, Nat.le_of_ble_eq_true rfl⟩ (bd' := (0, 0)) rfl ?_
        refine (wq_Words_add_ok H).conV (fun h9 H => ?_)
        refine wp_aload_n rfl rfl ?_
        obtain ⟨g20, g21, H⟩ := H
        refine wp_getR rfl rfl g20 g21 ?_
        refine wp_lload rfl rfl ?_
        obtain ⟨g19, H⟩ := H
        refine wp_callvV rfl rfl rfl (lo' := [some (.ref p0), some (.int v2), some (.long v4), none, some (.long v6), none]) rfl g19 ⟨Nat.le_of_ble_eq_true rfl, Nat.le_of_ble_eq_true rfl, Nat.le_of_ble_eq_true rfl, Nat.le_of_ble_eq_true rfl⟩ (bd' := (0, 0)) rfl ?_
        refine (wq_Words_add_ok H).conV (fun h10 H => ?_)
        refine wp_aload_n rfl rfl ?_
        obtain ⟨g17, g18, H⟩ := H
        refine wp_getR rfl rfl g17 g18 ?_
        refine wp_iconst rfl ?_
        obtain ⟨g15, H⟩ := H
        obtain ⟨h11, e16⟩ : ∃ z : HP, z = stI h10 (gR h10 p0 0) 1 (0 : Int32) := ⟨_, rfl⟩
        have H := H h11 e16
        refine wp_putI rfl rfl g15 e16 ?_
        refine wp_aload_n rfl rfl ?_
        obtain ⟨g13, g14, H⟩ := H
        refine wp_getR rfl rfl g13 g14 ?_
        obtain ⟨g12, H⟩ := H
        refine wp_getI rfl rfl g12 ?_
        refine wp_iconst rfl ?_
        refine wp_isub rfl ?_
        exact wp_iret rfl rfl H
      · have H := H.2 q25
        refine wp_bipush rfl ?_
        exact wp_iret rfl rfl H
    · have H := H.2 q29
      refine wp_bipush rfl ?_
      exact wp_iret rfl rfl H
def wq_K_moveTapeTo (p0 : Nat) (p1 : Int32) (p2 : Int32) (h : HP) (K : HP → Prop) : Prop :=
  isO h p0 9 ∧ 0 < gR h p0 2 ∧ isO h p0 9 ∧ 0 < gR h p0 0 ∧ isO h (gR h p0 2) 2 ∧ wq_Memory_addRendering (gR h p0 2) p1 (gR h p0 0) p2 h (fun h1 => isO h1 p0 9 ∧ 0 < gR h1 p0 0 ∧ isO h1 (gR h1 p0 0) 7 ∧ (∀ h2 : HP, h2 = stI h1 (gR h1 p0 0) 1 (0 : Int32) → K h2))
theorem wq_K_moveTapeTo_ok {p0 : Nat} {p1 : Int32} {p2 : Int32} {h : HP} {K : HP → Prop} (H : wq_K_moveTapeTo p0 p1 p2 h K) : Wp k_K_moveTapeTo 0 [some (.ref p0), some (.int p1), some (.int p2)] [] h (1, 640) (QV K) := by
  unfold wq_K_moveTapeTo at H
  refine wp_aload_n rfl rfl ?_
  obtain ⟨g10, g11, H⟩ := H
  refine wp_getR rfl rfl g10 g11 ?_
  refine wp_iload_n rfl rfl ?_
  refine wp_aload_n rfl rfl ?_
  obtain ⟨g8, g9, H⟩ := H
  refine wp_getR rfl rfl g8 g9 ?_
  refine wp_iload_n rfl rfl ?_
  obtain ⟨g7, H⟩ := H
  refine wp_callvV rfl rfl rfl (lo' := [some (.ref p0), some (.int p1), some (.int p2)]) rfl g7 ⟨Nat.le_of_ble_eq_true rfl, Nat.le_of_ble_eq_true rfl, Nat.le_of_ble_eq_true rfl, Nat.le_of_ble_eq_true rfl⟩ (bd' := (0, 0)) rfl ?_
  refine (wq_Memory_addRendering_ok H).conV (fun h1 H => ?_)
  refine wp_aload_n rfl rfl ?_
  obtain ⟨g5, g6, H⟩ := H
  refine wp_getR rfl rfl g5 g6 ?_
  refine wp_iconst rfl ?_
  obtain ⟨g3, H⟩ := H
  obtain ⟨h2, e4⟩ : ∃ z : HP, z = stI h1 (gR h1 p0 0) 1 (0 : Int32) := ⟨_, rfl⟩
  have H := H h2 e4
  refine wp_putI rfl rfl g3 e4 ?_
  exact wp_vret rfl rfl H
def wq_K_addTapeTo (p0 : Nat) (p1 : Nat) (h : HP) (K : Int32 → HP → Prop) : Prop :=
  isO h p0 9 ∧ 0 < gR h p0 0 ∧ isO h p0 9 ∧ 0 < gR h p0 0 ∧ isO h (gR h p0 0) 7 ∧ wq_Words_packed (gR h p0 0) (0 : Int32) (gI h (gR h p0 0) 1) h (fun v2 h1 => (¬ lg_cmp v2 (lN 0) = 0 → isO h1 p1 8 ∧ wq_Words_isFull p1 h1 (fun v4 h3 => (v4 = 0 → isO h3 p1 8 ∧ wq_Words_add p1 v2 h3 (fun h5 => isO h5 p0 9 ∧ 0 < gR h5 p0 0 ∧ isO h5 (gR h5 p0 0) 7 ∧ (∀ h6 : HP, h6 = stI h5 (gR h5 p0 0) 1 (0 : Int32) → isO h6 p1 8 ∧ K (gI h6 p1 1) h6))) ∧ (¬ v4 = 0 → K (-5 : Int32) h3))) ∧ (lg_cmp v2 (lN 0) = 0 → K (-2 : Int32) h1))
theorem wq_K_addTapeTo_ok {p0 : Nat} {p1 : Nat} {h : HP} {K : Int32 → HP → Prop} (H : wq_K_addTapeTo p0 p1 h K) : Wp k_K_addTapeTo 0 [some (.ref p0), some (.ref p1), none, none] [] h (0, 0) (QI K) := by
  unfold wq_K_addTapeTo at H
  refine wp_aload_n rfl rfl ?_
  obtain ⟨g19, g20, H⟩ := H
  refine wp_getR rfl rfl g19 g20 ?_
  refine wp_iconst rfl ?_
  refine wp_aload_n rfl rfl ?_
  obtain ⟨g17, g18, H⟩ := H
  refine wp_getR rfl rfl g17 g18 ?_
  obtain ⟨g16, H⟩ := H
  refine wp_getI rfl rfl g16 ?_
  refine wp_callsJ rfl rfl rfl rfl (lo' := [some (.ref p0), some (.ref p1), none, none]) rfl ⟨Nat.le_of_ble_eq_true rfl, Nat.le_of_ble_eq_true rfl, Nat.le_of_ble_eq_true rfl, Nat.le_of_ble_eq_true rfl⟩ (bd' := (0, 0)) rfl ?_
  refine (wq_Words_packed_ok H).conJ (fun v2 h1 H => ?_)
  refine wp_lstore_n rfl rfl (lo' := [some (.ref p0), some (.ref p1), some (.long v2), none]) rfl ?_
  refine wp_lload_n rfl rfl ?_
  refine wp_lconst rfl ?_
  refine wp_lcmp rfl ?_
  refine wp_if_ne rfl (lo1 := [some (.ref p0), some (.ref p1), some (.long v2), none]) (lo2 := [some (.ref p0), some (.ref p1), some (.long v2), none]) rfl rfl (fun q15 => ?_) (fun q15 => ?_)
  · have H := H.1 q15
    refine wp_aload_n rfl rfl ?_
    obtain ⟨g14, H⟩ := H
    refine wp_callvI rfl rfl (Or.inr rfl) (lo' := [some (.ref p0), some (.ref p1), some (.long v2), none]) rfl g14 ⟨Nat.le_of_ble_eq_true rfl, Nat.le_of_ble_eq_true rfl, Nat.le_of_ble_eq_true rfl, Nat.le_of_ble_eq_true rfl⟩ (bd' := (0, 0)) rfl ?_
    refine (wq_Words_isFull_ok H).conI (fun v4 h3 H => ?_)
    refine wp_if_eq rfl (lo1 := [some (.ref p0), some (.ref p1), some (.long v2), none]) (lo2 := [some (.ref p0), some (.ref p1), some (.long v2), none]) rfl rfl (fun q13 => ?_) (fun q13 => ?_)
    · have H := H.1 q13
      refine wp_aload_n rfl rfl ?_
      refine wp_lload_n rfl rfl ?_
      obtain ⟨g12, H⟩ := H
      refine wp_callvV rfl rfl rfl (lo' := [some (.ref p0), some (.ref p1), some (.long v2), none]) rfl g12 ⟨Nat.le_of_ble_eq_true rfl, Nat.le_of_ble_eq_true rfl, Nat.le_of_ble_eq_true rfl, Nat.le_of_ble_eq_true rfl⟩ (bd' := (0, 0)) rfl ?_
      refine (wq_Words_add_ok H).conV (fun h5 H => ?_)
      refine wp_aload_n rfl rfl ?_
      obtain ⟨g10, g11, H⟩ := H
      refine wp_getR rfl rfl g10 g11 ?_
      refine wp_iconst rfl ?_
      obtain ⟨g8, H⟩ := H
      obtain ⟨h6, e9⟩ : ∃ z : HP, z = stI h5 (gR h5 p0 0) 1 (0 : Int32) := ⟨_, rfl⟩
      have H := H h6 e9
      refine wp_putI rfl rfl g8 e9 ?_
      refine wp_aload_n rfl rfl ?_
      obtain ⟨g7, H⟩ := H
      refine wp_getI rfl rfl g7 ?_
      exact wp_iret rfl rfl H
    · have H := H.2 q13
      refine wp_bipush rfl ?_
      exact wp_iret rfl rfl H
  · have H := H.2 q15
    refine wp_bipush rfl ?_
    exact wp_iret rfl rfl H
def wb_M_read_226 (l0 : Nat) (l1 : Int32) (l4 : Int32) (l5 : Int32) (l6 : Int32) (l7 : Int32) (l8 : Int32) (l9 : Int32) (h : HP) (K : HP → Prop) : Prop :=
  isO h l0 10 ∧ 0 < gR h l0 3 ∧ isA h (gR h l0 3) 100 (((600 : Int32) * l1) + l6) ∧ (∀ h71 : HP, h71 = stI h (gR h l0 3) (((600 : Int32) * l1) + l6).toNatClampNeg l8 → isO h71 l0 10 ∧ 0 < gR h71 l0 4 ∧ isA h71 (gR h71 l0 4) 100 (((600 : Int32) * l1) + l6) ∧ (∀ h72 : HP, h72 = stI h71 (gR h71 l0 4) (((600 : Int32) * l1) + l6).toNatClampNeg l7 → isO h72 l0 10 ∧ 0 < gR h72 l0 5 ∧ isA h72 (gR h72 l0 5) 100 (((600 : Int32) * l1) + l6) ∧ (∀ h73 : HP, h73 = stI h72 (gR h72 l0 5) (((600 : Int32) * l1) + l6).toNatClampNeg (l9 - l7) → Wp k_M_read 20 [some (.ref l0), some (.int l1), none, none, some (.int l4), some (.int l5), some (.int (l6 + (1 : Int32))), some (.int l9), none, none, none] [] h73 (0, 0) (QV K))))
theorem wb_M_read_226_ok {l0 : Nat} {l1 : Int32} {l4 : Int32} {l5 : Int32} {l6 : Int32} {l7 : Int32} {l8 : Int32} {l9 : Int32} {h : HP} {K : HP → Prop} (H : wb_M_read_226 l0 l1 l4 l5 l6 l7 l8 l9 h K) : Wp k_M_read 226 [some (.ref l0), some (.int l1), none, none, some (.int l4), some (.int l5), some (.int l6), some (.int l7), some (.int l8), some (.int l9), none] [] h (0, 0) (QV K) := by
  unfold wb_M_read_226 at H
  refine wp_aload_n rfl rfl ?_
  obtain ⟨g84, g85, H⟩ := H
  refine wp_getR rfl rfl g84 g85 ?_
  refine wp_sipush rfl ?_
  refine wp_iload_n rfl rfl ?_
  refine wp_imul rfl ?_
  refine wp_iload rfl rfl ?_
  refine wp_iadd rfl ?_
  refine wp_iload rfl rfl ?_
  obtain ⟨g82, H⟩ := H
  obtain ⟨h71, e83⟩ : ∃ z : HP, z = stI h (gR h l0 3) (((600 : Int32) * l1) + l6).toNatClampNeg l8 := ⟨_, rfl⟩
  have H := H h71 e83
  refine wp_iast rfl g82 e83 ?_
  refine wp_aload_n rfl rfl ?_
  obtain ⟨g80, g81, H⟩ := H
  refine wp_getR rfl rfl g80 g81 ?_
  refine wp_sipush rfl ?_
  refine wp_iload_n rfl rfl ?_
  refine wp_imul rfl ?_
  refine wp_iload rfl rfl ?_
  refine wp_iadd rfl ?_
  refine wp_iload rfl rfl ?_
  obtain ⟨g78, H⟩ := H
  obtain ⟨h72, e79⟩ : ∃ z : HP, z = stI h71 (gR h71 l0 4) (((600 : Int32) * l1) + l6).toNatClampNeg l7 := ⟨_, rfl⟩
  have H := H h72 e79
  refine wp_iast rfl g78 e79 ?_
  refine wp_aload_n rfl rfl ?_
  obtain ⟨g76, g77, H⟩ := H
  refine wp_getR rfl rfl g76 g77 ?_
  refine wp_sipush rfl ?_
  refine wp_iload_n rfl rfl ?_
  refine wp_imul rfl ?_
  refine wp_iload rfl rfl ?_
  refine wp_iadd rfl ?_
  refine wp_iload rfl rfl ?_
  refine wp_iload rfl rfl ?_
  refine wp_isub rfl ?_
  obtain ⟨g74, H⟩ := H
  obtain ⟨h73, e75⟩ : ∃ z : HP, z = stI h72 (gR h72 l0 5) (((600 : Int32) * l1) + l6).toNatClampNeg (l9 - l7) := ⟨_, rfl⟩
  have H := H h73 e75
  refine wp_iast rfl g74 e75 ?_
  refine wp_iinc rfl rfl rfl (lo' := [some (.ref l0), some (.int l1), none, none, some (.int l4), some (.int l5), some (.int (l6 + (1 : Int32))), none, none, some (.int l9), none]) rfl ?_
  refine wp_iload rfl rfl ?_
  refine wp_istore rfl rfl (lo' := [some (.ref l0), some (.int l1), none, none, some (.int l4), some (.int l5), some (.int (l6 + (1 : Int32))), some (.int l9), none, some (.int l9), none]) rfl ?_
  refine wp_goto rfl (lo' := [some (.ref l0), some (.int l1), none, none, some (.int l4), some (.int l5), some (.int (l6 + (1 : Int32))), some (.int l9), none, none, none]) rfl ?_
  exact H
def wb_M_read_204 (l0 : Nat) (l1 : Int32) (l4 : Int32) (l5 : Int32) (l6 : Int32) (l7 : Int32) (l8 : Int32) (l9 : Int32) (h : HP) (K : HP → Prop) : Prop :=
  isO h l0 10 ∧ 0 < gR h l0 6 ∧ isL h (gR h l0 6) 100 l1 ∧ isA h (gR h l0 6) 100 l1 ∧ (∀ h53 : HP, h53 = stI h (gR h l0 6) l1.toNatClampNeg ((gI h (gR h l0 6) l1.toNatClampNeg) + (1 : Int32)) → (¬ l8 = (6 : Int32) → wb_M_read_226 l0 l1 l4 l5 l6 l7 l8 l9 h53 K) ∧ (l8 = (6 : Int32) → (l5 = 0 → Wp k_M_read 20 [some (.ref l0), some (.int l1), none, none, some (.int l4), some (.int l5), some (.int l6), some (.int l9), none, none, none] [] h53 (0, 0) (QV K)) ∧ (¬ l5 = 0 → wb_M_read_226 l0 l1 l4 l5 l6 l7 l8 l9 h53 K)))
theorem wb_M_read_204_ok {l0 : Nat} {l1 : Int32} {l4 : Int32} {l5 : Int32} {l6 : Int32} {l7 : Int32} {l8 : Int32} {l9 : Int32} {h : HP} {K : HP → Prop} (H : wb_M_read_204 l0 l1 l4 l5 l6 l7 l8 l9 h K) : Wp k_M_read 204 [some (.ref l0), some (.int l1), none, none, some (.int l4), some (.int l5), some (.int l6), some (.int l7), some (.int l8), some (.int l9), none] [] h (0, 0) (QV K) := by
  unfold wb_M_read_204 at H
  refine wp_aload_n rfl rfl ?_
  obtain ⟨g59, g60, H⟩ := H
  refine wp_getR rfl rfl g59 g60 ?_
  refine wp_iload_n rfl rfl ?_
  refine wp_dup2 rfl ?_
  obtain ⟨g58, H⟩ := H
  refine wp_iald rfl g58 ?_
  refine wp_iconst rfl ?_
  refine wp_iadd rfl ?_
  obtain ⟨g56, H⟩ := H
  obtain ⟨h53, e57⟩ : ∃ z : HP, z = stI h (gR h l0 6) l1.toNatClampNeg ((gI h (gR h l0 6) l1.toNatClampNeg) + (1 : Int32)) := ⟨_, rfl⟩
  have H := H h53 e57
  refine wp_iast rfl g56 e57 ?_
  refine wp_iload rfl rfl ?_
  refine wp_bipush rfl ?_
  refine wp_icmp_ne rfl (lo1 := [some (.ref l0), some (.int l1), none, none, some (.int l4), some (.int l5), some (.int l6), some (.int l7), some (.int l8), some (.int l9), none]) (lo2 := [some (.ref l0), some (.int l1), none, none, some (.int l4), some (.int l5), some (.int l6), some (.int l7), some (.int l8), some (.int l9), none]) rfl rfl (fun q55 => ?_) (fun q55 => ?_)
  · have H := H.1 q55
    exact wb_M_read_226_ok H
  · have H := H.2 q55
    refine wp_iload rfl rfl ?_
    refine wp_if_eq rfl (lo1 := [some (.ref l0), some (.int l1), none, none, some (.int l4), some (.int l5), some (.int l6), none, none, some (.int l9), none]) (lo2 := [some (.ref l0), some (.int l1), none, none, some (.int l4), some (.int l5), some (.int l6), some (.int l7), some (.int l8), some (.int l9), none]) rfl rfl (fun q54 => ?_) (fun q54 => ?_)
    · have H := H.1 q54
      refine wp_iload rfl rfl ?_
      refine wp_istore rfl rfl (lo' := [some (.ref l0), some (.int l1), none, none, some (.int l4), some (.int l5), some (.int l6), some (.int l9), none, some (.int l9), none]) rfl ?_
      refine wp_goto rfl (lo' := [some (.ref l0), some (.int l1), none, none, some (.int l4), some (.int l5), some (.int l6), some (.int l9), none, none, none]) rfl ?_
      exact H
    · have H := H.2 q54
      exact wb_M_read_226_ok H
def wb_M_read_20 (l0 : Nat) (l1 : Int32) (l4 : Int32) (l5 : Int32) (l6 : Int32) (l7 : Int32) (h : HP) (K : HP → Prop) : Prop :=
  isO h l0 10 ∧ (gI h l0 8 ≤ l7 → isO h l0 10 ∧ 0 < gR h l0 7 ∧ isA h (gR h l0 7) 100 l1 ∧ (∀ h9 : HP, h9 = stI h (gR h l0 7) l1.toNatClampNeg l6 → K h9)) ∧ (¬ gI h l0 8 ≤ l7 → isO h l0 10 ∧ wq_M_mark l0 l7 h (fun v15 h14 => isO h14 l0 10 ∧ wq_M_at l0 l7 h14 (fun v17 h16 => wq_M_isLetter v17 h16 (fun v19 h18 => (v19 = 0 → isO h18 l0 10 ∧ wq_M_at l0 l7 h18 (fun v21 h20 => wq_M_isDigit v21 h20 (fun v23 h22 => (v23 = 0 → isO h22 l0 10 ∧ wq_M_at l0 l7 h22 (fun v25 h24 => (¬ v25 = (32 : Int32) → (v15 = (-1 : Int32) → wb_M_read_204 l0 l1 l4 l5 l6 l7 (5 : Int32) (l7 + (1 : Int32)) h24 K) ∧ (¬ v15 = (-1 : Int32) → (¬ v15 = (2 : Int32) → wb_M_read_204 l0 l1 l4 l5 l6 l7 v15 (l7 + (4 : Int32)) h24 K) ∧ (v15 = (2 : Int32) → wb_M_read_204 l0 l1 l4 l5 l6 l7 v15 (l7 + (3 : Int32)) h24 K))) ∧ (v25 = (32 : Int32) → Wp k_M_read 158 [some (.ref l0), some (.int l1), none, none, some (.int l4), some (.int l5), some (.int l6), some (.int l7), some (.int (6 : Int32)), some (.int (l7 + (1 : Int32))), none] [] h24 (0, 0) (QV K)))) ∧ (¬ v23 = 0 → isO h22 l0 10 ∧ wq_M_digits l0 l7 (9 : Int32) h22 (fun v31 h30 => isO h30 l0 10 ∧ wq_M_at l0 v31 h30 (fun v33 h32 => (¬ v33 = l4 → wb_M_read_204 l0 l1 l4 l5 l6 l7 (1 : Int32) v31 h32 K) ∧ (v33 = l4 → isO h32 l0 10 ∧ wq_M_at l0 (v31 + (1 : Int32)) h32 (fun v35 h34 => wq_M_isDigit v35 h34 (fun v37 h36 => (v37 = 0 → wb_M_read_204 l0 l1 l4 l5 l6 l7 (1 : Int32) v31 h36 K) ∧ (¬ v37 = 0 → isO h36 l0 10 ∧ wq_M_digits l0 (v31 + (1 : Int32)) (4 : Int32) h36 (fun v39 h38 => wb_M_read_204 l0 l1 l4 l5 l6 l7 (1 : Int32) v39 h38 K))))))))))) ∧ (¬ v19 = 0 → Wp k_M_read 61 [some (.ref l0), some (.int l1), none, none, some (.int l4), some (.int l5), some (.int l6), some (.int l7), some (.int (0 : Int32)), some (.int (l7 + (1 : Int32))), none] [] h18 (0, 0) (QV K))))))
set_option maxRecDepth 100000 in
set_option maxHeartbeats 4000000 in
theorem wb_M_read_20_ok {l0 : Nat} {l1 : Int32} {l4 : Int32} {l5 : Int32} {l6 : Int32} {l7 : Int32} {h : HP} {K : HP → Prop} (H : wb_M_read_20 l0 l1 l4 l5 l6 l7 h K) : Wp k_M_read 20 [some (.ref l0), some (.int l1), none, none, some (.int l4), some (.int l5), some (.int l6), some (.int l7), none, none, none] [] h (0, 0) (QV K) := by
  unfold wb_M_read_20 at H
  refine wp_iload rfl rfl ?_
  refine wp_aload_n rfl rfl ?_
  obtain ⟨g52, H⟩ := H
  refine wp_getI rfl rfl g52 ?_
  refine wp_icmp_ge rfl (lo1 := [some (.ref l0), some (.int l1), none, none, some (.int l4), some (.int l5), some (.int l6), some (.int l7), none, none, none]) (lo2 := [some (.ref l0), some (.int l1), none, none, some (.int l4), some (.int l5), some (.int l6), some (.int l7), none, none, none]) rfl rfl (fun q51 => ?_) (fun q51 => ?_)
  · have H := H.1 q51
    refine wp_aload_n rfl rfl ?_
    obtain ⟨g12, g13, H⟩ := H
    refine wp_getR rfl rfl g12 g13 ?_
    refine wp_iload_n rfl rfl ?_
    refine wp_iload rfl rfl ?_
    obtain ⟨g10, H⟩ := H
    obtain ⟨h9, e11⟩ : ∃ z : HP, z = stI h (gR h l0 7) l1.toNatClampNeg l6 := ⟨_, rfl⟩
    have H := H h9 e11
    refine wp_iast rfl g10 e11 ?_
    exact wp_vret rfl rfl H
  · have H := H.2 q51
    refine wp_iconst rfl ?_
    refine wp_istore rfl rfl (lo' := [some (.ref l0), some (.int l1), none, none, some (.int l4), some (.int l5), some (.int l6), some (.int l7), some (.int (5 : Int32)), none, none]) rfl ?_
    refine wp_iload rfl rfl ?_
    refine wp_iconst rfl ?_
    refine wp_iadd rfl ?_
    refine wp_istore rfl rfl (lo' := [some (.ref l0), some (.int l1), none, none, some (.int l4), some (.int l5), some (.int l6), some (.int l7), some (.int (5 : Int32)), some (.int (l7 + (1 : Int32))), none]) rfl ?_
    refine wp_aload_n rfl rfl ?_
    refine wp_iload rfl rfl ?_
    obtain ⟨g50, H⟩ := H
    refine wp_callvI rfl rfl (Or.inl rfl) (lo' := [some (.ref l0), some (.int l1), none, none, some (.int l4), some (.int l5), some (.int l6), some (.int l7), some (.int (5 : Int32)), some (.int (l7 + (1 : Int32))), none]) rfl g50 ⟨Nat.le_of_ble_eq_true rfl, Nat.le_of_ble_eq_true rfl, Nat.le_of_ble_eq_true rfl, Nat.le_of_ble_eq_true rfl⟩ (bd' := (0, 0)) rfl ?_
    refine (wq_M_mark_ok H).conI (fun v15 h14 H => ?_)
    refine wp_istore rfl rfl (lo' := [some (.ref l0), some (.int l1), none, none, some (.int l4), some (.int l5), some (.int l6), some (.int l7), some (.int (5 : Int32)), some (.int (l7 + (1 : Int32))), some (.int v15)]) rfl ?_
    refine wp_aload_n rfl rfl ?_
    refine wp_iload rfl rfl ?_
    obtain ⟨g49, H⟩ := H
    refine wp_callvI rfl rfl (Or.inl rfl) (lo' := [some (.ref l0), some (.int l1), none, none, some (.int l4), some (.int l5), some (.int l6), some (.int l7), some (.int (5 : Int32)), some (.int (l7 + (1 : Int32))), some (.int v15)]) rfl g49 ⟨Nat.le_of_ble_eq_true rfl, Nat.le_of_ble_eq_true rfl, Nat.le_of_ble_eq_true rfl, Nat.le_of_ble_eq_true rfl⟩ (bd' := (0, 0)) rfl ?_
    refine (wq_M_at_ok H).conI (fun v17 h16 H => ?_)
    refine wp_callsI rfl rfl rfl (Or.inr rfl) (lo' := [some (.ref l0), some (.int l1), none, none, some (.int l4), some (.int l5), some (.int l6), some (.int l7), some (.int (5 : Int32)), some (.int (l7 + (1 : Int32))), some (.int v15)]) rfl ⟨Nat.le_of_ble_eq_true rfl, Nat.le_of_ble_eq_true rfl, Nat.le_of_ble_eq_true rfl, Nat.le_of_ble_eq_true rfl⟩ (bd' := (0, 0)) rfl ?_
    refine (wq_M_isLetter_ok H).conI (fun v19 h18 H => ?_)
    refine wp_if_eq rfl (lo1 := [some (.ref l0), some (.int l1), none, none, some (.int l4), some (.int l5), some (.int l6), some (.int l7), some (.int (5 : Int32)), some (.int (l7 + (1 : Int32))), some (.int v15)]) (lo2 := [some (.ref l0), some (.int l1), none, none, some (.int l4), some (.int l5), some (.int l6), some (.int l7), some (.int (5 : Int32)), some (.int (l7 + (1 : Int32))), some (.int v15)]) rfl rfl (fun q48 => ?_) (fun q48 => ?_)
    · have H := H.1 q48
      refine wp_aload_n rfl rfl ?_
      refine wp_iload rfl rfl ?_
      obtain ⟨g47, H⟩ := H
      refine wp_callvI rfl rfl (Or.inl rfl) (lo' := [some (.ref l0), some (.int l1), none, none, some (.int l4), some (.int l5), some (.int l6), some (.int l7), some (.int (5 : Int32)), some (.int (l7 + (1 : Int32))), some (.int v15)]) rfl g47 ⟨Nat.le_of_ble_eq_true rfl, Nat.le_of_ble_eq_true rfl, Nat.le_of_ble_eq_true rfl, Nat.le_of_ble_eq_true rfl⟩ (bd' := (0, 0)) rfl ?_
      refine (wq_M_at_ok H).conI (fun v21 h20 H => ?_)
      refine wp_callsI rfl rfl rfl (Or.inr rfl) (lo' := [some (.ref l0), some (.int l1), none, none, some (.int l4), some (.int l5), some (.int l6), some (.int l7), some (.int (5 : Int32)), some (.int (l7 + (1 : Int32))), some (.int v15)]) rfl ⟨Nat.le_of_ble_eq_true rfl, Nat.le_of_ble_eq_true rfl, Nat.le_of_ble_eq_true rfl, Nat.le_of_ble_eq_true rfl⟩ (bd' := (0, 0)) rfl ?_
      refine (wq_M_isDigit_ok H).conI (fun v23 h22 H => ?_)
      refine wp_if_eq rfl (lo1 := [some (.ref l0), some (.int l1), none, none, some (.int l4), some (.int l5), some (.int l6), some (.int l7), some (.int (5 : Int32)), some (.int (l7 + (1 : Int32))), some (.int v15)]) (lo2 := [some (.ref l0), some (.int l1), none, none, some (.int l4), some (.int l5), some (.int l6), some (.int l7), some (.int (5 : Int32)), some (.int (l7 + (1 : Int32))), some (.int v15)]) rfl rfl (fun q46 => ?_) (fun q46 => ?_)
      · have H := H.1 q46
        refine wp_aload_n rfl rfl ?_
        refine wp_iload rfl rfl ?_
        obtain ⟨g29, H⟩ := H
        refine wp_callvI rfl rfl (Or.inl rfl) (lo' := [some (.ref l0), some (.int l1), none, none, some (.int l4), some (.int l5), some (.int l6), some (.int l7), some (.int (5 : Int32)), some (.int (l7 + (1 : Int32))), some (.int v15)]) rfl g29 ⟨Nat.le_of_ble_eq_true rfl, Nat.le_of_ble_eq_true rfl, Nat.le_of_ble_eq_true rfl, Nat.le_of_ble_eq_true rfl⟩ (bd' := (0, 0)) rfl ?_
        refine (wq_M_at_ok H).conI (fun v25 h24 H => ?_)
        refine wp_bipush rfl ?_
        refine wp_icmp_ne rfl (lo1 := [some (.ref l0), some (.int l1), none, none, some (.int l4), some (.int l5), some (.int l6), some (.int l7), some (.int (5 : Int32)), some (.int (l7 + (1 : Int32))), some (.int v15)]) (lo2 := [some (.ref l0), some (.int l1), none, none, some (.int l4), some (.int l5), some (.int l6), some (.int l7), some (.int (5 : Int32)), some (.int (l7 + (1 : Int32))), some (.int v15)]) rfl rfl (fun q28 => ?_) (fun q28 => ?_)
        · have H := H.1 q28
          refine wp_iload rfl rfl ?_
          refine wp_iconst rfl ?_
          refine wp_icmp_eq rfl (lo1 := [some (.ref l0), some (.int l1), none, none, some (.int l4), some (.int l5), some (.int l6), some (.int l7), some (.int (5 : Int32)), some (.int (l7 + (1 : Int32))), none]) (lo2 := [some (.ref l0), some (.int l1), none, none, some (.int l4), some (.int l5), some (.int l6), some (.int l7), some (.int (5 : Int32)), some (.int (l7 + (1 : Int32))), some (.int v15)]) rfl rfl (fun q27 => ?_) (fun q27 => ?_)
          · have H := H.1 q27
            exact wb_M_read_204_ok H
          · have H := H.2 q27
            refine wp_iload rfl rfl ?_
            refine wp_istore rfl rfl (lo' := [some (.ref l0), some (.int l1), none, none, some (.int l4), some (.int l5), some (.int l6), some (.int l7), some (.int v15), some (.int (l7 + (1 : Int32))), some (.int v15)]) rfl ?_
            refine wp_iload rfl rfl ?_
            refine wp_iconst rfl ?_
            refine wp_icmp_ne rfl (lo1 := [some (.ref l0), some (.int l1), none, none, some (.int l4), some (.int l5), some (.int l6), some (.int l7), some (.int v15), some (.int (l7 + (1 : Int32))), some (.int v15)]) (lo2 := [some (.ref l0), some (.int l1), none, none, some (.int l4), some (.int l5), some (.int l6), some (.int l7), some (.int v15), some (.int (l7 + (1 : Int32))), some (.int v15)]) rfl rfl (fun q26 => ?_) (fun q26 => ?_)
            · have H := H.1 q26
              refine wp_iload rfl rfl ?_
              refine wp_iconst rfl ?_
              refine wp_iaddk (lo' := [some (.ref l0), some (.int l1), none, none, some (.int l4), some (.int l5), some (.int l6), some (.int l7), some (.int v15), none, none]) rfl rfl ?_
              refine wp_istore rfl rfl (lo' := [some (.ref l0), some (.int l1), none, none, some (.int l4), some (.int l5), some (.int l6), some (.int l7), some (.int v15), some (.int (l7 + (4 : Int32))), none]) rfl ?_
              exact wb_M_read_204_ok H
            · have H := H.2 q26
              refine wp_iload rfl rfl ?_
              refine wp_iconst rfl ?_
              refine wp_iadd rfl ?_
              refine wp_goto rfl (lo' := [some (.ref l0), some (.int l1), none, none, some (.int l4), some (.int l5), some (.int l6), some (.int l7), some (.int v15), none, none]) rfl ?_
              refine wp_istore rfl rfl (lo' := [some (.ref l0), some (.int l1), none, none, some (.int l4), some (.int l5), some (.int l6), some (.int l7), some (.int v15), some (.int (l7 + (3 : Int32))), none]) rfl ?_
              exact wb_M_read_204_ok H
        · have H := H.2 q28
          refine wp_bipush rfl ?_
          refine wp_istore rfl rfl (lo' := [some (.ref l0), some (.int l1), none, none, some (.int l4), some (.int l5), some (.int l6), some (.int l7), some (.int (6 : Int32)), some (.int (l7 + (1 : Int32))), none]) rfl ?_
          exact H
      · have H := H.2 q46
        refine wp_iconst rfl ?_
        refine wp_istore rfl rfl (lo' := [some (.ref l0), some (.int l1), none, none, some (.int l4), some (.int l5), some (.int l6), some (.int l7), some (.int (1 : Int32)), some (.int (l7 + (1 : Int32))), some (.int v15)]) rfl ?_
        refine wp_aload_n rfl rfl ?_
        refine wp_iload rfl rfl ?_
        refine wp_bipush rfl ?_
        obtain ⟨g45, H⟩ := H
        refine wp_callvI rfl rfl (Or.inl rfl) (lo' := [some (.ref l0), some (.int l1), none, none, some (.int l4), some (.int l5), some (.int l6), some (.int l7), some (.int (1 : Int32)), some (.int (l7 + (1 : Int32))), some (.int v15)]) rfl g45 ⟨Nat.le_of_ble_eq_true rfl, Nat.le_of_ble_eq_true rfl, Nat.le_of_ble_eq_true rfl, Nat.le_of_ble_eq_true rfl⟩ (bd' := (0, 0)) rfl ?_
        refine (wq_M_digits_ok H).conI (fun v31 h30 H => ?_)
        refine wp_istore rfl rfl (lo' := [some (.ref l0), some (.int l1), none, none, some (.int l4), some (.int l5), some (.int l6), some (.int l7), some (.int (1 : Int32)), some (.int v31), some (.int v15)]) rfl ?_
        refine wp_aload_n rfl rfl ?_
        refine wp_iload rfl rfl ?_
        obtain ⟨g44, H⟩ := H
        refine wp_callvI rfl rfl (Or.inl rfl) (lo' := [some (.ref l0), some (.int l1), none, none, some (.int l4), some (.int l5), some (.int l6), some (.int l7), some (.int (1 : Int32)), some (.int v31), some (.int v15)]) rfl g44 ⟨Nat.le_of_ble_eq_true rfl, Nat.le_of_ble_eq_true rfl, Nat.le_of_ble_eq_true rfl, Nat.le_of_ble_eq_true rfl⟩ (bd' := (0, 0)) rfl ?_
        refine (wq_M_at_ok H).conI (fun v33 h32 H => ?_)
        refine wp_iload rfl rfl ?_
        refine wp_icmp_ne rfl (lo1 := [some (.ref l0), some (.int l1), none, none, some (.int l4), some (.int l5), some (.int l6), some (.int l7), some (.int (1 : Int32)), some (.int v31), none]) (lo2 := [some (.ref l0), some (.int l1), none, none, some (.int l4), some (.int l5), some (.int l6), some (.int l7), some (.int (1 : Int32)), some (.int v31), some (.int v15)]) rfl rfl (fun q43 => ?_) (fun q43 => ?_)
        · have H := H.1 q43
          exact wb_M_read_204_ok H
        · have H := H.2 q43
          refine wp_aload_n rfl rfl ?_
          refine wp_iload rfl rfl ?_
          refine wp_iconst rfl ?_
          refine wp_iadd rfl ?_
          obtain ⟨g42, H⟩ := H
          refine wp_callvI rfl rfl (Or.inl rfl) (lo' := [some (.ref l0), some (.int l1), none, none, some (.int l4), some (.int l5), some (.int l6), some (.int l7), some (.int (1 : Int32)), some (.int v31), some (.int v15)]) rfl g42 ⟨Nat.le_of_ble_eq_true rfl, Nat.le_of_ble_eq_true rfl, Nat.le_of_ble_eq_true rfl, Nat.le_of_ble_eq_true rfl⟩ (bd' := (0, 0)) rfl ?_
          refine (wq_M_at_ok H).conI (fun v35 h34 H => ?_)
          refine wp_callsI rfl rfl rfl (Or.inr rfl) (lo' := [some (.ref l0), some (.int l1), none, none, some (.int l4), some (.int l5), some (.int l6), some (.int l7), some (.int (1 : Int32)), some (.int v31), some (.int v15)]) rfl ⟨Nat.le_of_ble_eq_true rfl, Nat.le_of_ble_eq_true rfl, Nat.le_of_ble_eq_true rfl, Nat.le_of_ble_eq_true rfl⟩ (bd' := (0, 0)) rfl ?_
          refine (wq_M_isDigit_ok H).conI (fun v37 h36 H => ?_)
          refine wp_if_eq rfl (lo1 := [some (.ref l0), some (.int l1), none, none, some (.int l4), some (.int l5), some (.int l6), some (.int l7), some (.int (1 : Int32)), some (.int v31), none]) (lo2 := [some (.ref l0), some (.int l1), none, none, some (.int l4), some (.int l5), some (.int l6), some (.int l7), some (.int (1 : Int32)), some (.int v31), some (.int v15)]) rfl rfl (fun q41 => ?_) (fun q41 => ?_)
          · have H := H.1 q41
            exact wb_M_read_204_ok H
          · have H := H.2 q41
            refine wp_aload_n rfl rfl ?_
            refine wp_iload rfl rfl ?_
            refine wp_iconst rfl ?_
            refine wp_iadd rfl ?_
            refine wp_iconst rfl ?_
            obtain ⟨g40, H⟩ := H
            refine wp_callvI rfl rfl (Or.inl rfl) (lo' := [some (.ref l0), some (.int l1), none, none, some (.int l4), some (.int l5), some (.int l6), some (.int l7), some (.int (1 : Int32)), some (.int v31), some (.int v15)]) rfl g40 ⟨Nat.le_of_ble_eq_true rfl, Nat.le_of_ble_eq_true rfl, Nat.le_of_ble_eq_true rfl, Nat.le_of_ble_eq_true rfl⟩ (bd' := (0, 0)) rfl ?_
            refine (wq_M_digits_ok H).conI (fun v39 h38 H => ?_)
            refine wp_istore rfl rfl (lo' := [some (.ref l0), some (.int l1), none, none, some (.int l4), some (.int l5), some (.int l6), some (.int l7), some (.int (1 : Int32)), some (.int v39), some (.int v15)]) rfl ?_
            refine wp_goto rfl (lo' := [some (.ref l0), some (.int l1), none, none, some (.int l4), some (.int l5), some (.int l6), some (.int l7), some (.int (1 : Int32)), some (.int v39), none]) rfl ?_
            exact wb_M_read_204_ok H
    · have H := H.2 q48
      refine wp_iconst rfl ?_
      refine wp_istore rfl rfl (lo' := [some (.ref l0), some (.int l1), none, none, some (.int l4), some (.int l5), some (.int l6), some (.int l7), some (.int (0 : Int32)), some (.int (l7 + (1 : Int32))), none]) rfl ?_
      exact H
def wb_M_read_158 (l0 : Nat) (l1 : Int32) (l4 : Int32) (l5 : Int32) (l6 : Int32) (l7 : Int32) (l8 : Int32) (l9 : Int32) (h : HP) (K : HP → Prop) : Prop :=
  isO h l0 10 ∧ wq_M_at l0 l9 h (fun v62 h61 => (¬ v62 = (32 : Int32) → wb_M_read_204 l0 l1 l4 l5 l6 l7 l8 l9 h61 K) ∧ (v62 = (32 : Int32) → Wp k_M_read 158 [some (.ref l0), some (.int l1), none, none, some (.int l4), some (.int l5), some (.int l6), some (.int l7), some (.int l8), some (.int (l9 + (1 : Int32))), none] [] h61 (0, 0) (QV K)))
theorem wb_M_read_158_ok {l0 : Nat} {l1 : Int32} {l4 : Int32} {l5 : Int32} {l6 : Int32} {l7 : Int32} {l8 : Int32} {l9 : Int32} {h : HP} {K : HP → Prop} (H : wb_M_read_158 l0 l1 l4 l5 l6 l7 l8 l9 h K) : Wp k_M_read 158 [some (.ref l0), some (.int l1), none, none, some (.int l4), some (.int l5), some (.int l6), some (.int l7), some (.int l8), some (.int l9), none] [] h (0, 0) (QV K) := by
  unfold wb_M_read_158 at H
  refine wp_aload_n rfl rfl ?_
  refine wp_iload rfl rfl ?_
  obtain ⟨g64, H⟩ := H
  refine wp_callvI rfl rfl (Or.inl rfl) (lo' := [some (.ref l0), some (.int l1), none, none, some (.int l4), some (.int l5), some (.int l6), some (.int l7), some (.int l8), some (.int l9), none]) rfl g64 ⟨Nat.le_of_ble_eq_true rfl, Nat.le_of_ble_eq_true rfl, Nat.le_of_ble_eq_true rfl, Nat.le_of_ble_eq_true rfl⟩ (bd' := (0, 0)) rfl ?_
  refine (wq_M_at_ok H).conI (fun v62 h61 H => ?_)
  refine wp_bipush rfl ?_
  refine wp_icmp_ne rfl (lo1 := [some (.ref l0), some (.int l1), none, none, some (.int l4), some (.int l5), some (.int l6), some (.int l7), some (.int l8), some (.int l9), none]) (lo2 := [some (.ref l0), some (.int l1), none, none, some (.int l4), some (.int l5), some (.int l6), some (.int l7), some (.int l8), some (.int l9), none]) rfl rfl (fun q63 => ?_) (fun q63 => ?_)
  · have H := H.1 q63
    exact wb_M_read_204_ok H
  · have H := H.2 q63
    refine wp_iinc rfl rfl rfl (lo' := [some (.ref l0), some (.int l1), none, none, some (.int l4), some (.int l5), some (.int l6), some (.int l7), some (.int l8), some (.int (l9 + (1 : Int32))), none]) rfl ?_
    refine wp_goto rfl (lo' := [some (.ref l0), some (.int l1), none, none, some (.int l4), some (.int l5), some (.int l6), some (.int l7), some (.int l8), some (.int (l9 + (1 : Int32))), none]) rfl ?_
    exact H
def wb_M_read_61 (l0 : Nat) (l1 : Int32) (l4 : Int32) (l5 : Int32) (l6 : Int32) (l7 : Int32) (l8 : Int32) (l9 : Int32) (h : HP) (K : HP → Prop) : Prop :=
  isO h l0 10 ∧ wq_M_at l0 l9 h (fun v66 h65 => wq_M_isLetter v66 h65 (fun v68 h67 => (v68 = 0 → wb_M_read_204 l0 l1 l4 l5 l6 l7 l8 l9 h67 K) ∧ (¬ v68 = 0 → Wp k_M_read 61 [some (.ref l0), some (.int l1), none, none, some (.int l4), some (.int l5), some (.int l6), some (.int l7), some (.int l8), some (.int (l9 + (1 : Int32))), none] [] h67 (0, 0) (QV K))))
theorem wb_M_read_61_ok {l0 : Nat} {l1 : Int32} {l4 : Int32} {l5 : Int32} {l6 : Int32} {l7 : Int32} {l8 : Int32} {l9 : Int32} {h : HP} {K : HP → Prop} (H : wb_M_read_61 l0 l1 l4 l5 l6 l7 l8 l9 h K) : Wp k_M_read 61 [some (.ref l0), some (.int l1), none, none, some (.int l4), some (.int l5), some (.int l6), some (.int l7), some (.int l8), some (.int l9), none] [] h (0, 0) (QV K) := by
  unfold wb_M_read_61 at H
  refine wp_aload_n rfl rfl ?_
  refine wp_iload rfl rfl ?_
  obtain ⟨g70, H⟩ := H
  refine wp_callvI rfl rfl (Or.inl rfl) (lo' := [some (.ref l0), some (.int l1), none, none, some (.int l4), some (.int l5), some (.int l6), some (.int l7), some (.int l8), some (.int l9), none]) rfl g70 ⟨Nat.le_of_ble_eq_true rfl, Nat.le_of_ble_eq_true rfl, Nat.le_of_ble_eq_true rfl, Nat.le_of_ble_eq_true rfl⟩ (bd' := (0, 0)) rfl ?_
  refine (wq_M_at_ok H).conI (fun v66 h65 H => ?_)
  refine wp_callsI rfl rfl rfl (Or.inr rfl) (lo' := [some (.ref l0), some (.int l1), none, none, some (.int l4), some (.int l5), some (.int l6), some (.int l7), some (.int l8), some (.int l9), none]) rfl ⟨Nat.le_of_ble_eq_true rfl, Nat.le_of_ble_eq_true rfl, Nat.le_of_ble_eq_true rfl, Nat.le_of_ble_eq_true rfl⟩ (bd' := (0, 0)) rfl ?_
  refine (wq_M_isLetter_ok H).conI (fun v68 h67 H => ?_)
  refine wp_if_eq rfl (lo1 := [some (.ref l0), some (.int l1), none, none, some (.int l4), some (.int l5), some (.int l6), some (.int l7), some (.int l8), some (.int l9), none]) (lo2 := [some (.ref l0), some (.int l1), none, none, some (.int l4), some (.int l5), some (.int l6), some (.int l7), some (.int l8), some (.int l9), none]) rfl rfl (fun q69 => ?_) (fun q69 => ?_)
  · have H := H.1 q69
    exact wb_M_read_204_ok H
  · have H := H.2 q69
    refine wp_iinc rfl rfl rfl (lo' := [some (.ref l0), some (.int l1), none, none, some (.int l4), some (.int l5), some (.int l6), some (.int l7), some (.int l8), some (.int (l9 + (1 : Int32))), none]) rfl ?_
    refine wp_goto rfl (lo' := [some (.ref l0), some (.int l1), none, none, some (.int l4), some (.int l5), some (.int l6), some (.int l7), some (.int l8), some (.int (l9 + (1 : Int32))), none]) rfl ?_
    exact H
def wq_M_read (p0 : Nat) (p1 : Int32) (p2 : Int32) (p3 : Int32) (p4 : Int32) (p5 : Int32) (h : HP) (K : HP → Prop) : Prop :=
  isO h p0 10 ∧ (∀ h1 : HP, h1 = stI h p0 8 (p2 + p3) → isO h1 p0 10 ∧ 0 < gR h1 p0 6 ∧ isA h1 (gR h1 p0 6) 100 p1 ∧ (∀ h2 : HP, h2 = stI h1 (gR h1 p0 6) p1.toNatClampNeg (0 : Int32) → Wp k_M_read 20 [some (.ref p0), some (.int p1), none, none, some (.int p4), some (.int p5), some (.int (0 : Int32)), some (.int p2), none, none, none] [] h2 (0, 0) (QV K)))
theorem wq_M_read_ok {p0 : Nat} {p1 : Int32} {p2 : Int32} {p3 : Int32} {p4 : Int32} {p5 : Int32} {h : HP} {K : HP → Prop} (H : wq_M_read p0 p1 p2 p3 p4 p5 h K) : Wp k_M_read 0 [some (.ref p0), some (.int p1), some (.int p2), some (.int p3), some (.int p4), some (.int p5), none, none, none, none, none] [] h (0, 0) (QV K) := by
  unfold wq_M_read at H
  refine wp_aload_n rfl rfl ?_
  refine wp_iload_n rfl rfl ?_
  refine wp_iload_n rfl rfl ?_
  refine wp_iadd rfl ?_
  obtain ⟨g7, H⟩ := H
  obtain ⟨h1, e8⟩ : ∃ z : HP, z = stI h p0 8 (p2 + p3) := ⟨_, rfl⟩
  have H := H h1 e8
  refine wp_putI rfl rfl g7 e8 ?_
  refine wp_iconst rfl ?_
  refine wp_istore rfl rfl (lo' := [some (.ref p0), some (.int p1), some (.int p2), some (.int p3), some (.int p4), some (.int p5), some (.int (0 : Int32)), none, none, none, none]) rfl ?_
  refine wp_aload_n rfl rfl ?_
  obtain ⟨g5, g6, H⟩ := H
  refine wp_getR rfl rfl g5 g6 ?_
  refine wp_iload_n rfl rfl ?_
  refine wp_iconst rfl ?_
  obtain ⟨g3, H⟩ := H
  obtain ⟨h2, e4⟩ : ∃ z : HP, z = stI h1 (gR h1 p0 6) p1.toNatClampNeg (0 : Int32) := ⟨_, rfl⟩
  have H := H h2 e4
  refine wp_iast rfl g3 e4 ?_
  refine wp_iload_n rfl rfl ?_
  refine wp_istore rfl rfl (lo' := [some (.ref p0), some (.int p1), none, none, some (.int p4), some (.int p5), some (.int (0 : Int32)), some (.int p2), none, none, none]) rfl ?_
  exact H
def wq_M_except (p0 : Nat) (h : HP) (K : Int32 → HP → Prop) : Prop :=
  isO h p0 10 ∧ 0 < gR h p0 2 ∧ isL h (gR h p0 2) 100 (0 : Int32) ∧ isO h p0 10 ∧ wq_M_isWord p0 (0 : Int32) (gI h (gR h p0 2) (0 : Int32).toNatClampNeg) h (fun v2 h1 => (¬ v2 = 0 → isO h1 p0 10 ∧ (¬ gI h1 p0 12 = (8 : Int32) → isO h1 p0 10 ∧ isO h1 p0 10 ∧ 0 < gR h1 p0 2 ∧ isL h1 (gR h1 p0 2) 100 (0 : Int32) ∧ isO h1 p0 10 ∧ wq_M_word p0 (gI h1 p0 12) (0 : Int32) (gI h1 (gR h1 p0 2) (0 : Int32).toNatClampNeg) h1 (fun h3 => isO h3 p0 10 ∧ isO h3 p0 10 ∧ (∀ h4 : HP, h4 = stI h3 p0 12 ((gI h3 p0 12) + (1 : Int32)) → isO h4 p0 10 ∧ 0 < gR h4 p0 2 ∧ isA h4 (gR h4 p0 2) 100 (0 : Int32) ∧ (∀ h5 : HP, h5 = stI h4 (gR h4 p0 2) (0 : Int32).toNatClampNeg (0 : Int32) → isO h5 p0 10 ∧ K (gI h5 p0 12) h5)))) ∧ (gI h1 p0 12 = (8 : Int32) → K (-5 : Int32) h1)) ∧ (v2 = 0 → K (-2 : Int32) h1))
theorem wq_M_except_ok {p0 : Nat} {h : HP} {K : Int32 → HP → Prop} (H : wq_M_except p0 h K) : Wp k_M_except 0 [some (.ref p0)] [] h (0, 0) (QI K) := by
  unfold wq_M_except at H
  refine wp_aload_n rfl rfl ?_
  refine wp_iconst rfl ?_
  refine wp_aload_n rfl rfl ?_
  obtain ⟨g24, g25, H⟩ := H
  refine wp_getR rfl rfl g24 g25 ?_
  refine wp_iconst rfl ?_
  obtain ⟨g23, H⟩ := H
  refine wp_iald rfl g23 ?_
  obtain ⟨g22, H⟩ := H
  refine wp_callvI rfl rfl (Or.inr rfl) (lo' := [some (.ref p0)]) rfl g22 ⟨Nat.le_of_ble_eq_true rfl, Nat.le_of_ble_eq_true rfl, Nat.le_of_ble_eq_true rfl, Nat.le_of_ble_eq_true rfl⟩ (bd' := (0, 0)) rfl ?_
  refine (wq_M_isWord_ok H).conI (fun v2 h1 H => ?_)
  refine wp_if_ne rfl (lo1 := [some (.ref p0)]) (lo2 := [some (.ref p0)]) rfl rfl (fun q21 => ?_) (fun q21 => ?_)
  · have H := H.1 q21
    refine wp_aload_n rfl rfl ?_
    obtain ⟨g20, H⟩ := H
    refine wp_getI rfl rfl g20 ?_
    refine wp_bipush rfl ?_
    refine wp_icmp_ne rfl (lo1 := [some (.ref p0)]) (lo2 := [some (.ref p0)]) rfl rfl (fun q19 => ?_) (fun q19 => ?_)
    · have H := H.1 q19
      refine wp_aload_n rfl rfl ?_
      refine wp_aload_n rfl rfl ?_
      obtain ⟨g18, H⟩ := H
      refine wp_getI rfl rfl g18 ?_
      refine wp_iconst rfl ?_
      refine wp_aload_n rfl rfl ?_
      obtain ⟨g16, g17, H⟩ := H
      refine wp_getR rfl rfl g16 g17 ?_
      refine wp_iconst rfl ?_
      obtain ⟨g15, H⟩ := H
      refine wp_iald rfl g15 ?_
      obtain ⟨g14, H⟩ := H
      refine wp_callvV rfl rfl rfl (lo' := [some (.ref p0)]) rfl g14 ⟨Nat.le_of_ble_eq_true rfl, Nat.le_of_ble_eq_true rfl, Nat.le_of_ble_eq_true rfl, Nat.le_of_ble_eq_true rfl⟩ (bd' := (0, 0)) rfl ?_
      refine (wq_M_word_ok H).conV (fun h3 H => ?_)
      refine wp_aload_n rfl rfl ?_
      refine wp_dupR rfl ?_
      obtain ⟨g13, H⟩ := H
      refine wp_getI rfl rfl g13 ?_
      refine wp_iconst rfl ?_
      refine wp_iadd rfl ?_
      obtain ⟨g11, H⟩ := H
      obtain ⟨h4, e12⟩ : ∃ z : HP, z = stI h3 p0 12 ((gI h3 p0 12) + (1 : Int32)) := ⟨_, rfl⟩
      have H := H h4 e12
      refine wp_putI rfl rfl g11 e12 ?_
      refine wp_aload_n rfl rfl ?_
      obtain ⟨g9, g10, H⟩ := H
      refine wp_getR rfl rfl g9 g10 ?_
      refine wp_iconst rfl ?_
      refine wp_iconst rfl ?_
      obtain ⟨g7, H⟩ := H
      obtain ⟨h5, e8⟩ : ∃ z : HP, z = stI h4 (gR h4 p0 2) (0 : Int32).toNatClampNeg (0 : Int32) := ⟨_, rfl⟩
      have H := H h5 e8
      refine wp_iast rfl g7 e8 ?_
      refine wp_aload_n rfl rfl ?_
      obtain ⟨g6, H⟩ := H
      refine wp_getI rfl rfl g6 ?_
      exact wp_iret rfl rfl H
    · have H := H.2 q19
      refine wp_bipush rfl ?_
      exact wp_iret rfl rfl H
  · have H := H.2 q21
    refine wp_bipush rfl ?_
    exact wp_iret rfl rfl H
def wb_M_term_29 (l0 : Nat) (l1 : Int32) (h : HP) (K : Int32 → HP → Prop) : Prop :=
  isO h l0 10 ∧ wq_M_isWord l0 (0 : Int32) l1 h (fun v10 h9 => (v10 = 0 → K (-2 : Int32) h9) ∧ (¬ v10 = 0 → isO h9 l0 10 ∧ 0 < gR h9 l0 2 ∧ isL h9 (gR h9 l0 2) 100 (0 : Int32) ∧ (l1 = gI h9 (gR h9 l0 2) (0 : Int32).toNatClampNeg → K (-2 : Int32) h9) ∧ (¬ l1 = gI h9 (gR h9 l0 2) (0 : Int32).toNatClampNeg → isO h9 l0 10 ∧ 0 < gR h9 l0 2 ∧ isL h9 (gR h9 l0 2) 100 (0 : Int32) ∧ isO h9 l0 10 ∧ wq_M_isWord l0 (l1 + (1 : Int32)) (((gI h9 (gR h9 l0 2) (0 : Int32).toNatClampNeg) - l1) - (1 : Int32)) h9 (fun v12 h11 => (¬ v12 = 0 → isO h11 l0 10 ∧ (¬ gI h11 l0 13 = (10 : Int32) → isO h11 l0 10 ∧ isO h11 l0 10 ∧ wq_M_word l0 ((8 : Int32) + (gI h11 l0 13)) (0 : Int32) l1 h11 (fun h13 => isO h13 l0 10 ∧ isO h13 l0 10 ∧ 0 < gR h13 l0 2 ∧ isL h13 (gR h13 l0 2) 100 (0 : Int32) ∧ isO h13 l0 10 ∧ wq_M_word l0 ((18 : Int32) + (gI h13 l0 13)) (l1 + (1 : Int32)) (((gI h13 (gR h13 l0 2) (0 : Int32).toNatClampNeg) - l1) - (1 : Int32)) h13 (fun h14 => isO h14 l0 10 ∧ isO h14 l0 10 ∧ (∀ h15 : HP, h15 = stI h14 l0 13 ((gI h14 l0 13) + (1 : Int32)) → isO h15 l0 10 ∧ 0 < gR h15 l0 2 ∧ isA h15 (gR h15 l0 2) 100 (0 : Int32) ∧ (∀ h16 : HP, h16 = stI h15 (gR h15 l0 2) (0 : Int32).toNatClampNeg (0 : Int32) → isO h16 l0 10 ∧ K ((gI h16 l0 13) - (1 : Int32)) h16))))) ∧ (gI h11 l0 13 = (10 : Int32) → K (-5 : Int32) h11)) ∧ (v12 = 0 → K (-2 : Int32) h11)))))
set_option maxRecDepth 100000 in
set_option maxHeartbeats 4000000 in
theorem wb_M_term_29_ok {l0 : Nat} {l1 : Int32} {h : HP} {K : Int32 → HP → Prop} (H : wb_M_term_29 l0 l1 h K) : Wp k_M_term 29 [some (.ref l0), some (.int l1)] [] h (0, 0) (QI K) := by
  unfold wb_M_term_29 at H
  refine wp_aload_n rfl rfl ?_
  refine wp_iconst rfl ?_
  refine wp_iload_n rfl rfl ?_
  obtain ⟨g44, H⟩ := H
  refine wp_callvI rfl rfl (Or.inr rfl) (lo' := [some (.ref l0), some (.int l1)]) rfl g44 ⟨Nat.le_of_ble_eq_true rfl, Nat.le_of_ble_eq_true rfl, Nat.le_of_ble_eq_true rfl, Nat.le_of_ble_eq_true rfl⟩ (bd' := (0, 0)) rfl ?_
  refine (wq_M_isWord_ok H).conI (fun v10 h9 H => ?_)
  refine wp_if_eq rfl (lo1 := [none, none]) (lo2 := [some (.ref l0), some (.int l1)]) rfl rfl (fun q43 => ?_) (fun q43 => ?_)
  · have H := H.1 q43
    refine wp_bipush rfl ?_
    exact wp_iret rfl rfl H
  · have H := H.2 q43
    refine wp_iload_n rfl rfl ?_
    refine wp_aload_n rfl rfl ?_
    obtain ⟨g41, g42, H⟩ := H
    refine wp_getR rfl rfl g41 g42 ?_
    refine wp_iconst rfl ?_
    obtain ⟨g40, H⟩ := H
    refine wp_iald rfl g40 ?_
    refine wp_icmp_eq rfl (lo1 := [none, none]) (lo2 := [some (.ref l0), some (.int l1)]) rfl rfl (fun q39 => ?_) (fun q39 => ?_)
    · have H := H.1 q39
      refine wp_bipush rfl ?_
      exact wp_iret rfl rfl H
    · have H := H.2 q39
      refine wp_aload_n rfl rfl ?_
      refine wp_iload_n rfl rfl ?_
      refine wp_iconst rfl ?_
      refine wp_iadd rfl ?_
      refine wp_aload_n rfl rfl ?_
      obtain ⟨g37, g38, H⟩ := H
      refine wp_getR rfl rfl g37 g38 ?_
      refine wp_iconst rfl ?_
      obtain ⟨g36, H⟩ := H
      refine wp_iald rfl g36 ?_
      refine wp_iload_n rfl rfl ?_
      refine wp_isub rfl ?_
      refine wp_iconst rfl ?_
      refine wp_isub rfl ?_
      obtain ⟨g35, H⟩ := H
      refine wp_callvI rfl rfl (Or.inr rfl) (lo' := [some (.ref l0), some (.int l1)]) rfl g35 ⟨Nat.le_of_ble_eq_true rfl, Nat.le_of_ble_eq_true rfl, Nat.le_of_ble_eq_true rfl, Nat.le_of_ble_eq_true rfl⟩ (bd' := (0, 0)) rfl ?_
      refine (wq_M_isWord_ok H).conI (fun v12 h11 H => ?_)
      refine wp_if_ne rfl (lo1 := [some (.ref l0), some (.int l1)]) (lo2 := [none, none]) rfl rfl (fun q34 => ?_) (fun q34 => ?_)
      · have H := H.1 q34
        refine wp_aload_n rfl rfl ?_
        obtain ⟨g33, H⟩ := H
        refine wp_getI rfl rfl g33 ?_
        refine wp_bipush rfl ?_
        refine wp_icmp_ne rfl (lo1 := [some (.ref l0), some (.int l1)]) (lo2 := [some (.ref l0), some (.int l1)]) rfl rfl (fun q32 => ?_) (fun q32 => ?_)
        · have H := H.1 q32
          refine wp_aload_n rfl rfl ?_
          refine wp_bipush rfl ?_
          refine wp_aload_n rfl rfl ?_
          obtain ⟨g31, H⟩ := H
          refine wp_getI rfl rfl g31 ?_
          refine wp_iadd rfl ?_
          refine wp_iconst rfl ?_
          refine wp_iload_n rfl rfl ?_
          obtain ⟨g30, H⟩ := H
          refine wp_callvV rfl rfl rfl (lo' := [some (.ref l0), some (.int l1)]) rfl g30 ⟨Nat.le_of_ble_eq_true rfl, Nat.le_of_ble_eq_true rfl, Nat.le_of_ble_eq_true rfl, Nat.le_of_ble_eq_true rfl⟩ (bd' := (0, 0)) rfl ?_
          refine (wq_M_word_ok H).conV (fun h13 H => ?_)
          refine wp_aload_n rfl rfl ?_
          refine wp_bipush rfl ?_
          refine wp_aload_n rfl rfl ?_
          obtain ⟨g29, H⟩ := H
          refine wp_getI rfl rfl g29 ?_
          refine wp_iadd rfl ?_
          refine wp_iload_n rfl rfl ?_
          refine wp_iconst rfl ?_
          refine wp_iadd rfl ?_
          refine wp_aload_n rfl rfl ?_
          obtain ⟨g27, g28, H⟩ := H
          refine wp_getR rfl rfl g27 g28 ?_
          refine wp_iconst rfl ?_
          obtain ⟨g26, H⟩ := H
          refine wp_iald rfl g26 ?_
          refine wp_iload_n rfl rfl ?_
          refine wp_isub rfl ?_
          refine wp_iconst rfl ?_
          refine wp_isub rfl ?_
          obtain ⟨g25, H⟩ := H
          refine wp_callvV rfl rfl rfl (lo' := [some (.ref l0), some (.int l1)]) rfl g25 ⟨Nat.le_of_ble_eq_true rfl, Nat.le_of_ble_eq_true rfl, Nat.le_of_ble_eq_true rfl, Nat.le_of_ble_eq_true rfl⟩ (bd' := (0, 0)) rfl ?_
          refine (wq_M_word_ok H).conV (fun h14 H => ?_)
          refine wp_aload_n rfl rfl ?_
          refine wp_dupR rfl ?_
          obtain ⟨g24, H⟩ := H
          refine wp_getI rfl rfl g24 ?_
          refine wp_iconst rfl ?_
          refine wp_iadd rfl ?_
          obtain ⟨g22, H⟩ := H
          obtain ⟨h15, e23⟩ : ∃ z : HP, z = stI h14 l0 13 ((gI h14 l0 13) + (1 : Int32)) := ⟨_, rfl⟩
          have H := H h15 e23
          refine wp_putI rfl rfl g22 e23 ?_
          refine wp_aload_n rfl rfl ?_
          obtain ⟨g20, g21, H⟩ := H
          refine wp_getR rfl rfl g20 g21 ?_
          refine wp_iconst rfl ?_
          refine wp_iconst rfl ?_
          obtain ⟨g18, H⟩ := H
          obtain ⟨h16, e19⟩ : ∃ z : HP, z = stI h15 (gR h15 l0 2) (0 : Int32).toNatClampNeg (0 : Int32) := ⟨_, rfl⟩
          have H := H h16 e19
          refine wp_iast rfl g18 e19 ?_
          refine wp_aload_n rfl rfl ?_
          obtain ⟨g17, H⟩ := H
          refine wp_getI rfl rfl g17 ?_
          refine wp_iconst rfl ?_
          refine wp_isub rfl ?_
          exact wp_iret rfl rfl H
        · have H := H.2 q32
          refine wp_bipush rfl ?_
          exact wp_iret rfl rfl H
      · have H := H.2 q34
        refine wp_bipush rfl ?_
        exact wp_iret rfl rfl H
def wb_M_term_2 (l0 : Nat) (l1 : Int32) (h : HP) (K : Int32 → HP → Prop) : Prop :=
  isO h l0 10 ∧ 0 < gR h l0 2 ∧ isL h (gR h l0 2) 100 (0 : Int32) ∧ (gI h (gR h l0 2) (0 : Int32).toNatClampNeg ≤ l1 → wb_M_term_29 l0 l1 h K) ∧ (¬ gI h (gR h l0 2) (0 : Int32).toNatClampNeg ≤ l1 → isO h l0 10 ∧ 0 < gR h l0 1 ∧ isL h (gR h l0 1) 100 l1 ∧ (gI h (gR h l0 1) l1.toNatClampNeg = (32 : Int32) → wb_M_term_29 l0 l1 h K) ∧ (¬ gI h (gR h l0 1) l1.toNatClampNeg = (32 : Int32) → Wp k_M_term 2 [some (.ref l0), some (.int (l1 + (1 : Int32)))] [] h (0, 0) (QI K)))
theorem wb_M_term_2_ok {l0 : Nat} {l1 : Int32} {h : HP} {K : Int32 → HP → Prop} (H : wb_M_term_2 l0 l1 h K) : Wp k_M_term 2 [some (.ref l0), some (.int l1)] [] h (0, 0) (QI K) := by
  unfold wb_M_term_2 at H
  refine wp_iload_n rfl rfl ?_
  refine wp_aload_n rfl rfl ?_
  obtain ⟨g7, g8, H⟩ := H
  refine wp_getR rfl rfl g7 g8 ?_
  refine wp_iconst rfl ?_
  obtain ⟨g6, H⟩ := H
  refine wp_iald rfl g6 ?_
  refine wp_icmp_ge rfl (lo1 := [some (.ref l0), some (.int l1)]) (lo2 := [some (.ref l0), some (.int l1)]) rfl rfl (fun q5 => ?_) (fun q5 => ?_)
  · have H := H.1 q5
    exact wb_M_term_29_ok H
  · have H := H.2 q5
    refine wp_aload_n rfl rfl ?_
    obtain ⟨g3, g4, H⟩ := H
    refine wp_getR rfl rfl g3 g4 ?_
    refine wp_iload_n rfl rfl ?_
    obtain ⟨g2, H⟩ := H
    refine wp_iald rfl g2 ?_
    refine wp_bipush rfl ?_
    refine wp_icmp_eq rfl (lo1 := [some (.ref l0), some (.int l1)]) (lo2 := [some (.ref l0), some (.int l1)]) rfl rfl (fun q1 => ?_) (fun q1 => ?_)
    · have H := H.1 q1
      exact wb_M_term_29_ok H
    · have H := H.2 q1
      refine wp_iinc rfl rfl rfl (lo' := [some (.ref l0), some (.int (l1 + (1 : Int32)))]) rfl ?_
      refine wp_goto rfl (lo' := [some (.ref l0), some (.int (l1 + (1 : Int32)))]) rfl ?_
      exact H
def wq_M_term (p0 : Nat) (h : HP) (K : Int32 → HP → Prop) : Prop :=
  Wp k_M_term 2 [some (.ref p0), some (.int (0 : Int32))] [] h (0, 0) (QI K)
theorem wq_M_term_ok {p0 : Nat} {h : HP} {K : Int32 → HP → Prop} (H : wq_M_term p0 h K) : Wp k_M_term 0 [some (.ref p0), none] [] h (0, 0) (QI K) := by
  unfold wq_M_term at H
  refine wp_iconst rfl ?_
  refine wp_istore_n rfl rfl (lo' := [some (.ref p0), some (.int (0 : Int32))]) rfl ?_
  exact H
def wq_M_forbid (p0 : Nat) (h : HP) (K : Int32 → HP → Prop) : Prop :=
  isO h p0 10 ∧ 0 < gR h p0 2 ∧ isL h (gR h p0 2) 100 (0 : Int32) ∧ isO h p0 10 ∧ wq_M_isWord p0 (0 : Int32) (gI h (gR h p0 2) (0 : Int32).toNatClampNeg) h (fun v2 h1 => (¬ v2 = 0 → isO h1 p0 10 ∧ (¬ gI h1 p0 14 = (5 : Int32) → isO h1 p0 10 ∧ isO h1 p0 10 ∧ 0 < gR h1 p0 2 ∧ isL h1 (gR h1 p0 2) 100 (0 : Int32) ∧ isO h1 p0 10 ∧ wq_M_word p0 ((28 : Int32) + (gI h1 p0 14)) (0 : Int32) (gI h1 (gR h1 p0 2) (0 : Int32).toNatClampNeg) h1 (fun h3 => isO h3 p0 10 ∧ isO h3 p0 10 ∧ (∀ h4 : HP, h4 = stI h3 p0 14 ((gI h3 p0 14) + (1 : Int32)) → isO h4 p0 10 ∧ 0 < gR h4 p0 2 ∧ isA h4 (gR h4 p0 2) 100 (0 : Int32) ∧ (∀ h5 : HP, h5 = stI h4 (gR h4 p0 2) (0 : Int32).toNatClampNeg (0 : Int32) → isO h5 p0 10 ∧ K (gI h5 p0 14) h5)))) ∧ (gI h1 p0 14 = (5 : Int32) → K (-5 : Int32) h1)) ∧ (v2 = 0 → K (-2 : Int32) h1))
theorem wq_M_forbid_ok {p0 : Nat} {h : HP} {K : Int32 → HP → Prop} (H : wq_M_forbid p0 h K) : Wp k_M_forbid 0 [some (.ref p0)] [] h (0, 0) (QI K) := by
  unfold wq_M_forbid at H
  refine wp_aload_n rfl rfl ?_
  refine wp_iconst rfl ?_
  refine wp_aload_n rfl rfl ?_
  obtain ⟨g24, g25, H⟩ := H
  refine wp_getR rfl rfl g24 g25 ?_
  refine wp_iconst rfl ?_
  obtain ⟨g23, H⟩ := H
  refine wp_iald rfl g23 ?_
  obtain ⟨g22, H⟩ := H
  refine wp_callvI rfl rfl (Or.inr rfl) (lo' := [some (.ref p0)]) rfl g22 ⟨Nat.le_of_ble_eq_true rfl, Nat.le_of_ble_eq_true rfl, Nat.le_of_ble_eq_true rfl, Nat.le_of_ble_eq_true rfl⟩ (bd' := (0, 0)) rfl ?_
  refine (wq_M_isWord_ok H).conI (fun v2 h1 H => ?_)
  refine wp_if_ne rfl (lo1 := [some (.ref p0)]) (lo2 := [some (.ref p0)]) rfl rfl (fun q21 => ?_) (fun q21 => ?_)
  · have H := H.1 q21
    refine wp_aload_n rfl rfl ?_
    obtain ⟨g20, H⟩ := H
    refine wp_getI rfl rfl g20 ?_
    refine wp_iconst rfl ?_
    refine wp_icmp_ne rfl (lo1 := [some (.ref p0)]) (lo2 := [some (.ref p0)]) rfl rfl (fun q19 => ?_) (fun q19 => ?_)
    · have H := H.1 q19
      refine wp_aload_n rfl rfl ?_
      refine wp_bipush rfl ?_
      refine wp_aload_n rfl rfl ?_
      obtain ⟨g18, H⟩ := H
      refine wp_getI rfl rfl g18 ?_
      refine wp_iadd rfl ?_
      refine wp_iconst rfl ?_
      refine wp_aload_n rfl rfl ?_
      obtain ⟨g16, g17, H⟩ := H
      refine wp_getR rfl rfl g16 g17 ?_
      refine wp_iconst rfl ?_
      obtain ⟨g15, H⟩ := H
      refine wp_iald rfl g15 ?_
      obtain ⟨g14, H⟩ := H
      refine wp_callvV rfl rfl rfl (lo' := [some (.ref p0)]) rfl g14 ⟨Nat.le_of_ble_eq_true rfl, Nat.le_of_ble_eq_true rfl, Nat.le_of_ble_eq_true rfl, Nat.le_of_ble_eq_true rfl⟩ (bd' := (0, 0)) rfl ?_
      refine (wq_M_word_ok H).conV (fun h3 H => ?_)
      refine wp_aload_n rfl rfl ?_
      refine wp_dupR rfl ?_
      obtain ⟨g13, H⟩ := H
      refine wp_getI rfl rfl g13 ?_
      refine wp_iconst rfl ?_
      refine wp_iadd rfl ?_
      obtain ⟨g11, H⟩ := H
      obtain ⟨h4, e12⟩ : ∃ z : HP, z = stI h3 p0 14 ((gI h3 p0 14) + (1 : Int32)) := ⟨_, rfl⟩
      have H := H h4 e12
      refine wp_putI rfl rfl g11 e12 ?_
      refine wp_aload_n rfl rfl ?_
      obtain ⟨g9, g10, H⟩ := H
      refine wp_getR rfl rfl g9 g10 ?_
      refine wp_iconst rfl ?_
      refine wp_iconst rfl ?_
      obtain ⟨g7, H⟩ := H
      obtain ⟨h5, e8⟩ : ∃ z : HP, z = stI h4 (gR h4 p0 2) (0 : Int32).toNatClampNeg (0 : Int32) := ⟨_, rfl⟩
      have H := H h5 e8
      refine wp_iast rfl g7 e8 ?_
      refine wp_aload_n rfl rfl ?_
      obtain ⟨g6, H⟩ := H
      refine wp_getI rfl rfl g6 ?_
      exact wp_iret rfl rfl H
    · have H := H.2 q19
      refine wp_bipush rfl ?_
      exact wp_iret rfl rfl H
  · have H := H.2 q21
    refine wp_bipush rfl ?_
    exact wp_iret rfl rfl H
def wb_M_ends_42 (l0 : Nat) (l1 : Int32) (l2 : Int32) (l3 : Int32) (h : HP) (K : Int32 → HP → Prop) : Prop :=
  (l2 ≤ l1 + (1 : Int32) → Wp k_M_ends 70 [some (.ref l0), some (.int l1), none, some (.int l3), some (.int (1 : Int32)), some (.int (0 : Int32))] [] h (0, 0) (QI K)) ∧ (¬ l2 ≤ l1 + (1 : Int32) → isO h l0 10 ∧ 0 < gR h l0 3 ∧ isL h (gR h l0 3) 100 (l1 + (1 : Int32)) ∧ (gI h (gR h l0 3) (l1 + (1 : Int32)).toNatClampNeg = (6 : Int32) → Wp k_M_ends 70 [some (.ref l0), some (.int l1), none, some (.int l3), some (.int (1 : Int32)), some (.int (0 : Int32))] [] h (0, 0) (QI K)) ∧ (¬ gI h (gR h l0 3) (l1 + (1 : Int32)).toNatClampNeg = (6 : Int32) → K (0 : Int32) h))
theorem wb_M_ends_42_ok {l0 : Nat} {l1 : Int32} {l2 : Int32} {l3 : Int32} {h : HP} {K : Int32 → HP → Prop} (H : wb_M_ends_42 l0 l1 l2 l3 h K) : Wp k_M_ends 42 [some (.ref l0), some (.int l1), some (.int l2), some (.int l3), none, none] [] h (0, 0) (QI K) := by
  unfold wb_M_ends_42 at H
  refine wp_iload_n rfl rfl ?_
  refine wp_iconst rfl ?_
  refine wp_iadd rfl ?_
  refine wp_iload_n rfl rfl ?_
  refine wp_icmp_ge rfl (lo1 := [some (.ref l0), some (.int l1), none, some (.int l3), none, none]) (lo2 := [some (.ref l0), some (.int l1), some (.int l2), some (.int l3), none, none]) rfl rfl (fun q18 => ?_) (fun q18 => ?_)
  · have H := H.1 q18
    refine wp_iconst rfl ?_
    refine wp_istore rfl rfl (lo' := [some (.ref l0), some (.int l1), none, some (.int l3), some (.int (1 : Int32)), none]) rfl ?_
    refine wp_iconst rfl ?_
    refine wp_istore rfl rfl (lo' := [some (.ref l0), some (.int l1), none, some (.int l3), some (.int (1 : Int32)), some (.int (0 : Int32))]) rfl ?_
    exact H
  · have H := H.2 q18
    refine wp_aload_n rfl rfl ?_
    obtain ⟨g16, g17, H⟩ := H
    refine wp_getR rfl rfl g16 g17 ?_
    refine wp_iload_n rfl rfl ?_
    refine wp_iconst rfl ?_
    refine wp_iadd rfl ?_
    obtain ⟨g15, H⟩ := H
    refine wp_iald rfl g15 ?_
    refine wp_bipush rfl ?_
    refine wp_icmp_eq rfl (lo1 := [some (.ref l0), some (.int l1), none, some (.int l3), none, none]) (lo2 := [some (.ref l0), some (.int l1), some (.int l2), some (.int l3), none, none]) rfl rfl (fun q14 => ?_) (fun q14 => ?_)
    · have H := H.1 q14
      refine wp_iconst rfl ?_
      refine wp_istore rfl rfl (lo' := [some (.ref l0), some (.int l1), none, some (.int l3), some (.int (1 : Int32)), none]) rfl ?_
      refine wp_iconst rfl ?_
      refine wp_istore rfl rfl (lo' := [some (.ref l0), some (.int l1), none, some (.int l3), some (.int (1 : Int32)), some (.int (0 : Int32))]) rfl ?_
      exact H
    · have H := H.2 q14
      refine wp_iconst rfl ?_
      exact wp_zret rfl rfl (by decide) H
def wb_M_ends_70 (l0 : Nat) (l1 : Int32) (l3 : Int32) (l4 : Int32) (l5 : Int32) (h : HP) (K : Int32 → HP → Prop) : Prop :=
  isO h l0 10 ∧ (gI h l0 12 ≤ l5 → (l4 = 0 ∨ l4 = 1) ∧ K l4 h) ∧ (¬ gI h l0 12 ≤ l5 → (¬ l3 = (46 : Int32) → (l4 = 0 ∨ l4 = 1) ∧ K l4 h) ∧ (l3 = (46 : Int32) → (l1 ≤ 0 → (l4 = 0 ∨ l4 = 1) ∧ K l4 h) ∧ (¬ l1 ≤ 0 → (l4 = 0 → Wp k_M_ends 70 [some (.ref l0), some (.int l1), none, some (.int l3), some (.int (0 : Int32)), some (.int (l5 + (1 : Int32)))] [] h (0, 0) (QI K)) ∧ (¬ l4 = 0 → isO h l0 10 ∧ wq_M_isThat l0 (l1 - (1 : Int32)) l5 h (fun v20 h19 => (¬ v20 = 0 → Wp k_M_ends 70 [some (.ref l0), some (.int l1), none, some (.int l3), some (.int (0 : Int32)), some (.int (l5 + (1 : Int32)))] [] h19 (0, 0) (QI K)) ∧ (v20 = 0 → Wp k_M_ends 70 [some (.ref l0), some (.int l1), none, some (.int l3), some (.int (1 : Int32)), some (.int (l5 + (1 : Int32)))] [] h19 (0, 0) (QI K)))))))
set_option maxRecDepth 100000 in
set_option maxHeartbeats 4000000 in
theorem wb_M_ends_70_ok {l0 : Nat} {l1 : Int32} {l3 : Int32} {l4 : Int32} {l5 : Int32} {h : HP} {K : Int32 → HP → Prop} (H : wb_M_ends_70 l0 l1 l3 l4 l5 h K) : Wp k_M_ends 70 [some (.ref l0), some (.int l1), none, some (.int l3), some (.int l4), some (.int l5)] [] h (0, 0) (QI K) := by
  unfold wb_M_ends_70 at H
  refine wp_iload rfl rfl ?_
  refine wp_aload_n rfl rfl ?_
  obtain ⟨g27, H⟩ := H
  refine wp_getI rfl rfl g27 ?_
  refine wp_icmp_ge rfl (lo1 := [none, none, none, none, some (.int l4), none]) (lo2 := [some (.ref l0), some (.int l1), none, some (.int l3), some (.int l4), some (.int l5)]) rfl rfl (fun q26 => ?_) (fun q26 => ?_)
  · have H := H.1 q26
    refine wp_iload rfl rfl ?_
    exact wp_zret rfl rfl H.1 H.2
  · have H := H.2 q26
    refine wp_iload_n rfl rfl ?_
    refine wp_bipush rfl ?_
    refine wp_icmp_ne rfl (lo1 := [none, none, none, none, some (.int l4), none]) (lo2 := [some (.ref l0), some (.int l1), none, some (.int l3), some (.int l4), some (.int l5)]) rfl rfl (fun q25 => ?_) (fun q25 => ?_)
    · have H := H.1 q25
      refine wp_iload rfl rfl ?_
      exact wp_zret rfl rfl H.1 H.2
    · have H := H.2 q25
      refine wp_iload_n rfl rfl ?_
      refine wp_if_le rfl (lo1 := [none, none, none, none, some (.int l4), none]) (lo2 := [some (.ref l0), some (.int l1), none, some (.int l3), some (.int l4), some (.int l5)]) rfl rfl (fun q24 => ?_) (fun q24 => ?_)
      · have H := H.1 q24
        refine wp_iload rfl rfl ?_
        exact wp_zret rfl rfl H.1 H.2
      · have H := H.2 q24
        refine wp_iload rfl rfl ?_
        refine wp_if_eq rfl (lo1 := [some (.ref l0), some (.int l1), none, some (.int l3), none, some (.int l5)]) (lo2 := [some (.ref l0), some (.int l1), none, some (.int l3), some (.int l4), some (.int l5)]) rfl rfl (fun q23 => ?_) (fun q23 => ?_)
        · have H := H.1 q23
          refine wp_iconstk (lo' := [some (.ref l0), some (.int l1), none, some (.int l3), none, some (.int l5)]) rfl rfl ?_
          refine wp_istore rfl rfl (lo' := [some (.ref l0), some (.int l1), none, some (.int l3), some (.int (0 : Int32)), some (.int l5)]) rfl ?_
          refine wp_iinc rfl rfl rfl (lo' := [some (.ref l0), some (.int l1), none, some (.int l3), some (.int (0 : Int32)), some (.int (l5 + (1 : Int32)))]) rfl ?_
          refine wp_goto rfl (lo' := [some (.ref l0), some (.int l1), none, some (.int l3), some (.int (0 : Int32)), some (.int (l5 + (1 : Int32)))]) rfl ?_
          exact H
        · have H := H.2 q23
          refine wp_aload_n rfl rfl ?_
          refine wp_iload_n rfl rfl ?_
          refine wp_iconst rfl ?_
          refine wp_isub rfl ?_
          refine wp_iload rfl rfl ?_
          obtain ⟨g22, H⟩ := H
          refine wp_callvI rfl rfl (Or.inr rfl) (lo' := [some (.ref l0), some (.int l1), none, some (.int l3), some (.int l4), some (.int l5)]) rfl g22 ⟨Nat.le_of_ble_eq_true rfl, Nat.le_of_ble_eq_true rfl, Nat.le_of_ble_eq_true rfl, Nat.le_of_ble_eq_true rfl⟩ (bd' := (0, 0)) rfl ?_
          refine (wq_M_isThat_ok H).conI (fun v20 h19 H => ?_)
          refine wp_if_ne rfl (lo1 := [some (.ref l0), some (.int l1), none, some (.int l3), none, some (.int l5)]) (lo2 := [some (.ref l0), some (.int l1), none, some (.int l3), some (.int l4), some (.int l5)]) rfl rfl (fun q21 => ?_) (fun q21 => ?_)
          · have H := H.1 q21
            refine wp_iconstk (lo' := [some (.ref l0), some (.int l1), none, some (.int l3), none, some (.int l5)]) rfl rfl ?_
            refine wp_istore rfl rfl (lo' := [some (.ref l0), some (.int l1), none, some (.int l3), some (.int (0 : Int32)), some (.int l5)]) rfl ?_
            refine wp_iinc rfl rfl rfl (lo' := [some (.ref l0), some (.int l1), none, some (.int l3), some (.int (0 : Int32)), some (.int (l5 + (1 : Int32)))]) rfl ?_
            refine wp_goto rfl (lo' := [some (.ref l0), some (.int l1), none, some (.int l3), some (.int (0 : Int32)), some (.int (l5 + (1 : Int32)))]) rfl ?_
            exact H
          · have H := H.2 q21
            refine wp_iconst rfl ?_
            refine wp_goto rfl (lo' := [some (.ref l0), some (.int l1), none, some (.int l3), none, some (.int l5)]) rfl ?_
            refine wp_istore rfl rfl (lo' := [some (.ref l0), some (.int l1), none, some (.int l3), some (.int (1 : Int32)), some (.int l5)]) rfl ?_
            refine wp_iinc rfl rfl rfl (lo' := [some (.ref l0), some (.int l1), none, some (.int l3), some (.int (1 : Int32)), some (.int (l5 + (1 : Int32)))]) rfl ?_
            refine wp_goto rfl (lo' := [some (.ref l0), some (.int l1), none, some (.int l3), some (.int (1 : Int32)), some (.int (l5 + (1 : Int32)))]) rfl ?_
            exact H
def wq_M_ends (p0 : Nat) (p1 : Int32) (p2 : Int32) (h : HP) (K : Int32 → HP → Prop) : Prop :=
  isO h p0 10 ∧ 0 < gR h p0 1 ∧ isO h p0 10 ∧ 0 < gR h p0 4 ∧ isL h (gR h p0 4) 100 p1 ∧ isL h (gR h p0 1) 100 (gI h (gR h p0 4) p1.toNatClampNeg) ∧ isO h p0 10 ∧ 0 < gR h p0 3 ∧ isL h (gR h p0 3) 100 p1 ∧ (¬ gI h (gR h p0 3) p1.toNatClampNeg = (5 : Int32) → K (0 : Int32) h) ∧ (gI h (gR h p0 3) p1.toNatClampNeg = (5 : Int32) → (gI h (gR h p0 1) (gI h (gR h p0 4) p1.toNatClampNeg).toNatClampNeg = (46 : Int32) → wb_M_ends_42 p0 p1 p2 (gI h (gR h p0 1) (gI h (gR h p0 4) p1.toNatClampNeg).toNatClampNeg) h K) ∧ (¬ gI h (gR h p0 1) (gI h (gR h p0 4) p1.toNatClampNeg).toNatClampNeg = (46 : Int32) → (gI h (gR h p0 1) (gI h (gR h p0 4) p1.toNatClampNeg).toNatClampNeg = (33 : Int32) → wb_M_ends_42 p0 p1 p2 (gI h (gR h p0 1) (gI h (gR h p0 4) p1.toNatClampNeg).toNatClampNeg) h K) ∧ (¬ gI h (gR h p0 1) (gI h (gR h p0 4) p1.toNatClampNeg).toNatClampNeg = (33 : Int32) → (gI h (gR h p0 1) (gI h (gR h p0 4) p1.toNatClampNeg).toNatClampNeg = (63 : Int32) → wb_M_ends_42 p0 p1 p2 (gI h (gR h p0 1) (gI h (gR h p0 4) p1.toNatClampNeg).toNatClampNeg) h K) ∧ (¬ gI h (gR h p0 1) (gI h (gR h p0 4) p1.toNatClampNeg).toNatClampNeg = (63 : Int32) → K (0 : Int32) h))))
theorem wq_M_ends_ok {p0 : Nat} {p1 : Int32} {p2 : Int32} {h : HP} {K : Int32 → HP → Prop} (H : wq_M_ends p0 p1 p2 h K) : Wp k_M_ends 0 [some (.ref p0), some (.int p1), some (.int p2), none, none, none] [] h (0, 0) (QI K) := by
  unfold wq_M_ends at H
  refine wp_aload_n rfl rfl ?_
  obtain ⟨g12, g13, H⟩ := H
  refine wp_getR rfl rfl g12 g13 ?_
  refine wp_aload_n rfl rfl ?_
  obtain ⟨g10, g11, H⟩ := H
  refine wp_getR rfl rfl g10 g11 ?_
  refine wp_iload_n rfl rfl ?_
  obtain ⟨g9, H⟩ := H
  refine wp_iald rfl g9 ?_
  obtain ⟨g8, H⟩ := H
  refine wp_iald rfl g8 ?_
  refine wp_istore_n rfl rfl (lo' := [some (.ref p0), some (.int p1), some (.int p2), some (.int (gI h (gR h p0 1) (gI h (gR h p0 4) p1.toNatClampNeg).toNatClampNeg)), none, none]) rfl ?_
  refine wp_aload_n rfl rfl ?_
  obtain ⟨g6, g7, H⟩ := H
  refine wp_getR rfl rfl g6 g7 ?_
  refine wp_iload_n rfl rfl ?_
  obtain ⟨g5, H⟩ := H
  refine wp_iald rfl g5 ?_
  refine wp_iconst rfl ?_
  refine wp_icmp_ne rfl (lo1 := [none, none, none, none, none, none]) (lo2 := [some (.ref p0), some (.int p1), some (.int p2), some (.int (gI h (gR h p0 1) (gI h (gR h p0 4) p1.toNatClampNeg).toNatClampNeg)), none, none]) rfl rfl (fun q4 => ?_) (fun q4 => ?_)
  · have H := H.1 q4
    refine wp_iconst rfl ?_
    exact wp_zret rfl rfl (by decide) H
  · have H := H.2 q4
    refine wp_iload_n rfl rfl ?_
    refine wp_bipush rfl ?_
    refine wp_icmp_eq rfl (lo1 := [some (.ref p0), some (.int p1), some (.int p2), some (.int (gI h (gR h p0 1) (gI h (gR h p0 4) p1.toNatClampNeg).toNatClampNeg)), none, none]) (lo2 := [some (.ref p0), some (.int p1), some (.int p2), some (.int (gI h (gR h p0 1) (gI h (gR h p0 4) p1.toNatClampNeg).toNatClampNeg)), none, none]) rfl rfl (fun q3 => ?_) (fun q3 => ?_)
    · have H := H.1 q3
      exact wb_M_ends_42_ok H
    · have H := H.2 q3
      refine wp_iload_n rfl rfl ?_
      refine wp_bipush rfl ?_
      refine wp_icmp_eq rfl (lo1 := [some (.ref p0), some (.int p1), some (.int p2), some (.int (gI h (gR h p0 1) (gI h (gR h p0 4) p1.toNatClampNeg).toNatClampNeg)), none, none]) (lo2 := [some (.ref p0), some (.int p1), some (.int p2), some (.int (gI h (gR h p0 1) (gI h (gR h p0 4) p1.toNatClampNeg).toNatClampNeg)), none, none]) rfl rfl (fun q2 => ?_) (fun q2 => ?_)
      · have H := H.1 q2
        exact wb_M_ends_42_ok H
      · have H := H.2 q2
        refine wp_iload_n rfl rfl ?_
        refine wp_bipush rfl ?_
        refine wp_icmp_eq rfl (lo1 := [some (.ref p0), some (.int p1), some (.int p2), some (.int (gI h (gR h p0 1) (gI h (gR h p0 4) p1.toNatClampNeg).toNatClampNeg)), none, none]) (lo2 := [none, none, none, none, none, none]) rfl rfl (fun q1 => ?_) (fun q1 => ?_)
        · have H := H.1 q1
          exact wb_M_ends_42_ok H
        · have H := H.2 q1
          refine wp_iconst rfl ?_
          exact wp_zret rfl rfl (by decide) H
def wb_M_pair_82 (l0 : Nat) (l1 : Int32) (l4 : Int32) (l5 : Int32) (h : HP) (K : Int32 → HP → Prop) : Prop :=
  isO h l0 10 ∧ (gI h l0 20 ≤ l5 → K l4 h) ∧ (¬ gI h l0 20 ≤ l5 → isO h l0 10 ∧ 0 < gR h l0 21 ∧ isL h (gR h l0 21) 100 l5 ∧ (¬ gI h (gR h l0 21) l5.toNatClampNeg = l1 → Wp k_M_pair 82 [some (.ref l0), some (.int l1), none, none, some (.int (l4 + (0 : Int32))), some (.int (l5 + (1 : Int32)))] [] h (0, 0) (QI K)) ∧ (gI h (gR h l0 21) l5.toNatClampNeg = l1 → Wp k_M_pair 82 [some (.ref l0), some (.int l1), none, none, some (.int (l4 + (1 : Int32))), some (.int (l5 + (1 : Int32)))] [] h (0, 0) (QI K)))
theorem wb_M_pair_82_ok {l0 : Nat} {l1 : Int32} {l4 : Int32} {l5 : Int32} {h : HP} {K : Int32 → HP → Prop} (H : wb_M_pair_82 l0 l1 l4 l5 h K) : Wp k_M_pair 82 [some (.ref l0), some (.int l1), none, none, some (.int l4), some (.int l5)] [] h (0, 0) (QI K) := by
  unfold wb_M_pair_82 at H
  refine wp_iload rfl rfl ?_
  refine wp_aload_n rfl rfl ?_
  obtain ⟨g24, H⟩ := H
  refine wp_getI rfl rfl g24 ?_
  refine wp_icmp_ge rfl (lo1 := [some (.ref l0), some (.int l1), none, none, some (.int l4), some (.int l5)]) (lo2 := [some (.ref l0), some (.int l1), none, none, some (.int l4), some (.int l5)]) rfl rfl (fun q23 => ?_) (fun q23 => ?_)
  · have H := H.1 q23
    refine wp_iload rfl rfl ?_
    exact wp_iret rfl rfl H
  · have H := H.2 q23
    refine wp_iload rfl rfl ?_
    refine wp_aload_n rfl rfl ?_
    obtain ⟨g21, g22, H⟩ := H
    refine wp_getR rfl rfl g21 g22 ?_
    refine wp_iload rfl rfl ?_
    obtain ⟨g20, H⟩ := H
    refine wp_iald rfl g20 ?_
    refine wp_iload_n rfl rfl ?_
    refine wp_icmp_ne rfl (lo1 := [some (.ref l0), some (.int l1), none, none, some (.int l4), some (.int l5)]) (lo2 := [some (.ref l0), some (.int l1), none, none, some (.int l4), some (.int l5)]) rfl rfl (fun q19 => ?_) (fun q19 => ?_)
    · have H := H.1 q19
      refine wp_iconstk (lo' := [some (.ref l0), some (.int l1), none, none, none, some (.int l5)]) rfl rfl ?_
      refine wp_iadd rfl ?_
      refine wp_istore rfl rfl (lo' := [some (.ref l0), some (.int l1), none, none, some (.int (l4 + (0 : Int32))), some (.int l5)]) rfl ?_
      refine wp_iinc rfl rfl rfl (lo' := [some (.ref l0), some (.int l1), none, none, some (.int (l4 + (0 : Int32))), some (.int (l5 + (1 : Int32)))]) rfl ?_
      refine wp_goto rfl (lo' := [some (.ref l0), some (.int l1), none, none, some (.int (l4 + (0 : Int32))), some (.int (l5 + (1 : Int32)))]) rfl ?_
      exact H
    · have H := H.2 q19
      refine wp_iconst rfl ?_
      refine wp_goto rfl (lo' := [some (.ref l0), some (.int l1), none, none, none, some (.int l5)]) rfl ?_
      refine wp_iadd rfl ?_
      refine wp_istore rfl rfl (lo' := [some (.ref l0), some (.int l1), none, none, some (.int (l4 + (1 : Int32))), some (.int l5)]) rfl ?_
      refine wp_iinc rfl rfl rfl (lo' := [some (.ref l0), some (.int l1), none, none, some (.int (l4 + (1 : Int32))), some (.int (l5 + (1 : Int32)))]) rfl ?_
      refine wp_goto rfl (lo' := [some (.ref l0), some (.int l1), none, none, some (.int (l4 + (1 : Int32))), some (.int (l5 + (1 : Int32)))]) rfl ?_
      exact H
def wq_M_pair (p0 : Nat) (p1 : Int32) (p2 : Int32) (h : HP) (K : Int32 → HP → Prop) : Prop :=
  isO h p0 10 ∧ wq_M_isPair p0 p1 h (fun v2 h1 => (¬ v2 = 0 → isO h1 p0 10 ∧ isO h1 p0 10 ∧ wq_M_latest p0 p1 (gI h1 p0 20) h1 (fun v4 h3 => (¬ p2 = 0 → ¬ p2 = 1 → ¬ p2 = 2 → ¬ p2 = 3 → ¬ p2 = 4 → K (-1 : Int32) h3) ∧ (p2 = 0 → isO h3 p0 10 ∧ 0 < gR h3 p0 2 ∧ isL h3 (gR h3 p0 2) 100 ((2 : Int32) + p1) ∧ K (gI h3 (gR h3 p0 2) ((2 : Int32) + p1).toNatClampNeg) h3) ∧ (p2 = 1 → isO h3 p0 10 ∧ 0 < gR h3 p0 2 ∧ isL h3 (gR h3 p0 2) 100 ((22 : Int32) + v4) ∧ K (gI h3 (gR h3 p0 2) ((22 : Int32) + v4).toNatClampNeg) h3) ∧ (p2 = 2 → Wp k_M_pair 82 [some (.ref p0), some (.int p1), none, none, some (.int (0 : Int32)), some (.int (0 : Int32))] [] h3 (0, 0) (QI K)) ∧ (p2 = 3 → isO h3 p0 10 ∧ 0 < gR h3 p0 22 ∧ isL h3 (gR h3 p0 22) 100 v4 ∧ K (gI h3 (gR h3 p0 22) v4.toNatClampNeg) h3) ∧ (p2 = 4 → K (v4 + (1 : Int32)) h3))) ∧ (v2 = 0 → K (-1 : Int32) h1))
set_option maxRecDepth 100000 in
set_option maxHeartbeats 4000000 in
theorem wq_M_pair_ok {p0 : Nat} {p1 : Int32} {p2 : Int32} {h : HP} {K : Int32 → HP → Prop} (H : wq_M_pair p0 p1 p2 h K) : Wp k_M_pair 0 [some (.ref p0), some (.int p1), some (.int p2), none, none, none] [] h (0, 0) (QI K) := by
  unfold wq_M_pair at H
  refine wp_aload_n rfl rfl ?_
  refine wp_iload_n rfl rfl ?_
  obtain ⟨g18, H⟩ := H
  refine wp_callvI rfl rfl (Or.inr rfl) (lo' := [some (.ref p0), some (.int p1), some (.int p2), none, none, none]) rfl g18 ⟨Nat.le_of_ble_eq_true rfl, Nat.le_of_ble_eq_true rfl, Nat.le_of_ble_eq_true rfl, Nat.le_of_ble_eq_true rfl⟩ (bd' := (0, 0)) rfl ?_
  refine (wq_M_isPair_ok H).conI (fun v2 h1 H => ?_)
  refine wp_if_ne rfl (lo1 := [some (.ref p0), some (.int p1), some (.int p2), none, none, none]) (lo2 := [some (.ref p0), some (.int p1), some (.int p2), none, none, none]) rfl rfl (fun q17 => ?_) (fun q17 => ?_)
  · have H := H.1 q17
    refine wp_aload_n rfl rfl ?_
    refine wp_iload_n rfl rfl ?_
    refine wp_aload_n rfl rfl ?_
    obtain ⟨g16, H⟩ := H
    refine wp_getI rfl rfl g16 ?_
    obtain ⟨g15, H⟩ := H
    refine wp_callvI rfl rfl (Or.inl rfl) (lo' := [some (.ref p0), some (.int p1), some (.int p2), none, none, none]) rfl g15 ⟨Nat.le_of_ble_eq_true rfl, Nat.le_of_ble_eq_true rfl, Nat.le_of_ble_eq_true rfl, Nat.le_of_ble_eq_true rfl⟩ (bd' := (0, 0)) rfl ?_
    refine (wq_M_latest_ok H).conI (fun v4 h3 H => ?_)
    refine wp_istore_n rfl rfl (lo' := [some (.ref p0), some (.int p1), some (.int p2), some (.int v4), none, none]) rfl ?_
    refine wp_iconst rfl ?_
    refine wp_istore rfl rfl (lo' := [some (.ref p0), some (.int p1), some (.int p2), some (.int v4), some (.int (0 : Int32)), none]) rfl ?_
    refine wp_iload_n rfl rfl ?_
    refine wp_table rfl (lo' := [some (.ref p0), some (.int p1), some (.int p2), some (.int v4), some (.int (0 : Int32)), none]) rfl (fun q14 => ?_) (fun i off ho hx => ?_)
    · have H := H.1 (sw_ne q14 (by decide)) (sw_ne q14 (by decide)) (sw_ne q14 (by decide)) (sw_ne q14 (by decide)) (sw_ne q14 (by decide))
      refine wp_iconst rfl ?_
      exact wp_iret rfl rfl H
    · match i, ho, hx with
      | 0, ho, hx =>
        cases ho
        have H := H.2.1 (sw_eq hx (by decide))
        show Wp k_M_pair 60 _ _ _ _ _
        refine wp_aload_n rfl rfl ?_
        obtain ⟨g6, g7, H⟩ := H
        refine wp_getR rfl rfl g6 g7 ?_
        refine wp_iconst rfl ?_
        refine wp_iload_n rfl rfl ?_
        refine wp_iadd rfl ?_
        obtain ⟨g5, H⟩ := H
        refine wp_iald rfl g5 ?_
        exact wp_iret rfl rfl H
      | 1, ho, hx =>
        cases ho
        have H := H.2.2.1 (sw_eq hx (by decide))
        show Wp k_M_pair 69 _ _ _ _ _
        refine wp_aload_n rfl rfl ?_
        obtain ⟨g9, g10, H⟩ := H
        refine wp_getR rfl rfl g9 g10 ?_
        refine wp_bipush rfl ?_
        refine wp_iload_n rfl rfl ?_
        refine wp_iadd rfl ?_
        obtain ⟨g8, H⟩ := H
        refine wp_iald rfl g8 ?_
        exact wp_iret rfl rfl H
      | 2, ho, hx =>
        cases ho
        have H := H.2.2.2.1 (sw_eq hx (by decide))
        show Wp k_M_pair 79 _ _ _ _ _
        refine wp_iconst rfl ?_
        refine wp_istore rfl rfl (lo' := [some (.ref p0), some (.int p1), none, none, some (.int (0 : Int32)), some (.int (0 : Int32))]) rfl ?_
        exact H
      | 3, ho, hx =>
        cases ho
        have H := H.2.2.2.2.1 (sw_eq hx (by decide))
        show Wp k_M_pair 121 _ _ _ _ _
        refine wp_aload_n rfl rfl ?_
        obtain ⟨g12, g13, H⟩ := H
        refine wp_getR rfl rfl g12 g13 ?_
        refine wp_iload_n rfl rfl ?_
        obtain ⟨g11, H⟩ := H
        refine wp_iald rfl g11 ?_
        exact wp_iret rfl rfl H
      | 4, ho, hx =>
        cases ho
        have H := H.2.2.2.2.2 (sw_eq hx (by decide))
        show Wp k_M_pair 128 _ _ _ _ _
        refine wp_iload_n rfl rfl ?_
        refine wp_iconst rfl ?_
        refine wp_iadd rfl ?_
        exact wp_iret rfl rfl H
      | i + 5, ho, _ => exact absurd ho (by simp)
  · have H := H.2 q17
    refine wp_iconst rfl ?_
    exact wp_iret rfl rfl H
def wb_M_rendered_58 (l0 : Nat) (l3 : Int32) (s0 : Int32) (h : HP) (K : Int32 → HP → Prop) : Prop :=
  isO h l0 10 ∧ 0 < gR h l0 2 ∧ isL h (gR h l0 2) 100 s0 ∧ wq_M_in l3 (0 : Int32) ((gI h (gR h l0 2) s0.toNatClampNeg) - (1 : Int32)) h (fun v16 h15 => (v16 = 0 → K (-1 : Int32) h15) ∧ (¬ v16 = 0 → isO h15 l0 10 ∧ 0 < gR h15 l0 1 ∧ isL h15 (gR h15 l0 1) 100 (((600 : Int32) * s0) + l3) ∧ K (gI h15 (gR h15 l0 1) (((600 : Int32) * s0) + l3).toNatClampNeg) h15))
theorem wb_M_rendered_58_ok {l0 : Nat} {l3 : Int32} {s0 : Int32} {h : HP} {K : Int32 → HP → Prop} (H : wb_M_rendered_58 l0 l3 s0 h K) : Wp k_M_rendered 58 [some (.ref l0), none, none, some (.int l3), none, none] [.int s0] h (0, 0) (QI K) := by
  unfold wb_M_rendered_58 at H
  refine wp_istore rfl rfl (lo' := [some (.ref l0), none, none, some (.int l3), none, some (.int s0)]) rfl ?_
  refine wp_iload_n rfl rfl ?_
  refine wp_iconst rfl ?_
  refine wp_aload_n rfl rfl ?_
  obtain ⟨g22, g23, H⟩ := H
  refine wp_getR rfl rfl g22 g23 ?_
  refine wp_iload rfl rfl ?_
  obtain ⟨g21, H⟩ := H
  refine wp_iald rfl g21 ?_
  refine wp_iconst rfl ?_
  refine wp_isub rfl ?_
  refine wp_callsI rfl rfl rfl (Or.inr rfl) (lo' := [some (.ref l0), none, none, some (.int l3), none, some (.int s0)]) rfl ⟨Nat.le_of_ble_eq_true rfl, Nat.le_of_ble_eq_true rfl, Nat.le_of_ble_eq_true rfl, Nat.le_of_ble_eq_true rfl⟩ (bd' := (0, 0)) rfl ?_
  refine (wq_M_in_ok H).conI (fun v16 h15 H => ?_)
  refine wp_if_eq rfl (lo1 := [some (.ref l0), none, none, some (.int l3), none, some (.int s0)]) (lo2 := [some (.ref l0), none, none, some (.int l3), none, some (.int s0)]) rfl rfl (fun q20 => ?_) (fun q20 => ?_)
  · have H := H.1 q20
    refine wp_iconstk (lo' := [none, none, none, none, none, none]) rfl rfl ?_
    exact wp_iret rfl rfl H
  · have H := H.2 q20
    refine wp_aload_n rfl rfl ?_
    obtain ⟨g18, g19, H⟩ := H
    refine wp_getR rfl rfl g18 g19 ?_
    refine wp_sipush rfl ?_
    refine wp_iload rfl rfl ?_
    refine wp_imul rfl ?_
    refine wp_iload_n rfl rfl ?_
    refine wp_iadd rfl ?_
    obtain ⟨g17, H⟩ := H
    refine wp_iald rfl g17 ?_
    refine wp_goto rfl (lo' := [none, none, none, none, none, none]) rfl ?_
    exact wp_iret rfl rfl H
def wb_M_rendered_42 (l0 : Nat) (l1 : Int32) (l2 : Int32) (l3 : Int32) (l4 : Int32) (h : HP) (K : Int32 → HP → Prop) : Prop :=
  (¬ l2 = (-1 : Int32) → wb_M_rendered_58 l0 l3 ((22 : Int32) + l4) h K) ∧ (l2 = (-1 : Int32) → wb_M_rendered_58 l0 l3 ((2 : Int32) + l1) h K)
theorem wb_M_rendered_42_ok {l0 : Nat} {l1 : Int32} {l2 : Int32} {l3 : Int32} {l4 : Int32} {h : HP} {K : Int32 → HP → Prop} (H : wb_M_rendered_42 l0 l1 l2 l3 l4 h K) : Wp k_M_rendered 42 [some (.ref l0), some (.int l1), some (.int l2), some (.int l3), some (.int l4), none] [] h (0, 0) (QI K) := by
  unfold wb_M_rendered_42 at H
  refine wp_iload_n rfl rfl ?_
  refine wp_iconst rfl ?_
  refine wp_icmp_ne rfl (lo1 := [some (.ref l0), some (.int l1), some (.int l2), some (.int l3), some (.int l4), none]) (lo2 := [some (.ref l0), some (.int l1), some (.int l2), some (.int l3), some (.int l4), none]) rfl rfl (fun q14 => ?_) (fun q14 => ?_)
  · have H := H.1 q14
    refine wp_bipush rfl ?_
    refine wp_iload rfl rfl ?_
    refine wp_iaddk (lo' := [some (.ref l0), none, none, some (.int l3), none, none]) rfl rfl ?_
    exact wb_M_rendered_58_ok H
  · have H := H.2 q14
    refine wp_iconst rfl ?_
    refine wp_iload_n rfl rfl ?_
    refine wp_iadd rfl ?_
    refine wp_goto rfl (lo' := [some (.ref l0), none, none, some (.int l3), none, none]) rfl ?_
    exact wb_M_rendered_58_ok H
def wq_M_rendered (p0 : Nat) (p1 : Int32) (p2 : Int32) (p3 : Int32) (h : HP) (K : Int32 → HP → Prop) : Prop :=
  isO h p0 10 ∧ wq_M_isPair p0 p1 h (fun v2 h1 => (v2 = 0 → K (-1 : Int32) h1) ∧ (¬ v2 = 0 → isO h1 p0 10 ∧ wq_M_in p2 (-1 : Int32) (gI h1 p0 20) h1 (fun v4 h3 => (¬ v4 = 0 → isO h3 p0 10 ∧ wq_M_latest p0 p1 p2 h3 (fun v6 h5 => (p2 < 0 → wb_M_rendered_42 p0 p1 p2 p3 v6 h5 K) ∧ (¬ p2 < 0 → (¬ v6 = (-1 : Int32) → wb_M_rendered_42 p0 p1 p2 p3 v6 h5 K) ∧ (v6 = (-1 : Int32) → K (-1 : Int32) h5)))) ∧ (v4 = 0 → K (-1 : Int32) h3))))
theorem wq_M_rendered_ok {p0 : Nat} {p1 : Int32} {p2 : Int32} {p3 : Int32} {h : HP} {K : Int32 → HP → Prop} (H : wq_M_rendered p0 p1 p2 p3 h K) : Wp k_M_rendered 0 [some (.ref p0), some (.int p1), some (.int p2), some (.int p3), none, none] [] h (0, 0) (QI K) := by
  unfold wq_M_rendered at H
  refine wp_aload_n rfl rfl ?_
  refine wp_iload_n rfl rfl ?_
  obtain ⟨g13, H⟩ := H
  refine wp_callvI rfl rfl (Or.inr rfl) (lo' := [some (.ref p0), some (.int p1), some (.int p2), some (.int p3), none, none]) rfl g13 ⟨Nat.le_of_ble_eq_true rfl, Nat.le_of_ble_eq_true rfl, Nat.le_of_ble_eq_true rfl, Nat.le_of_ble_eq_true rfl⟩ (bd' := (0, 0)) rfl ?_
  refine (wq_M_isPair_ok H).conI (fun v2 h1 H => ?_)
  refine wp_if_eq rfl (lo1 := [none, none, none, none, none, none]) (lo2 := [some (.ref p0), some (.int p1), some (.int p2), some (.int p3), none, none]) rfl rfl (fun q12 => ?_) (fun q12 => ?_)
  · have H := H.1 q12
    refine wp_iconst rfl ?_
    exact wp_iret rfl rfl H
  · have H := H.2 q12
    refine wp_iload_n rfl rfl ?_
    refine wp_iconst rfl ?_
    refine wp_aload_n rfl rfl ?_
    obtain ⟨g11, H⟩ := H
    refine wp_getI rfl rfl g11 ?_
    refine wp_callsI rfl rfl rfl (Or.inr rfl) (lo' := [some (.ref p0), some (.int p1), some (.int p2), some (.int p3), none, none]) rfl ⟨Nat.le_of_ble_eq_true rfl, Nat.le_of_ble_eq_true rfl, Nat.le_of_ble_eq_true rfl, Nat.le_of_ble_eq_true rfl⟩ (bd' := (0, 0)) rfl ?_
    refine (wq_M_in_ok H).conI (fun v4 h3 H => ?_)
    refine wp_if_ne rfl (lo1 := [some (.ref p0), some (.int p1), some (.int p2), some (.int p3), none, none]) (lo2 := [none, none, none, none, none, none]) rfl rfl (fun q10 => ?_) (fun q10 => ?_)
    · have H := H.1 q10
      refine wp_aload_n rfl rfl ?_
      refine wp_iload_n rfl rfl ?_
      refine wp_iload_n rfl rfl ?_
      obtain ⟨g9, H⟩ := H
      refine wp_callvI rfl rfl (Or.inl rfl) (lo' := [some (.ref p0), some (.int p1), some (.int p2), some (.int p3), none, none]) rfl g9 ⟨Nat.le_of_ble_eq_true rfl, Nat.le_of_ble_eq_true rfl, Nat.le_of_ble_eq_true rfl, Nat.le_of_ble_eq_true rfl⟩ (bd' := (0, 0)) rfl ?_
      refine (wq_M_latest_ok H).conI (fun v6 h5 H => ?_)
      refine wp_istore rfl rfl (lo' := [some (.ref p0), some (.int p1), some (.int p2), some (.int p3), some (.int v6), none]) rfl ?_
      refine wp_iload_n rfl rfl ?_
      refine wp_if_lt rfl (lo1 := [some (.ref p0), some (.int p1), some (.int p2), some (.int p3), some (.int v6), none]) (lo2 := [some (.ref p0), some (.int p1), some (.int p2), some (.int p3), some (.int v6), none]) rfl rfl (fun q8 => ?_) (fun q8 => ?_)
      · have H := H.1 q8
        exact wb_M_rendered_42_ok H
      · have H := H.2 q8
        refine wp_iload rfl rfl ?_
        refine wp_iconst rfl ?_
        refine wp_icmp_ne rfl (lo1 := [some (.ref p0), some (.int p1), some (.int p2), some (.int p3), some (.int v6), none]) (lo2 := [some (.ref p0), some (.int p1), some (.int p2), some (.int p3), some (.int v6), none]) rfl rfl (fun q7 => ?_) (fun q7 => ?_)
        · have H := H.1 q7
          exact wb_M_rendered_42_ok H
        · have H := H.2 q7
          refine wp_iconst rfl ?_
          exact wp_iret rfl rfl H
    · have H := H.2 q10
      refine wp_iconst rfl ?_
      exact wp_iret rfl rfl H
def wb_M_like_114 (l0 : Nat) (l1 : Int32) (l2 : Int32) (l3 : Int32) (l4 : Int32) (h : HP) (K : Int32 → HP → Prop) : Prop :=
  (l1 = 0 → Wp k_M_like 23 [some (.ref l0), some (.int l1), some (.int (l2 + (1 : Int32))), none, none] [] h (0, 0) (QI K)) ∧ (¬ l1 = 0 → isO h l0 10 ∧ 0 < gR h l0 3 ∧ isL h (gR h l0 3) 100 l3 ∧ (¬ gI h (gR h l0 3) l3.toNatClampNeg = (5 : Int32) → Wp k_M_like 23 [some (.ref l0), some (.int l1), some (.int (l2 + (1 : Int32))), none, none] [] h (0, 0) (QI K)) ∧ (gI h (gR h l0 3) l3.toNatClampNeg = (5 : Int32) → isO h l0 10 ∧ 0 < gR h l0 1 ∧ isO h l0 10 ∧ 0 < gR h l0 4 ∧ isL h (gR h l0 4) 100 l3 ∧ isL h (gR h l0 1) 100 (gI h (gR h l0 4) l3.toNatClampNeg) ∧ isO h l0 10 ∧ 0 < gR h l0 1 ∧ isO h l0 10 ∧ 0 < gR h l0 4 ∧ isL h (gR h l0 4) 100 l4 ∧ isL h (gR h l0 1) 100 (gI h (gR h l0 4) l4.toNatClampNeg) ∧ (¬ gI h (gR h l0 1) (gI h (gR h l0 4) l3.toNatClampNeg).toNatClampNeg = gI h (gR h l0 1) (gI h (gR h l0 4) l4.toNatClampNeg).toNatClampNeg → Wp k_M_like 23 [some (.ref l0), some (.int (0 : Int32)), some (.int (l2 + (1 : Int32))), none, none] [] h (0, 0) (QI K)) ∧ (gI h (gR h l0 1) (gI h (gR h l0 4) l3.toNatClampNeg).toNatClampNeg = gI h (gR h l0 1) (gI h (gR h l0 4) l4.toNatClampNeg).toNatClampNeg → Wp k_M_like 23 [some (.ref l0), some (.int (1 : Int32)), some (.int (l2 + (1 : Int32))), none, none] [] h (0, 0) (QI K))))
theorem wb_M_like_114_ok {l0 : Nat} {l1 : Int32} {l2 : Int32} {l3 : Int32} {l4 : Int32} {h : HP} {K : Int32 → HP → Prop} (H : wb_M_like_114 l0 l1 l2 l3 l4 h K) : Wp k_M_like 114 [some (.ref l0), some (.int l1), some (.int l2), some (.int l3), some (.int l4)] [] h (0, 0) (QI K) := by
  unfold wb_M_like_114 at H
  refine wp_iload_n rfl rfl ?_
  refine wp_if_eq rfl (lo1 := [some (.ref l0), some (.int l1), some (.int l2), none, none]) (lo2 := [some (.ref l0), some (.int l1), some (.int l2), some (.int l3), some (.int l4)]) rfl rfl (fun q57 => ?_) (fun q57 => ?_)
  · have H := H.1 q57
    refine wp_iinc rfl rfl rfl (lo' := [some (.ref l0), some (.int l1), some (.int (l2 + (1 : Int32))), none, none]) rfl ?_
    refine wp_goto rfl (lo' := [some (.ref l0), some (.int l1), some (.int (l2 + (1 : Int32))), none, none]) rfl ?_
    exact H
  · have H := H.2 q57
    refine wp_aload_n rfl rfl ?_
    obtain ⟨g55, g56, H⟩ := H
    refine wp_getR rfl rfl g55 g56 ?_
    refine wp_iload_n rfl rfl ?_
    obtain ⟨g54, H⟩ := H
    refine wp_iald rfl g54 ?_
    refine wp_iconst rfl ?_
    refine wp_icmp_ne rfl (lo1 := [some (.ref l0), some (.int l1), some (.int l2), none, none]) (lo2 := [some (.ref l0), some (.int l1), some (.int l2), some (.int l3), some (.int l4)]) rfl rfl (fun q53 => ?_) (fun q53 => ?_)
    · have H := H.1 q53
      refine wp_iinc rfl rfl rfl (lo' := [some (.ref l0), some (.int l1), some (.int (l2 + (1 : Int32))), none, none]) rfl ?_
      refine wp_goto rfl (lo' := [some (.ref l0), some (.int l1), some (.int (l2 + (1 : Int32))), none, none]) rfl ?_
      exact H
    · have H := H.2 q53
      refine wp_aload_n rfl rfl ?_
      obtain ⟨g51, g52, H⟩ := H
      refine wp_getR rfl rfl g51 g52 ?_
      refine wp_aload_n rfl rfl ?_
      obtain ⟨g49, g50, H⟩ := H
      refine wp_getR rfl rfl g49 g50 ?_
      refine wp_iload_n rfl rfl ?_
      obtain ⟨g48, H⟩ := H
      refine wp_iald rfl g48 ?_
      obtain ⟨g47, H⟩ := H
      refine wp_iald rfl g47 ?_
      refine wp_aload_n rfl rfl ?_
      obtain ⟨g45, g46, H⟩ := H
      refine wp_getR rfl rfl g45 g46 ?_
      refine wp_aload_n rfl rfl ?_
      obtain ⟨g43, g44, H⟩ := H
      refine wp_getR rfl rfl g43 g44 ?_
      refine wp_iload rfl rfl ?_
      obtain ⟨g42, H⟩ := H
      refine wp_iald rfl g42 ?_
      obtain ⟨g41, H⟩ := H
      refine wp_iald rfl g41 ?_
      refine wp_icmp_ne rfl (lo1 := [some (.ref l0), some (.int l1), some (.int l2), some (.int l3), some (.int l4)]) (lo2 := [some (.ref l0), some (.int l1), some (.int l2), some (.int l3), some (.int l4)]) rfl rfl (fun q40 => ?_) (fun q40 => ?_)
      · have H := H.1 q40
        refine wp_iconstk (lo' := [some (.ref l0), none, some (.int l2), none, none]) rfl rfl ?_
        refine wp_istore_n rfl rfl (lo' := [some (.ref l0), some (.int (0 : Int32)), some (.int l2), none, none]) rfl ?_
        refine wp_iinc rfl rfl rfl (lo' := [some (.ref l0), some (.int (0 : Int32)), some (.int (l2 + (1 : Int32))), none, none]) rfl ?_
        refine wp_goto rfl (lo' := [some (.ref l0), some (.int (0 : Int32)), some (.int (l2 + (1 : Int32))), none, none]) rfl ?_
        exact H
      · have H := H.2 q40
        refine wp_iconst rfl ?_
        refine wp_goto rfl (lo' := [some (.ref l0), none, some (.int l2), none, none]) rfl ?_
        refine wp_istore_n rfl rfl (lo' := [some (.ref l0), some (.int (1 : Int32)), some (.int l2), none, none]) rfl ?_
        refine wp_iinc rfl rfl rfl (lo' := [some (.ref l0), some (.int (1 : Int32)), some (.int (l2 + (1 : Int32))), none, none]) rfl ?_
        refine wp_goto rfl (lo' := [some (.ref l0), some (.int (1 : Int32)), some (.int (l2 + (1 : Int32))), none, none]) rfl ?_
        exact H
def wb_M_like_69 (l0 : Nat) (l2 : Int32) (l3 : Int32) (l4 : Int32) (s0 : Int32) (h : HP) (K : Int32 → HP → Prop) : Prop :=
  (s0 = 0 → wb_M_like_114 l0 s0 l2 l3 l4 h K) ∧ (¬ s0 = 0 → isO h l0 10 ∧ 0 < gR h l0 3 ∧ isL h (gR h l0 3) 100 l3 ∧ (¬ gI h (gR h l0 3) l3.toNatClampNeg = 0 → wb_M_like_114 l0 s0 l2 l3 l4 h K) ∧ (gI h (gR h l0 3) l3.toNatClampNeg = 0 → isO h l0 10 ∧ 0 < gR h l0 4 ∧ isL h (gR h l0 4) 100 l3 ∧ isO h l0 10 ∧ 0 < gR h l0 5 ∧ isL h (gR h l0 5) 100 l3 ∧ isO h l0 10 ∧ 0 < gR h l0 4 ∧ isL h (gR h l0 4) 100 l4 ∧ isO h l0 10 ∧ 0 < gR h l0 5 ∧ isL h (gR h l0 5) 100 l4 ∧ isO h l0 10 ∧ wq_M_alike l0 (gI h (gR h l0 4) l3.toNatClampNeg) (gI h (gR h l0 5) l3.toNatClampNeg) (gI h (gR h l0 4) l4.toNatClampNeg) (gI h (gR h l0 5) l4.toNatClampNeg) h (fun v21 h20 => wb_M_like_114 l0 v21 l2 l3 l4 h20 K)))
theorem wb_M_like_69_ok {l0 : Nat} {l2 : Int32} {l3 : Int32} {l4 : Int32} {s0 : Int32} {h : HP} {K : Int32 → HP → Prop} (H : wb_M_like_69 l0 l2 l3 l4 s0 h K) : Wp k_M_like 69 [some (.ref l0), none, some (.int l2), some (.int l3), some (.int l4)] [.int s0] h (0, 0) (QI K) := by
  unfold wb_M_like_69 at H
  refine wp_istore_n rfl rfl (lo' := [some (.ref l0), some (.int s0), some (.int l2), some (.int l3), some (.int l4)]) rfl ?_
  refine wp_iload_n rfl rfl ?_
  refine wp_if_eq rfl (lo1 := [some (.ref l0), some (.int s0), some (.int l2), some (.int l3), some (.int l4)]) (lo2 := [some (.ref l0), some (.int s0), some (.int l2), some (.int l3), some (.int l4)]) rfl rfl (fun q39 => ?_) (fun q39 => ?_)
  · have H := H.1 q39
    exact wb_M_like_114_ok H
  · have H := H.2 q39
    refine wp_aload_n rfl rfl ?_
    obtain ⟨g37, g38, H⟩ := H
    refine wp_getR rfl rfl g37 g38 ?_
    refine wp_iload_n rfl rfl ?_
    obtain ⟨g36, H⟩ := H
    refine wp_iald rfl g36 ?_
    refine wp_if_ne rfl (lo1 := [some (.ref l0), some (.int s0), some (.int l2), some (.int l3), some (.int l4)]) (lo2 := [some (.ref l0), some (.int s0), some (.int l2), some (.int l3), some (.int l4)]) rfl rfl (fun q35 => ?_) (fun q35 => ?_)
    · have H := H.1 q35
      exact wb_M_like_114_ok H
    · have H := H.2 q35
      refine wp_aload_n rfl rfl ?_
      refine wp_aload_n rfl rfl ?_
      obtain ⟨g33, g34, H⟩ := H
      refine wp_getR rfl rfl g33 g34 ?_
      refine wp_iload_n rfl rfl ?_
      obtain ⟨g32, H⟩ := H
      refine wp_iald rfl g32 ?_
      refine wp_aload_n rfl rfl ?_
      obtain ⟨g30, g31, H⟩ := H
      refine wp_getR rfl rfl g30 g31 ?_
      refine wp_iload_n rfl rfl ?_
      obtain ⟨g29, H⟩ := H
      refine wp_iald rfl g29 ?_
      refine wp_aload_n rfl rfl ?_
      obtain ⟨g27, g28, H⟩ := H
      refine wp_getR rfl rfl g27 g28 ?_
      refine wp_iload rfl rfl ?_
      obtain ⟨g26, H⟩ := H
      refine wp_iald rfl g26 ?_
      refine wp_aload_n rfl rfl ?_
      obtain ⟨g24, g25, H⟩ := H
      refine wp_getR rfl rfl g24 g25 ?_
      refine wp_iload rfl rfl ?_
      obtain ⟨g23, H⟩ := H
      refine wp_iald rfl g23 ?_
      obtain ⟨g22, H⟩ := H
      refine wp_callvI rfl rfl (Or.inr rfl) (lo' := [some (.ref l0), some (.int s0), some (.int l2), some (.int l3), some (.int l4)]) rfl g22 ⟨Nat.le_of_ble_eq_true rfl, Nat.le_of_ble_eq_true rfl, Nat.le_of_ble_eq_true rfl, Nat.le_of_ble_eq_true rfl⟩ (bd' := (0, 0)) rfl ?_
      refine (wq_M_alike_ok H).conI (fun v21 h20 H => ?_)
      refine wp_istore_n rfl rfl (lo' := [some (.ref l0), some (.int v21), some (.int l2), some (.int l3), some (.int l4)]) rfl ?_
      exact wb_M_like_114_ok H
def wb_M_like_23 (l0 : Nat) (l1 : Int32) (l2 : Int32) (h : HP) (K : Int32 → HP → Prop) : Prop :=
  isO h l0 10 ∧ 0 < gR h l0 7 ∧ isL h (gR h l0 7) 100 (0 : Int32) ∧ (gI h (gR h l0 7) (0 : Int32).toNatClampNeg ≤ l2 → (l1 = 0 ∨ l1 = 1) ∧ K l1 h) ∧ (¬ gI h (gR h l0 7) (0 : Int32).toNatClampNeg ≤ l2 → (l1 = 0 → (l1 = 0 ∨ l1 = 1) ∧ K l1 h) ∧ (¬ l1 = 0 → isO h l0 10 ∧ 0 < gR h l0 3 ∧ isL h (gR h l0 3) 100 ((0 : Int32) + l2) ∧ isO h l0 10 ∧ 0 < gR h l0 3 ∧ isL h (gR h l0 3) 100 ((600 : Int32) + l2) ∧ (¬ gI h (gR h l0 3) ((0 : Int32) + l2).toNatClampNeg = gI h (gR h l0 3) ((600 : Int32) + l2).toNatClampNeg → wb_M_like_69 l0 l2 ((0 : Int32) + l2) ((600 : Int32) + l2) (0 : Int32) h K) ∧ (gI h (gR h l0 3) ((0 : Int32) + l2).toNatClampNeg = gI h (gR h l0 3) ((600 : Int32) + l2).toNatClampNeg → wb_M_like_69 l0 l2 ((0 : Int32) + l2) ((600 : Int32) + l2) (1 : Int32) h K)))
theorem wb_M_like_23_ok {l0 : Nat} {l1 : Int32} {l2 : Int32} {h : HP} {K : Int32 → HP → Prop} (H : wb_M_like_23 l0 l1 l2 h K) : Wp k_M_like 23 [some (.ref l0), some (.int l1), some (.int l2), none, none] [] h (0, 0) (QI K) := by
  unfold wb_M_like_23 at H
  refine wp_iload_n rfl rfl ?_
  refine wp_aload_n rfl rfl ?_
  obtain ⟨g18, g19, H⟩ := H
  refine wp_getR rfl rfl g18 g19 ?_
  refine wp_iconst rfl ?_
  obtain ⟨g17, H⟩ := H
  refine wp_iald rfl g17 ?_
  refine wp_icmp_ge rfl (lo1 := [none, some (.int l1), none, none, none]) (lo2 := [some (.ref l0), some (.int l1), some (.int l2), none, none]) rfl rfl (fun q16 => ?_) (fun q16 => ?_)
  · have H := H.1 q16
    refine wp_iload_n rfl rfl ?_
    exact wp_zret rfl rfl H.1 H.2
  · have H := H.2 q16
    refine wp_iload_n rfl rfl ?_
    refine wp_if_eq rfl (lo1 := [none, some (.int l1), none, none, none]) (lo2 := [some (.ref l0), some (.int l1), some (.int l2), none, none]) rfl rfl (fun q15 => ?_) (fun q15 => ?_)
    · have H := H.1 q15
      refine wp_iload_n rfl rfl ?_
      exact wp_zret rfl rfl H.1 H.2
    · have H := H.2 q15
      refine wp_iconst rfl ?_
      refine wp_iload_n rfl rfl ?_
      refine wp_iadd rfl ?_
      refine wp_istore_n rfl rfl (lo' := [some (.ref l0), some (.int l1), some (.int l2), some (.int ((0 : Int32) + l2)), none]) rfl ?_
      refine wp_sipush rfl ?_
      refine wp_iload_n rfl rfl ?_
      refine wp_iadd rfl ?_
      refine wp_istore rfl rfl (lo' := [some (.ref l0), some (.int l1), some (.int l2), some (.int ((0 : Int32) + l2)), some (.int ((600 : Int32) + l2))]) rfl ?_
      refine wp_aload_n rfl rfl ?_
      obtain ⟨g13, g14, H⟩ := H
      refine wp_getR rfl rfl g13 g14 ?_
      refine wp_iload_n rfl rfl ?_
      obtain ⟨g12, H⟩ := H
      refine wp_iald rfl g12 ?_
      refine wp_aload_n rfl rfl ?_
      obtain ⟨g10, g11, H⟩ := H
      refine wp_getR rfl rfl g10 g11 ?_
      refine wp_iload rfl rfl ?_
      obtain ⟨g9, H⟩ := H
      refine wp_iald rfl g9 ?_
      refine wp_icmp_ne rfl (lo1 := [some (.ref l0), some (.int l1), some (.int l2), some (.int ((0 : Int32) + l2)), some (.int ((600 : Int32) + l2))]) (lo2 := [some (.ref l0), some (.int l1), some (.int l2), some (.int ((0 : Int32) + l2)), some (.int ((600 : Int32) + l2))]) rfl rfl (fun q8 => ?_) (fun q8 => ?_)
      · have H := H.1 q8
        refine wp_iconstk (lo' := [some (.ref l0), none, some (.int l2), some (.int ((0 : Int32) + l2)), some (.int ((600 : Int32) + l2))]) rfl rfl ?_
        exact wb_M_like_69_ok H
      · have H := H.2 q8
        refine wp_iconst rfl ?_
        refine wp_goto rfl (lo' := [some (.ref l0), none, some (.int l2), some (.int ((0 : Int32) + l2)), some (.int ((600 : Int32) + l2))]) rfl ?_
        exact wb_M_like_69_ok H
def wq_M_like (p0 : Nat) (h : HP) (K : Int32 → HP → Prop) : Prop :=
  isO h p0 10 ∧ 0 < gR h p0 7 ∧ isL h (gR h p0 7) 100 (0 : Int32) ∧ isO h p0 10 ∧ 0 < gR h p0 7 ∧ isL h (gR h p0 7) 100 (1 : Int32) ∧ (¬ gI h (gR h p0 7) (0 : Int32).toNatClampNeg = gI h (gR h p0 7) (1 : Int32).toNatClampNeg → Wp k_M_like 23 [some (.ref p0), some (.int (0 : Int32)), some (.int (0 : Int32)), none, none] [] h (0, 0) (QI K)) ∧ (gI h (gR h p0 7) (0 : Int32).toNatClampNeg = gI h (gR h p0 7) (1 : Int32).toNatClampNeg → Wp k_M_like 23 [some (.ref p0), some (.int (1 : Int32)), some (.int (0 : Int32)), none, none] [] h (0, 0) (QI K))
theorem wq_M_like_ok {p0 : Nat} {h : HP} {K : Int32 → HP → Prop} (H : wq_M_like p0 h K) : Wp k_M_like 0 [some (.ref p0), none, none, none, none] [] h (0, 0) (QI K) := by
  unfold wq_M_like at H
  refine wp_aload_n rfl rfl ?_
  obtain ⟨g6, g7, H⟩ := H
  refine wp_getR rfl rfl g6 g7 ?_
  refine wp_iconst rfl ?_
  obtain ⟨g5, H⟩ := H
  refine wp_iald rfl g5 ?_
  refine wp_aload_n rfl rfl ?_
  obtain ⟨g3, g4, H⟩ := H
  refine wp_getR rfl rfl g3 g4 ?_
  refine wp_iconst rfl ?_
  obtain ⟨g2, H⟩ := H
  refine wp_iald rfl g2 ?_
  refine wp_icmp_ne rfl (lo1 := [some (.ref p0), none, none, none, none]) (lo2 := [some (.ref p0), none, none, none, none]) rfl rfl (fun q1 => ?_) (fun q1 => ?_)
  · have H := H.1 q1
    refine wp_iconstk (lo' := [some (.ref p0), none, none, none, none]) rfl rfl ?_
    refine wp_istore_n rfl rfl (lo' := [some (.ref p0), some (.int (0 : Int32)), none, none, none]) rfl ?_
    refine wp_iconst rfl ?_
    refine wp_istore_n rfl rfl (lo' := [some (.ref p0), some (.int (0 : Int32)), some (.int (0 : Int32)), none, none]) rfl ?_
    exact H
  · have H := H.2 q1
    refine wp_iconst rfl ?_
    refine wp_goto rfl (lo' := [some (.ref p0), none, none, none, none]) rfl ?_
    refine wp_istore_n rfl rfl (lo' := [some (.ref p0), some (.int (1 : Int32)), none, none, none]) rfl ?_
    refine wp_iconst rfl ?_
    refine wp_istore_n rfl rfl (lo' := [some (.ref p0), some (.int (1 : Int32)), some (.int (0 : Int32)), none, none]) rfl ?_
    exact H
