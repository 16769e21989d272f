theorem sw_ne {x v : Int32} {u : Int} (q : x.toInt < 0 ∨ u < x.toInt) (hv : ¬ (v.toInt < 0 ∨ u < v.toInt)) : ¬ x = v := fun e => hv (e ▸ q)
theorem sw_eq {x v : Int32} {i : Nat} (hx : x.toInt = 0 + (i : Int)) (hv : v.toInt = (i : Int)) : x = v := Int32.toInt_inj.mp (by omega)
theorem lsw_a {x v : Int32} {a o a2 o2 d : Int} (e : x = v) (hv : v.toInt = a) : Op.lookupswitch.offset ((a, o) :: (a2, o2) :: []) d x.toInt = o := by
  rw [e, hv, Op.lookupswitch.offset_cons, if_pos rfl]
theorem lsw_b {x v w : Int32} {a o a2 o2 d : Int} (e1 : ¬ x = v) (e : x = w) (hv : v.toInt = a) (hw : w.toInt = a2) : Op.lookupswitch.offset ((a, o) :: (a2, o2) :: []) d x.toInt = o2 := by
  rw [lv_osw e1 hv, e, hw, Op.lookupswitch.offset_cons, if_pos rfl]
theorem lsw_c {x v w : Int32} {a o a2 o2 d : Int} (e1 : ¬ x = v) (e : ¬ x = w) (hv : v.toInt = a) (hw : w.toInt = a2) : Op.lookupswitch.offset ((a, o) :: (a2, o2) :: []) d x.toInt = d := by
  rw [lv_osw e1 hv, lv_osw e hw]; rfl
def wq_Book_isStop (p0 : Int32) (h : HP) (K : Int32 → HP → Prop) : Prop :=
  (p0 = (46 : Int32) → K (1 : Int32) h) ∧ (¬ p0 = (46 : Int32) → (p0 = (33 : Int32) → K (1 : Int32) h) ∧ (¬ p0 = (33 : Int32) → (¬ p0 = (63 : Int32) → K (0 : Int32) h) ∧ (p0 = (63 : Int32) → K (1 : Int32) h)))
theorem wq_Book_isStop_ok {p0 : Int32} {h : HP} {K : Int32 → HP → Prop} (H : wq_Book_isStop p0 h K) : Wp k_Book_isStop 0 [some (.int p0)] [] h (0, 0) (QI K) := by
  unfold wq_Book_isStop at H
  refine wp_iload_n rfl rfl ?_
  refine wp_bipush rfl ?_
  refine wp_icmp_eq rfl (lo1 := [none]) (lo2 := [some (.int p0)]) rfl rfl (fun q3 => ?_) (fun q3 => ?_)
  · have H := H.1 q3
    refine wp_iconst rfl ?_
    refine wp_goto rfl (lo' := [none]) rfl ?_
    exact wp_zret rfl rfl (by decide) H
  · have H := H.2 q3
    refine wp_iload_n rfl rfl ?_
    refine wp_bipush rfl ?_
    refine wp_icmp_eq rfl (lo1 := [none]) (lo2 := [some (.int p0)]) rfl rfl (fun q2 => ?_) (fun q2 => ?_)
    · have H := H.1 q2
      refine wp_iconst rfl ?_
      refine wp_goto rfl (lo' := [none]) rfl ?_
      exact wp_zret rfl rfl (by decide) H
    · have H := H.2 q2
      refine wp_iload_n rfl rfl ?_
      refine wp_bipush rfl ?_
      refine wp_icmp_ne rfl (lo1 := [some (.int p0)]) (lo2 := [none]) rfl rfl (fun q1 => ?_) (fun q1 => ?_)
      · have H := H.1 q1
        refine wp_iconstk (lo' := [none]) rfl rfl ?_
        exact wp_zret rfl rfl (by decide) H
      · have H := H.2 q1
        refine wp_iconst rfl ?_
        refine wp_goto rfl (lo' := [none]) rfl ?_
        exact wp_zret rfl rfl (by decide) H
def wq_Ladder_init (p0 : Nat) (h : HP) (K : HP → Prop) : Prop :=
  ∀ h1 : HP, h1 = nwC h 100 441 → isO h1 p0 1 ∧ 0 < gS h ∧ (∀ h3 : HP, h3 = stR h1 p0 0 (gS h) → ∀ h4 : HP, h4 = nwC h3 100 40 → isO h4 p0 1 ∧ 0 < gS h3 ∧ (∀ h6 : HP, h6 = stR h4 p0 1 (gS h3) → ∀ h7 : HP, h7 = nwC h6 100 40 → isO h7 p0 1 ∧ 0 < gS h6 ∧ (∀ h9 : HP, h9 = stR h7 p0 2 (gS h6) → ∀ h10 : HP, h10 = nwC h9 100 40 → isO h10 p0 1 ∧ 0 < gS h9 ∧ (∀ h12 : HP, h12 = stR h10 p0 3 (gS h9) → K h12))))
theorem wq_Ladder_init_ok {p0 : Nat} {h : HP} {K : HP → Prop} (H : wq_Ladder_init p0 h K) : Wp k_Ladder_init 0 [some (.ref p0)] [] h (4, 561) (QV K) := by
  unfold wq_Ladder_init at H
  refine wp_aload_n rfl rfl ?_
  refine wp_objI rfl (Nat.le_of_ble_eq_true rfl) (lo' := [some (.ref p0)]) rfl ?_
  refine wp_aload_n rfl rfl ?_
  refine wp_sipush rfl ?_
  obtain ⟨h1, e2⟩ : ∃ z : HP, z = nwC h 100 441 := ⟨_, rfl⟩
  have H := H h1 e2
  refine wp_newaL (N := 441) (lo' := [some (.ref p0)]) (bd' := (3, 120)) rfl ⟨by decide, by decide⟩ ⟨by decide, by decide, by decide⟩ rfl rfl e2 ?_
  obtain ⟨g22, g23, H⟩ := H
  obtain ⟨h3, e24⟩ : ∃ z : HP, z = stR h1 p0 0 (gS h) := ⟨_, rfl⟩
  have H := H h3 e24
  refine wp_putR rfl rfl g22 g23 e24 ?_
  refine wp_aload_n rfl rfl ?_
  refine wp_bipush rfl ?_
  obtain ⟨h4, e5⟩ : ∃ z : HP, z = nwC h3 100 40 := ⟨_, rfl⟩
  have H := H h4 e5
  refine wp_newaL (N := 40) (lo' := [some (.ref p0)]) (bd' := (2, 80)) rfl ⟨by decide, by decide⟩ ⟨by decide, by decide, by decide⟩ rfl rfl e5 ?_
  obtain ⟨g19, g20, H⟩ := H
  obtain ⟨h6, e21⟩ : ∃ z : HP, z = stR h4 p0 1 (gS h3) := ⟨_, rfl⟩
  have H := H h6 e21
  refine wp_putR rfl rfl g19 g20 e21 ?_
  refine wp_aload_n rfl rfl ?_
  refine wp_bipush rfl ?_
  obtain ⟨h7, e8⟩ : ∃ z : HP, z = nwC h6 100 40 := ⟨_, rfl⟩
  have H := H h7 e8
  refine wp_newaL (N := 40) (lo' := [some (.ref p0)]) (bd' := (1, 40)) rfl ⟨by decide, by decide⟩ ⟨by decide, by decide, by decide⟩ rfl rfl e8 ?_
  obtain ⟨g16, g17, H⟩ := H
  obtain ⟨h9, e18⟩ : ∃ z : HP, z = stR h7 p0 2 (gS h6) := ⟨_, rfl⟩
  have H := H h9 e18
  refine wp_putR rfl rfl g16 g17 e18 ?_
  refine wp_aload_n rfl rfl ?_
  refine wp_bipush rfl ?_
  obtain ⟨h10, e11⟩ : ∃ z : HP, z = nwC h9 100 40 := ⟨_, rfl⟩
  have H := H h10 e11
  refine wp_newaL (N := 40) (lo' := [some (.ref p0)]) (bd' := (0, 0)) rfl ⟨by decide, by decide⟩ ⟨by decide, by decide, by decide⟩ rfl rfl e11 ?_
  obtain ⟨g13, g14, H⟩ := H
  obtain ⟨h12, e15⟩ : ∃ z : HP, z = stR h10 p0 3 (gS h9) := ⟨_, rfl⟩
  have H := H h12 e15
  refine wp_putR rfl rfl g13 g14 e15 ?_
  exact wp_vret rfl rfl H
def wq_Ladder_addStep (p0 : Nat) (p1 : Int32) (p2 : Int32) (p3 : Int32) (h : HP) (K : HP → Prop) : Prop :=
  isO h p0 1 ∧ 0 < gR h p0 1 ∧ isO h p0 1 ∧ isA h (gR h p0 1) 100 (gI h p0 4) ∧ (∀ h1 : HP, h1 = stI h (gR h p0 1) (gI h p0 4).toNatClampNeg p1 → isO h1 p0 1 ∧ 0 < gR h1 p0 2 ∧ isO h1 p0 1 ∧ isA h1 (gR h1 p0 2) 100 (gI h1 p0 4) ∧ (∀ h2 : HP, h2 = stI h1 (gR h1 p0 2) (gI h1 p0 4).toNatClampNeg p2 → isO h2 p0 1 ∧ 0 < gR h2 p0 3 ∧ isO h2 p0 1 ∧ isA h2 (gR h2 p0 3) 100 (gI h2 p0 4) ∧ (∀ h3 : HP, h3 = stI h2 (gR h2 p0 3) (gI h2 p0 4).toNatClampNeg p3 → isO h3 p0 1 ∧ isO h3 p0 1 ∧ (∀ h4 : HP, h4 = stI h3 p0 4 ((gI h3 p0 4) + (1 : Int32)) → K h4))))
theorem wq_Ladder_addStep_ok {p0 : Nat} {p1 : Int32} {p2 : Int32} {p3 : Int32} {h : HP} {K : HP → Prop} (H : wq_Ladder_addStep p0 p1 p2 p3 h K) : Wp k_Ladder_addStep 0 [some (.ref p0), some (.int p1), some (.int p2), some (.int p3)] [] h (0, 0) (QV K) := by
  unfold wq_Ladder_addStep at H
  refine wp_aload_n rfl rfl ?_
  obtain ⟨g21, g22, H⟩ := H
  refine wp_getR rfl rfl g21 g22 ?_
  refine wp_aload_n rfl rfl ?_
  obtain ⟨g20, H⟩ := H
  refine wp_getI rfl rfl g20 ?_
  refine wp_iload_n rfl rfl ?_
  obtain ⟨g18, H⟩ := H
  obtain ⟨h1, e19⟩ : ∃ z : HP, z = stI h (gR h p0 1) (gI h p0 4).toNatClampNeg p1 := ⟨_, rfl⟩
  have H := H h1 e19
  refine wp_iast rfl g18 e19 ?_
  refine wp_aload_n rfl rfl ?_
  obtain ⟨g16, g17, H⟩ := H
  refine wp_getR rfl rfl g16 g17 ?_
  refine wp_aload_n rfl rfl ?_
  obtain ⟨g15, H⟩ := H
  refine wp_getI rfl rfl g15 ?_
  refine wp_iload_n rfl rfl ?_
  obtain ⟨g13, H⟩ := H
  obtain ⟨h2, e14⟩ : ∃ z : HP, z = stI h1 (gR h1 p0 2) (gI h1 p0 4).toNatClampNeg p2 := ⟨_, rfl⟩
  have H := H h2 e14
  refine wp_iast rfl g13 e14 ?_
  refine wp_aload_n rfl rfl ?_
  obtain ⟨g11, g12, H⟩ := H
  refine wp_getR rfl rfl g11 g12 ?_
  refine wp_aload_n rfl rfl ?_
  obtain ⟨g10, H⟩ := H
  refine wp_getI rfl rfl g10 ?_
  refine wp_iload_n rfl rfl ?_
  obtain ⟨g8, H⟩ := H
  obtain ⟨h3, e9⟩ : ∃ z : HP, z = stI h2 (gR h2 p0 3) (gI h2 p0 4).toNatClampNeg p3 := ⟨_, rfl⟩
  have H := H h3 e9
  refine wp_iast rfl g8 e9 ?_
  refine wp_aload_n rfl rfl ?_
  refine wp_dupR rfl ?_
  obtain ⟨g7, H⟩ := H
  refine wp_getI rfl rfl g7 ?_
  refine wp_iconst rfl ?_
  refine wp_iadd rfl ?_
  obtain ⟨g5, H⟩ := H
  obtain ⟨h4, e6⟩ : ∃ z : HP, z = stI h3 p0 4 ((gI h3 p0 4) + (1 : Int32)) := ⟨_, rfl⟩
  have H := H h4 e6
  refine wp_putI rfl rfl g5 e6 ?_
  exact wp_vret rfl rfl H
def wb_Memory_renderingAt_11 (l0 : Nat) (l1 : Int32) (l3 : Int32) (h : HP) (K : Int32 → HP → Prop) : Prop :=
  (l3 < 0 → K (-1 : Int32) h) ∧ (¬ l3 < 0 → isO h l0 2 ∧ 0 < gR h l0 4 ∧ isL h (gR h l0 4) 100 l3 ∧ (¬ gI h (gR h l0 4) l3.toNatClampNeg = l1 → Wp k_Memory_renderingAt 11 [some (.ref l0), some (.int l1), none, some (.int (l3 + (-1 : Int32)))] [] h (0, 0) (QI K)) ∧ (gI h (gR h l0 4) l3.toNatClampNeg = l1 → K l3 h))
theorem wb_Memory_renderingAt_11_ok {l0 : Nat} {l1 : Int32} {l3 : Int32} {h : HP} {K : Int32 → HP → Prop} (H : wb_Memory_renderingAt_11 l0 l1 l3 h K) : Wp k_Memory_renderingAt 11 [some (.ref l0), some (.int l1), none, some (.int l3)] [] h (0, 0) (QI K) := by
  unfold wb_Memory_renderingAt_11 at H
  refine wp_iload_n rfl rfl ?_
  refine wp_if_lt rfl (lo1 := [some (.ref l0), some (.int l1), none, some (.int l3)]) (lo2 := [some (.ref l0), some (.int l1), none, some (.int l3)]) rfl rfl (fun q6 => ?_) (fun q6 => ?_)
  · have H := H.1 q6
    refine wp_iconst rfl ?_
    exact wp_iret rfl rfl H
  · have H := H.2 q6
    refine wp_aload_n rfl rfl ?_
    obtain ⟨g4, g5, H⟩ := H
    refine wp_getR rfl rfl g4 g5 ?_
    refine wp_iload_n rfl rfl ?_
    obtain ⟨g3, H⟩ := H
    refine wp_iald rfl g3 ?_
    refine wp_iload_n rfl rfl ?_
    refine wp_icmp_ne rfl (lo1 := [some (.ref l0), some (.int l1), none, some (.int l3)]) (lo2 := [some (.ref l0), some (.int l1), none, some (.int l3)]) rfl rfl (fun q2 => ?_) (fun q2 => ?_)
    · have H := H.1 q2
      refine wp_iinc rfl rfl rfl (lo' := [some (.ref l0), some (.int l1), none, some (.int (l3 + (-1 : Int32)))]) rfl ?_
      refine wp_goto rfl (lo' := [some (.ref l0), some (.int l1), none, some (.int (l3 + (-1 : Int32)))]) rfl ?_
      exact H
    · have H := H.2 q2
      refine wp_iload_n rfl rfl ?_
      exact wp_iret rfl rfl H
def wq_Memory_renderingAt (p0 : Nat) (p1 : Int32) (p2 : Int32) (h : HP) (K : Int32 → HP → Prop) : Prop :=
  isO h p0 2 ∧ Wp k_Memory_renderingAt 11 [some (.ref p0), some (.int p1), none, some (.int ((if gI h p0 7 < p2 then gI h p0 7 else p2) - (1 : Int32)))] [] h (0, 0) (QI K)
theorem wq_Memory_renderingAt_ok {p0 : Nat} {p1 : Int32} {p2 : Int32} {h : HP} {K : Int32 → HP → Prop} (H : wq_Memory_renderingAt p0 p1 p2 h K) : Wp k_Memory_renderingAt 0 [some (.ref p0), some (.int p1), some (.int p2), none] [] h (0, 0) (QI K) := by
  unfold wq_Memory_renderingAt at H
  refine wp_iload_n rfl rfl ?_
  refine wp_aload_n rfl rfl ?_
  obtain ⟨g1, H⟩ := H
  refine wp_getI rfl rfl g1 ?_
  refine wp_min rfl (Nat.le_of_ble_eq_true rfl) (lo' := [some (.ref p0), some (.int p1), some (.int p2), none]) rfl ?_
  refine wp_iconst rfl ?_
  refine wp_isub rfl ?_
  refine wp_istore_n rfl rfl (lo' := [some (.ref p0), some (.int p1), none, some (.int ((if gI h p0 7 < p2 then gI h p0 7 else p2) - (1 : Int32)))]) rfl ?_
  exact H
def wb_Memory_renderingsOf_4 (l0 : Nat) (l1 : Int32) (l2 : Int32) (l3 : Int32) (h : HP) (K : Int32 → HP → Prop) : Prop :=
  isO h l0 2 ∧ (gI h l0 7 ≤ l3 → K l2 h) ∧ (¬ gI h l0 7 ≤ l3 → isO h l0 2 ∧ 0 < gR h l0 4 ∧ isL h (gR h l0 4) 100 l3 ∧ (¬ gI h (gR h l0 4) l3.toNatClampNeg = l1 → Wp k_Memory_renderingsOf 4 [some (.ref l0), some (.int l1), some (.int l2), some (.int (l3 + (1 : Int32)))] [] h (0, 0) (QI K)) ∧ (gI h (gR h l0 4) l3.toNatClampNeg = l1 → Wp k_Memory_renderingsOf 4 [some (.ref l0), some (.int l1), some (.int (l2 + (1 : Int32))), some (.int (l3 + (1 : Int32)))] [] h (0, 0) (QI K)))
theorem wb_Memory_renderingsOf_4_ok {l0 : Nat} {l1 : Int32} {l2 : Int32} {l3 : Int32} {h : HP} {K : Int32 → HP → Prop} (H : wb_Memory_renderingsOf_4 l0 l1 l2 l3 h K) : Wp k_Memory_renderingsOf 4 [some (.ref l0), some (.int l1), some (.int l2), some (.int l3)] [] h (0, 0) (QI K) := by
  unfold wb_Memory_renderingsOf_4 at H
  refine wp_iload_n rfl rfl ?_
  refine wp_aload_n rfl rfl ?_
  obtain ⟨g6, H⟩ := H
  refine wp_getI rfl rfl g6 ?_
  refine wp_icmp_ge rfl (lo1 := [some (.ref l0), some (.int l1), some (.int l2), some (.int l3)]) (lo2 := [some (.ref l0), some (.int l1), some (.int l2), some (.int l3)]) rfl rfl (fun q5 => ?_) (fun q5 => ?_)
  · have H := H.1 q5
    refine wp_iload_n rfl rfl ?_
    exact wp_iret rfl rfl H
  · have H := H.2 q5
    refine wp_aload_n rfl rfl ?_
    obtain ⟨g3, g4, H⟩ := H
    refine wp_getR rfl rfl g3 g4 ?_
    refine wp_iload_n rfl rfl ?_
    obtain ⟨g2, H⟩ := H
    refine wp_iald rfl g2 ?_
    refine wp_iload_n rfl rfl ?_
    refine wp_icmp_ne rfl (lo1 := [some (.ref l0), some (.int l1), some (.int l2), some (.int l3)]) (lo2 := [some (.ref l0), some (.int l1), some (.int l2), some (.int l3)]) rfl rfl (fun q1 => ?_) (fun q1 => ?_)
    · have H := H.1 q1
      refine wp_iinc rfl rfl rfl (lo' := [some (.ref l0), some (.int l1), some (.int l2), some (.int (l3 + (1 : Int32)))]) rfl ?_
      refine wp_goto rfl (lo' := [some (.ref l0), some (.int l1), some (.int l2), some (.int (l3 + (1 : Int32)))]) rfl ?_
      exact H
    · have H := H.2 q1
      refine wp_iinc rfl rfl rfl (lo' := [some (.ref l0), some (.int l1), some (.int (l2 + (1 : Int32))), some (.int l3)]) rfl ?_
      refine wp_iinc rfl rfl rfl (lo' := [some (.ref l0), some (.int l1), some (.int (l2 + (1 : Int32))), some (.int (l3 + (1 : Int32)))]) rfl ?_
      refine wp_goto rfl (lo' := [some (.ref l0), some (.int l1), some (.int (l2 + (1 : Int32))), some (.int (l3 + (1 : Int32)))]) rfl ?_
      exact H
def wq_Memory_renderingsOf (p0 : Nat) (p1 : Int32) (h : HP) (K : Int32 → HP → Prop) : Prop :=
  Wp k_Memory_renderingsOf 4 [some (.ref p0), some (.int p1), some (.int (0 : Int32)), some (.int (0 : Int32))] [] h (0, 0) (QI K)
theorem wq_Memory_renderingsOf_ok {p0 : Nat} {p1 : Int32} {h : HP} {K : Int32 → HP → Prop} (H : wq_Memory_renderingsOf p0 p1 h K) : Wp k_Memory_renderingsOf 0 [some (.ref p0), some (.int p1), none, none] [] h (0, 0) (QI K) := by
  unfold wq_Memory_renderingsOf at H
  refine wp_iconst rfl ?_
  refine wp_istore_n rfl rfl (lo' := [some (.ref p0), some (.int p1), some (.int (0 : Int32)), none]) rfl ?_
  refine wp_iconst rfl ?_
  refine wp_istore_n rfl rfl (lo' := [some (.ref p0), some (.int p1), some (.int (0 : Int32)), some (.int (0 : Int32))]) rfl ?_
  exact H
def wb_Near_forgetPair_2 (l0 : Nat) (l1 : Int32) (l2 : Int32) (h : HP) (K : HP → Prop) : Prop :=
  ((24 : Int32) ≤ l2 → K h) ∧ (¬ (24 : Int32) ≤ l2 → isO h l0 3 ∧ 0 < gR h l0 0 ∧ isA h (gR h l0 0) 100 ((l1 * (24 : Int32)) + l2) ∧ (∀ h1 : HP, h1 = stI h (gR h l0 0) ((l1 * (24 : Int32)) + l2).toNatClampNeg (-1 : Int32) → Wp k_Near_forgetPair 2 [some (.ref l0), some (.int l1), some (.int (l2 + (1 : Int32)))] [] h1 (0, 0) (QV K)))
theorem wb_Near_forgetPair_2_ok {l0 : Nat} {l1 : Int32} {l2 : Int32} {h : HP} {K : HP → Prop} (H : wb_Near_forgetPair_2 l0 l1 l2 h K) : Wp k_Near_forgetPair 2 [some (.ref l0), some (.int l1), some (.int l2)] [] h (0, 0) (QV K) := by
  unfold wb_Near_forgetPair_2 at H
  refine wp_iload_n rfl rfl ?_
  refine wp_bipush rfl ?_
  refine wp_icmp_ge rfl (lo1 := [some (.ref l0), some (.int l1), some (.int l2)]) (lo2 := [some (.ref l0), some (.int l1), some (.int l2)]) rfl rfl (fun q6 => ?_) (fun q6 => ?_)
  · have H := H.1 q6
    exact wp_vret rfl rfl H
  · have H := H.2 q6
    refine wp_aload_n rfl rfl ?_
    obtain ⟨g4, g5, H⟩ := H
    refine wp_getR rfl rfl g4 g5 ?_
    refine wp_iload_n rfl rfl ?_
    refine wp_bipush rfl ?_
    refine wp_imul rfl ?_
    refine wp_iload_n rfl rfl ?_
    refine wp_iadd rfl ?_
    refine wp_iconst rfl ?_
    obtain ⟨g2, H⟩ := H
    obtain ⟨h1, e3⟩ : ∃ z : HP, z = stI h (gR h l0 0) ((l1 * (24 : Int32)) + l2).toNatClampNeg (-1 : Int32) := ⟨_, rfl⟩
    have H := H h1 e3
    refine wp_iast rfl g2 e3 ?_
    refine wp_iinc rfl rfl rfl (lo' := [some (.ref l0), some (.int l1), some (.int (l2 + (1 : Int32)))]) rfl ?_
    refine wp_goto rfl (lo' := [some (.ref l0), some (.int l1), some (.int (l2 + (1 : Int32)))]) rfl ?_
    exact H
def wq_Near_forgetPair (p0 : Nat) (p1 : Int32) (h : HP) (K : HP → Prop) : Prop :=
  Wp k_Near_forgetPair 2 [some (.ref p0), some (.int p1), some (.int (0 : Int32))] [] h (0, 0) (QV K)
theorem wq_Near_forgetPair_ok {p0 : Nat} {p1 : Int32} {h : HP} {K : HP → Prop} (H : wq_Near_forgetPair p0 p1 h K) : Wp k_Near_forgetPair 0 [some (.ref p0), some (.int p1), none] [] h (0, 0) (QV K) := by
  unfold wq_Near_forgetPair at H
  refine wp_iconst rfl ?_
  refine wp_istore_n rfl rfl (lo' := [some (.ref p0), some (.int p1), some (.int (0 : Int32))]) rfl ?_
  exact H
def wq_Nest_init (p0 : Nat) (h : HP) (K : HP → Prop) : Prop :=
  ∀ h1 : HP, h1 = nwC h 100 200 → isO h1 p0 4 ∧ 0 < gS h ∧ (∀ h3 : HP, h3 = stR h1 p0 0 (gS h) → K h3)
theorem wq_Nest_init_ok {p0 : Nat} {h : HP} {K : HP → Prop} (H : wq_Nest_init p0 h K) : Wp k_Nest_init 0 [some (.ref p0)] [] h (1, 200) (QV K) := by
  unfold wq_Nest_init at H
  refine wp_aload_n rfl rfl ?_
  refine wp_objI rfl (Nat.le_of_ble_eq_true rfl) (lo' := [some (.ref p0)]) rfl ?_
  refine wp_aload_n rfl rfl ?_
  refine wp_sipush rfl ?_
  obtain ⟨h1, e2⟩ : ∃ z : HP, z = nwC h 100 200 := ⟨_, rfl⟩
  have H := H h1 e2
  refine wp_newaL (N := 200) (lo' := [some (.ref p0)]) (bd' := (0, 0)) rfl ⟨by decide, by decide⟩ ⟨by decide, by decide, by decide⟩ rfl rfl e2 ?_
  obtain ⟨g4, g5, H⟩ := H
  obtain ⟨h3, e6⟩ : ∃ z : HP, z = stR h1 p0 0 (gS h) := ⟨_, rfl⟩
  have H := H h3 e6
  refine wp_putR rfl rfl g4 g5 e6 ?_
  exact wp_vret rfl rfl H
def wb_Patch_forgetServed_2 (l0 : Nat) (l1 : Int32) (h : HP) (K : HP → Prop) : Prop :=
  ((20 : Int32) ≤ l1 → K h) ∧ (¬ (20 : Int32) ≤ l1 → isO h l0 5 ∧ 0 < gR h l0 2 ∧ isA h (gR h l0 2) 102 l1 ∧ (∀ h1 : HP, h1 = stI h (gR h l0 2) l1.toNatClampNeg (narB 102 (0 : Int32)) → Wp k_Patch_forgetServed 2 [some (.ref l0), some (.int (l1 + (1 : Int32)))] [] h1 (0, 0) (QV K)))
theorem wb_Patch_forgetServed_2_ok {l0 : Nat} {l1 : Int32} {h : HP} {K : HP → Prop} (H : wb_Patch_forgetServed_2 l0 l1 h K) : Wp k_Patch_forgetServed 2 [some (.ref l0), some (.int l1)] [] h (0, 0) (QV K) := by
  unfold wb_Patch_forgetServed_2 at H
  refine wp_iload_n rfl rfl ?_
  refine wp_bipush rfl ?_
  refine wp_icmp_ge rfl (lo1 := [some (.ref l0), some (.int l1)]) (lo2 := [some (.ref l0), some (.int l1)]) rfl rfl (fun q6 => ?_) (fun q6 => ?_)
  · have H := H.1 q6
    exact wp_vret rfl rfl H
  · have H := H.2 q6
    refine wp_aload_n rfl rfl ?_
    obtain ⟨g4, g5, H⟩ := H
    refine wp_getR rfl rfl g4 g5 ?_
    refine wp_iload_n rfl rfl ?_
    refine wp_iconst rfl ?_
    obtain ⟨g2, H⟩ := H
    obtain ⟨h1, e3⟩ : ∃ z : HP, z = stI h (gR h l0 2) l1.toNatClampNeg (narB 102 (0 : Int32)) := ⟨_, rfl⟩
    have H := H h1 e3
    refine wp_bast rfl g2 e3 ?_
    refine wp_iinc rfl rfl rfl (lo' := [some (.ref l0), some (.int (l1 + (1 : Int32)))]) rfl ?_
    refine wp_goto rfl (lo' := [some (.ref l0), some (.int (l1 + (1 : Int32)))]) rfl ?_
    exact H
def wq_Patch_forgetServed (p0 : Nat) (h : HP) (K : HP → Prop) : Prop :=
  Wp k_Patch_forgetServed 2 [some (.ref p0), some (.int (0 : Int32))] [] h (0, 0) (QV K)
theorem wq_Patch_forgetServed_ok {p0 : Nat} {h : HP} {K : HP → Prop} (H : wq_Patch_forgetServed p0 h K) : Wp k_Patch_forgetServed 0 [some (.ref p0), none] [] h (0, 0) (QV K) := by
  unfold wq_Patch_forgetServed at H
  refine wp_iconst rfl ?_
  refine wp_istore_n rfl rfl (lo' := [some (.ref p0), some (.int (0 : Int32))]) rfl ?_
  exact H
def wq_Patch_inRendering (p0 : Int32) (h : HP) (K : Int32 → HP → Prop) : Prop :=
  (¬ p0 = (46 : Int32) → K p0 h) ∧ (p0 = (46 : Int32) → K (44 : Int32) h)
theorem wq_Patch_inRendering_ok {p0 : Int32} {h : HP} {K : Int32 → HP → Prop} (H : wq_Patch_inRendering p0 h K) : Wp k_Patch_inRendering 0 [some (.int p0)] [] h (0, 0) (QI K) := by
  unfold wq_Patch_inRendering at H
  refine wp_iload_n rfl rfl ?_
  refine wp_bipush rfl ?_
  refine wp_icmp_ne rfl (lo1 := [some (.int p0)]) (lo2 := [some (.int p0)]) rfl rfl (fun q1 => ?_) (fun q1 => ?_)
  · have H := H.1 q1
    refine wp_iload_nk (lo' := [none]) rfl rfl rfl ?_
    exact wp_iret rfl rfl H
  · have H := H.2 q1
    refine wp_bipush rfl ?_
    refine wp_goto rfl (lo' := [none]) rfl ?_
    exact wp_iret rfl rfl H
def wb_Patch_haveAllServed_2 (l0 : Nat) (l1 : Nat) (l2 : Int32) (h : HP) (K : Int32 → HP → Prop) : Prop :=
  isO h l1 6 ∧ (gI h l1 7 ≤ l2 → K (1 : Int32) h) ∧ (¬ gI h l1 7 ≤ l2 → isO h l1 6 ∧ 0 < gR h l1 0 ∧ isL h (gR h l1 0) 100 l2 ∧ (¬ gI h (gR h l1 0) l2.toNatClampNeg = (1 : Int32) → Wp k_Patch_haveAllServed 2 [some (.ref l0), some (.ref l1), some (.int (l2 + (1 : Int32)))] [] h (0, 0) (QI K)) ∧ (gI h (gR h l1 0) l2.toNatClampNeg = (1 : Int32) → isO h l0 5 ∧ 0 < gR h l0 2 ∧ isA h (gR h l0 2) 102 l2 ∧ (¬ gI h (gR h l0 2) l2.toNatClampNeg = 0 → Wp k_Patch_haveAllServed 2 [some (.ref l0), some (.ref l1), some (.int (l2 + (1 : Int32)))] [] h (0, 0) (QI K)) ∧ (gI h (gR h l0 2) l2.toNatClampNeg = 0 → K (0 : Int32) h)))
theorem wb_Patch_haveAllServed_2_ok {l0 : Nat} {l1 : Nat} {l2 : Int32} {h : HP} {K : Int32 → HP → Prop} (H : wb_Patch_haveAllServed_2 l0 l1 l2 h K) : Wp k_Patch_haveAllServed 2 [some (.ref l0), some (.ref l1), some (.int l2)] [] h (0, 0) (QI K) := by
  unfold wb_Patch_haveAllServed_2 at H
  refine wp_iload_n rfl rfl ?_
  refine wp_aload_n rfl rfl ?_
  obtain ⟨g10, H⟩ := H
  refine wp_getI rfl rfl g10 ?_
  refine wp_icmp_ge rfl (lo1 := [some (.ref l0), some (.ref l1), some (.int l2)]) (lo2 := [some (.ref l0), some (.ref l1), some (.int l2)]) rfl rfl (fun q9 => ?_) (fun q9 => ?_)
  · have H := H.1 q9
    refine wp_iconst rfl ?_
    exact wp_zret rfl rfl (by decide) H
  · have H := H.2 q9
    refine wp_aload_n rfl rfl ?_
    obtain ⟨g7, g8, H⟩ := H
    refine wp_getR rfl rfl g7 g8 ?_
    refine wp_iload_n rfl rfl ?_
    obtain ⟨g6, H⟩ := H
    refine wp_iald rfl g6 ?_
    refine wp_iconst rfl ?_
    refine wp_icmp_ne rfl (lo1 := [some (.ref l0), some (.ref l1), some (.int l2)]) (lo2 := [some (.ref l0), some (.ref l1), some (.int l2)]) rfl rfl (fun q5 => ?_) (fun q5 => ?_)
    · have H := H.1 q5
      refine wp_iinc rfl rfl rfl (lo' := [some (.ref l0), some (.ref l1), some (.int (l2 + (1 : Int32)))]) rfl ?_
      refine wp_goto rfl (lo' := [some (.ref l0), some (.ref l1), some (.int (l2 + (1 : Int32)))]) rfl ?_
      exact H
    · have H := H.2 q5
      refine wp_aload_n rfl rfl ?_
      obtain ⟨g3, g4, H⟩ := H
      refine wp_getR rfl rfl g3 g4 ?_
      refine wp_iload_n rfl rfl ?_
      obtain ⟨g2, H⟩ := H
      refine wp_bald rfl g2 ?_
      refine wp_if_ne rfl (lo1 := [some (.ref l0), some (.ref l1), some (.int l2)]) (lo2 := [some (.ref l0), some (.ref l1), some (.int l2)]) rfl rfl (fun q1 => ?_) (fun q1 => ?_)
      · have H := H.1 q1
        refine wp_iinc rfl rfl rfl (lo' := [some (.ref l0), some (.ref l1), some (.int (l2 + (1 : Int32)))]) rfl ?_
        refine wp_goto rfl (lo' := [some (.ref l0), some (.ref l1), some (.int (l2 + (1 : Int32)))]) rfl ?_
        exact H
      · have H := H.2 q1
        refine wp_iconst rfl ?_
        exact wp_zret rfl rfl (by decide) H
def wq_Patch_haveAllServed (p0 : Nat) (p1 : Nat) (h : HP) (K : Int32 → HP → Prop) : Prop :=
  Wp k_Patch_haveAllServed 2 [some (.ref p0), some (.ref p1), some (.int (0 : Int32))] [] h (0, 0) (QI K)
theorem wq_Patch_haveAllServed_ok {p0 : Nat} {p1 : Nat} {h : HP} {K : Int32 → HP → Prop} (H : wq_Patch_haveAllServed p0 p1 h K) : Wp k_Patch_haveAllServed 0 [some (.ref p0), some (.ref p1), none] [] h (0, 0) (QI K) := by
  unfold wq_Patch_haveAllServed at H
  refine wp_iconst rfl ?_
  refine wp_istore_n rfl rfl (lo' := [some (.ref p0), some (.ref p1), some (.int (0 : Int32))]) rfl ?_
  exact H
def wq_Row_init (p0 : Nat) (p1 : Nat) (p2 : Int32) (h : HP) (K : HP → Prop) : Prop :=
  isO h p0 6 ∧ 0 < p1 ∧ (∀ h1 : HP, h1 = stR h p0 3 p1 → ¬ (if p2 < (0 : Int32) then (0 : Int32) else p2) < 0 ∧ (if p2 < (0 : Int32) then (0 : Int32) else p2).toNatClampNeg ≤ 60000000 ∧ 1 ≤ 3 ∧ (if p2 < (0 : Int32) then (0 : Int32) else p2).toNatClampNeg ≤ 1800 ∧ (∀ h2 : HP, h2 = nwC h1 100 (if p2 < (0 : Int32) then (0 : Int32) else p2).toNatClampNeg → isO h2 p0 6 ∧ 0 < gS h1 ∧ (∀ h3 : HP, h3 = stR h2 p0 0 (gS h1) → ¬ (if p2 < (0 : Int32) then (0 : Int32) else p2) < 0 ∧ (if p2 < (0 : Int32) then (0 : Int32) else p2).toNatClampNeg ≤ 60000000 ∧ 1 ≤ 3 - 1 ∧ (if p2 < (0 : Int32) then (0 : Int32) else p2).toNatClampNeg ≤ 1800 - (if p2 < (0 : Int32) then (0 : Int32) else p2).toNatClampNeg ∧ (∀ h4 : HP, h4 = nwC h3 100 (if p2 < (0 : Int32) then (0 : Int32) else p2).toNatClampNeg → isO h4 p0 6 ∧ 0 < gS h3 ∧ (∀ h5 : HP, h5 = stR h4 p0 1 (gS h3) → ¬ (if p2 < (0 : Int32) then (0 : Int32) else p2) < 0 ∧ (if p2 < (0 : Int32) then (0 : Int32) else p2).toNatClampNeg ≤ 60000000 ∧ 1 ≤ 3 - 1 - 1 ∧ (if p2 < (0 : Int32) then (0 : Int32) else p2).toNatClampNeg ≤ 1800 - (if p2 < (0 : Int32) then (0 : Int32) else p2).toNatClampNeg - (if p2 < (0 : Int32) then (0 : Int32) else p2).toNatClampNeg ∧ (∀ h6 : HP, h6 = nwC h5 100 (if p2 < (0 : Int32) then (0 : Int32) else p2).toNatClampNeg → isO h6 p0 6 ∧ 0 < gS h5 ∧ (∀ h7 : HP, h7 = stR h6 p0 2 (gS h5) → K h7)))))))
theorem wq_Row_init_ok {p0 : Nat} {p1 : Nat} {p2 : Int32} {h : HP} {K : HP → Prop} (H : wq_Row_init p0 p1 p2 h K) : Wp k_Row_init 0 [some (.ref p0), some (.ref p1), some (.int p2)] [] h (3, 1800) (QV K) := by
  unfold wq_Row_init at H
  refine wp_aload_n rfl rfl ?_
  refine wp_objI rfl (Nat.le_of_ble_eq_true rfl) (lo' := [some (.ref p0), some (.ref p1), some (.int p2)]) rfl ?_
  refine wp_aload_n rfl rfl ?_
  refine wp_aload_n rfl rfl ?_
  obtain ⟨g32, g33, H⟩ := H
  obtain ⟨h1, e34⟩ : ∃ z : HP, z = stR h p0 3 p1 := ⟨_, rfl⟩
  have H := H h1 e34
  refine wp_putR rfl rfl g32 g33 e34 ?_
  refine wp_aload_n rfl rfl ?_
  refine wp_iload_n rfl rfl ?_
  refine wp_iconst rfl ?_
  refine wp_max rfl (Nat.le_of_ble_eq_true rfl) (lo' := [some (.ref p0), some (.ref p1), some (.int p2)]) rfl ?_
  obtain ⟨g27, g28, g29, g30, H⟩ := H
  obtain ⟨h2, e31⟩ : ∃ z : HP, z = nwC h1 100 (if p2 < (0 : Int32) then (0 : Int32) else p2).toNatClampNeg := ⟨_, rfl⟩
  have H := H h2 e31
  refine wp_newa rfl g27 g28 g29 g30 e31 ?_
  obtain ⟨g24, g25, H⟩ := H
  obtain ⟨h3, e26⟩ : ∃ z : HP, z = stR h2 p0 0 (gS h1) := ⟨_, rfl⟩
  have H := H h3 e26
  refine wp_putR rfl rfl g24 g25 e26 ?_
  refine wp_aload_n rfl rfl ?_
  refine wp_iload_n rfl rfl ?_
  refine wp_iconst rfl ?_
  refine wp_max rfl (Nat.le_of_ble_eq_true rfl) (lo' := [some (.ref p0), some (.ref p1), some (.int p2)]) rfl ?_
  obtain ⟨g19, g20, g21, g22, H⟩ := H
  obtain ⟨h4, e23⟩ : ∃ z : HP, z = nwC h3 100 (if p2 < (0 : Int32) then (0 : Int32) else p2).toNatClampNeg := ⟨_, rfl⟩
  have H := H h4 e23
  refine wp_newa rfl g19 g20 g21 g22 e23 ?_
  obtain ⟨g16, g17, H⟩ := H
  obtain ⟨h5, e18⟩ : ∃ z : HP, z = stR h4 p0 1 (gS h3) := ⟨_, rfl⟩
  have H := H h5 e18
  refine wp_putR rfl rfl g16 g17 e18 ?_
  refine wp_aload_n rfl rfl ?_
  refine wp_iload_n rfl rfl ?_
  refine wp_iconst rfl ?_
  refine wp_max rfl (Nat.le_of_ble_eq_true rfl) (lo' := [some (.ref p0), some (.ref p1), some (.int p2)]) rfl ?_
  obtain ⟨g11, g12, g13, g14, H⟩ := H
  obtain ⟨h6, e15⟩ : ∃ z : HP, z = nwC h5 100 (if p2 < (0 : Int32) then (0 : Int32) else p2).toNatClampNeg := ⟨_, rfl⟩
  have H := H h6 e15
  refine wp_newa rfl g11 g12 g13 g14 e15 ?_
  obtain ⟨g8, g9, H⟩ := H
  obtain ⟨h7, e10⟩ : ∃ z : HP, z = stR h6 p0 2 (gS h5) := ⟨_, rfl⟩
  have H := H h7 e10
  refine wp_putR rfl rfl g8 g9 e10 ?_
  exact wp_vret rfl rfl H
def wq_Row_addPiece (p0 : Nat) (p1 : Int32) (p2 : Int32) (p3 : Int32) (h : HP) (K : HP → Prop) : Prop :=
  isO h p0 6 ∧ isO h p0 6 ∧ (∀ h1 : HP, h1 = stI h p0 6 ((gI h p0 6) + (1 : Int32)) → (p1 = (6 : Int32) → K h1) ∧ (¬ p1 = (6 : Int32) → isO h1 p0 6 ∧ isO h1 p0 6 ∧ 0 < gR h1 p0 0 ∧ (gR h1 p0 0 < gS h1 ∧ 100 ≤ gK h1 (gR h1 p0 0) ∧ gK h1 (gR h1 p0 0) ≤ 105 ∧ (gR h1 p0 0 = 0 → gK h1 (gR h1 p0 0) = 100)) ∧ (gI h1 p0 7 < nI (gL h1 (gR h1 p0 0)) → isO h1 p0 6 ∧ 0 < gR h1 p0 0 ∧ isO h1 p0 6 ∧ isA h1 (gR h1 p0 0) 100 (gI h1 p0 7) ∧ (∀ h2 : HP, h2 = stI h1 (gR h1 p0 0) (gI h1 p0 7).toNatClampNeg p1 → isO h2 p0 6 ∧ 0 < gR h2 p0 1 ∧ isO h2 p0 6 ∧ isA h2 (gR h2 p0 1) 100 (gI h2 p0 7) ∧ (∀ h3 : HP, h3 = stI h2 (gR h2 p0 1) (gI h2 p0 7).toNatClampNeg p2 → isO h3 p0 6 ∧ 0 < gR h3 p0 2 ∧ isO h3 p0 6 ∧ isA h3 (gR h3 p0 2) 100 (gI h3 p0 7) ∧ (∀ h4 : HP, h4 = stI h3 (gR h3 p0 2) (gI h3 p0 7).toNatClampNeg p3 → isO h4 p0 6 ∧ isO h4 p0 6 ∧ (∀ h5 : HP, h5 = stI h4 p0 7 ((gI h4 p0 7) + (1 : Int32)) → (¬ p1 = 0 → K h5) ∧ (p1 = 0 → isO h5 p0 6 ∧ isO h5 p0 6 ∧ (∀ h6 : HP, h6 = stI h5 p0 8 ((gI h5 p0 8) + (1 : Int32)) → K h6))))))) ∧ (¬ gI h1 p0 7 < nI (gL h1 (gR h1 p0 0)) → K h1)))
theorem wq_Row_addPiece_ok {p0 : Nat} {p1 : Int32} {p2 : Int32} {p3 : Int32} {h : HP} {K : HP → Prop} (H : wq_Row_addPiece p0 p1 p2 p3 h K) : Wp k_Row_addPiece 0 [some (.ref p0), some (.int p1), some (.int p2), some (.int p3)] [] h (0, 0) (QV K) := by
  unfold wq_Row_addPiece at H
  refine wp_aload_n rfl rfl ?_
  refine wp_dupR rfl ?_
  obtain ⟨g37, H⟩ := H
  refine wp_getI rfl rfl g37 ?_
  refine wp_iconst rfl ?_
  refine wp_iadd rfl ?_
  obtain ⟨g35, H⟩ := H
  obtain ⟨h1, e36⟩ : ∃ z : HP, z = stI h p0 6 ((gI h p0 6) + (1 : Int32)) := ⟨_, rfl⟩
  have H := H h1 e36
  refine wp_putI rfl rfl g35 e36 ?_
  refine wp_iload_n rfl rfl ?_
  refine wp_bipush rfl ?_
  refine wp_icmp_eq rfl (lo1 := [none, none, none, none]) (lo2 := [some (.ref p0), some (.int p1), some (.int p2), some (.int p3)]) rfl rfl (fun q34 => ?_) (fun q34 => ?_)
  · have H := H.1 q34
    exact wp_vret rfl rfl H
  · have H := H.2 q34
    refine wp_aload_n rfl rfl ?_
    obtain ⟨g33, H⟩ := H
    refine wp_getI rfl rfl g33 ?_
    refine wp_aload_n rfl rfl ?_
    obtain ⟨g31, g32, H⟩ := H
    refine wp_getR rfl rfl g31 g32 ?_
    obtain ⟨g30, H⟩ := H
    refine wp_alen rfl g30 ?_
    refine wp_icmp_lt rfl (lo1 := [some (.ref p0), some (.int p1), some (.int p2), some (.int p3)]) (lo2 := [none, none, none, none]) rfl rfl (fun q29 => ?_) (fun q29 => ?_)
    · have H := H.1 q29
      refine wp_aload_n rfl rfl ?_
      obtain ⟨g27, g28, H⟩ := H
      refine wp_getR rfl rfl g27 g28 ?_
      refine wp_aload_n rfl rfl ?_
      obtain ⟨g26, H⟩ := H
      refine wp_getI rfl rfl g26 ?_
      refine wp_iload_n rfl rfl ?_
      obtain ⟨g24, H⟩ := H
      obtain ⟨h2, e25⟩ : ∃ z : HP, z = stI h1 (gR h1 p0 0) (gI h1 p0 7).toNatClampNeg p1 := ⟨_, rfl⟩
      have H := H h2 e25
      refine wp_iast rfl g24 e25 ?_
      refine wp_aload_n rfl rfl ?_
      obtain ⟨g22, g23, H⟩ := H
      refine wp_getR rfl rfl g22 g23 ?_
      refine wp_aload_n rfl rfl ?_
      obtain ⟨g21, H⟩ := H
      refine wp_getI rfl rfl g21 ?_
      refine wp_iload_n rfl rfl ?_
      obtain ⟨g19, H⟩ := H
      obtain ⟨h3, e20⟩ : ∃ z : HP, z = stI h2 (gR h2 p0 1) (gI h2 p0 7).toNatClampNeg p2 := ⟨_, rfl⟩
      have H := H h3 e20
      refine wp_iast rfl g19 e20 ?_
      refine wp_aload_n rfl rfl ?_
      obtain ⟨g17, g18, H⟩ := H
      refine wp_getR rfl rfl g17 g18 ?_
      refine wp_aload_n rfl rfl ?_
      obtain ⟨g16, H⟩ := H
      refine wp_getI rfl rfl g16 ?_
      refine wp_iload_n rfl rfl ?_
      obtain ⟨g14, H⟩ := H
      obtain ⟨h4, e15⟩ : ∃ z : HP, z = stI h3 (gR h3 p0 2) (gI h3 p0 7).toNatClampNeg p3 := ⟨_, rfl⟩
      have H := H h4 e15
      refine wp_iast rfl g14 e15 ?_
      refine wp_aload_n rfl rfl ?_
      refine wp_dupR rfl ?_
      obtain ⟨g13, H⟩ := H
      refine wp_getI rfl rfl g13 ?_
      refine wp_iconst rfl ?_
      refine wp_iadd rfl ?_
      obtain ⟨g11, H⟩ := H
      obtain ⟨h5, e12⟩ : ∃ z : HP, z = stI h4 p0 7 ((gI h4 p0 7) + (1 : Int32)) := ⟨_, rfl⟩
      have H := H h5 e12
      refine wp_putI rfl rfl g11 e12 ?_
      refine wp_iload_n rfl rfl ?_
      refine wp_if_ne rfl (lo1 := [none, none, none, none]) (lo2 := [some (.ref p0), some (.int p1), some (.int p2), some (.int p3)]) rfl rfl (fun q10 => ?_) (fun q10 => ?_)
      · have H := H.1 q10
        exact wp_vret rfl rfl H
      · have H := H.2 q10
        refine wp_aload_n rfl rfl ?_
        refine wp_dupR rfl ?_
        obtain ⟨g9, H⟩ := H
        refine wp_getI rfl rfl g9 ?_
        refine wp_iconst rfl ?_
        refine wp_iadd rfl ?_
        obtain ⟨g7, H⟩ := H
        obtain ⟨h6, e8⟩ : ∃ z : HP, z = stI h5 p0 8 ((gI h5 p0 8) + (1 : Int32)) := ⟨_, rfl⟩
        have H := H h6 e8
        refine wp_putIk (lo' := [none, none, none, none]) rfl rfl rfl g7 e8 ?_
        exact wp_vret rfl rfl H
    · have H := H.2 q29
      exact wp_vret rfl rfl H
def wq_Row_isMark (p0 : Nat) (p1 : Int32) (h : HP) (K : Int32 → HP → Prop) : Prop :=
  isO h p0 6 ∧ 0 < gR h p0 0 ∧ isL h (gR h p0 0) 100 p1 ∧ (gI h (gR h p0 0) p1.toNatClampNeg = (2 : Int32) → K (1 : Int32) h) ∧ (¬ gI h (gR h p0 0) p1.toNatClampNeg = (2 : Int32) → isO h p0 6 ∧ 0 < gR h p0 0 ∧ isL h (gR h p0 0) 100 p1 ∧ (gI h (gR h p0 0) p1.toNatClampNeg = (3 : Int32) → K (1 : Int32) h) ∧ (¬ gI h (gR h p0 0) p1.toNatClampNeg = (3 : Int32) → isO h p0 6 ∧ 0 < gR h p0 0 ∧ isL h (gR h p0 0) 100 p1 ∧ (¬ gI h (gR h p0 0) p1.toNatClampNeg = (4 : Int32) → K (0 : Int32) h) ∧ (gI h (gR h p0 0) p1.toNatClampNeg = (4 : Int32) → K (1 : Int32) h)))
theorem wq_Row_isMark_ok {p0 : Nat} {p1 : Int32} {h : HP} {K : Int32 → HP → Prop} (H : wq_Row_isMark p0 p1 h K) : Wp k_Row_isMark 0 [some (.ref p0), some (.int p1)] [] h (0, 0) (QI K) := by
  unfold wq_Row_isMark at H
  refine wp_aload_n rfl rfl ?_
  obtain ⟨g11, g12, H⟩ := H
  refine wp_getR rfl rfl g11 g12 ?_
  refine wp_iload_n rfl rfl ?_
  obtain ⟨g10, H⟩ := H
  refine wp_iald rfl g10 ?_
  refine wp_iconst rfl ?_
  refine wp_icmp_eq rfl (lo1 := [none, none]) (lo2 := [some (.ref p0), some (.int p1)]) rfl rfl (fun q9 => ?_) (fun q9 => ?_)
  · have H := H.1 q9
    refine wp_iconst rfl ?_
    refine wp_goto rfl (lo' := [none, none]) rfl ?_
    exact wp_zret rfl rfl (by decide) H
  · have H := H.2 q9
    refine wp_aload_n rfl rfl ?_
    obtain ⟨g7, g8, H⟩ := H
    refine wp_getR rfl rfl g7 g8 ?_
    refine wp_iload_n rfl rfl ?_
    obtain ⟨g6, H⟩ := H
    refine wp_iald rfl g6 ?_
    refine wp_iconst rfl ?_
    refine wp_icmp_eq rfl (lo1 := [none, none]) (lo2 := [some (.ref p0), some (.int p1)]) rfl rfl (fun q5 => ?_) (fun q5 => ?_)
    · have H := H.1 q5
      refine wp_iconst rfl ?_
      refine wp_goto rfl (lo' := [none, none]) rfl ?_
      exact wp_zret rfl rfl (by decide) H
    · have H := H.2 q5
      refine wp_aload_n rfl rfl ?_
      obtain ⟨g3, g4, H⟩ := H
      refine wp_getR rfl rfl g3 g4 ?_
      refine wp_iload_n rfl rfl ?_
      obtain ⟨g2, H⟩ := H
      refine wp_iald rfl g2 ?_
      refine wp_iconst rfl ?_
      refine wp_icmp_ne rfl (lo1 := [some (.ref p0), some (.int p1)]) (lo2 := [none, none]) rfl rfl (fun q1 => ?_) (fun q1 => ?_)
      · have H := H.1 q1
        refine wp_iconstk (lo' := [none, none]) rfl rfl ?_
        exact wp_zret rfl rfl (by decide) H
      · have H := H.2 q1
        refine wp_iconst rfl ?_
        refine wp_goto rfl (lo' := [none, none]) rfl ?_
        exact wp_zret rfl rfl (by decide) H
def wq_Row_digitPlace (p0 : Nat) (p1 : Int32) (h : HP) (K : Int32 → HP → Prop) : Prop :=
  isO h p0 6 ∧ 0 < gR h p0 1 ∧ isL h (gR h p0 1) 100 p1 ∧ isO h p0 6 ∧ 0 < gR h p0 0 ∧ isL h (gR h p0 0) 100 p1 ∧ (¬ gI h (gR h p0 0) p1.toNatClampNeg = (3 : Int32) → K ((gI h (gR h p0 1) p1.toNatClampNeg) + (1 : Int32)) h) ∧ (gI h (gR h p0 0) p1.toNatClampNeg = (3 : Int32) → K ((gI h (gR h p0 1) p1.toNatClampNeg) + (2 : Int32)) h)
theorem wq_Row_digitPlace_ok {p0 : Nat} {p1 : Int32} {h : HP} {K : Int32 → HP → Prop} (H : wq_Row_digitPlace p0 p1 h K) : Wp k_Row_digitPlace 0 [some (.ref p0), some (.int p1)] [] h (0, 0) (QI K) := by
  unfold wq_Row_digitPlace at H
  refine wp_aload_n rfl rfl ?_
  obtain ⟨g6, g7, H⟩ := H
  refine wp_getR rfl rfl g6 g7 ?_
  refine wp_iload_n rfl rfl ?_
  obtain ⟨g5, H⟩ := H
  refine wp_iald rfl g5 ?_
  refine wp_aload_n rfl rfl ?_
  obtain ⟨g3, g4, H⟩ := H
  refine wp_getR rfl rfl g3 g4 ?_
  refine wp_iload_n rfl rfl ?_
  obtain ⟨g2, H⟩ := H
  refine wp_iald rfl g2 ?_
  refine wp_iconst rfl ?_
  refine wp_icmp_ne rfl (lo1 := [some (.ref p0), some (.int p1)]) (lo2 := [some (.ref p0), some (.int p1)]) rfl rfl (fun q1 => ?_) (fun q1 => ?_)
  · have H := H.1 q1
    refine wp_iconstk (lo' := [none, none]) rfl rfl ?_
    refine wp_iadd rfl ?_
    exact wp_iret rfl rfl H
  · have H := H.2 q1
    refine wp_iconst rfl ?_
    refine wp_goto rfl (lo' := [none, none]) rfl ?_
    refine wp_iadd rfl ?_
    exact wp_iret rfl rfl H
def wb_Row_hasBytesOf_38 (l0 : Nat) (l1 : Int32) (l2 : Nat) (l3 : Int32) (l4 : Nat) (l5 : Nat) (l6 : Int32) (h : HP) (K : Int32 → HP → Prop) : Prop :=
  isO h l0 6 ∧ 0 < gR h l0 2 ∧ isL h (gR h l0 2) 100 l1 ∧ (gI h (gR h l0 2) l1.toNatClampNeg ≤ l6 → K (1 : Int32) h) ∧ (¬ gI h (gR h l0 2) l1.toNatClampNeg ≤ l6 → isO h l0 6 ∧ 0 < gR h l0 1 ∧ isL h (gR h l0 1) 100 l1 ∧ isA h l4 101 ((gI h (gR h l0 1) l1.toNatClampNeg) + l6) ∧ isO h l2 6 ∧ 0 < gR h l2 1 ∧ isL h (gR h l2 1) 100 l3 ∧ isA h l5 101 ((gI h (gR h l2 1) l3.toNatClampNeg) + l6) ∧ (gI h l4 ((gI h (gR h l0 1) l1.toNatClampNeg) + l6).toNatClampNeg = gI h l5 ((gI h (gR h l2 1) l3.toNatClampNeg) + l6).toNatClampNeg → Wp k_Row_hasBytesOf 38 [some (.ref l0), some (.int l1), some (.ref l2), some (.int l3), some (.ref l4), some (.ref l5), some (.int (l6 + (1 : Int32)))] [] h (0, 0) (QI K)) ∧ (¬ gI h l4 ((gI h (gR h l0 1) l1.toNatClampNeg) + l6).toNatClampNeg = gI h l5 ((gI h (gR h l2 1) l3.toNatClampNeg) + l6).toNatClampNeg → K (0 : Int32) h))
theorem wb_Row_hasBytesOf_38_ok {l0 : Nat} {l1 : Int32} {l2 : Nat} {l3 : Int32} {l4 : Nat} {l5 : Nat} {l6 : Int32} {h : HP} {K : Int32 → HP → Prop} (H : wb_Row_hasBytesOf_38 l0 l1 l2 l3 l4 l5 l6 h K) : Wp k_Row_hasBytesOf 38 [some (.ref l0), some (.int l1), some (.ref l2), some (.int l3), some (.ref l4), some (.ref l5), some (.int l6)] [] h (0, 0) (QI K) := by
  unfold wb_Row_hasBytesOf_38 at H
  refine wp_iload rfl rfl ?_
  refine wp_aload_n rfl rfl ?_
  obtain ⟨g27, g28, H⟩ := H
  refine wp_getR rfl rfl g27 g28 ?_
  refine wp_iload_n rfl rfl ?_
  obtain ⟨g26, H⟩ := H
  refine wp_iald rfl g26 ?_
  refine wp_icmp_ge rfl (lo1 := [some (.ref l0), some (.int l1), some (.ref l2), some (.int l3), some (.ref l4), some (.ref l5), some (.int l6)]) (lo2 := [some (.ref l0), some (.int l1), some (.ref l2), some (.int l3), some (.ref l4), some (.ref l5), some (.int l6)]) rfl rfl (fun q25 => ?_) (fun q25 => ?_)
  · have H := H.1 q25
    refine wp_iconst rfl ?_
    exact wp_zret rfl rfl (by decide) H
  · have H := H.2 q25
    refine wp_aload rfl rfl ?_
    refine wp_aload_n rfl rfl ?_
    obtain ⟨g23, g24, H⟩ := H
    refine wp_getR rfl rfl g23 g24 ?_
    refine wp_iload_n rfl rfl ?_
    obtain ⟨g22, H⟩ := H
    refine wp_iald rfl g22 ?_
    refine wp_iload rfl rfl ?_
    refine wp_iadd rfl ?_
    obtain ⟨g21, H⟩ := H
    refine wp_bald rfl g21 ?_
    refine wp_aload rfl rfl ?_
    refine wp_aload_n rfl rfl ?_
    obtain ⟨g19, g20, H⟩ := H
    refine wp_getR rfl rfl g19 g20 ?_
    refine wp_iload_n rfl rfl ?_
    obtain ⟨g18, H⟩ := H
    refine wp_iald rfl g18 ?_
    refine wp_iload rfl rfl ?_
    refine wp_iadd rfl ?_
    obtain ⟨g17, H⟩ := H
    refine wp_bald rfl g17 ?_
    refine wp_icmp_eq rfl (lo1 := [some (.ref l0), some (.int l1), some (.ref l2), some (.int l3), some (.ref l4), some (.ref l5), some (.int l6)]) (lo2 := [some (.ref l0), some (.int l1), some (.ref l2), some (.int l3), some (.ref l4), some (.ref l5), some (.int l6)]) rfl rfl (fun q16 => ?_) (fun q16 => ?_)
    · have H := H.1 q16
      refine wp_iinc rfl rfl rfl (lo' := [some (.ref l0), some (.int l1), some (.ref l2), some (.int l3), some (.ref l4), some (.ref l5), some (.int (l6 + (1 : Int32)))]) rfl ?_
      refine wp_goto rfl (lo' := [some (.ref l0), some (.int l1), some (.ref l2), some (.int l3), some (.ref l4), some (.ref l5), some (.int (l6 + (1 : Int32)))]) rfl ?_
      exact H
    · have H := H.2 q16
      refine wp_iconst rfl ?_
      exact wp_zret rfl rfl (by decide) H
def wq_Row_hasBytesOf (p0 : Nat) (p1 : Int32) (p2 : Nat) (p3 : Int32) (h : HP) (K : Int32 → HP → Prop) : Prop :=
  isO h p0 6 ∧ 0 < gR h p0 2 ∧ isL h (gR h p0 2) 100 p1 ∧ isO h p2 6 ∧ 0 < gR h p2 2 ∧ isL h (gR h p2 2) 100 p3 ∧ (gI h (gR h p0 2) p1.toNatClampNeg = gI h (gR h p2 2) p3.toNatClampNeg → isO h p0 6 ∧ 0 < gR h p0 3 ∧ isO h (gR h p0 3) 7 ∧ 0 < gR h (gR h p0 3) 0 ∧ isO h p2 6 ∧ 0 < gR h p2 3 ∧ isO h (gR h p2 3) 7 ∧ 0 < gR h (gR h p2 3) 0 ∧ Wp k_Row_hasBytesOf 38 [some (.ref p0), some (.int p1), some (.ref p2), some (.int p3), some (.ref (gR h (gR h p0 3) 0)), some (.ref (gR h (gR h p2 3) 0)), some (.int (0 : Int32))] [] h (0, 0) (QI K)) ∧ (¬ gI h (gR h p0 2) p1.toNatClampNeg = gI h (gR h p2 2) p3.toNatClampNeg → K (0 : Int32) h)
theorem wq_Row_hasBytesOf_ok {p0 : Nat} {p1 : Int32} {p2 : Nat} {p3 : Int32} {h : HP} {K : Int32 → HP → Prop} (H : wq_Row_hasBytesOf p0 p1 p2 p3 h K) : Wp k_Row_hasBytesOf 0 [some (.ref p0), some (.int p1), some (.ref p2), some (.int p3), none, none, none] [] h (0, 0) (QI K) := by
  unfold wq_Row_hasBytesOf at H
  refine wp_aload_n rfl rfl ?_
  obtain ⟨g14, g15, H⟩ := H
  refine wp_getR rfl rfl g14 g15 ?_
  refine wp_iload_n rfl rfl ?_
  obtain ⟨g13, H⟩ := H
  refine wp_iald rfl g13 ?_
  refine wp_aload_n rfl rfl ?_
  obtain ⟨g11, g12, H⟩ := H
  refine wp_getR rfl rfl g11 g12 ?_
  refine wp_iload_n rfl rfl ?_
  obtain ⟨g10, H⟩ := H
  refine wp_iald rfl g10 ?_
  refine wp_icmp_eq rfl (lo1 := [some (.ref p0), some (.int p1), some (.ref p2), some (.int p3), none, none, none]) (lo2 := [some (.ref p0), some (.int p1), some (.ref p2), some (.int p3), none, none, none]) rfl rfl (fun q9 => ?_) (fun q9 => ?_)
  · have H := H.1 q9
    refine wp_aload_n rfl rfl ?_
    obtain ⟨g7, g8, H⟩ := H
    refine wp_getR rfl rfl g7 g8 ?_
    obtain ⟨g5, g6, H⟩ := H
    refine wp_getR rfl rfl g5 g6 ?_
    refine wp_astore rfl rfl (lo' := [some (.ref p0), some (.int p1), some (.ref p2), some (.int p3), some (.ref (gR h (gR h p0 3) 0)), none, none]) rfl ?_
    refine wp_aload_n rfl rfl ?_
    obtain ⟨g3, g4, H⟩ := H
    refine wp_getR rfl rfl g3 g4 ?_
    obtain ⟨g1, g2, H⟩ := H
    refine wp_getR rfl rfl g1 g2 ?_
    refine wp_astore rfl rfl (lo' := [some (.ref p0), some (.int p1), some (.ref p2), some (.int p3), some (.ref (gR h (gR h p0 3) 0)), some (.ref (gR h (gR h p2 3) 0)), none]) rfl ?_
    refine wp_iconst rfl ?_
    refine wp_istore rfl rfl (lo' := [some (.ref p0), some (.int p1), some (.ref p2), some (.int p3), some (.ref (gR h (gR h p0 3) 0)), some (.ref (gR h (gR h p2 3) 0)), some (.int (0 : Int32))]) rfl ?_
    exact H
  · have H := H.2 q9
    refine wp_iconst rfl ?_
    exact wp_zret rfl rfl (by decide) H
def wb_Row_hasLettersOf_38 (l0 : Nat) (l1 : Int32) (l2 : Nat) (l3 : Int32) (l4 : Nat) (l5 : Nat) (l6 : Int32) (h : HP) (K : Int32 → HP → Prop) : Prop :=
  isO h l0 6 ∧ 0 < gR h l0 2 ∧ isL h (gR h l0 2) 100 l1 ∧ (gI h (gR h l0 2) l1.toNatClampNeg ≤ l6 → K (1 : Int32) h) ∧ (¬ gI h (gR h l0 2) l1.toNatClampNeg ≤ l6 → isO h l0 6 ∧ 0 < gR h l0 1 ∧ isL h (gR h l0 1) 100 l1 ∧ isA h l4 101 ((gI h (gR h l0 1) l1.toNatClampNeg) + l6) ∧ isO h l2 6 ∧ 0 < gR h l2 1 ∧ isL h (gR h l2 1) 100 l3 ∧ isA h l5 101 ((gI h (gR h l2 1) l3.toNatClampNeg) + l6) ∧ ((gI h l4 ((gI h (gR h l0 1) l1.toNatClampNeg) + l6).toNatClampNeg) ||| (32 : Int32) = (gI h l5 ((gI h (gR h l2 1) l3.toNatClampNeg) + l6).toNatClampNeg) ||| (32 : Int32) → Wp k_Row_hasLettersOf 38 [some (.ref l0), some (.int l1), some (.ref l2), some (.int l3), some (.ref l4), some (.ref l5), some (.int (l6 + (1 : Int32)))] [] h (0, 0) (QI K)) ∧ (¬ (gI h l4 ((gI h (gR h l0 1) l1.toNatClampNeg) + l6).toNatClampNeg) ||| (32 : Int32) = (gI h l5 ((gI h (gR h l2 1) l3.toNatClampNeg) + l6).toNatClampNeg) ||| (32 : Int32) → K (0 : Int32) h))
theorem wb_Row_hasLettersOf_38_ok {l0 : Nat} {l1 : Int32} {l2 : Nat} {l3 : Int32} {l4 : Nat} {l5 : Nat} {l6 : Int32} {h : HP} {K : Int32 → HP → Prop} (H : wb_Row_hasLettersOf_38 l0 l1 l2 l3 l4 l5 l6 h K) : Wp k_Row_hasLettersOf 38 [some (.ref l0), some (.int l1), some (.ref l2), some (.int l3), some (.ref l4), some (.ref l5), some (.int l6)] [] h (0, 0) (QI K) := by
  unfold wb_Row_hasLettersOf_38 at H
  refine wp_iload rfl rfl ?_
  refine wp_aload_n rfl rfl ?_
  obtain ⟨g27, g28, H⟩ := H
  refine wp_getR rfl rfl g27 g28 ?_
  refine wp_iload_n rfl rfl ?_
  obtain ⟨g26, H⟩ := H
  refine wp_iald rfl g26 ?_
  refine wp_icmp_ge rfl (lo1 := [some (.ref l0), some (.int l1), some (.ref l2), some (.int l3), some (.ref l4), some (.ref l5), some (.int l6)]) (lo2 := [some (.ref l0), some (.int l1), some (.ref l2), some (.int l3), some (.ref l4), some (.ref l5), some (.int l6)]) rfl rfl (fun q25 => ?_) (fun q25 => ?_)
  · have H := H.1 q25
    refine wp_iconst rfl ?_
    exact wp_zret rfl rfl (by decide) H
  · have H := H.2 q25
    refine wp_aload rfl rfl ?_
    refine wp_aload_n rfl rfl ?_
    obtain ⟨g23, g24, H⟩ := H
    refine wp_getR rfl rfl g23 g24 ?_
    refine wp_iload_n rfl rfl ?_
    obtain ⟨g22, H⟩ := H
    refine wp_iald rfl g22 ?_
    refine wp_iload rfl rfl ?_
    refine wp_iadd rfl ?_
    obtain ⟨g21, H⟩ := H
    refine wp_bald rfl g21 ?_
    refine wp_bipush rfl ?_
    refine wp_ior rfl ?_
    refine wp_aload rfl rfl ?_
    refine wp_aload_n rfl rfl ?_
    obtain ⟨g19, g20, H⟩ := H
    refine wp_getR rfl rfl g19 g20 ?_
    refine wp_iload_n rfl rfl ?_
    obtain ⟨g18, H⟩ := H
    refine wp_iald rfl g18 ?_
    refine wp_iload rfl rfl ?_
    refine wp_iadd rfl ?_
    obtain ⟨g17, H⟩ := H
    refine wp_bald rfl g17 ?_
    refine wp_bipush rfl ?_
    refine wp_ior rfl ?_
    refine wp_icmp_eq rfl (lo1 := [some (.ref l0), some (.int l1), some (.ref l2), some (.int l3), some (.ref l4), some (.ref l5), some (.int l6)]) (lo2 := [some (.ref l0), some (.int l1), some (.ref l2), some (.int l3), some (.ref l4), some (.ref l5), some (.int l6)]) rfl rfl (fun q16 => ?_) (fun q16 => ?_)
    · have H := H.1 q16
      refine wp_iinc rfl rfl rfl (lo' := [some (.ref l0), some (.int l1), some (.ref l2), some (.int l3), some (.ref l4), some (.ref l5), some (.int (l6 + (1 : Int32)))]) rfl ?_
      refine wp_goto rfl (lo' := [some (.ref l0), some (.int l1), some (.ref l2), some (.int l3), some (.ref l4), some (.ref l5), some (.int (l6 + (1 : Int32)))]) rfl ?_
      exact H
    · have H := H.2 q16
      refine wp_iconst rfl ?_
      exact wp_zret rfl rfl (by decide) H
def wq_Row_hasLettersOf (p0 : Nat) (p1 : Int32) (p2 : Nat) (p3 : Int32) (h : HP) (K : Int32 → HP → Prop) : Prop :=
  isO h p0 6 ∧ 0 < gR h p0 2 ∧ isL h (gR h p0 2) 100 p1 ∧ isO h p2 6 ∧ 0 < gR h p2 2 ∧ isL h (gR h p2 2) 100 p3 ∧ (gI h (gR h p0 2) p1.toNatClampNeg = gI h (gR h p2 2) p3.toNatClampNeg → isO h p0 6 ∧ 0 < gR h p0 3 ∧ isO h (gR h p0 3) 7 ∧ 0 < gR h (gR h p0 3) 0 ∧ isO h p2 6 ∧ 0 < gR h p2 3 ∧ isO h (gR h p2 3) 7 ∧ 0 < gR h (gR h p2 3) 0 ∧ Wp k_Row_hasLettersOf 38 [some (.ref p0), some (.int p1), some (.ref p2), some (.int p3), some (.ref (gR h (gR h p0 3) 0)), some (.ref (gR h (gR h p2 3) 0)), some (.int (0 : Int32))] [] h (0, 0) (QI K)) ∧ (¬ gI h (gR h p0 2) p1.toNatClampNeg = gI h (gR h p2 2) p3.toNatClampNeg → K (0 : Int32) h)
theorem wq_Row_hasLettersOf_ok {p0 : Nat} {p1 : Int32} {p2 : Nat} {p3 : Int32} {h : HP} {K : Int32 → HP → Prop} (H : wq_Row_hasLettersOf p0 p1 p2 p3 h K) : Wp k_Row_hasLettersOf 0 [some (.ref p0), some (.int p1), some (.ref p2), some (.int p3), none, none, none] [] h (0, 0) (QI K) := by
  unfold wq_Row_hasLettersOf at H
  refine wp_aload_n rfl rfl ?_
  obtain ⟨g14, g15, H⟩ := H
  refine wp_getR rfl rfl g14 g15 ?_
  refine wp_iload_n rfl rfl ?_
  obtain ⟨g13, H⟩ := H
  refine wp_iald rfl g13 ?_
  refine wp_aload_n rfl rfl ?_
  obtain ⟨g11, g12, H⟩ := H
  refine wp_getR rfl rfl g11 g12 ?_
  refine wp_iload_n rfl rfl ?_
  obtain ⟨g10, H⟩ := H
  refine wp_iald rfl g10 ?_
  refine wp_icmp_eq rfl (lo1 := [some (.ref p0), some (.int p1), some (.ref p2), some (.int p3), none, none, none]) (lo2 := [some (.ref p0), some (.int p1), some (.ref p2), some (.int p3), none, none, none]) rfl rfl (fun q9 => ?_) (fun q9 => ?_)
  · have H := H.1 q9
    refine wp_aload_n rfl rfl ?_
    obtain ⟨g7, g8, H⟩ := H
    refine wp_getR rfl rfl g7 g8 ?_
    obtain ⟨g5, g6, H⟩ := H
    refine wp_getR rfl rfl g5 g6 ?_
    refine wp_astore rfl rfl (lo' := [some (.ref p0), some (.int p1), some (.ref p2), some (.int p3), some (.ref (gR h (gR h p0 3) 0)), none, none]) rfl ?_
    refine wp_aload_n rfl rfl ?_
    obtain ⟨g3, g4, H⟩ := H
    refine wp_getR rfl rfl g3 g4 ?_
    obtain ⟨g1, g2, H⟩ := H
    refine wp_getR rfl rfl g1 g2 ?_
    refine wp_astore rfl rfl (lo' := [some (.ref p0), some (.int p1), some (.ref p2), some (.int p3), some (.ref (gR h (gR h p0 3) 0)), some (.ref (gR h (gR h p2 3) 0)), none]) rfl ?_
    refine wp_iconst rfl ?_
    refine wp_istore rfl rfl (lo' := [some (.ref p0), some (.int p1), some (.ref p2), some (.int p3), some (.ref (gR h (gR h p0 3) 0)), some (.ref (gR h (gR h p2 3) 0)), some (.int (0 : Int32))]) rfl ?_
    exact H
  · have H := H.2 q9
    refine wp_iconst rfl ?_
    exact wp_zret rfl rfl (by decide) H
def wb_Scan_isLetter_12 (l0 : Int32) (h : HP) (K : Int32 → HP → Prop) : Prop :=
  (l0 < (65 : Int32) → K (0 : Int32) h) ∧ (¬ l0 < (65 : Int32) → ((90 : Int32) < l0 → K (0 : Int32) h) ∧ (¬ (90 : Int32) < l0 → K (1 : Int32) h))
theorem wb_Scan_isLetter_12_ok {l0 : Int32} {h : HP} {K : Int32 → HP → Prop} (H : wb_Scan_isLetter_12 l0 h K) : Wp k_Scan_isLetter 12 [some (.int l0)] [] h (0, 0) (QI K) := by
  unfold wb_Scan_isLetter_12 at H
  refine wp_iload_n rfl rfl ?_
  refine wp_bipush rfl ?_
  refine wp_icmp_lt rfl (lo1 := [none]) (lo2 := [some (.int l0)]) rfl rfl (fun q4 => ?_) (fun q4 => ?_)
  · have H := H.1 q4
    refine wp_iconstk (lo' := [none]) rfl rfl ?_
    exact wp_zret rfl rfl (by decide) H
  · have H := H.2 q4
    refine wp_iload_n rfl rfl ?_
    refine wp_bipush rfl ?_
    refine wp_icmp_gt rfl (lo1 := [none]) (lo2 := [none]) rfl rfl (fun q3 => ?_) (fun q3 => ?_)
    · have H := H.1 q3
      refine wp_iconstk (lo' := [none]) rfl rfl ?_
      exact wp_zret rfl rfl (by decide) H
    · have H := H.2 q3
      refine wp_iconst rfl ?_
      refine wp_goto rfl (lo' := [none]) rfl ?_
      exact wp_zret rfl rfl (by decide) H
def wq_Scan_isLetter (p0 : Int32) (h : HP) (K : Int32 → HP → Prop) : Prop :=
  (p0 < (97 : Int32) → wb_Scan_isLetter_12 p0 h K) ∧ (¬ p0 < (97 : Int32) → (p0 ≤ (122 : Int32) → K (1 : Int32) h) ∧ (¬ p0 ≤ (122 : Int32) → wb_Scan_isLetter_12 p0 h K))
theorem wq_Scan_isLetter_ok {p0 : Int32} {h : HP} {K : Int32 → HP → Prop} (H : wq_Scan_isLetter p0 h K) : Wp k_Scan_isLetter 0 [some (.int p0)] [] h (0, 0) (QI K) := by
  unfold wq_Scan_isLetter at H
  refine wp_iload_n rfl rfl ?_
  refine wp_bipush rfl ?_
  refine wp_icmp_lt rfl (lo1 := [some (.int p0)]) (lo2 := [some (.int p0)]) rfl rfl (fun q2 => ?_) (fun q2 => ?_)
  · have H := H.1 q2
    exact wb_Scan_isLetter_12_ok H
  · have H := H.2 q2
    refine wp_iload_n rfl rfl ?_
    refine wp_bipush rfl ?_
    refine wp_icmp_le rfl (lo1 := [none]) (lo2 := [some (.int p0)]) rfl rfl (fun q1 => ?_) (fun q1 => ?_)
    · have H := H.1 q1
      refine wp_iconst rfl ?_
      refine wp_goto rfl (lo' := [none]) rfl ?_
      exact wp_zret rfl rfl (by decide) H
    · have H := H.2 q1
      exact wb_Scan_isLetter_12_ok H
def wq_Scan_isDigit (p0 : Int32) (h : HP) (K : Int32 → HP → Prop) : Prop :=
  (p0 < (48 : Int32) → K (0 : Int32) h) ∧ (¬ p0 < (48 : Int32) → ((57 : Int32) < p0 → K (0 : Int32) h) ∧ (¬ (57 : Int32) < p0 → K (1 : Int32) h))
theorem wq_Scan_isDigit_ok {p0 : Int32} {h : HP} {K : Int32 → HP → Prop} (H : wq_Scan_isDigit p0 h K) : Wp k_Scan_isDigit 0 [some (.int p0)] [] h (0, 0) (QI K) := by
  unfold wq_Scan_isDigit at H
  refine wp_iload_n rfl rfl ?_
  refine wp_bipush rfl ?_
  refine wp_icmp_lt rfl (lo1 := [none]) (lo2 := [some (.int p0)]) rfl rfl (fun q2 => ?_) (fun q2 => ?_)
  · have H := H.1 q2
    refine wp_iconstk (lo' := [none]) rfl rfl ?_
    exact wp_zret rfl rfl (by decide) H
  · have H := H.2 q2
    refine wp_iload_n rfl rfl ?_
    refine wp_bipush rfl ?_
    refine wp_icmp_gt rfl (lo1 := [none]) (lo2 := [some (.int p0)]) rfl rfl (fun q1 => ?_) (fun q1 => ?_)
    · have H := H.1 q1
      refine wp_iconstk (lo' := [none]) rfl rfl ?_
      exact wp_zret rfl rfl (by decide) H
    · have H := H.2 q1
      refine wp_iconst rfl ?_
      refine wp_goto rfl (lo' := [none]) rfl ?_
      exact wp_zret rfl rfl (by decide) H
def wq_Text_init (p0 : Nat) (p1 : Int32) (h : HP) (K : HP → Prop) : Prop :=
  ¬ (if p1 < (0 : Int32) then (0 : Int32) else p1) < 0 ∧ (if p1 < (0 : Int32) then (0 : Int32) else p1).toNatClampNeg ≤ 60000000 ∧ 1 ≤ 1 ∧ (if p1 < (0 : Int32) then (0 : Int32) else p1).toNatClampNeg ≤ 880 ∧ (∀ h1 : HP, h1 = nwC h 101 (if p1 < (0 : Int32) then (0 : Int32) else p1).toNatClampNeg → isO h1 p0 7 ∧ 0 < gS h ∧ (∀ h2 : HP, h2 = stR h1 p0 0 (gS h) → K h2))
theorem wq_Text_init_ok {p0 : Nat} {p1 : Int32} {h : HP} {K : HP → Prop} (H : wq_Text_init p0 p1 h K) : Wp k_Text_init 0 [some (.ref p0), some (.int p1)] [] h (1, 880) (QV K) := by
  unfold wq_Text_init at H
  refine wp_aload_n rfl rfl ?_
  refine wp_objI rfl (Nat.le_of_ble_eq_true rfl) (lo' := [some (.ref p0), some (.int p1)]) rfl ?_
  refine wp_aload_n rfl rfl ?_
  refine wp_iload_n rfl rfl ?_
  refine wp_iconst rfl ?_
  refine wp_max rfl (Nat.le_of_ble_eq_true rfl) (lo' := [some (.ref p0), some (.int p1)]) rfl ?_
  obtain ⟨g6, g7, g8, g9, H⟩ := H
  obtain ⟨h1, e10⟩ : ∃ z : HP, z = nwC h 101 (if p1 < (0 : Int32) then (0 : Int32) else p1).toNatClampNeg := ⟨_, rfl⟩
  have H := H h1 e10
  refine wp_newa rfl g6 g7 g8 g9 e10 ?_
  obtain ⟨g3, g4, H⟩ := H
  obtain ⟨h2, e5⟩ : ∃ z : HP, z = stR h1 p0 0 (gS h) := ⟨_, rfl⟩
  have H := H h2 e5
  refine wp_putR rfl rfl g3 g4 e5 ?_
  exact wp_vret rfl rfl H
def wq_Text_at (p0 : Nat) (p1 : Int32) (h : HP) (K : Int32 → HP → Prop) : Prop :=
  (p1 < 0 → K (-1 : Int32) h) ∧ (¬ p1 < 0 → isO h p0 7 ∧ (p1 < gI h p0 1 → isO h p0 7 ∧ 0 < gR h p0 0 ∧ isA h (gR h p0 0) 101 p1 ∧ K ((gI h (gR h p0 0) p1.toNatClampNeg) &&& (255 : Int32)) h) ∧ (¬ p1 < gI h p0 1 → K (-1 : Int32) h))
theorem wq_Text_at_ok {p0 : Nat} {p1 : Int32} {h : HP} {K : Int32 → HP → Prop} (H : wq_Text_at p0 p1 h K) : Wp k_Text_at 0 [some (.ref p0), some (.int p1)] [] h (0, 0) (QI K) := by
  unfold wq_Text_at at H
  refine wp_iload_n rfl rfl ?_
  refine wp_if_lt rfl (lo1 := [none, none]) (lo2 := [some (.ref p0), some (.int p1)]) rfl rfl (fun q6 => ?_) (fun q6 => ?_)
  · have H := H.1 q6
    refine wp_iconst rfl ?_
    refine wp_goto rfl (lo' := [none, none]) rfl ?_
    exact wp_iret rfl rfl H
  · have H := H.2 q6
    refine wp_iload_n rfl rfl ?_
    refine wp_aload_n rfl rfl ?_
    obtain ⟨g5, H⟩ := H
    refine wp_getI rfl rfl g5 ?_
    refine wp_icmp_lt rfl (lo1 := [some (.ref p0), some (.int p1)]) (lo2 := [none, none]) rfl rfl (fun q4 => ?_) (fun q4 => ?_)
    · have H := H.1 q4
      refine wp_aload_n rfl rfl ?_
      obtain ⟨g2, g3, H⟩ := H
      refine wp_getR rfl rfl g2 g3 ?_
      refine wp_iload_n rfl rfl ?_
      obtain ⟨g1, H⟩ := H
      refine wp_bald rfl g1 ?_
      refine wp_sipush rfl ?_
      refine wp_iandk (lo' := [none, none]) rfl rfl ?_
      exact wp_iret rfl rfl H
    · have H := H.2 q4
      refine wp_iconst rfl ?_
      refine wp_goto rfl (lo' := [none, none]) rfl ?_
      exact wp_iret rfl rfl H
def wq_Text_put (p0 : Nat) (p1 : Int32) (h : HP) (K : HP → Prop) : Prop :=
  isO h p0 7 ∧ isO h p0 7 ∧ 0 < gR h p0 0 ∧ (gR h p0 0 < gS h ∧ 100 ≤ gK h (gR h p0 0) ∧ gK h (gR h p0 0) ≤ 105 ∧ (gR h p0 0 = 0 → gK h (gR h p0 0) = 100)) ∧ (nI (gL h (gR h p0 0)) ≤ gI h p0 1 → K h) ∧ (¬ nI (gL h (gR h p0 0)) ≤ gI h p0 1 → isO h p0 7 ∧ 0 < gR h p0 0 ∧ isO h p0 7 ∧ isA h (gR h p0 0) 101 (gI h p0 1) ∧ (∀ h1 : HP, h1 = stI h (gR h p0 0) (gI h p0 1).toNatClampNeg (narB 101 p1.toInt8.toInt32) → isO h1 p0 7 ∧ isO h1 p0 7 ∧ (∀ h2 : HP, h2 = stI h1 p0 1 ((gI h1 p0 1) + (1 : Int32)) → K h2)))
theorem wq_Text_put_ok {p0 : Nat} {p1 : Int32} {h : HP} {K : HP → Prop} (H : wq_Text_put p0 p1 h K) : Wp k_Text_put 0 [some (.ref p0), some (.int p1)] [] h (0, 0) (QV K) := by
  unfold wq_Text_put at H
  refine wp_aload_n rfl rfl ?_
  obtain ⟨g15, H⟩ := H
  refine wp_getI rfl rfl g15 ?_
  refine wp_aload_n rfl rfl ?_
  obtain ⟨g13, g14, H⟩ := H
  refine wp_getR rfl rfl g13 g14 ?_
  obtain ⟨g12, H⟩ := H
  refine wp_alen rfl g12 ?_
  refine wp_icmp_ge rfl (lo1 := [none, none]) (lo2 := [some (.ref p0), some (.int p1)]) rfl rfl (fun q11 => ?_) (fun q11 => ?_)
  · have H := H.1 q11
    exact wp_vret rfl rfl H
  · have H := H.2 q11
    refine wp_aload_n rfl rfl ?_
    obtain ⟨g9, g10, H⟩ := H
    refine wp_getR rfl rfl g9 g10 ?_
    refine wp_aload_n rfl rfl ?_
    obtain ⟨g8, H⟩ := H
    refine wp_getI rfl rfl g8 ?_
    refine wp_iload_n rfl rfl ?_
    refine wp_i2b rfl ?_
    obtain ⟨g6, H⟩ := H
    obtain ⟨h1, e7⟩ : ∃ z : HP, z = stI h (gR h p0 0) (gI h p0 1).toNatClampNeg (narB 101 p1.toInt8.toInt32) := ⟨_, rfl⟩
    have H := H h1 e7
    refine wp_bast rfl g6 e7 ?_
    refine wp_aload_n rfl rfl ?_
    refine wp_dupR rfl ?_
    obtain ⟨g5, H⟩ := H
    refine wp_getI rfl rfl g5 ?_
    refine wp_iconst rfl ?_
    refine wp_iadd rfl ?_
    obtain ⟨g3, H⟩ := H
    obtain ⟨h2, e4⟩ : ∃ z : HP, z = stI h1 p0 1 ((gI h1 p0 1) + (1 : Int32)) := ⟨_, rfl⟩
    have H := H h2 e4
    refine wp_putIk (lo' := [none, none]) rfl rfl rfl g3 e4 ?_
    exact wp_vret rfl rfl H
def wb_Text_take_50 (l0 : Nat) (l1 : Nat) (l2 : Int32) (l4 : Int32) (h : HP) (bc bs : Nat) (K : HP → Prop) : Prop :=
  isO h l1 7 ∧ 0 < gR h l1 0 ∧ isO h l0 7 ∧ 0 < gR h l0 0 ∧ (0 < gR h l1 0 ∧ gR h l1 0 < gS h ∧ gK h (gR h l1 0) = 101) ∧ (0 < gR h l0 0 ∧ gR h l0 0 < gS h ∧ gK h (gR h l0 0) = 101) ∧ (¬ l2 < 0 ∧ ¬ (0 : Int32) < 0 ∧ ¬ l4 < 0) ∧ (l2.toNatClampNeg + l4.toNatClampNeg ≤ gL h (gR h l1 0) ∧ (0 : Int32).toNatClampNeg + l4.toNatClampNeg ≤ gL h (gR h l0 0)) ∧ (∀ i, i < l4.toNatClampNeg → fits .byte (.int (gI h (gR h l1 0) (l2.toNatClampNeg + i))) = true) ∧ (∀ h20 : HP, h20 = stA h (gR h l0 0) (va_cpy (gI h (gR h l1 0)) (gI h (gR h l0 0)) l2.toNatClampNeg (0 : Int32).toNatClampNeg l4.toNatClampNeg) → isO h20 l0 7 ∧ (∀ h21 : HP, h21 = stI h20 l0 1 l4 → K h21))
theorem wb_Text_take_50_ok {l0 : Nat} {l1 : Nat} {l2 : Int32} {l4 : Int32} {h : HP} {bc bs : Nat} {K : HP → Prop} (H : wb_Text_take_50 l0 l1 l2 l4 h bc bs K) : Wp k_Text_take 50 [some (.ref l0), some (.ref l1), some (.int l2), none, some (.int l4)] [] h (bc, bs) (QV K) := by
  unfold wb_Text_take_50 at H
  refine wp_aload_n rfl rfl ?_
  obtain ⟨g32, g33, H⟩ := H
  refine wp_getR rfl rfl g32 g33 ?_
  refine wp_iload_n rfl rfl ?_
  refine wp_aload_n rfl rfl ?_
  obtain ⟨g30, g31, H⟩ := H
  refine wp_getR rfl rfl g30 g31 ?_
  refine wp_iconst rfl ?_
  refine wp_iload rfl rfl ?_
  obtain ⟨g24, g25, g26, g27, g28, H⟩ := H
  obtain ⟨h20, e29⟩ : ∃ z : HP, z = stA h (gR h l0 0) (va_cpy (gI h (gR h l1 0)) (gI h (gR h l0 0)) l2.toNatClampNeg (0 : Int32).toNatClampNeg l4.toNatClampNeg) := ⟨_, rfl⟩
  have H := H h20 e29
  refine wp_copy rfl g24 g25 g26 g27 g28 (Nat.le_of_ble_eq_true rfl) (lo' := [some (.ref l0), some (.ref l1), some (.int l2), none, some (.int l4)]) rfl e29 ?_
  refine wp_aload_n rfl rfl ?_
  refine wp_iload rfl rfl ?_
  obtain ⟨g22, H⟩ := H
  obtain ⟨h21, e23⟩ : ∃ z : HP, z = stI h20 l0 1 l4 := ⟨_, rfl⟩
  have H := H h21 e23
  refine wp_putI rfl rfl g22 e23 ?_
  exact wp_vret rfl rfl H
def wq_Text_take (p0 : Nat) (p1 : Nat) (p2 : Int32) (p3 : Int32) (h : HP) (K : HP → Prop) : Prop :=
  (p2 < 0 → K h) ∧ (¬ p2 < 0 → (p3 < p2 → K h) ∧ (¬ p3 < p2 → isO h p1 7 ∧ (p3 ≤ gI h p1 1 → isO h p0 7 ∧ 0 < gR h p0 0 ∧ (gR h p0 0 < gS h ∧ 100 ≤ gK h (gR h p0 0) ∧ gK h (gR h p0 0) ≤ 105 ∧ (gR h p0 0 = 0 → gK h (gR h p0 0) = 100)) ∧ (p3 - p2 ≤ nI (gL h (gR h p0 0)) → wb_Text_take_50 p0 p1 p2 (p3 - p2) h 1 640 K) ∧ (¬ p3 - p2 ≤ nI (gL h (gR h p0 0)) → ¬ (64 : Int32) = 0 ∧ ¬ (((p3 - p2) + (63 : Int32)) / (64 : Int32)) * (64 : Int32) < 0 ∧ ((((p3 - p2) + (63 : Int32)) / (64 : Int32)) * (64 : Int32)).toNatClampNeg ≤ 60000000 ∧ 1 ≤ 1 ∧ ((((p3 - p2) + (63 : Int32)) / (64 : Int32)) * (64 : Int32)).toNatClampNeg ≤ 640 ∧ (∀ h1 : HP, h1 = nwC h 101 ((((p3 - p2) + (63 : Int32)) / (64 : Int32)) * (64 : Int32)).toNatClampNeg → isO h1 p0 7 ∧ 0 < gS h ∧ (∀ h2 : HP, h2 = stR h1 p0 0 (gS h) → wb_Text_take_50 p0 p1 p2 (p3 - p2) h2 (1 - 1) (640 - ((((p3 - p2) + (63 : Int32)) / (64 : Int32)) * (64 : Int32)).toNatClampNeg) K)))) ∧ (¬ p3 ≤ gI h p1 1 → K h)))
theorem wq_Text_take_ok {p0 : Nat} {p1 : Nat} {p2 : Int32} {p3 : Int32} {h : HP} {K : HP → Prop} (H : wq_Text_take p0 p1 p2 p3 h K) : Wp k_Text_take 0 [some (.ref p0), some (.ref p1), some (.int p2), some (.int p3), none] [] h (1, 640) (QV K) := by
  unfold wq_Text_take at H
  refine wp_iload_n rfl rfl ?_
  refine wp_if_lt rfl (lo1 := [none, none, none, none, none]) (lo2 := [some (.ref p0), some (.ref p1), some (.int p2), some (.int p3), none]) rfl rfl (fun q19 => ?_) (fun q19 => ?_)
  · have H := H.1 q19
    exact wp_vret rfl rfl H
  · have H := H.2 q19
    refine wp_iload_n rfl rfl ?_
    refine wp_iload_n rfl rfl ?_
    refine wp_icmp_lt rfl (lo1 := [none, none, none, none, none]) (lo2 := [some (.ref p0), some (.ref p1), some (.int p2), some (.int p3), none]) rfl rfl (fun q18 => ?_) (fun q18 => ?_)
    · have H := H.1 q18
      exact wp_vret rfl rfl H
    · have H := H.2 q18
      refine wp_iload_n rfl rfl ?_
      refine wp_aload_n rfl rfl ?_
      obtain ⟨g17, H⟩ := H
      refine wp_getI rfl rfl g17 ?_
      refine wp_icmp_le rfl (lo1 := [some (.ref p0), some (.ref p1), some (.int p2), some (.int p3), none]) (lo2 := [none, none, none, none, none]) rfl rfl (fun q16 => ?_) (fun q16 => ?_)
      · have H := H.1 q16
        refine wp_iload_n rfl rfl ?_
        refine wp_iload_n rfl rfl ?_
        refine wp_isub rfl ?_
        refine wp_istore rfl rfl (lo' := [some (.ref p0), some (.ref p1), some (.int p2), some (.int p3), some (.int (p3 - p2))]) rfl ?_
        refine wp_aload_n rfl rfl ?_
        obtain ⟨g14, g15, H⟩ := H
        refine wp_getR rfl rfl g14 g15 ?_
        obtain ⟨g13, H⟩ := H
        refine wp_alen rfl g13 ?_
        refine wp_iload rfl rfl ?_
        refine wp_icmp_ge rfl (lo1 := [some (.ref p0), some (.ref p1), some (.int p2), none, some (.int (p3 - p2))]) (lo2 := [some (.ref p0), some (.ref p1), some (.int p2), some (.int p3), some (.int (p3 - p2))]) rfl rfl (fun q12 => ?_) (fun q12 => ?_)
        · have H := H.1 q12
          exact wb_Text_take_50_ok H
        · have H := H.2 q12
          refine wp_aload_n rfl rfl ?_
          refine wp_iload rfl rfl ?_
          refine wp_bipush rfl ?_
          refine wp_iadd rfl ?_
          refine wp_bipush rfl ?_
          obtain ⟨g11, H⟩ := H
          refine wp_idiv rfl g11 ?_
          refine wp_bipush rfl ?_
          refine wp_imul rfl ?_
          obtain ⟨g6, g7, g8, g9, H⟩ := H
          obtain ⟨h1, e10⟩ : ∃ z : HP, z = nwC h 101 ((((p3 - p2) + (63 : Int32)) / (64 : Int32)) * (64 : Int32)).toNatClampNeg := ⟨_, rfl⟩
          have H := H h1 e10
          refine wp_newa rfl g6 g7 g8 g9 e10 ?_
          obtain ⟨g3, g4, H⟩ := H
          obtain ⟨h2, e5⟩ : ∃ z : HP, z = stR h1 p0 0 (gS h) := ⟨_, rfl⟩
          have H := H h2 e5
          refine wp_putRk (lo' := [some (.ref p0), some (.ref p1), some (.int p2), none, some (.int (p3 - p2))]) rfl rfl rfl g3 g4 e5 ?_
          exact wb_Text_take_50_ok H
      · have H := H.2 q16
        exact wp_vret rfl rfl H
def wb_Text_firstBlank_2 (l0 : Nat) (l1 : Int32) (h : HP) (K : Int32 → HP → Prop) : Prop :=
  isO h l0 7 ∧ (gI h l0 1 ≤ l1 → isO h l0 7 ∧ K (gI h l0 1) h) ∧ (¬ gI h l0 1 ≤ l1 → isO h l0 7 ∧ 0 < gR h l0 0 ∧ isA h (gR h l0 0) 101 l1 ∧ (¬ gI h (gR h l0 0) l1.toNatClampNeg = (32 : Int32) → Wp k_Text_firstBlank 2 [some (.ref l0), some (.int (l1 + (1 : Int32)))] [] h (0, 0) (QI K)) ∧ (gI h (gR h l0 0) l1.toNatClampNeg = (32 : Int32) → K l1 h))
theorem wb_Text_firstBlank_2_ok {l0 : Nat} {l1 : Int32} {h : HP} {K : Int32 → HP → Prop} (H : wb_Text_firstBlank_2 l0 l1 h K) : Wp k_Text_firstBlank 2 [some (.ref l0), some (.int l1)] [] h (0, 0) (QI K) := by
  unfold wb_Text_firstBlank_2 at H
  refine wp_iload_n rfl rfl ?_
  refine wp_aload_n rfl rfl ?_
  obtain ⟨g7, H⟩ := H
  refine wp_getI rfl rfl g7 ?_
  refine wp_icmp_ge rfl (lo1 := [some (.ref l0), some (.int l1)]) (lo2 := [some (.ref l0), some (.int l1)]) rfl rfl (fun q6 => ?_) (fun q6 => ?_)
  · have H := H.1 q6
    refine wp_aload_n rfl rfl ?_
    obtain ⟨g1, H⟩ := H
    refine wp_getI rfl rfl g1 ?_
    exact wp_iret rfl rfl H
  · have H := H.2 q6
    refine wp_aload_n rfl rfl ?_
    obtain ⟨g4, g5, H⟩ := H
    refine wp_getR rfl rfl g4 g5 ?_
    refine wp_iload_n rfl rfl ?_
    obtain ⟨g3, H⟩ := H
    refine wp_bald rfl g3 ?_
    refine wp_bipush rfl ?_
    refine wp_icmp_ne rfl (lo1 := [some (.ref l0), some (.int l1)]) (lo2 := [some (.ref l0), some (.int l1)]) rfl rfl (fun q2 => ?_) (fun q2 => ?_)
    · have H := H.1 q2
      refine wp_iinc rfl rfl rfl (lo' := [some (.ref l0), some (.int (l1 + (1 : Int32)))]) rfl ?_
      refine wp_goto rfl (lo' := [some (.ref l0), some (.int (l1 + (1 : Int32)))]) rfl ?_
      exact H
    · have H := H.2 q2
      refine wp_iload_n rfl rfl ?_
      exact wp_iret rfl rfl H
def wq_Text_firstBlank (p0 : Nat) (h : HP) (K : Int32 → HP → Prop) : Prop :=
  Wp k_Text_firstBlank 2 [some (.ref p0), some (.int (0 : Int32))] [] h (0, 0) (QI K)
theorem wq_Text_firstBlank_ok {p0 : Nat} {h : HP} {K : Int32 → HP → Prop} (H : wq_Text_firstBlank p0 h K) : Wp k_Text_firstBlank 0 [some (.ref p0), none] [] h (0, 0) (QI K) := by
  unfold wq_Text_firstBlank at H
  refine wp_iconst rfl ?_
  refine wp_istore_n rfl rfl (lo' := [some (.ref p0), some (.int (0 : Int32))]) rfl ?_
  exact H
def wq_Words_init (p0 : Nat) (p1 : Int32) (h : HP) (K : HP → Prop) : Prop :=
  ¬ (if p1 < (0 : Int32) then (0 : Int32) else p1) < 0 ∧ (if p1 < (0 : Int32) then (0 : Int32) else p1).toNatClampNeg ≤ 60000000 ∧ 1 ≤ 1 ∧ (if p1 < (0 : Int32) then (0 : Int32) else p1).toNatClampNeg ≤ 10 ∧ (∀ h1 : HP, h1 = nwC h 103 (if p1 < (0 : Int32) then (0 : Int32) else p1).toNatClampNeg → isO h1 p0 8 ∧ 0 < gS h ∧ (∀ h2 : HP, h2 = stR h1 p0 0 (gS h) → K h2))
theorem wq_Words_init_ok {p0 : Nat} {p1 : Int32} {h : HP} {K : HP → Prop} (H : wq_Words_init p0 p1 h K) : Wp k_Words_init 0 [some (.ref p0), some (.int p1)] [] h (1, 10) (QV K) := by
  unfold wq_Words_init at H
  refine wp_aload_n rfl rfl ?_
  refine wp_objI rfl (Nat.le_of_ble_eq_true rfl) (lo' := [some (.ref p0), some (.int p1)]) rfl ?_
  refine wp_aload_n rfl rfl ?_
  refine wp_iload_n rfl rfl ?_
  refine wp_iconst rfl ?_
  refine wp_max rfl (Nat.le_of_ble_eq_true rfl) (lo' := [some (.ref p0), some (.int p1)]) rfl ?_
  obtain ⟨g6, g7, g8, g9, H⟩ := H
  obtain ⟨h1, e10⟩ : ∃ z : HP, z = nwC h 103 (if p1 < (0 : Int32) then (0 : Int32) else p1).toNatClampNeg := ⟨_, rfl⟩
  have H := H h1 e10
  refine wp_newa rfl g6 g7 g8 g9 e10 ?_
  obtain ⟨g3, g4, H⟩ := H
  obtain ⟨h2, e5⟩ : ∃ z : HP, z = stR h1 p0 0 (gS h) := ⟨_, rfl⟩
  have H := H h2 e5
  refine wp_putR rfl rfl g3 g4 e5 ?_
  exact wp_vret rfl rfl H
def wq_Words_isFull (p0 : Nat) (h : HP) (K : Int32 → HP → Prop) : Prop :=
  isO h p0 8 ∧ isO h p0 8 ∧ 0 < gR h p0 0 ∧ (gR h p0 0 < gS h ∧ 100 ≤ gK h (gR h p0 0) ∧ gK h (gR h p0 0) ≤ 105 ∧ (gR h p0 0 = 0 → gK h (gR h p0 0) = 100)) ∧ (gI h p0 1 < nI (gL h (gR h p0 0)) → K (0 : Int32) h) ∧ (¬ gI h p0 1 < nI (gL h (gR h p0 0)) → K (1 : Int32) h)
theorem wq_Words_isFull_ok {p0 : Nat} {h : HP} {K : Int32 → HP → Prop} (H : wq_Words_isFull p0 h K) : Wp k_Words_isFull 0 [some (.ref p0)] [] h (0, 0) (QI K) := by
  unfold wq_Words_isFull at H
  refine wp_aload_n rfl rfl ?_
  obtain ⟨g5, H⟩ := H
  refine wp_getI rfl rfl g5 ?_
  refine wp_aload_n rfl rfl ?_
  obtain ⟨g3, g4, H⟩ := H
  refine wp_getR rfl rfl g3 g4 ?_
  obtain ⟨g2, H⟩ := H
  refine wp_alen rfl g2 ?_
  refine wp_icmp_lt rfl (lo1 := [some (.ref p0)]) (lo2 := [some (.ref p0)]) rfl rfl (fun q1 => ?_) (fun q1 => ?_)
  · have H := H.1 q1
    refine wp_iconstk (lo' := [none]) rfl rfl ?_
    exact wp_zret rfl rfl (by decide) H
  · have H := H.2 q1
    refine wp_iconst rfl ?_
    refine wp_goto rfl (lo' := [none]) rfl ?_
    exact wp_zret rfl rfl (by decide) H
def wb_Words_has_2 (l0 : Nat) (l1 : Int64) (l3 : Int32) (h : HP) (K : Int32 → HP → Prop) : Prop :=
  isO h l0 8 ∧ (gI h l0 1 ≤ l3 → K (0 : Int32) h) ∧ (¬ gI h l0 1 ≤ l3 → isO h l0 8 ∧ 0 < gR h l0 0 ∧ isA h (gR h l0 0) 103 l3 ∧ (¬ lg_cmp (gJ h (gR h l0 0) l3.toNatClampNeg) l1 = 0 → Wp k_Words_has 2 [some (.ref l0), some (.long l1), none, some (.int (l3 + (1 : Int32)))] [] h (0, 0) (QI K)) ∧ (lg_cmp (gJ h (gR h l0 0) l3.toNatClampNeg) l1 = 0 → K (1 : Int32) h))
theorem wb_Words_has_2_ok {l0 : Nat} {l1 : Int64} {l3 : Int32} {h : HP} {K : Int32 → HP → Prop} (H : wb_Words_has_2 l0 l1 l3 h K) : Wp k_Words_has 2 [some (.ref l0), some (.long l1), none, some (.int l3)] [] h (0, 0) (QI K) := by
  unfold wb_Words_has_2 at H
  refine wp_iload_n rfl rfl ?_
  refine wp_aload_n rfl rfl ?_
  obtain ⟨g6, H⟩ := H
  refine wp_getI rfl rfl g6 ?_
  refine wp_icmp_ge rfl (lo1 := [some (.ref l0), some (.long l1), none, some (.int l3)]) (lo2 := [some (.ref l0), some (.long l1), none, some (.int l3)]) rfl rfl (fun q5 => ?_) (fun q5 => ?_)
  · have H := H.1 q5
    refine wp_iconst rfl ?_
    exact wp_zret rfl rfl (by decide) H
  · have H := H.2 q5
    refine wp_aload_n rfl rfl ?_
    obtain ⟨g3, g4, H⟩ := H
    refine wp_getR rfl rfl g3 g4 ?_
    refine wp_iload_n rfl rfl ?_
    obtain ⟨g2, H⟩ := H
    refine wp_lald rfl g2 ?_
    refine wp_lload_n rfl rfl ?_
    refine wp_lcmp rfl ?_
    refine wp_if_ne rfl (lo1 := [some (.ref l0), some (.long l1), none, some (.int l3)]) (lo2 := [some (.ref l0), some (.long l1), none, some (.int l3)]) rfl rfl (fun q1 => ?_) (fun q1 => ?_)
    · have H := H.1 q1
      refine wp_iinc rfl rfl rfl (lo' := [some (.ref l0), some (.long l1), none, some (.int (l3 + (1 : Int32)))]) rfl ?_
      refine wp_goto rfl (lo' := [some (.ref l0), some (.long l1), none, some (.int (l3 + (1 : Int32)))]) rfl ?_
      exact H
    · have H := H.2 q1
      refine wp_iconst rfl ?_
      exact wp_zret rfl rfl (by decide) H
def wq_Words_has (p0 : Nat) (p1 : Int64) (h : HP) (K : Int32 → HP → Prop) : Prop :=
  Wp k_Words_has 2 [some (.ref p0), some (.long p1), none, some (.int (0 : Int32))] [] h (0, 0) (QI K)
theorem wq_Words_has_ok {p0 : Nat} {p1 : Int64} {h : HP} {K : Int32 → HP → Prop} (H : wq_Words_has p0 p1 h K) : Wp k_Words_has 0 [some (.ref p0), some (.long p1), none, none] [] h (0, 0) (QI K) := by
  unfold wq_Words_has at H
  refine wp_iconst rfl ?_
  refine wp_istore_n rfl rfl (lo' := [some (.ref p0), some (.long p1), none, some (.int (0 : Int32))]) rfl ?_
  exact H
def wq_K_cut (p0 : Nat) (p1 : Int32) (h : HP) (K : Int32 → HP → Prop) : Prop :=
  (p1 < 0 → K (-2 : Int32) h) ∧ (¬ p1 < 0 → isO h p0 9 ∧ 0 < gR h p0 0 ∧ isO h (gR h p0 0) 7 ∧ (p1 ≤ gI h (gR h p0 0) 1 → isO h p0 9 ∧ 0 < gR h p0 0 ∧ isO h (gR h p0 0) 7 ∧ (∀ h1 : HP, h1 = stI h (gR h p0 0) 1 p1 → K p1 h1)) ∧ (¬ p1 ≤ gI h (gR h p0 0) 1 → K (-2 : Int32) h))
theorem wq_K_cut_ok {p0 : Nat} {p1 : Int32} {h : HP} {K : Int32 → HP → Prop} (H : wq_K_cut p0 p1 h K) : Wp k_K_cut 0 [some (.ref p0), some (.int p1)] [] h (0, 0) (QI K) := by
  unfold wq_K_cut at H
  refine wp_iload_n rfl rfl ?_
  refine wp_if_lt rfl (lo1 := [none, none]) (lo2 := [some (.ref p0), some (.int p1)]) rfl rfl (fun q10 => ?_) (fun q10 => ?_)
  · have H := H.1 q10
    refine wp_bipush rfl ?_
    exact wp_iret rfl rfl H
  · have H := H.2 q10
    refine wp_iload_n rfl rfl ?_
    refine wp_aload_n rfl rfl ?_
    obtain ⟨g8, g9, H⟩ := H
    refine wp_getR rfl rfl g8 g9 ?_
    obtain ⟨g7, H⟩ := H
    refine wp_getI rfl rfl g7 ?_
    refine wp_icmp_le rfl (lo1 := [some (.ref p0), some (.int p1)]) (lo2 := [none, none]) rfl rfl (fun q6 => ?_) (fun q6 => ?_)
    · have H := H.1 q6
      refine wp_aload_n rfl rfl ?_
      obtain ⟨g4, g5, H⟩ := H
      refine wp_getR rfl rfl g4 g5 ?_
      refine wp_iload_n rfl rfl ?_
      obtain ⟨g2, H⟩ := H
      obtain ⟨h1, e3⟩ : ∃ z : HP, z = stI h (gR h p0 0) 1 p1 := ⟨_, rfl⟩
      have H := H h1 e3
      refine wp_putI rfl rfl g2 e3 ?_
      refine wp_iload_n rfl rfl ?_
      exact wp_iret rfl rfl H
    · have H := H.2 q6
      refine wp_bipush rfl ?_
      exact wp_iret rfl rfl H
def wq_K_step (p0 : Nat) (p1 : Int32) (p2 : Int32) (h : HP) (K : Int32 → HP → Prop) : Prop :=
  (p1 < 0 → K (-1 : Int32) h) ∧ (¬ p1 < 0 → isO h p0 9 ∧ 0 < gR h p0 4 ∧ isO h (gR h p0 4) 1 ∧ (p1 < gI h (gR h p0 4) 4 → (¬ p2 = 0 → ¬ p2 = 1 → ¬ p2 = 2 → K (-1 : Int32) h) ∧ (p2 = 0 → isO h p0 9 ∧ 0 < gR h p0 4 ∧ isO h (gR h p0 4) 1 ∧ 0 < gR h (gR h p0 4) 1 ∧ isL h (gR h (gR h p0 4) 1) 100 p1 ∧ K (gI h (gR h (gR h p0 4) 1) p1.toNatClampNeg) h) ∧ (p2 = 1 → isO h p0 9 ∧ 0 < gR h p0 4 ∧ isO h (gR h p0 4) 1 ∧ 0 < gR h (gR h p0 4) 2 ∧ isL h (gR h (gR h p0 4) 2) 100 p1 ∧ K (gI h (gR h (gR h p0 4) 2) p1.toNatClampNeg) h) ∧ (p2 = 2 → isO h p0 9 ∧ 0 < gR h p0 4 ∧ isO h (gR h p0 4) 1 ∧ 0 < gR h (gR h p0 4) 3 ∧ isL h (gR h (gR h p0 4) 3) 100 p1 ∧ K (gI h (gR h (gR h p0 4) 3) p1.toNatClampNeg) h)) ∧ (¬ p1 < gI h (gR h p0 4) 4 → K (-1 : Int32) h))
theorem wq_K_step_ok {p0 : Nat} {p1 : Int32} {p2 : Int32} {h : HP} {K : Int32 → HP → Prop} (H : wq_K_step p0 p1 p2 h K) : Wp k_K_step 0 [some (.ref p0), some (.int p1), some (.int p2)] [] h (0, 0) (QI K) := by
  unfold wq_K_step at H
  refine wp_iload_n rfl rfl ?_
  refine wp_if_lt rfl (lo1 := [none, none, none]) (lo2 := [some (.ref p0), some (.int p1), some (.int p2)]) rfl rfl (fun q21 => ?_) (fun q21 => ?_)
  · have H := H.1 q21
    refine wp_iconst rfl ?_
    exact wp_iret rfl rfl H
  · have H := H.2 q21
    refine wp_iload_n rfl rfl ?_
    refine wp_aload_n rfl rfl ?_
    obtain ⟨g19, g20, H⟩ := H
    refine wp_getR rfl rfl g19 g20 ?_
    obtain ⟨g18, H⟩ := H
    refine wp_getI rfl rfl g18 ?_
    refine wp_icmp_lt rfl (lo1 := [some (.ref p0), some (.int p1), some (.int p2)]) (lo2 := [none, none, none]) rfl rfl (fun q17 => ?_) (fun q17 => ?_)
    · have H := H.1 q17
      refine wp_iload_n rfl rfl ?_
      refine wp_table rfl (lo' := [some (.ref p0), some (.int p1), some (.int p2)]) rfl (fun q16 => ?_) (fun i off ho hx => ?_)
      · have H := H.1 (sw_ne q16 (by decide)) (sw_ne q16 (by decide)) (sw_ne q16 (by decide))
        refine wp_iconst rfl ?_
        exact wp_iret rfl rfl H
      · match i, ho, hx with
        | 0, ho, hx =>
          cases ho
          have H := H.2.1 (sw_eq hx (by decide))
          show Wp k_K_step 44 _ _ _ _ _
          refine wp_aload_n rfl rfl ?_
          obtain ⟨g4, g5, H⟩ := H
          refine wp_getR rfl rfl g4 g5 ?_
          obtain ⟨g2, g3, H⟩ := H
          refine wp_getR rfl rfl g2 g3 ?_
          refine wp_iload_n rfl rfl ?_
          obtain ⟨g1, H⟩ := H
          refine wp_iald rfl g1 ?_
          exact wp_iret rfl rfl H
        | 1, ho, hx =>
          cases ho
          have H := H.2.2.1 (sw_eq hx (by decide))
          show Wp k_K_step 54 _ _ _ _ _
          refine wp_aload_n rfl rfl ?_
          obtain ⟨g9, g10, H⟩ := H
          refine wp_getR rfl rfl g9 g10 ?_
          obtain ⟨g7, g8, H⟩ := H
          refine wp_getR rfl rfl g7 g8 ?_
          refine wp_iload_n rfl rfl ?_
          obtain ⟨g6, H⟩ := H
          refine wp_iald rfl g6 ?_
          exact wp_iret rfl rfl H
        | 2, ho, hx =>
          cases ho
          have H := H.2.2.2 (sw_eq hx (by decide))
          show Wp k_K_step 64 _ _ _ _ _
          refine wp_aload_n rfl rfl ?_
          obtain ⟨g14, g15, H⟩ := H
          refine wp_getR rfl rfl g14 g15 ?_
          obtain ⟨g12, g13, H⟩ := H
          refine wp_getR rfl rfl g12 g13 ?_
          refine wp_iload_n rfl rfl ?_
          obtain ⟨g11, H⟩ := H
          refine wp_iald rfl g11 ?_
          exact wp_iret rfl rfl H
        | i + 3, ho, _ => exact absurd ho (by simp)
    · have H := H.2 q17
      refine wp_iconst rfl ?_
      exact wp_iret rfl rfl H
def wq_K_about (p0 : Nat) (p1 : Int32) (h : HP) (K : Int32 → HP → Prop) : Prop :=
  (¬ p1 = 0 → ¬ p1 = 1 → ¬ p1 = 2 → ¬ p1 = 3 → ¬ p1 = 4 → ¬ p1 = 5 → ¬ p1 = 6 → ¬ p1 = 7 → K (-1 : Int32) h) ∧ (p1 = 0 → isO h p0 9 ∧ 0 < gR h p0 1 ∧ isO h (gR h p0 1) 0 ∧ K (gI h (gR h p0 1) 3) h) ∧ (p1 = 1 → isO h p0 9 ∧ 0 < gR h p0 2 ∧ isO h (gR h p0 2) 2 ∧ K (gI h (gR h p0 2) 6) h) ∧ (p1 = 2 → isO h p0 9 ∧ 0 < gR h p0 2 ∧ isO h (gR h p0 2) 2 ∧ K (gI h (gR h p0 2) 7) h) ∧ (p1 = 3 → isO h p0 9 ∧ 0 < gR h p0 2 ∧ isO h (gR h p0 2) 2 ∧ K (gI h (gR h p0 2) 7) h) ∧ (p1 = 4 → isO h p0 9 ∧ 0 < gR h p0 0 ∧ isO h (gR h p0 0) 7 ∧ K (gI h (gR h p0 0) 1) h) ∧ (p1 = 5 → isO h p0 9 ∧ 0 < gR h p0 8 ∧ isO h (gR h p0 8) 8 ∧ K (gI h (gR h p0 8) 1) h) ∧ (p1 = 6 → isO h p0 9 ∧ 0 < gR h p0 9 ∧ isO h (gR h p0 9) 8 ∧ K (gI h (gR h p0 9) 1) h) ∧ (p1 = 7 → isO h p0 9 ∧ 0 < gR h p0 11 ∧ isO h (gR h p0 11) 8 ∧ K (gI h (gR h p0 11) 1) h)
theorem wq_K_about_ok {p0 : Nat} {p1 : Int32} {h : HP} {K : Int32 → HP → Prop} (H : wq_K_about p0 p1 h K) : Wp k_K_about 0 [some (.ref p0), some (.int p1)] [] h (0, 0) (QI K) := by
  unfold wq_K_about at H
  refine wp_iload_n rfl rfl ?_
  refine wp_table rfl (lo' := [some (.ref p0), some (.int p1)]) rfl (fun q25 => ?_) (fun i off ho hx => ?_)
  · have H := H.1 (sw_ne q25 (by decide)) (sw_ne q25 (by decide)) (sw_ne q25 (by decide)) (sw_ne q25 (by decide)) (sw_ne q25 (by decide)) (sw_ne q25 (by decide)) (sw_ne q25 (by decide)) (sw_ne q25 (by decide))
    refine wp_iconst rfl ?_
    exact wp_iret rfl rfl H
  · match i, ho, hx with
    | 0, ho, hx =>
      cases ho
      have H := H.2.1 (sw_eq hx (by decide))
      show Wp k_K_about 48 _ _ _ _ _
      refine wp_aload_n rfl rfl ?_
      obtain ⟨g2, g3, H⟩ := H
      refine wp_getR rfl rfl g2 g3 ?_
      obtain ⟨g1, H⟩ := H
      refine wp_getI rfl rfl g1 ?_
      exact wp_iret rfl rfl H
    | 1, ho, hx =>
      cases ho
      have H := H.2.2.1 (sw_eq hx (by decide))
      show Wp k_K_about 56 _ _ _ _ _
      refine wp_aload_n rfl rfl ?_
      obtain ⟨g5, g6, H⟩ := H
      refine wp_getR rfl rfl g5 g6 ?_
      obtain ⟨g4, H⟩ := H
      refine wp_getI rfl rfl g4 ?_
      exact wp_iret rfl rfl H
    | 2, ho, hx =>
      cases ho
      have H := H.2.2.2.1 (sw_eq hx (by decide))
      show Wp k_K_about 64 _ _ _ _ _
      refine wp_aload_n rfl rfl ?_
      obtain ⟨g8, g9, H⟩ := H
      refine wp_getR rfl rfl g8 g9 ?_
      obtain ⟨g7, H⟩ := H
      refine wp_getI rfl rfl g7 ?_
      exact wp_iret rfl rfl H
    | 3, ho, hx =>
      cases ho
      have H := H.2.2.2.2.1 (sw_eq hx (by decide))
      show Wp k_K_about 72 _ _ _ _ _
      refine wp_aload_n rfl rfl ?_
      obtain ⟨g11, g12, H⟩ := H
      refine wp_getR rfl rfl g11 g12 ?_
      obtain ⟨g10, H⟩ := H
      refine wp_getI rfl rfl g10 ?_
      exact wp_iret rfl rfl H
    | 4, ho, hx =>
      cases ho
      have H := H.2.2.2.2.2.1 (sw_eq hx (by decide))
      show Wp k_K_about 80 _ _ _ _ _
      refine wp_aload_n rfl rfl ?_
      obtain ⟨g14, g15, H⟩ := H
      refine wp_getR rfl rfl g14 g15 ?_
      obtain ⟨g13, H⟩ := H
      refine wp_getI rfl rfl g13 ?_
      exact wp_iret rfl rfl H
    | 5, ho, hx =>
      cases ho
      have H := H.2.2.2.2.2.2.1 (sw_eq hx (by decide))
      show Wp k_K_about 88 _ _ _ _ _
      refine wp_aload_n rfl rfl ?_
      obtain ⟨g17, g18, H⟩ := H
      refine wp_getR rfl rfl g17 g18 ?_
      obtain ⟨g16, H⟩ := H
      refine wp_getI rfl rfl g16 ?_
      exact wp_iret rfl rfl H
    | 6, ho, hx =>
      cases ho
      have H := H.2.2.2.2.2.2.2.1 (sw_eq hx (by decide))
      show Wp k_K_about 96 _ _ _ _ _
      refine wp_aload_n rfl rfl ?_
      obtain ⟨g20, g21, H⟩ := H
      refine wp_getR rfl rfl g20 g21 ?_
      obtain ⟨g19, H⟩ := H
      refine wp_getI rfl rfl g19 ?_
      exact wp_iret rfl rfl H
    | 7, ho, hx =>
      cases ho
      have H := H.2.2.2.2.2.2.2.2 (sw_eq hx (by decide))
      show Wp k_K_about 104 _ _ _ _ _
      refine wp_aload_n rfl rfl ?_
      obtain ⟨g23, g24, H⟩ := H
      refine wp_getR rfl rfl g23 g24 ?_
      obtain ⟨g22, H⟩ := H
      refine wp_getI rfl rfl g22 ?_
      exact wp_iret rfl rfl H
    | i + 8, ho, _ => exact absurd ho (by simp)
def wq_K_isSegment (p0 : Nat) (p1 : Int32) (h : HP) (K : Int32 → HP → Prop) : Prop :=
  (p1 < 0 → K (0 : Int32) h) ∧ (¬ p1 < 0 → isO h p0 9 ∧ 0 < gR h p0 1 ∧ isO h (gR h p0 1) 0 ∧ (gI h (gR h p0 1) 3 ≤ p1 → K (0 : Int32) h) ∧ (¬ gI h (gR h p0 1) 3 ≤ p1 → K (1 : Int32) h))
theorem wq_K_isSegment_ok {p0 : Nat} {p1 : Int32} {h : HP} {K : Int32 → HP → Prop} (H : wq_K_isSegment p0 p1 h K) : Wp k_K_isSegment 0 [some (.ref p0), some (.int p1)] [] h (0, 0) (QI K) := by
  unfold wq_K_isSegment at H
  refine wp_iload_n rfl rfl ?_
  refine wp_if_lt rfl (lo1 := [none, none]) (lo2 := [some (.ref p0), some (.int p1)]) rfl rfl (fun q5 => ?_) (fun q5 => ?_)
  · have H := H.1 q5
    refine wp_iconstk (lo' := [none, none]) rfl rfl ?_
    exact wp_zret rfl rfl (by decide) H
  · have H := H.2 q5
    refine wp_iload_n rfl rfl ?_
    refine wp_aload_n rfl rfl ?_
    obtain ⟨g3, g4, H⟩ := H
    refine wp_getR rfl rfl g3 g4 ?_
    obtain ⟨g2, H⟩ := H
    refine wp_getI rfl rfl g2 ?_
    refine wp_icmp_ge rfl (lo1 := [none, none]) (lo2 := [some (.ref p0), some (.int p1)]) rfl rfl (fun q1 => ?_) (fun q1 => ?_)
    · have H := H.1 q1
      refine wp_iconstk (lo' := [none, none]) rfl rfl ?_
      exact wp_zret rfl rfl (by decide) H
    · have H := H.2 q1
      refine wp_iconst rfl ?_
      refine wp_goto rfl (lo' := [none, none]) rfl ?_
      exact wp_zret rfl rfl (by decide) H
def wq_K_isPair (p0 : Nat) (p1 : Int32) (h : HP) (K : Int32 → HP → Prop) : Prop :=
  (p1 < 0 → K (0 : Int32) h) ∧ (¬ p1 < 0 → isO h p0 9 ∧ 0 < gR h p0 2 ∧ isO h (gR h p0 2) 2 ∧ (gI h (gR h p0 2) 6 ≤ p1 → K (0 : Int32) h) ∧ (¬ gI h (gR h p0 2) 6 ≤ p1 → K (1 : Int32) h))
theorem wq_K_isPair_ok {p0 : Nat} {p1 : Int32} {h : HP} {K : Int32 → HP → Prop} (H : wq_K_isPair p0 p1 h K) : Wp k_K_isPair 0 [some (.ref p0), some (.int p1)] [] h (0, 0) (QI K) := by
  unfold wq_K_isPair at H
  refine wp_iload_n rfl rfl ?_
  refine wp_if_lt rfl (lo1 := [none, none]) (lo2 := [some (.ref p0), some (.int p1)]) rfl rfl (fun q5 => ?_) (fun q5 => ?_)
  · have H := H.1 q5
    refine wp_iconstk (lo' := [none, none]) rfl rfl ?_
    exact wp_zret rfl rfl (by decide) H
  · have H := H.2 q5
    refine wp_iload_n rfl rfl ?_
    refine wp_aload_n rfl rfl ?_
    obtain ⟨g3, g4, H⟩ := H
    refine wp_getR rfl rfl g3 g4 ?_
    obtain ⟨g2, H⟩ := H
    refine wp_getI rfl rfl g2 ?_
    refine wp_icmp_ge rfl (lo1 := [none, none]) (lo2 := [some (.ref p0), some (.int p1)]) rfl rfl (fun q1 => ?_) (fun q1 => ?_)
    · have H := H.1 q1
      refine wp_iconstk (lo' := [none, none]) rfl rfl ?_
      exact wp_zret rfl rfl (by decide) H
    · have H := H.2 q1
      refine wp_iconst rfl ?_
      refine wp_goto rfl (lo' := [none, none]) rfl ?_
      exact wp_zret rfl rfl (by decide) H
def wq_K_isSomebody (p0 : Nat) (p1 : Int32) (h : HP) (K : Int32 → HP → Prop) : Prop :=
  (p1 < 0 → K (0 : Int32) h) ∧ (¬ p1 < 0 → ((99 : Int32) < p1 → K (0 : Int32) h) ∧ (¬ (99 : Int32) < p1 → K (1 : Int32) h))
theorem wq_K_isSomebody_ok {p0 : Nat} {p1 : Int32} {h : HP} {K : Int32 → HP → Prop} (H : wq_K_isSomebody p0 p1 h K) : Wp k_K_isSomebody 0 [some (.ref p0), some (.int p1)] [] h (0, 0) (QI K) := by
  unfold wq_K_isSomebody at H
  refine wp_iload_n rfl rfl ?_
  refine wp_if_lt rfl (lo1 := [none, none]) (lo2 := [some (.ref p0), some (.int p1)]) rfl rfl (fun q2 => ?_) (fun q2 => ?_)
  · have H := H.1 q2
    refine wp_iconstk (lo' := [none, none]) rfl rfl ?_
    exact wp_zret rfl rfl (by decide) H
  · have H := H.2 q2
    refine wp_iload_n rfl rfl ?_
    refine wp_bipush rfl ?_
    refine wp_icmp_gt rfl (lo1 := [none, none]) (lo2 := [some (.ref p0), some (.int p1)]) rfl rfl (fun q1 => ?_) (fun q1 => ?_)
    · have H := H.1 q1
      refine wp_iconstk (lo' := [none, none]) rfl rfl ?_
      exact wp_zret rfl rfl (by decide) H
    · have H := H.2 q1
      refine wp_iconst rfl ?_
      refine wp_goto rfl (lo' := [none, none]) rfl ?_
      exact wp_zret rfl rfl (by decide) H
def wq_M_init (p0 : Nat) (h : HP) (K : HP → Prop) : Prop :=
  ∀ h1 : HP, h1 = nwC h 100 37200 → isO h1 p0 10 ∧ 0 < gS h ∧ (∀ h3 : HP, h3 = stR h1 p0 1 (gS h) → ∀ h4 : HP, h4 = nwC h3 100 62 → isO h4 p0 10 ∧ 0 < gS h3 ∧ (∀ h6 : HP, h6 = stR h4 p0 2 (gS h3) → ∀ h7 : HP, h7 = nwC h6 100 1800 → isO h7 p0 10 ∧ 0 < gS h6 ∧ (∀ h9 : HP, h9 = stR h7 p0 3 (gS h6) → ∀ h10 : HP, h10 = nwC h9 100 1800 → isO h10 p0 10 ∧ 0 < gS h9 ∧ (∀ h12 : HP, h12 = stR h10 p0 4 (gS h9) → ∀ h13 : HP, h13 = nwC h12 100 1800 → isO h13 p0 10 ∧ 0 < gS h12 ∧ (∀ h15 : HP, h15 = stR h13 p0 5 (gS h12) → ∀ h16 : HP, h16 = nwC h15 100 3 → isO h16 p0 10 ∧ 0 < gS h15 ∧ (∀ h18 : HP, h18 = stR h16 p0 6 (gS h15) → ∀ h19 : HP, h19 = nwC h18 100 3 → isO h19 p0 10 ∧ 0 < gS h18 ∧ (∀ h21 : HP, h21 = stR h19 p0 7 (gS h18) → ∀ h22 : HP, h22 = nwC h21 100 600 → isO h22 p0 10 ∧ 0 < gS h21 ∧ (∀ h24 : HP, h24 = stR h22 p0 9 (gS h21) → ∀ h25 : HP, h25 = nwC h24 100 264 → isO h25 p0 10 ∧ 0 < gS h24 ∧ (∀ h27 : HP, h27 = stR h25 p0 10 (gS h24) → ∀ h28 : HP, h28 = nwC h27 100 33 → isO h28 p0 10 ∧ 0 < gS h27 ∧ (∀ h30 : HP, h30 = stR h28 p0 11 (gS h27) → ∀ h31 : HP, h31 = nwC h30 100 24 → isO h31 p0 10 ∧ 0 < gS h30 ∧ (∀ h33 : HP, h33 = stR h31 p0 16 (gS h30) → ∀ h34 : HP, h34 = nwC h33 100 24 → isO h34 p0 10 ∧ 0 < gS h33 ∧ (∀ h36 : HP, h36 = stR h34 p0 17 (gS h33) → ∀ h37 : HP, h37 = nwC h36 100 601 → isO h37 p0 10 ∧ 0 < gS h36 ∧ (∀ h39 : HP, h39 = stR h37 p0 18 (gS h36) → ∀ h40 : HP, h40 = nwC h39 100 40 → isO h40 p0 10 ∧ 0 < gS h39 ∧ (∀ h42 : HP, h42 = stR h40 p0 21 (gS h39) → ∀ h43 : HP, h43 = nwC h42 100 40 → isO h43 p0 10 ∧ 0 < gS h42 ∧ (∀ h45 : HP, h45 = stR h43 p0 22 (gS h42) → ∀ h46 : HP, h46 = nwC h45 100 441 → isO h46 p0 10 ∧ 0 < gS h45 ∧ (∀ h48 : HP, h48 = stR h46 p0 23 (gS h45) → ∀ h49 : HP, h49 = nwC h48 100 30 → isO h49 p0 10 ∧ 0 < gS h48 ∧ (∀ h51 : HP, h51 = stR h49 p0 24 (gS h48) → ∀ h52 : HP, h52 = nwC h51 100 2000 → isO h52 p0 10 ∧ 0 < gS h51 ∧ (∀ h54 : HP, h54 = stR h52 p0 25 (gS h51) → ∀ h55 : HP, h55 = nwC h54 100 2000 → isO h55 p0 10 ∧ 0 < gS h54 ∧ (∀ h57 : HP, h57 = stR h55 p0 26 (gS h54) → ∀ h58 : HP, h58 = nwC h57 100 2000 → isO h58 p0 10 ∧ 0 < gS h57 ∧ (∀ h60 : HP, h60 = stR h58 p0 27 (gS h57) → ∀ h61 : HP, h61 = nwC h60 100 10 → isO h61 p0 10 ∧ 0 < gS h60 ∧ (∀ h63 : HP, h63 = stR h61 p0 29 (gS h60) → ∀ h64 : HP, h64 = nwC h63 102 600 → isO h64 p0 10 ∧ 0 < gS h63 ∧ (∀ h66 : HP, h66 = stR h64 p0 30 (gS h63) → ∀ h67 : HP, h67 = nwC h66 100 600 → isO h67 p0 10 ∧ 0 < gS h66 ∧ (∀ h69 : HP, h69 = stR h67 p0 31 (gS h66) → K h69)))))))))))))))))))))))
set_option maxRecDepth 100000 in
set_option maxHeartbeats 4000000 in
theorem wq_M_init_ok {p0 : Nat} {h : HP} {K : HP → Prop} (H : wq_M_init p0 h K) : Wp k_M_init 0 [some (.ref p0)] [] h (23, 51975) (QV K) := by
  unfold wq_M_init at H
  refine wp_aload_n rfl rfl ?_
  refine wp_objI rfl (Nat.le_of_ble_eq_true rfl) (lo' := [some (.ref p0)]) rfl ?_
  refine wp_aload_n rfl rfl ?_
  refine wp_ldc rfl ?_
  obtain ⟨h1, e2⟩ : ∃ z : HP, z = nwC h 100 37200 := ⟨_, rfl⟩
  have H := H h1 e2
  refine wp_newaL (N := 37200) (lo' := [some (.ref p0)]) (bd' := (22, 14775)) rfl ⟨by decide, by decide⟩ ⟨by decide, by decide, by decide⟩ rfl rfl e2 ?_
  obtain ⟨g136, g137, H⟩ := H
  obtain ⟨h3, e138⟩ : ∃ z : HP, z = stR h1 p0 1 (gS h) := ⟨_, rfl⟩
  have H := H h3 e138
  refine wp_putR rfl rfl g136 g137 e138 ?_
  refine wp_aload_n rfl rfl ?_
  refine wp_bipush rfl ?_
  obtain ⟨h4, e5⟩ : ∃ z : HP, z = nwC h3 100 62 := ⟨_, rfl⟩
  have H := H h4 e5
  refine wp_newaL (N := 62) (lo' := [some (.ref p0)]) (bd' := (21, 14713)) rfl ⟨by decide, by decide⟩ ⟨by decide, by decide, by decide⟩ rfl rfl e5 ?_
  obtain ⟨g133, g134, H⟩ := H
  obtain ⟨h6, e135⟩ : ∃ z : HP, z = stR h4 p0 2 (gS h3) := ⟨_, rfl⟩
  have H := H h6 e135
  refine wp_putR rfl rfl g133 g134 e135 ?_
  refine wp_aload_n rfl rfl ?_
  refine wp_sipush rfl ?_
  obtain ⟨h7, e8⟩ : ∃ z : HP, z = nwC h6 100 1800 := ⟨_, rfl⟩
  have H := H h7 e8
  refine wp_newaL (N := 1800) (lo' := [some (.ref p0)]) (bd' := (20, 12913)) rfl ⟨by decide, by decide⟩ ⟨by decide, by decide, by decide⟩ rfl rfl e8 ?_
  obtain ⟨g130, g131, H⟩ := H
  obtain ⟨h9, e132⟩ : ∃ z : HP, z = stR h7 p0 3 (gS h6) := ⟨_, rfl⟩
  have H := H h9 e132
  refine wp_putR rfl rfl g130 g131 e132 ?_
  refine wp_aload_n rfl rfl ?_
  refine wp_sipush rfl ?_
  obtain ⟨h10, e11⟩ : ∃ z : HP, z = nwC h9 100 1800 := ⟨_, rfl⟩
  have H := H h10 e11
  refine wp_newaL (N := 1800) (lo' := [some (.ref p0)]) (bd' := (19, 11113)) rfl ⟨by decide, by decide⟩ ⟨by decide, by decide, by decide⟩ rfl rfl e11 ?_
  obtain ⟨g127, g128, H⟩ := H
  obtain ⟨h12, e129⟩ : ∃ z : HP, z = stR h10 p0 4 (gS h9) := ⟨_, rfl⟩
  have H := H h12 e129
  refine wp_putR rfl rfl g127 g128 e129 ?_
  refine wp_aload_n rfl rfl ?_
  refine wp_sipush rfl ?_
  obtain ⟨h13, e14⟩ : ∃ z : HP, z = nwC h12 100 1800 := ⟨_, rfl⟩
  have H := H h13 e14
  refine wp_newaL (N := 1800) (lo' := [some (.ref p0)]) (bd' := (18, 9313)) rfl ⟨by decide, by decide⟩ ⟨by decide, by decide, by decide⟩ rfl rfl e14 ?_
  obtain ⟨g124, g125, H⟩ := H
  obtain ⟨h15, e126⟩ : ∃ z : HP, z = stR h13 p0 5 (gS h12) := ⟨_, rfl⟩
  have H := H h15 e126
  refine wp_putR rfl rfl g124 g125 e126 ?_
  refine wp_aload_n rfl rfl ?_
  refine wp_iconst rfl ?_
  obtain ⟨h16, e17⟩ : ∃ z : HP, z = nwC h15 100 3 := ⟨_, rfl⟩
  have H := H h16 e17
  refine wp_newaL (N := 3) (lo' := [some (.ref p0)]) (bd' := (17, 9310)) rfl ⟨by decide, by decide⟩ ⟨by decide, by decide, by decide⟩ rfl rfl e17 ?_
  obtain ⟨g121, g122, H⟩ := H
  obtain ⟨h18, e123⟩ : ∃ z : HP, z = stR h16 p0 6 (gS h15) := ⟨_, rfl⟩
  have H := H h18 e123
  refine wp_putR rfl rfl g121 g122 e123 ?_
  refine wp_aload_n rfl rfl ?_
  refine wp_iconst rfl ?_
  obtain ⟨h19, e20⟩ : ∃ z : HP, z = nwC h18 100 3 := ⟨_, rfl⟩
  have H := H h19 e20
  refine wp_newaL (N := 3) (lo' := [some (.ref p0)]) (bd' := (16, 9307)) rfl ⟨by decide, by decide⟩ ⟨by decide, by decide, by decide⟩ rfl rfl e20 ?_
  obtain ⟨g118, g119, H⟩ := H
  obtain ⟨h21, e120⟩ : ∃ z : HP, z = stR h19 p0 7 (gS h18) := ⟨_, rfl⟩
  have H := H h21 e120
  refine wp_putR rfl rfl g118 g119 e120 ?_
  refine wp_aload_n rfl rfl ?_
  refine wp_sipush rfl ?_
  obtain ⟨h22, e23⟩ : ∃ z : HP, z = nwC h21 100 600 := ⟨_, rfl⟩
  have H := H h22 e23
  refine wp_newaL (N := 600) (lo' := [some (.ref p0)]) (bd' := (15, 8707)) rfl ⟨by decide, by decide⟩ ⟨by decide, by decide, by decide⟩ rfl rfl e23 ?_
  obtain ⟨g115, g116, H⟩ := H
  obtain ⟨h24, e117⟩ : ∃ z : HP, z = stR h22 p0 9 (gS h21) := ⟨_, rfl⟩
  have H := H h24 e117
  refine wp_putR rfl rfl g115 g116 e117 ?_
  refine wp_aload_n rfl rfl ?_
  refine wp_sipush rfl ?_
  obtain ⟨h25, e26⟩ : ∃ z : HP, z = nwC h24 100 264 := ⟨_, rfl⟩
  have H := H h25 e26
  refine wp_newaL (N := 264) (lo' := [some (.ref p0)]) (bd' := (14, 8443)) rfl ⟨by decide, by decide⟩ ⟨by decide, by decide, by decide⟩ rfl rfl e26 ?_
  obtain ⟨g112, g113, H⟩ := H
  obtain ⟨h27, e114⟩ : ∃ z : HP, z = stR h25 p0 10 (gS h24) := ⟨_, rfl⟩
  have H := H h27 e114
  refine wp_putR rfl rfl g112 g113 e114 ?_
  refine wp_aload_n rfl rfl ?_
  refine wp_bipush rfl ?_
  obtain ⟨h28, e29⟩ : ∃ z : HP, z = nwC h27 100 33 := ⟨_, rfl⟩
  have H := H h28 e29
  refine wp_newaL (N := 33) (lo' := [some (.ref p0)]) (bd' := (13, 8410)) rfl ⟨by decide, by decide⟩ ⟨by decide, by decide, by decide⟩ rfl rfl e29 ?_
  obtain ⟨g109, g110, H⟩ := H
  obtain ⟨h30, e111⟩ : ∃ z : HP, z = stR h28 p0 11 (gS h27) := ⟨_, rfl⟩
  have H := H h30 e111
  refine wp_putR rfl rfl g109 g110 e111 ?_
  refine wp_aload_n rfl rfl ?_
  refine wp_bipush rfl ?_
  obtain ⟨h31, e32⟩ : ∃ z : HP, z = nwC h30 100 24 := ⟨_, rfl⟩
  have H := H h31 e32
  refine wp_newaL (N := 24) (lo' := [some (.ref p0)]) (bd' := (12, 8386)) rfl ⟨by decide, by decide⟩ ⟨by decide, by decide, by decide⟩ rfl rfl e32 ?_
  obtain ⟨g106, g107, H⟩ := H
  obtain ⟨h33, e108⟩ : ∃ z : HP, z = stR h31 p0 16 (gS h30) := ⟨_, rfl⟩
  have H := H h33 e108
  refine wp_putR rfl rfl g106 g107 e108 ?_
  refine wp_aload_n rfl rfl ?_
  refine wp_bipush rfl ?_
  obtain ⟨h34, e35⟩ : ∃ z : HP, z = nwC h33 100 24 := ⟨_, rfl⟩
  have H := H h34 e35
  refine wp_newaL (N := 24) (lo' := [some (.ref p0)]) (bd' := (11, 8362)) rfl ⟨by decide, by decide⟩ ⟨by decide, by decide, by decide⟩ rfl rfl e35 ?_
  obtain ⟨g103, g104, H⟩ := H
  obtain ⟨h36, e105⟩ : ∃ z : HP, z = stR h34 p0 17 (gS h33) := ⟨_, rfl⟩
  have H := H h36 e105
  refine wp_putR rfl rfl g103 g104 e105 ?_
  refine wp_aload_n rfl rfl ?_
  refine wp_sipush rfl ?_
  obtain ⟨h37, e38⟩ : ∃ z : HP, z = nwC h36 100 601 := ⟨_, rfl⟩
  have H := H h37 e38
  refine wp_newaL (N := 601) (lo' := [some (.ref p0)]) (bd' := (10, 7761)) rfl ⟨by decide, by decide⟩ ⟨by decide, by decide, by decide⟩ rfl rfl e38 ?_
  obtain ⟨g100, g101, H⟩ := H
  obtain ⟨h39, e102⟩ : ∃ z : HP, z = stR h37 p0 18 (gS h36) := ⟨_, rfl⟩
  have H := H h39 e102
  refine wp_putR rfl rfl g100 g101 e102 ?_
  refine wp_aload_n rfl rfl ?_
  refine wp_bipush rfl ?_
  obtain ⟨h40, e41⟩ : ∃ z : HP, z = nwC h39 100 40 := ⟨_, rfl⟩
  have H := H h40 e41
  refine wp_newaL (N := 40) (lo' := [some (.ref p0)]) (bd' := (9, 7721)) rfl ⟨by decide, by decide⟩ ⟨by decide, by decide, by decide⟩ rfl rfl e41 ?_
  obtain ⟨g97, g98, H⟩ := H
  obtain ⟨h42, e99⟩ : ∃ z : HP, z = stR h40 p0 21 (gS h39) := ⟨_, rfl⟩
  have H := H h42 e99
  refine wp_putR rfl rfl g97 g98 e99 ?_
  refine wp_aload_n rfl rfl ?_
  refine wp_bipush rfl ?_
  obtain ⟨h43, e44⟩ : ∃ z : HP, z = nwC h42 100 40 := ⟨_, rfl⟩
  have H := H h43 e44
  refine wp_newaL (N := 40) (lo' := [some (.ref p0)]) (bd' := (8, 7681)) rfl ⟨by decide, by decide⟩ ⟨by decide, by decide, by decide⟩ rfl rfl e44 ?_
  obtain ⟨g94, g95, H⟩ := H
  obtain ⟨h45, e96⟩ : ∃ z : HP, z = stR h43 p0 22 (gS h42) := ⟨_, rfl⟩
  have H := H h45 e96
  refine wp_putR rfl rfl g94 g95 e96 ?_
  refine wp_aload_n rfl rfl ?_
  refine wp_sipush rfl ?_
  obtain ⟨h46, e47⟩ : ∃ z : HP, z = nwC h45 100 441 := ⟨_, rfl⟩
  have H := H h46 e47
  refine wp_newaL (N := 441) (lo' := [some (.ref p0)]) (bd' := (7, 7240)) rfl ⟨by decide, by decide⟩ ⟨by decide, by decide, by decide⟩ rfl rfl e47 ?_
  obtain ⟨g91, g92, H⟩ := H
  obtain ⟨h48, e93⟩ : ∃ z : HP, z = stR h46 p0 23 (gS h45) := ⟨_, rfl⟩
  have H := H h48 e93
  refine wp_putR rfl rfl g91 g92 e93 ?_
  refine wp_aload_n rfl rfl ?_
  refine wp_bipush rfl ?_
  obtain ⟨h49, e50⟩ : ∃ z : HP, z = nwC h48 100 30 := ⟨_, rfl⟩
  have H := H h49 e50
  refine wp_newaL (N := 30) (lo' := [some (.ref p0)]) (bd' := (6, 7210)) rfl ⟨by decide, by decide⟩ ⟨by decide, by decide, by decide⟩ rfl rfl e50 ?_
  obtain ⟨g88, g89, H⟩ := H
  obtain ⟨h51, e90⟩ : ∃ z : HP, z = stR h49 p0 24 (gS h48) := ⟨_, rfl⟩
  have H := H h51 e90
  refine wp_putR rfl rfl g88 g89 e90 ?_
  refine wp_aload_n rfl rfl ?_
  refine wp_sipush rfl ?_
  obtain ⟨h52, e53⟩ : ∃ z : HP, z = nwC h51 100 2000 := ⟨_, rfl⟩
  have H := H h52 e53
  refine wp_newaL (N := 2000) (lo' := [some (.ref p0)]) (bd' := (5, 5210)) rfl ⟨by decide, by decide⟩ ⟨by decide, by decide, by decide⟩ rfl rfl e53 ?_
  obtain ⟨g85, g86, H⟩ := H
  obtain ⟨h54, e87⟩ : ∃ z : HP, z = stR h52 p0 25 (gS h51) := ⟨_, rfl⟩
  have H := H h54 e87
  refine wp_putR rfl rfl g85 g86 e87 ?_
  refine wp_aload_n rfl rfl ?_
  refine wp_sipush rfl ?_
  obtain ⟨h55, e56⟩ : ∃ z : HP, z = nwC h54 100 2000 := ⟨_, rfl⟩
  have H := H h55 e56
  refine wp_newaL (N := 2000) (lo' := [some (.ref p0)]) (bd' := (4, 3210)) rfl ⟨by decide, by decide⟩ ⟨by decide, by decide, by decide⟩ rfl rfl e56 ?_
  obtain ⟨g82, g83, H⟩ := H
  obtain ⟨h57, e84⟩ : ∃ z : HP, z = stR h55 p0 26 (gS h54) := ⟨_, rfl⟩
  have H := H h57 e84
  refine wp_putR rfl rfl g82 g83 e84 ?_
  refine wp_aload_n rfl rfl ?_
  refine wp_sipush rfl ?_
  obtain ⟨h58, e59⟩ : ∃ z : HP, z = nwC h57 100 2000 := ⟨_, rfl⟩
  have H := H h58 e59
  refine wp_newaL (N := 2000) (lo' := [some (.ref p0)]) (bd' := (3, 1210)) rfl ⟨by decide, by decide⟩ ⟨by decide, by decide, by decide⟩ rfl rfl e59 ?_
  obtain ⟨g79, g80, H⟩ := H
  obtain ⟨h60, e81⟩ : ∃ z : HP, z = stR h58 p0 27 (gS h57) := ⟨_, rfl⟩
  have H := H h60 e81
  refine wp_putR rfl rfl g79 g80 e81 ?_
  refine wp_aload_n rfl rfl ?_
  refine wp_bipush rfl ?_
  obtain ⟨h61, e62⟩ : ∃ z : HP, z = nwC h60 100 10 := ⟨_, rfl⟩
  have H := H h61 e62
  refine wp_newaL (N := 10) (lo' := [some (.ref p0)]) (bd' := (2, 1200)) rfl ⟨by decide, by decide⟩ ⟨by decide, by decide, by decide⟩ rfl rfl e62 ?_
  obtain ⟨g76, g77, H⟩ := H
  obtain ⟨h63, e78⟩ : ∃ z : HP, z = stR h61 p0 29 (gS h60) := ⟨_, rfl⟩
  have H := H h63 e78
  refine wp_putR rfl rfl g76 g77 e78 ?_
  refine wp_aload_n rfl rfl ?_
  refine wp_sipush rfl ?_
  obtain ⟨h64, e65⟩ : ∃ z : HP, z = nwC h63 102 600 := ⟨_, rfl⟩
  have H := H h64 e65
  refine wp_newaL (N := 600) (lo' := [some (.ref p0)]) (bd' := (1, 600)) rfl ⟨by decide, by decide⟩ ⟨by decide, by decide, by decide⟩ rfl rfl e65 ?_
  obtain ⟨g73, g74, H⟩ := H
  obtain ⟨h66, e75⟩ : ∃ z : HP, z = stR h64 p0 30 (gS h63) := ⟨_, rfl⟩
  have H := H h66 e75
  refine wp_putR rfl rfl g73 g74 e75 ?_
  refine wp_aload_n rfl rfl ?_
  refine wp_sipush rfl ?_
  obtain ⟨h67, e68⟩ : ∃ z : HP, z = nwC h66 100 600 := ⟨_, rfl⟩
  have H := H h67 e68
  refine wp_newaL (N := 600) (lo' := [some (.ref p0)]) (bd' := (0, 0)) rfl ⟨by decide, by decide⟩ ⟨by decide, by decide, by decide⟩ rfl rfl e68 ?_
  obtain ⟨g70, g71, H⟩ := H
  obtain ⟨h69, e72⟩ : ∃ z : HP, z = stR h67 p0 31 (gS h66) := ⟨_, rfl⟩
  have H := H h69 e72
  refine wp_putR rfl rfl g70 g71 e72 ?_
  exact wp_vret rfl rfl H
def wq_M_in (p0 : Int32) (p1 : Int32) (p2 : Int32) (h : HP) (K : Int32 → HP → Prop) : Prop :=
  (p0 < p1 → K (0 : Int32) h) ∧ (¬ p0 < p1 → (p2 < p0 → K (0 : Int32) h) ∧ (¬ p2 < p0 → K (1 : Int32) h))
theorem wq_M_in_ok {p0 : Int32} {p1 : Int32} {p2 : Int32} {h : HP} {K : Int32 → HP → Prop} (H : wq_M_in p0 p1 p2 h K) : Wp k_M_in 0 [some (.int p0), some (.int p1), some (.int p2)] [] h (0, 0) (QI K) := by
  unfold wq_M_in at H
  refine wp_iload_n rfl rfl ?_
  refine wp_iload_n rfl rfl ?_
  refine wp_icmp_lt rfl (lo1 := [none, none, none]) (lo2 := [some (.int p0), some (.int p1), some (.int p2)]) rfl rfl (fun q2 => ?_) (fun q2 => ?_)
  · have H := H.1 q2
    refine wp_iconstk (lo' := [none, none, none]) rfl rfl ?_
    exact wp_zret rfl rfl (by decide) H
  · have H := H.2 q2
    refine wp_iload_n rfl rfl ?_
    refine wp_iload_n rfl rfl ?_
    refine wp_icmp_gt rfl (lo1 := [none, none, none]) (lo2 := [some (.int p0), some (.int p1), some (.int p2)]) rfl rfl (fun q1 => ?_) (fun q1 => ?_)
    · have H := H.1 q1
      refine wp_iconstk (lo' := [none, none, none]) rfl rfl ?_
      exact wp_zret rfl rfl (by decide) H
    · have H := H.2 q1
      refine wp_iconst rfl ?_
      refine wp_goto rfl (lo' := [none, none, none]) rfl ?_
      exact wp_zret rfl rfl (by decide) H
def wb_M_copy_3 (l0 : Nat) (l1 : Int32) (l2 : Int32) (l3 : Int32) (l4 : Int32) (h : HP) (K : HP → Prop) : Prop :=
  (l2 ≤ l4 → isO h l0 10 ∧ 0 < gR h l0 2 ∧ isA h (gR h l0 2) 100 l3 ∧ (∀ h1 : HP, h1 = stI h (gR h l0 2) l3.toNatClampNeg l2 → K h1)) ∧ (¬ l2 ≤ l4 → isO h l0 10 ∧ 0 < gR h l0 1 ∧ isO h l0 10 ∧ 0 < gR h l0 1 ∧ isL h (gR h l0 1) 100 (l1 + l4) ∧ isA h (gR h l0 1) 100 (((600 : Int32) * l3) + l4) ∧ (∀ h6 : HP, h6 = stI h (gR h l0 1) (((600 : Int32) * l3) + l4).toNatClampNeg (gI h (gR h l0 1) (l1 + l4).toNatClampNeg) → Wp k_M_copy 3 [some (.ref l0), some (.int l1), some (.int l2), some (.int l3), some (.int (l4 + (1 : Int32)))] [] h6 (0, 0) (QV K)))
theorem wb_M_copy_3_ok {l0 : Nat} {l1 : Int32} {l2 : Int32} {l3 : Int32} {l4 : Int32} {h : HP} {K : HP → Prop} (H : wb_M_copy_3 l0 l1 l2 l3 l4 h K) : Wp k_M_copy 3 [some (.ref l0), some (.int l1), some (.int l2), some (.int l3), some (.int l4)] [] h (0, 0) (QV K) := by
  unfold wb_M_copy_3 at H
  refine wp_iload rfl rfl ?_
  refine wp_iload_n rfl rfl ?_
  refine wp_icmp_ge rfl (lo1 := [some (.ref l0), some (.int l1), some (.int l2), some (.int l3), some (.int l4)]) (lo2 := [some (.ref l0), some (.int l1), some (.int l2), some (.int l3), some (.int l4)]) rfl rfl (fun q14 => ?_) (fun q14 => ?_)
  · have H := H.1 q14
    refine wp_aload_n rfl rfl ?_
    obtain ⟨g4, g5, H⟩ := H
    refine wp_getR rfl rfl g4 g5 ?_
    refine wp_iload_n rfl rfl ?_
    refine wp_iload_n rfl rfl ?_
    obtain ⟨g2, H⟩ := H
    obtain ⟨h1, e3⟩ : ∃ z : HP, z = stI h (gR h l0 2) l3.toNatClampNeg l2 := ⟨_, rfl⟩
    have H := H h1 e3
    refine wp_iast rfl g2 e3 ?_
    exact wp_vret rfl rfl H
  · have H := H.2 q14
    refine wp_aload_n rfl rfl ?_
    obtain ⟨g12, g13, H⟩ := H
    refine wp_getR rfl rfl g12 g13 ?_
    refine wp_sipush rfl ?_
    refine wp_iload_n rfl rfl ?_
    refine wp_imul rfl ?_
    refine wp_iload rfl rfl ?_
    refine wp_iadd rfl ?_
    refine wp_aload_n rfl rfl ?_
    obtain ⟨g10, g11, H⟩ := H
    refine wp_getR rfl rfl g10 g11 ?_
    refine wp_iload_n rfl rfl ?_
    refine wp_iload rfl rfl ?_
    refine wp_iadd rfl ?_
    obtain ⟨g9, H⟩ := H
    refine wp_iald rfl g9 ?_
    obtain ⟨g7, H⟩ := H
    obtain ⟨h6, e8⟩ : ∃ z : HP, z = stI h (gR h l0 1) (((600 : Int32) * l3) + l4).toNatClampNeg (gI h (gR h l0 1) (l1 + l4).toNatClampNeg) := ⟨_, rfl⟩
    have H := H h6 e8
    refine wp_iast rfl g7 e8 ?_
    refine wp_iinc rfl rfl rfl (lo' := [some (.ref l0), some (.int l1), some (.int l2), some (.int l3), some (.int (l4 + (1 : Int32)))]) rfl ?_
    refine wp_goto rfl (lo' := [some (.ref l0), some (.int l1), some (.int l2), some (.int l3), some (.int (l4 + (1 : Int32)))]) rfl ?_
    exact H
def wq_M_copy (p0 : Nat) (p1 : Int32) (p2 : Int32) (p3 : Int32) (h : HP) (K : HP → Prop) : Prop :=
  Wp k_M_copy 3 [some (.ref p0), some (.int p1), some (.int p2), some (.int p3), some (.int (0 : Int32))] [] h (0, 0) (QV K)
theorem wq_M_copy_ok {p0 : Nat} {p1 : Int32} {p2 : Int32} {p3 : Int32} {h : HP} {K : HP → Prop} (H : wq_M_copy p0 p1 p2 p3 h K) : Wp k_M_copy 0 [some (.ref p0), some (.int p1), some (.int p2), some (.int p3), none] [] h (0, 0) (QV K) := by
  unfold wq_M_copy at H
  refine wp_iconst rfl ?_
  refine wp_istore rfl rfl (lo' := [some (.ref p0), some (.int p1), some (.int p2), some (.int p3), some (.int (0 : Int32))]) rfl ?_
  exact H
def wq_M_at (p0 : Nat) (p1 : Int32) (h : HP) (K : Int32 → HP → Prop) : Prop :=
  isO h p0 10 ∧ (gI h p0 8 ≤ p1 → K (0 : Int32) h) ∧ (¬ gI h p0 8 ≤ p1 → isO h p0 10 ∧ 0 < gR h p0 1 ∧ isL h (gR h p0 1) 100 p1 ∧ K (gI h (gR h p0 1) p1.toNatClampNeg) h)
theorem wq_M_at_ok {p0 : Nat} {p1 : Int32} {h : HP} {K : Int32 → HP → Prop} (H : wq_M_at p0 p1 h K) : Wp k_M_at 0 [some (.ref p0), some (.int p1)] [] h (0, 0) (QI K) := by
  unfold wq_M_at at H
  refine wp_iload_n rfl rfl ?_
  refine wp_aload_n rfl rfl ?_
  obtain ⟨g5, H⟩ := H
  refine wp_getI rfl rfl g5 ?_
  refine wp_icmp_ge rfl (lo1 := [some (.ref p0), some (.int p1)]) (lo2 := [some (.ref p0), some (.int p1)]) rfl rfl (fun q4 => ?_) (fun q4 => ?_)
  · have H := H.1 q4
    refine wp_iconstk (lo' := [none, none]) rfl rfl ?_
    exact wp_iret rfl rfl H
  · have H := H.2 q4
    refine wp_aload_n rfl rfl ?_
    obtain ⟨g2, g3, H⟩ := H
    refine wp_getR rfl rfl g2 g3 ?_
    refine wp_iload_n rfl rfl ?_
    obtain ⟨g1, H⟩ := H
    refine wp_iald rfl g1 ?_
    refine wp_goto rfl (lo' := [none, none]) rfl ?_
    exact wp_iret rfl rfl H
def wq_M_isDigit (p0 : Int32) (h : HP) (K : Int32 → HP → Prop) : Prop :=
  (p0 < (48 : Int32) → K (0 : Int32) h) ∧ (¬ p0 < (48 : Int32) → ((57 : Int32) < p0 → K (0 : Int32) h) ∧ (¬ (57 : Int32) < p0 → K (1 : Int32) h))
theorem wq_M_isDigit_ok {p0 : Int32} {h : HP} {K : Int32 → HP → Prop} (H : wq_M_isDigit p0 h K) : Wp k_M_isDigit 0 [some (.int p0)] [] h (0, 0) (QI K) := by
  unfold wq_M_isDigit at H
  refine wp_iload_n rfl rfl ?_
  refine wp_bipush rfl ?_
  refine wp_icmp_lt rfl (lo1 := [none]) (lo2 := [some (.int p0)]) rfl rfl (fun q2 => ?_) (fun q2 => ?_)
  · have H := H.1 q2
    refine wp_iconstk (lo' := [none]) rfl rfl ?_
    exact wp_zret rfl rfl (by decide) H
  · have H := H.2 q2
    refine wp_iload_n rfl rfl ?_
    refine wp_bipush rfl ?_
    refine wp_icmp_gt rfl (lo1 := [none]) (lo2 := [some (.int p0)]) rfl rfl (fun q1 => ?_) (fun q1 => ?_)
    · have H := H.1 q1
      refine wp_iconstk (lo' := [none]) rfl rfl ?_
      exact wp_zret rfl rfl (by decide) H
    · have H := H.2 q1
      refine wp_iconst rfl ?_
      refine wp_goto rfl (lo' := [none]) rfl ?_
      exact wp_zret rfl rfl (by decide) H
def wb_M_isLetter_12 (l0 : Int32) (h : HP) (K : Int32 → HP → Prop) : Prop :=
  (l0 < (65 : Int32) → K (0 : Int32) h) ∧ (¬ l0 < (65 : Int32) → ((90 : Int32) < l0 → K (0 : Int32) h) ∧ (¬ (90 : Int32) < l0 → K (1 : Int32) h))
theorem wb_M_isLetter_12_ok {l0 : Int32} {h : HP} {K : Int32 → HP → Prop} (H : wb_M_isLetter_12 l0 h K) : Wp k_M_isLetter 12 [some (.int l0)] [] h (0, 0) (QI K) := by
  unfold wb_M_isLetter_12 at H
  refine wp_iload_n rfl rfl ?_
  refine wp_bipush rfl ?_
  refine wp_icmp_lt rfl (lo1 := [none]) (lo2 := [some (.int l0)]) rfl rfl (fun q4 => ?_) (fun q4 => ?_)
  · have H := H.1 q4
    refine wp_iconstk (lo' := [none]) rfl rfl ?_
    exact wp_zret rfl rfl (by decide) H
  · have H := H.2 q4
    refine wp_iload_n rfl rfl ?_
    refine wp_bipush rfl ?_
    refine wp_icmp_gt rfl (lo1 := [none]) (lo2 := [none]) rfl rfl (fun q3 => ?_) (fun q3 => ?_)
    · have H := H.1 q3
      refine wp_iconstk (lo' := [none]) rfl rfl ?_
      exact wp_zret rfl rfl (by decide) H
    · have H := H.2 q3
      refine wp_iconst rfl ?_
      refine wp_goto rfl (lo' := [none]) rfl ?_
      exact wp_zret rfl rfl (by decide) H
def wq_M_isLetter (p0 : Int32) (h : HP) (K : Int32 → HP → Prop) : Prop :=
  (p0 < (97 : Int32) → wb_M_isLetter_12 p0 h K) ∧ (¬ p0 < (97 : Int32) → (p0 ≤ (122 : Int32) → K (1 : Int32) h) ∧ (¬ p0 ≤ (122 : Int32) → wb_M_isLetter_12 p0 h K))
theorem wq_M_isLetter_ok {p0 : Int32} {h : HP} {K : Int32 → HP → Prop} (H : wq_M_isLetter p0 h K) : Wp k_M_isLetter 0 [some (.int p0)] [] h (0, 0) (QI K) := by
  unfold wq_M_isLetter at H
  refine wp_iload_n rfl rfl ?_
  refine wp_bipush rfl ?_
  refine wp_icmp_lt rfl (lo1 := [some (.int p0)]) (lo2 := [some (.int p0)]) rfl rfl (fun q2 => ?_) (fun q2 => ?_)
  · have H := H.1 q2
    exact wb_M_isLetter_12_ok H
  · have H := H.2 q2
    refine wp_iload_n rfl rfl ?_
    refine wp_bipush rfl ?_
    refine wp_icmp_le rfl (lo1 := [none]) (lo2 := [some (.int p0)]) rfl rfl (fun q1 => ?_) (fun q1 => ?_)
    · have H := H.1 q1
      refine wp_iconst rfl ?_
      refine wp_goto rfl (lo' := [none]) rfl ?_
      exact wp_zret rfl rfl (by decide) H
    · have H := H.2 q1
      exact wb_M_isLetter_12_ok H
def wq_M_small (p0 : Int32) (h : HP) (K : Int32 → HP → Prop) : Prop :=
  (p0 < (65 : Int32) → K p0 h) ∧ (¬ p0 < (65 : Int32) → ((90 : Int32) < p0 → K p0 h) ∧ (¬ (90 : Int32) < p0 → K (p0 + (32 : Int32)) h))
theorem wq_M_small_ok {p0 : Int32} {h : HP} {K : Int32 → HP → Prop} (H : wq_M_small p0 h K) : Wp k_M_small 0 [some (.int p0)] [] h (0, 0) (QI K) := by
  unfold wq_M_small at H
  refine wp_iload_n rfl rfl ?_
  refine wp_bipush rfl ?_
  refine wp_icmp_lt rfl (lo1 := [some (.int p0)]) (lo2 := [some (.int p0)]) rfl rfl (fun q2 => ?_) (fun q2 => ?_)
  · have H := H.1 q2
    refine wp_iload_nk (lo' := [none]) rfl rfl rfl ?_
    exact wp_iret rfl rfl H
  · have H := H.2 q2
    refine wp_iload_n rfl rfl ?_
    refine wp_bipush rfl ?_
    refine wp_icmp_gt rfl (lo1 := [some (.int p0)]) (lo2 := [some (.int p0)]) rfl rfl (fun q1 => ?_) (fun q1 => ?_)
    · have H := H.1 q1
      refine wp_iload_nk (lo' := [none]) rfl rfl rfl ?_
      exact wp_iret rfl rfl H
    · have H := H.2 q1
      refine wp_iload_n rfl rfl ?_
      refine wp_bipush rfl ?_
      refine wp_iadd rfl ?_
      refine wp_goto rfl (lo' := [none]) rfl ?_
      exact wp_iret rfl rfl H
def wq_M_pointOf (p0 : Int32) (h : HP) (K : Int32 → HP → Prop) : Prop :=
  ((22 : Int32) ≤ p0 → K (44 : Int32) h) ∧ (¬ (22 : Int32) ≤ p0 → (¬ p0 = 0 → K (46 : Int32) h) ∧ (p0 = 0 → K (44 : Int32) h))
theorem wq_M_pointOf_ok {p0 : Int32} {h : HP} {K : Int32 → HP → Prop} (H : wq_M_pointOf p0 h K) : Wp k_M_pointOf 0 [some (.int p0)] [] h (0, 0) (QI K) := by
  unfold wq_M_pointOf at H
  refine wp_iload_n rfl rfl ?_
  refine wp_bipush rfl ?_
  refine wp_icmp_ge rfl (lo1 := [none]) (lo2 := [some (.int p0)]) rfl rfl (fun q2 => ?_) (fun q2 => ?_)
  · have H := H.1 q2
    refine wp_bipush rfl ?_
    refine wp_goto rfl (lo' := [none]) rfl ?_
    exact wp_iret rfl rfl H
  · have H := H.2 q2
    refine wp_iload_n rfl rfl ?_
    refine wp_if_ne rfl (lo1 := [some (.int p0)]) (lo2 := [none]) rfl rfl (fun q1 => ?_) (fun q1 => ?_)
    · have H := H.1 q1
      refine wp_bipushk (lo' := [none]) rfl rfl ?_
      exact wp_iret rfl rfl H
    · have H := H.2 q1
      refine wp_bipush rfl ?_
      refine wp_goto rfl (lo' := [none]) rfl ?_
      exact wp_iret rfl rfl H
def wq_M_digitAt (p0 : Nat) (p1 : Int32) (h : HP) (K : Int32 → HP → Prop) : Prop :=
  isO h p0 10 ∧ 0 < gR h p0 4 ∧ isL h (gR h p0 4) 100 p1 ∧ isO h p0 10 ∧ 0 < gR h p0 3 ∧ isL h (gR h p0 3) 100 p1 ∧ (¬ gI h (gR h p0 3) p1.toNatClampNeg = (3 : Int32) → K ((gI h (gR h p0 4) p1.toNatClampNeg) + (1 : Int32)) h) ∧ (gI h (gR h p0 3) p1.toNatClampNeg = (3 : Int32) → K ((gI h (gR h p0 4) p1.toNatClampNeg) + (2 : Int32)) h)
theorem wq_M_digitAt_ok {p0 : Nat} {p1 : Int32} {h : HP} {K : Int32 → HP → Prop} (H : wq_M_digitAt p0 p1 h K) : Wp k_M_digitAt 0 [some (.ref p0), some (.int p1)] [] h (0, 0) (QI K) := by
  unfold wq_M_digitAt at H
  refine wp_aload_n rfl rfl ?_
  obtain ⟨g6, g7, H⟩ := H
  refine wp_getR rfl rfl g6 g7 ?_
  refine wp_iload_n rfl rfl ?_
  obtain ⟨g5, H⟩ := H
  refine wp_iald rfl g5 ?_
  refine wp_aload_n rfl rfl ?_
  obtain ⟨g3, g4, H⟩ := H
  refine wp_getR rfl rfl g3 g4 ?_
  refine wp_iload_n rfl rfl ?_
  obtain ⟨g2, H⟩ := H
  refine wp_iald rfl g2 ?_
  refine wp_iconst rfl ?_
  refine wp_icmp_ne rfl (lo1 := [some (.ref p0), some (.int p1)]) (lo2 := [some (.ref p0), some (.int p1)]) rfl rfl (fun q1 => ?_) (fun q1 => ?_)
  · have H := H.1 q1
    refine wp_iconstk (lo' := [none, none]) rfl rfl ?_
    refine wp_iadd rfl ?_
    exact wp_iret rfl rfl H
  · have H := H.2 q1
    refine wp_iconst rfl ?_
    refine wp_goto rfl (lo' := [none, none]) rfl ?_
    refine wp_iadd rfl ?_
    exact wp_iret rfl rfl H
def wb_M_same_24 (l0 : Nat) (l1 : Int32) (l2 : Int32) (l3 : Int32) (l4 : Int32) (h : HP) (K : Int32 → HP → Prop) : Prop :=
  isO h l0 10 ∧ 0 < gR h l0 5 ∧ isL h (gR h l0 5) 100 l1 ∧ (gI h (gR h l0 5) l1.toNatClampNeg ≤ l4 → (l3 = 0 ∨ l3 = 1) ∧ K l3 h) ∧ (¬ gI h (gR h l0 5) l1.toNatClampNeg ≤ l4 → (l3 = 0 → (l3 = 0 ∨ l3 = 1) ∧ K l3 h) ∧ (¬ l3 = 0 → isO h l0 10 ∧ 0 < gR h l0 1 ∧ isO h l0 10 ∧ 0 < gR h l0 4 ∧ isL h (gR h l0 4) 100 l1 ∧ isL h (gR h l0 1) 100 ((gI h (gR h l0 4) l1.toNatClampNeg) + l4) ∧ isO h l0 10 ∧ 0 < gR h l0 1 ∧ isO h l0 10 ∧ 0 < gR h l0 4 ∧ isL h (gR h l0 4) 100 l2 ∧ isL h (gR h l0 1) 100 ((gI h (gR h l0 4) l2.toNatClampNeg) + l4) ∧ (¬ gI h (gR h l0 1) ((gI h (gR h l0 4) l1.toNatClampNeg) + l4).toNatClampNeg = gI h (gR h l0 1) ((gI h (gR h l0 4) l2.toNatClampNeg) + l4).toNatClampNeg → Wp k_M_same 24 [some (.ref l0), some (.int l1), some (.int l2), some (.int (0 : Int32)), some (.int (l4 + (1 : Int32)))] [] h (0, 0) (QI K)) ∧ (gI h (gR h l0 1) ((gI h (gR h l0 4) l1.toNatClampNeg) + l4).toNatClampNeg = gI h (gR h l0 1) ((gI h (gR h l0 4) l2.toNatClampNeg) + l4).toNatClampNeg → Wp k_M_same 24 [some (.ref l0), some (.int l1), some (.int l2), some (.int (1 : Int32)), some (.int (l4 + (1 : Int32)))] [] h (0, 0) (QI K))))
theorem wb_M_same_24_ok {l0 : Nat} {l1 : Int32} {l2 : Int32} {l3 : Int32} {l4 : Int32} {h : HP} {K : Int32 → HP → Prop} (H : wb_M_same_24 l0 l1 l2 l3 l4 h K) : Wp k_M_same 24 [some (.ref l0), some (.int l1), some (.int l2), some (.int l3), some (.int l4)] [] h (0, 0) (QI K) := by
  unfold wb_M_same_24 at H
  refine wp_iload rfl rfl ?_
  refine wp_aload_n rfl rfl ?_
  obtain ⟨g24, g25, H⟩ := H
  refine wp_getR rfl rfl g24 g25 ?_
  refine wp_iload_n rfl rfl ?_
  obtain ⟨g23, H⟩ := H
  refine wp_iald rfl g23 ?_
  refine wp_icmp_ge rfl (lo1 := [none, none, none, some (.int l3), none]) (lo2 := [some (.ref l0), some (.int l1), some (.int l2), some (.int l3), some (.int l4)]) rfl rfl (fun q22 => ?_) (fun q22 => ?_)
  · have H := H.1 q22
    refine wp_iload_n rfl rfl ?_
    exact wp_zret rfl rfl H.1 H.2
  · have H := H.2 q22
    refine wp_iload_n rfl rfl ?_
    refine wp_if_eq rfl (lo1 := [none, none, none, some (.int l3), none]) (lo2 := [some (.ref l0), some (.int l1), some (.int l2), some (.int l3), some (.int l4)]) rfl rfl (fun q21 => ?_) (fun q21 => ?_)
    · have H := H.1 q21
      refine wp_iload_n rfl rfl ?_
      exact wp_zret rfl rfl H.1 H.2
    · have H := H.2 q21
      refine wp_aload_n rfl rfl ?_
      obtain ⟨g19, g20, H⟩ := H
      refine wp_getR rfl rfl g19 g20 ?_
      refine wp_aload_n rfl rfl ?_
      obtain ⟨g17, g18, H⟩ := H
      refine wp_getR rfl rfl g17 g18 ?_
      refine wp_iload_n rfl rfl ?_
      obtain ⟨g16, H⟩ := H
      refine wp_iald rfl g16 ?_
      refine wp_iload rfl rfl ?_
      refine wp_iadd rfl ?_
      obtain ⟨g15, H⟩ := H
      refine wp_iald rfl g15 ?_
      refine wp_aload_n rfl rfl ?_
      obtain ⟨g13, g14, H⟩ := H
      refine wp_getR rfl rfl g13 g14 ?_
      refine wp_aload_n rfl rfl ?_
      obtain ⟨g11, g12, H⟩ := H
      refine wp_getR rfl rfl g11 g12 ?_
      refine wp_iload_n rfl rfl ?_
      obtain ⟨g10, H⟩ := H
      refine wp_iald rfl g10 ?_
      refine wp_iload rfl rfl ?_
      refine wp_iadd rfl ?_
      obtain ⟨g9, H⟩ := H
      refine wp_iald rfl g9 ?_
      refine wp_icmp_ne rfl (lo1 := [some (.ref l0), some (.int l1), some (.int l2), some (.int l3), some (.int l4)]) (lo2 := [some (.ref l0), some (.int l1), some (.int l2), some (.int l3), some (.int l4)]) rfl rfl (fun q8 => ?_) (fun q8 => ?_)
      · have H := H.1 q8
        refine wp_iconstk (lo' := [some (.ref l0), some (.int l1), some (.int l2), none, some (.int l4)]) rfl rfl ?_
        refine wp_istore_n rfl rfl (lo' := [some (.ref l0), some (.int l1), some (.int l2), some (.int (0 : Int32)), some (.int l4)]) rfl ?_
        refine wp_iinc rfl rfl rfl (lo' := [some (.ref l0), some (.int l1), some (.int l2), some (.int (0 : Int32)), some (.int (l4 + (1 : Int32)))]) rfl ?_
        refine wp_goto rfl (lo' := [some (.ref l0), some (.int l1), some (.int l2), some (.int (0 : Int32)), some (.int (l4 + (1 : Int32)))]) rfl ?_
        exact H
      · have H := H.2 q8
        refine wp_iconst rfl ?_
        refine wp_goto rfl (lo' := [some (.ref l0), some (.int l1), some (.int l2), none, some (.int l4)]) rfl ?_
        refine wp_istore_n rfl rfl (lo' := [some (.ref l0), some (.int l1), some (.int l2), some (.int (1 : Int32)), some (.int l4)]) rfl ?_
        refine wp_iinc rfl rfl rfl (lo' := [some (.ref l0), some (.int l1), some (.int l2), some (.int (1 : Int32)), some (.int (l4 + (1 : Int32)))]) rfl ?_
        refine wp_goto rfl (lo' := [some (.ref l0), some (.int l1), some (.int l2), some (.int (1 : Int32)), some (.int (l4 + (1 : Int32)))]) rfl ?_
        exact H
def wq_M_same (p0 : Nat) (p1 : Int32) (p2 : Int32) (h : HP) (K : Int32 → HP → Prop) : Prop :=
  isO h p0 10 ∧ 0 < gR h p0 5 ∧ isL h (gR h p0 5) 100 p1 ∧ isO h p0 10 ∧ 0 < gR h p0 5 ∧ isL h (gR h p0 5) 100 p2 ∧ (¬ gI h (gR h p0 5) p1.toNatClampNeg = gI h (gR h p0 5) p2.toNatClampNeg → Wp k_M_same 24 [some (.ref p0), some (.int p1), some (.int p2), some (.int (0 : Int32)), some (.int (0 : Int32))] [] h (0, 0) (QI K)) ∧ (gI h (gR h p0 5) p1.toNatClampNeg = gI h (gR h p0 5) p2.toNatClampNeg → Wp k_M_same 24 [some (.ref p0), some (.int p1), some (.int p2), some (.int (1 : Int32)), some (.int (0 : Int32))] [] h (0, 0) (QI K))
theorem wq_M_same_ok {p0 : Nat} {p1 : Int32} {p2 : Int32} {h : HP} {K : Int32 → HP → Prop} (H : wq_M_same p0 p1 p2 h K) : Wp k_M_same 0 [some (.ref p0), some (.int p1), some (.int p2), none, none] [] h (0, 0) (QI K) := by
  unfold wq_M_same at H
  refine wp_aload_n rfl rfl ?_
  obtain ⟨g6, g7, H⟩ := H
  refine wp_getR rfl rfl g6 g7 ?_
  refine wp_iload_n rfl rfl ?_
  obtain ⟨g5, H⟩ := H
  refine wp_iald rfl g5 ?_
  refine wp_aload_n rfl rfl ?_
  obtain ⟨g3, g4, H⟩ := H
  refine wp_getR rfl rfl g3 g4 ?_
  refine wp_iload_n rfl rfl ?_
  obtain ⟨g2, H⟩ := H
  refine wp_iald rfl g2 ?_
  refine wp_icmp_ne rfl (lo1 := [some (.ref p0), some (.int p1), some (.int p2), none, none]) (lo2 := [some (.ref p0), some (.int p1), some (.int p2), none, none]) rfl rfl (fun q1 => ?_) (fun q1 => ?_)
  · have H := H.1 q1
    refine wp_iconstk (lo' := [some (.ref p0), some (.int p1), some (.int p2), none, none]) rfl rfl ?_
    refine wp_istore_n rfl rfl (lo' := [some (.ref p0), some (.int p1), some (.int p2), some (.int (0 : Int32)), none]) rfl ?_
    refine wp_iconst rfl ?_
    refine wp_istore rfl rfl (lo' := [some (.ref p0), some (.int p1), some (.int p2), some (.int (0 : Int32)), some (.int (0 : Int32))]) rfl ?_
    exact H
  · have H := H.2 q1
    refine wp_iconst rfl ?_
    refine wp_goto rfl (lo' := [some (.ref p0), some (.int p1), some (.int p2), none, none]) rfl ?_
    refine wp_istore_n rfl rfl (lo' := [some (.ref p0), some (.int p1), some (.int p2), some (.int (1 : Int32)), none]) rfl ?_
    refine wp_iconst rfl ?_
    refine wp_istore rfl rfl (lo' := [some (.ref p0), some (.int p1), some (.int p2), some (.int (1 : Int32)), some (.int (0 : Int32))]) rfl ?_
    exact H
def wb_M_word_3 (l0 : Nat) (l1 : Int32) (l2 : Int32) (l3 : Int32) (l4 : Int32) (h : HP) (K : HP → Prop) : Prop :=
  (l3 ≤ l4 → isO h l0 10 ∧ 0 < gR h l0 11 ∧ isA h (gR h l0 11) 100 l1 ∧ (∀ h1 : HP, h1 = stI h (gR h l0 11) l1.toNatClampNeg l3 → K h1)) ∧ (¬ l3 ≤ l4 → isO h l0 10 ∧ 0 < gR h l0 10 ∧ isO h l0 10 ∧ 0 < gR h l0 1 ∧ isL h (gR h l0 1) 100 (l2 + l4) ∧ isA h (gR h l0 10) 100 (((8 : Int32) * l1) + l4) ∧ (∀ h6 : HP, h6 = stI h (gR h l0 10) (((8 : Int32) * l1) + l4).toNatClampNeg (gI h (gR h l0 1) (l2 + l4).toNatClampNeg) → Wp k_M_word 3 [some (.ref l0), some (.int l1), some (.int l2), some (.int l3), some (.int (l4 + (1 : Int32)))] [] h6 (0, 0) (QV K)))
theorem wb_M_word_3_ok {l0 : Nat} {l1 : Int32} {l2 : Int32} {l3 : Int32} {l4 : Int32} {h : HP} {K : HP → Prop} (H : wb_M_word_3 l0 l1 l2 l3 l4 h K) : Wp k_M_word 3 [some (.ref l0), some (.int l1), some (.int l2), some (.int l3), some (.int l4)] [] h (0, 0) (QV K) := by
  unfold wb_M_word_3 at H
  refine wp_iload rfl rfl ?_
  refine wp_iload_n rfl rfl ?_
  refine wp_icmp_ge rfl (lo1 := [some (.ref l0), some (.int l1), some (.int l2), some (.int l3), some (.int l4)]) (lo2 := [some (.ref l0), some (.int l1), some (.int l2), some (.int l3), some (.int l4)]) rfl rfl (fun q14 => ?_) (fun q14 => ?_)
  · have H := H.1 q14
    refine wp_aload_n rfl rfl ?_
    obtain ⟨g4, g5, H⟩ := H
    refine wp_getR rfl rfl g4 g5 ?_
    refine wp_iload_n rfl rfl ?_
    refine wp_iload_n rfl rfl ?_
    obtain ⟨g2, H⟩ := H
    obtain ⟨h1, e3⟩ : ∃ z : HP, z = stI h (gR h l0 11) l1.toNatClampNeg l3 := ⟨_, rfl⟩
    have H := H h1 e3
    refine wp_iast rfl g2 e3 ?_
    exact wp_vret rfl rfl H
  · have H := H.2 q14
    refine wp_aload_n rfl rfl ?_
    obtain ⟨g12, g13, H⟩ := H
    refine wp_getR rfl rfl g12 g13 ?_
    refine wp_bipush rfl ?_
    refine wp_iload_n rfl rfl ?_
    refine wp_imul rfl ?_
    refine wp_iload rfl rfl ?_
    refine wp_iadd rfl ?_
    refine wp_aload_n rfl rfl ?_
    obtain ⟨g10, g11, H⟩ := H
    refine wp_getR rfl rfl g10 g11 ?_
    refine wp_iload_n rfl rfl ?_
    refine wp_iload rfl rfl ?_
    refine wp_iadd rfl ?_
    obtain ⟨g9, H⟩ := H
    refine wp_iald rfl g9 ?_
    obtain ⟨g7, H⟩ := H
    obtain ⟨h6, e8⟩ : ∃ z : HP, z = stI h (gR h l0 10) (((8 : Int32) * l1) + l4).toNatClampNeg (gI h (gR h l0 1) (l2 + l4).toNatClampNeg) := ⟨_, rfl⟩
    have H := H h6 e8
    refine wp_iast rfl g7 e8 ?_
    refine wp_iinc rfl rfl rfl (lo' := [some (.ref l0), some (.int l1), some (.int l2), some (.int l3), some (.int (l4 + (1 : Int32)))]) rfl ?_
    refine wp_goto rfl (lo' := [some (.ref l0), some (.int l1), some (.int l2), some (.int l3), some (.int (l4 + (1 : Int32)))]) rfl ?_
    exact H
def wq_M_word (p0 : Nat) (p1 : Int32) (p2 : Int32) (p3 : Int32) (h : HP) (K : HP → Prop) : Prop :=
  Wp k_M_word 3 [some (.ref p0), some (.int p1), some (.int p2), some (.int p3), some (.int (0 : Int32))] [] h (0, 0) (QV K)
theorem wq_M_word_ok {p0 : Nat} {p1 : Int32} {p2 : Int32} {p3 : Int32} {h : HP} {K : HP → Prop} (H : wq_M_word p0 p1 p2 p3 h K) : Wp k_M_word 0 [some (.ref p0), some (.int p1), some (.int p2), some (.int p3), none] [] h (0, 0) (QV K) := by
  unfold wq_M_word at H
  refine wp_iconst rfl ?_
  refine wp_istore rfl rfl (lo' := [some (.ref p0), some (.int p1), some (.int p2), some (.int p3), some (.int (0 : Int32))]) rfl ?_
  exact H
