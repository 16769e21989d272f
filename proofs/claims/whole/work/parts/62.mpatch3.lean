/-! digits of marks -/
theorem mk_2 {g : Nat → Nat} {p : Nat} (h : mkM g p = 2) : isD (g (p + 1)) = true := by
  unfold mkM at h
  repeat' split at h
  all_goals first | assumption | (exact absurd h (by decide))
theorem mk_3 {g : Nat → Nat} {p : Nat} (h : mkM g p = 3) : isD (g (p + 2)) = true := by
  unfold mkM at h
  repeat' split at h
  all_goals first | (rename_i q; exact q.1) | (exact absurd h (by decide))
theorem mk_4 {g : Nat → Nat} {p : Nat} (h : mkM g p = 4) : isD (g (p + 1)) = true := by
  unfold mkM at h
  repeat' split at h
  all_goals first | assumption | (exact absurd h (by decide))
theorem kd_mk {g : Nat → Nat} {p : Nat} (h : 2 ≤ kdM g p ∧ kdM g p ≤ 4) : isLt (g p) = false ∧ isD (g p) = false ∧ ¬ g p = 32 ∧ mkM g p = kdM g p := by
  unfold kdM at *
  have := mkM_cases g p
  by_cases a : isLt (g p) = true
  · simp only [a, if_true] at h; omega
  · by_cases b : isD (g p) = true
    · simp only [a, b, if_true] at h; simp at h
    · by_cases c : g p = 32
      · simp only [c] at h a b; simp [isLt, isD] at h
      · simp only [Bool.not_eq_true] at a b
        simp only [a, b, c, if_false, Bool.false_eq_true] at h ⊢
        by_cases d : mkM g p = 9
        · simp [d] at h
        · simp [d]
theorem atM_D {f : Nat → Nat} {e q : Nat} (h : isD (atM f e q) = true) : isD (f q) = true := by
  unfold atM at h
  split at h
  · exact h
  · exact absurd h (by decide)
theorem pc_Dg {f : Nat → Nat} {pt e p : Nat} : DgP f (kdM (atM f e) p, p, nxM (atM f e) pt e p - p) := by
  intro hm
  have hk : 2 ≤ kdM (atM f e) p ∧ kdM (atM f e) p ≤ 4 := by
    unfold isMk at hm
    rw [Bool.and_eq_true] at hm
    exact ⟨of_decide_eq_true hm.1, of_decide_eq_true hm.2⟩
  obtain ⟨a, b, c, d⟩ := kd_mk hk
  have hd : ∀ k, kdM (atM f e) p = k → mkM (atM f e) p = k := fun k q => d.trans q
  have nx : nxM (atM f e) pt e p = if mkM (atM f e) p = 2 then p + 3 else p + 4 := by
    unfold nxM
    simp only [a, b, c, if_false, Bool.false_eq_true]
    rw [if_neg (by omega)]
  unfold dgA
  simp only
  rcases (by omega : kdM (atM f e) p = 2 ∨ kdM (atM f e) p = 3 ∨ kdM (atM f e) p = 4) with q | q | q
  · rw [if_neg (by omega)]
    rw [if_pos (hd 2 q)] at nx
    exact ⟨atM_D (mk_2 (hd 2 q)), by omega⟩
  · rw [if_pos q]
    have := hd 3 q
    rw [if_neg (by omega)] at nx
    exact ⟨atM_D (mk_3 this), by omega⟩
  · rw [if_neg (by omega)]
    have := hd 4 q
    rw [if_neg (by omega)] at nx
    exact ⟨atM_D (mk_4 this), by omega⟩
theorem pcs_Dg {f : Nat → Nat} {pt e : Nat} {bl : Bool} : ∀ (k p : Nat), ∀ x ∈ pcs (atM f e) pt e bl k p, DgP f x
  | 0, p => by intro x hx; exact absurd hx (by simp [pcs])
  | k + 1, p => by
    intro x hx
    have ih := pcs_Dg (f := f) (pt := pt) (e := e) (bl := bl) k (nxM (atM f e) pt e p)
    unfold pcs at hx
    split at hx
    · split at hx
      · exact ih x hx
      · rcases List.mem_cons.mp hx with q | q
        · rw [q]; exact pc_Dg
        · exact ih x q
    · exact absurd hx (by simp)
theorem lkL_k {f : Nat → Nat} : ∀ {LA LB : PcL}, liF f LA LB = true → ∀ i (hi : i < LA.length) (hj : i < LB.length), LA[i].1 = LB[i].1
  | [], _, _, i, hi, _ => absurd hi (by simp)
  | _ :: _, [], _, i, _, hj => absurd hj (by simp)
  | x :: l, y :: m, h, i, hi, hj => by
    rw [liF, Bool.and_eq_true] at h
    cases i with
    | zero =>
      have := h.1
      unfold lkP1 at this
      rw [Bool.and_eq_true, Bool.and_eq_true] at this
      exact of_decide_eq_true this.1.1
    | succ i => exact lkL_k h.2 i (by simpa using hi) (by simpa using hj)
section MP3
variable {h0 : HP} {f g : Nat → Nat} {LA LB : PcL} {K : Int32 → HP → Prop}
theorem m_patches_130 {j n : Nat} {c : Nat × Nat × Nat} {o0 : List Nat} {sv : Nat → Bool} (B0 : MBy h0 f) (G0 : GtO h0 g) (RC : PE h0 j c) (hc : DgP f c) (hl6 : c.2.2 ≤ 600) (H0 : mkB f g c c.2.2 0 = none → ∀ h' o', Pst h0 h' n o' sv → K (nI 0) h') (H1 : ∀ l, mkB f g c c.2.2 0 = some l → ∀ h', Pst h0 h' n (o0 ++ l) sv → K (nI 1) h') :
    ∀ (r k : Nat) (o : List Nat) (h : HP), k + r = c.2.2 → o.length + r < 900000 → Pst h0 h n o sv → (mkB f g c r k).map (fun l => o ++ l) = (mkB f g c c.2.2 0).map (fun l => o0 ++ l) → Wp k_M_patches 130 [some (.ref 338), some (.int (nI j)), some (.int (nI k)), none, none] [] h (0, 0) (QI K)
  | 0, k, o, h, h1, hl, S, e => wb_M_patches_130_ok (by
      have hM := (Pst_B S B0).1
      obtain ⟨r1, ⟨r2, r3, r4⟩, r5, r6⟩ := RC
      have s43 : gI h 343 = gI h0 343 := S.2.1 343 (by decide) (by decide) (by decide)
      unfold wb_M_patches_130
      simp (disch := omega) only [i0, i1, nLit, mul_I, add_I, nI_cl, isO_stI, isA_stI, isL_stI, gR_stI, gJ_stI, gK_stI, gL_stI, gS_stI, true_and, and_true, forall_eq, implies_true, ps_339, MSh_o hM, mR_many hM, mL_many hM, mA_many hM, s43, r4, le_I]
      refine ⟨fun _ => ?_, fun z => absurd (by omega) z⟩
      rw [mkB, Option.map_some, List.append_nil] at e
      cases e2 : mkB f g c c.2.2 0 with
      | none => rw [e2] at e; cases e
      | some l =>
        rw [e2, Option.map_some] at e
        injection e with e
        exact H1 l e2 h (by rw [← e]; exact S))
  | r + 1, k, o, h, h1, hl, S, e => wb_M_patches_130_ok (by
      have B := Pst_B S B0
      have G := Pst_G S G0
      have hM := B.1
      obtain ⟨r1, ⟨r2, r3, r4⟩, r5, r6⟩ := id RC
      have s41 : gI h 341 = gI h0 341 := S.2.1 341 (by decide) (by decide) (by decide)
      have s42 : gI h 342 = gI h0 342 := S.2.1 342 (by decide) (by decide) (by decide)
      have s43 : gI h 343 = gI h0 343 := S.2.1 343 (by decide) (by decide) (by decide)
      have b1 := B.2.2 (c.2.1 + k)
      have b2 := B.2.2 (dgA c)
      have lay : ∀ d, (mkB f g c (r + 1) k).map (fun l => o ++ l) = (mkB f g c r (k + 1)).map (fun l => (o ++ [d]) ++ l) → wq_M_lay 338 (nI d) h (fun h43 => Wp k_M_patches 130 [some (.ref 338), some (.int (nI j)), some (.int (nI (k + 1))), none, none] [] h43 (0, 0) (QI K)) := fun d hd => by
        refine m_lay B0.1 S (by omega) (fun h' S' => m_patches_130 B0 G0 RC hc hl6 H0 H1 r (k + 1) _ h' (by omega) (by rw [List.length_append, List.length_singleton]; omega) S' ?_)
        rw [← hd, e]
      have pl : ¬ (isMk c = true ∧ c.2.1 + k = dgA c) → wb_M_patches_195 338 (nI j) (nI k) (nI (f (c.2.1 + k))) h K := fun hn => by
        unfold wb_M_patches_195
        refine ⟨fun _ => ⟨MSh_o hM, ?_⟩, fun z => ?_⟩
        · rw [i1, add_I]
          refine lay _ ?_
          rw [mkB, if_neg hn, Option.map_map]
          congr 1
          funext l
          simp
        · have q : (0 : Int32) ≤ nI (f (c.2.1 + k)) := nI_pos' (by omega)
          rw [show nI (f (c.2.1 + k)) = -nI 1 from z] at q
          exact absurd q (by decide)
      unfold wb_M_patches_130
      simp (disch := omega) only [i0, i1, nLit, mul_I, add_I, nI_cl, isO_stI, isA_stI, isL_stI, gR_stI, gJ_stI, gK_stI, gL_stI, gS_stI, true_and, and_true, forall_eq, implies_true, ps_339, MSh_o hM, mR_many hM, mL_many hM, mA_many hM, mR_from hM, mL_from hM, mA_from hM, mR_bytes hM, mL_bytes hM, mA_bytes hM, mR_kind hM, mL_kind hM, mA_kind hM, s41, s42, s43, r2, r3, r4, B.2.1, le_I]
      refine ⟨fun z => absurd z (by omega), fun _ => m_isMark r5 ?_⟩
      have em : (decide (2 ≤ c.1) && decide (c.1 ≤ 4)) = isMk c := rfl
      rw [em, b2I_eq0]
      simp only [Bool.not_eq_false]
      refine ⟨fun cm => pl (fun z => by rw [cm] at z; exact absurd z.1 (by decide)), fun cm => ?_⟩
      have dx := hc cm
      have d1 := isD_r dx.1
      simp (disch := omega) only [i0, i1, nLit, mul_I, add_I, nI_cl, isO_stI, isA_stI, isL_stI, gR_stI, gJ_stI, gK_stI, gL_stI, gS_stI, true_and, and_true, forall_eq, implies_true, ps_339, MSh_o hM, mR_from hM, mL_from hM, mA_from hM, s42, r3]
      refine m_digitAt hM r1 (by rw [s41]; exact r2) (by rw [s42]; exact r3) r5 ?_
      have ex : c.2.1 + (if c.1 = 3 then 2 else 1) = dgA c := rfl
      rw [ex, eq_I (by omega) (by omega)]
      refine ⟨fun cn => pl (fun z => cn z.2), fun cn => ?_⟩
      rw [cn]
      have gd := G (f (dgA c) - 48) (by omega)
      simp (disch := omega) only [i0, i1, nLit, mul_I, add_I, nI_cl, isO_stI, isA_stI, isL_stI, gR_stI, gJ_stI, gK_stI, gL_stI, gS_stI, true_and, and_true, forall_eq, implies_true, ps_339, MSh_o hM, mR_goesTo hM, mL_goesTo hM, mA_goesTo hM, sub_I, gd.1]
      unfold wb_M_patches_195
      have e1 : (mI (g (f (dgA c) - 48)) = (-1 : Int32)) = (g (f (dgA c) - 48) = 0) := mI_m1 gd.2
      rw [e1]
      refine ⟨fun c0 => ⟨MSh_o hM, ?_⟩, fun c0 => ?_⟩
      · rw [mI, if_neg c0, i1, add_I]
        refine lay _ ?_
        rw [mkB, if_pos ⟨cm, cn⟩, if_neg c0, Option.map_map]
        congr 1
        funext l
        simp
      · refine H0 ?_ h o S
        rw [mkB, if_pos ⟨cm, cn⟩, if_pos c0, Option.map_none] at e
        cases e2 : mkB f g c c.2.2 0 with
        | none => rfl
        | some l => rw [e2] at e; cases e)
theorem m_patches {j : Nat} {c : Nat × Nat × Nat} {o : List Nat} {sv : Nat → Bool} {h : HP} (B0 : MBy h0 f) (G0 : GtO h0 g) (PA : PlR h0 0 LA) (PB : PlR h0 1 LB) (RC : PE h0 j c) (hc : DgP f c) (hl6 : c.2.2 ≤ 600) (WA : ∀ x ∈ LA, WfP x) (WB : ∀ x ∈ LB, WfP x) (hl : LA.length = LB.length) (hA : LA.length ≤ 20) (ho : o.length < 700000) (S : Pst h0 h LA.length o sv)
    (H0 : pt1 f g LA LB c o sv = none → ∀ h' o', Pst h0 h' LA.length o' sv → K (nI 0) h') (H1 : ∀ q, pt1 f g LA LB c o sv = some q → ∀ h', Pst h0 h' LA.length q.1 q.2 → K (nI 1) h') : wq_M_patches 338 (nI j) h K := by
  have hM := (Pst_B S B0).1
  obtain ⟨r1, ⟨r2, r3, r4⟩, r5, r6⟩ := id RC
  have s41 : gI h 341 = gI h0 341 := S.2.1 341 (by decide) (by decide) (by decide)
  unfold pt1 at H0 H1
  unfold wq_M_patches
  simp (disch := omega) only [i0, i1, nLit, mul_I, add_I, nI_cl, isO_stI, isA_stI, isL_stI, gR_stI, gJ_stI, gK_stI, gL_stI, gS_stI, true_and, and_true, forall_eq, implies_true, ps_339, MSh_o hM, mR_kind hM, mL_kind hM, mA_kind hM, s41, r2, eq_I]
  refine ⟨fun c1 => ?_, fun c1 => ?_⟩
  · rw [if_neg c1] at H0
    simp only [if_neg c1] at H1
    refine m_patches_130 (o0 := o) B0 G0 RC hc hl6 (fun e h' o' S' => H0 (by rw [e]) h' o' S') (fun l e h' S' => H1 (o ++ l, sv) (by rw [e]) h' S') _ 0 o h (Nat.zero_add _) (by omega) S rfl
  · rw [if_pos c1] at H0
    simp only [if_pos c1] at H1
    refine m_patches_12 B0 PA PB RC WA WB hl hA (by omega) S (fun e => H0 (by rw [e]) h o S) (fun a e h' S' => H1 (o ++ nmB f (LB.getD a (0, 0, 0)).2.1 (LB.getD a (0, 0, 0)).2.2 0, va_up sv a true) (by rw [e]) h' S') LA.length 0 (Nat.zero_add _) rfl
end MP3
