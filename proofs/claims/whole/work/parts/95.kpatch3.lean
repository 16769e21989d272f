/-- the class's way: pieces without blanks, what lies between is copied -/
def pkL (f g : Nat → Nat) (LA LB : PcL) (e : Nat) : PcL → Nat → List Nat → (Nat → Bool) → Option (List Nat × (Nat → Bool))
  | [], d, o, sv => some (o ++ bB f (e - d) d, sv)
  | c :: l, d, o, sv => if isMk c = true ∨ c.1 = 1 then (match pt1 f g LA LB c (o ++ bB f (c.2.1 - d) d) sv with
    | none => none
    | some q => pkL f g LA LB e l (c.2.1 + c.2.2) q.1 q.2) else pkL f g LA LB e l d o sv
section KP3
variable {h0 : HP} {A : Nat} {f g : Nat → Nat}
variable {a N t A1 o1 n1 a' N' t' A2 o2 n2 c0 N0 t0 A0 o0 n0 : Nat} {LA LB LC : PcL}
theorem k_copyNumber {K : HP → Prop} {sv : Nat → Bool} {k : Nat} {y : Nat × Nat × Nat} (KS0 : KSh h0) (S0 : OuS h0 A) (R0 : RwT h0 a' N' t' A2 f o2 n2 LB) (F : PtF A a' t' A2) (E0 : KE h0 a' N' o2 n2 f k y) : ∀ (r j : Nat) (o : List Nat) (h : HP), j + r = y.2.2 → PtK h0 h A o sv g → (∀ h', PtK h0 h' A (o ++ nmB f y.2.1 r j) sv g → K h') → Wp k_Patch_copyNumber 2 [some (.ref 319), some (.ref a'), some (.int (nI k)), some (.int (nI j))] [] h (0, 0) (QV K)
  | 0, j, o, h, h1, P, H => wb_Patch_copyNumber_2_ok (by
      have G := PtK_y P
      have R := PtF_R F G R0
      have s1 := R.1
      have hN' := s1.2.2.2.2.2
      have tn := tx_n R.2.2.2.2.1
      obtain ⟨d1, ⟨d2, d3, d4⟩, d5, d6⟩ := E0
      have e4 : gI h (a' + 3) k = nI y.2.2 := by rw [P.2.1 (a' + 3) (fun z => (F _ z).2.2.2.1 rfl)]; exact d4
      unfold wb_Patch_copyNumber_2
      simp (disch := omega) only [i0, i1, nLit, mul_I, add_I, nI_cl, isO_stI, isA_stI, isL_stI, gR_stI, gJ_stI, gK_stI, gL_stI, gS_stI, true_and, and_true, forall_eq, implies_true, ps_339, rS_o s1, rS_0 s1, rS_1 s1, rS_2 s1, rS_l0 s1, rS_l1 s1, rS_l2 s1, e4, le_I]
      refine ⟨fun _ => H h ?_, fun z => absurd (by omega) z⟩
      rw [nmB, List.append_nil]
      exact P)
  | r + 1, j, o, h, h1, P, H => wb_Patch_copyNumber_2_ok (by
      have G := PtK_y P
      have KS := KSh_y G (fun _ _ z => z.elim) KS0
      have R := PtF_R F G R0
      have s1 := R.1
      have hN' := s1.2.2.2.2.2
      have T := R.2.2.2.2.1
      have tn := tx_n T
      obtain ⟨d1, ⟨d2, d3, d4⟩, d5, d6⟩ := id E0
      have e4 : gI h (a' + 3) k = nI y.2.2 := by rw [P.2.1 (a' + 3) (fun z => (F _ z).2.2.2.1 rfl)]; exact d4
      have e3 : gI h (a' + 2) k = nI (y.2.1 - o2) := by rw [P.2.1 (a' + 2) (fun z => (F _ z).2.2.1 rfl)]; exact d3
      have fb := T.2.2.2.2.2.2
      have go : ∀ v, v = ptB (f (y.2.1 + j)) → isO h 320 7 ∧ wq_Text_put 320 (nI v) h (fun h5 => Wp k_Patch_copyNumber 2 [some (.ref 319), some (.ref a'), some (.int (nI k)), some (.int (nI (j + 1)))] [] h5 (0, 0) (QV K)) := fun v hv => ⟨(OuS_2 P.1 S0).1, k_putO S0 P (by rw [hv]; exact ptB_lt (fb _)) (sgB_nar _) (fun h2 P2 => k_copyNumber KS0 S0 R0 F E0 r (j + 1) _ h2 (by omega) P2 (fun h' P' => H h' (by rw [nmB, ← hv]; rw [List.append_assoc] at P'; exact P')))⟩
      unfold wb_Patch_copyNumber_2
      simp (disch := omega) only [i0, i1, nLit, mul_I, add_I, nI_cl, isO_stI, isA_stI, isL_stI, gR_stI, gJ_stI, gK_stI, gL_stI, gS_stI, true_and, and_true, forall_eq, implies_true, ps_339, rS_o s1, rS_0 s1, rS_1 s1, rS_2 s1, rS_l0 s1, rS_l1 s1, rS_l2 s1, kO_319 KS, kR_319_0 KS, e4, e3, R.2.2.1, tx_o T, le_I]
      refine ⟨fun z => absurd z (by omega), fun _ => ⟨R.2.2.2.1, k_atN T (by omega) ?_⟩⟩
      rw [show o2 + (y.2.1 - o2 + j) = y.2.1 + j by omega]
      unfold wq_Patch_inRendering
      have b3 := fb (y.2.1 + j)
      have e46 : (nI (f (y.2.1 + j)) = (46 : Int32)) = (f (y.2.1 + j) = 46) := propext (eq_I (by omega) (by decide))
      rw [e46]
      exact ⟨fun q => go _ (by rw [ptB, if_neg q]), fun q => go 44 (by rw [ptB, if_pos q])⟩)
theorem KE_pt {h : HP} {i : Nat} {x : Nat × Nat × Nat} (F : PtF A a t A1) (g0 : ∀ b, ¬ XPt A b → gI h b = gI h0 b) (E : KE h0 a N o1 n1 f i x) : KE h a N o1 n1 f i x := by
  obtain ⟨d1, ⟨d2, d3, d4⟩, d5, d6⟩ := E
  exact ⟨d1, ⟨by rw [g0 (a + 1) (fun z => (F _ z).2.1 rfl)]; exact d2, by rw [g0 (a + 2) (fun z => (F _ z).2.2.1 rfl)]; exact d3, by rw [g0 (a + 3) (fun z => (F _ z).2.2.2.1 rfl)]; exact d4⟩, d5, d6⟩
theorem k_putNumber {K : Int32 → HP → Prop} {sv : Nat → Bool} {o : List Nat} {h : HP} {i : Nat} {c : Nat × Nat × Nat} (KS0 : KSh h0) (S0 : OuS h0 A) (RC0 : RwT h0 c0 N0 t0 A0 f o0 n0 LC) (RA0 : RwT h0 a N t A1 f o1 n1 LA) (RB0 : RwT h0 a' N' t' A2 f o2 n2 LB) (FC : PtF A c0 t0 A0) (FA : PtF A a t A1) (FB : PtF A a' t' A2) (E0 : KE h0 c0 N0 o0 n0 f i c) (hc : c.1 = 1) (hl : LA.length = LB.length) (hA : LA.length ≤ 20) (P : PtK h0 h A o sv g) (H0 : srv f LA sv c LA.length 0 = none → K (nI 0) h) (H1 : ∀ b, srv f LA sv c LA.length 0 = some b → ∀ h', PtK h0 h' A (o ++ nmB f (LB.getD b (0, 0, 0)).2.1 (LB.getD b (0, 0, 0)).2.2 0) (va_up sv b true) g → K (nI 1) h') : ∀ (r k : Nat), k + r = LA.length → srv f LA sv c r k = srv f LA sv c LA.length 0 → Wp k_Patch_putNumber 3 [some (.ref 319), some (.ref c0), some (.int (nI i)), some (.ref a), some (.ref a'), some (.int (nI k))] [] h (0, 0) (QI K)
  | 0, k, h1, e => wb_Patch_putNumber_3_ok (by
      have R := PtF_R FA (PtK_y P) RA0
      have r1 := R.1
      unfold wb_Patch_putNumber_3
      simp (disch := omega) only [i0, i1, nLit, mul_I, add_I, nI_cl, isO_stI, isA_stI, isL_stI, gR_stI, gJ_stI, gK_stI, gL_stI, gS_stI, true_and, and_true, forall_eq, implies_true, ps_339, rS_o r1, R.2.1.1, le_I]
      exact ⟨fun _ => H0 e.symm, fun z => absurd (by omega) z⟩)
  | r + 1, k, h1, e => wb_Patch_putNumber_3_ok (by
      have G := PtK_y P
      have KS := KSh_y G (fun _ _ z => z.elim) KS0
      have R := PtF_R FA G RA0
      have RC := PtF_R FC G RC0
      have r1 := R.1
      have hN := r1.2.2.2.2.2
      have hk : k < LA.length := by omega
      have E := RwT_E R hk
      have EC := KE_pt FC P.2.1 E0
      obtain ⟨e1, ⟨e2, e3, e4⟩, e5, e6⟩ := id E
      have nxt : ¬ (sv k = false ∧ rdN f (LA.getD k (0, 0, 0)) c = true) → Wp k_Patch_putNumber 3 [some (.ref 319), some (.ref c0), some (.int (nI i)), some (.ref a), some (.ref a'), some (.int (nI (k + 1)))] [] h (0, 0) (QI K) := fun hn => by
        refine k_putNumber KS0 S0 RC0 RA0 RB0 FC FA FB E0 hc hl hA P H0 H1 r (k + 1) (by omega) ?_
        rw [← e]
        show _ = if _ then _ else _
        rw [if_neg hn]
      unfold wb_Patch_putNumber_3
      simp (disch := omega) only [i0, i1, nLit, mul_I, add_I, nI_cl, isO_stI, isA_stI, isL_stI, gR_stI, gJ_stI, gK_stI, gL_stI, gS_stI, true_and, and_true, forall_eq, implies_true, ps_339, rS_o r1, rS_0 r1, rS_1 r1, rS_2 r1, rS_l0 r1, rS_l1 r1, rS_l2 r1, kO_319 KS, kR_319_2 KS, kA_323 KS, kL_323 KS, R.2.1.1, e2, le_I, eq_I, P.2.2.2.1 k (by omega), b2I_eq0, Bool.not_eq_false]
      refine ⟨fun z => absurd z (by omega), fun _ => ⟨fun q1 => nxt (fun z => ?_), fun q1 => ⟨fun q2 => nxt (fun z => by rw [q2] at z; exact absurd z.1 (by decide)), fun q2 => k_readsSame RC R EC E ?_⟩⟩⟩
      · have := z.2
        rw [getD_at hk] at this
        unfold rdN at this
        simp [q1] at this
      · have er : (decide (LA[k].2.2 = c.2.2) && rdF f LA[k].2.1 c.2.1 c.2.2 0) = rdN f (LA.getD k (0, 0, 0)) c := by
          rw [getD_at hk]
          unfold rdN
          rw [decide_eq_true q1, Bool.true_and]
        rw [er]
        simp only [b2I_eq0, Bool.not_eq_false]
        refine ⟨fun q3 => nxt (fun z => by rw [q3] at z; exact absurd z.2 (by decide)), fun q3 => ?_⟩
        simp (disch := omega) only [i0, i1, nLit, mul_I, add_I, nI_cl, isO_stI, isA_stI, isL_stI, gR_stI, gJ_stI, gK_stI, gL_stI, gS_stI, true_and, and_true, forall_eq, implies_true, ps_339, kO_319 KS, kR_319_2 KS, kA_323 KS, kL_323 KS]
        have hb : k < LB.length := by omega
        have P2 : PtK h0 (stI h 323 k (narB 102 (nI 1))) A o (va_up sv k true) g := by
          obtain ⟨p1, p2, ⟨p3, p4, p5⟩, p6, p7⟩ := P
          have sA := S0.2.2.2.2.2.2
          refine ⟨p1, fun b hb => by rw [gI_stI_o _ _ _ _ (fun z => hb (Or.inr (Or.inr (Or.inr z))))]; exact p2 b hb, ⟨by rw [gI_stI_o _ _ _ _ (by decide)]; exact p3, fun i x hi hx => by rw [gI_stI_o _ _ _ _ sA]; exact p4 i x hi hx, p5⟩, fun i hi => ?_, fun d hd => by rw [gI_stI_o _ _ _ _ (by decide)]; exact p7 d hd⟩
          rw [gI_stI, va_up_at]
          by_cases z : i = k
          · rw [if_pos ⟨rfl, z⟩, if_pos z]; rfl
          · rw [if_neg (fun y => z y.2), if_neg z]; exact p6 i hi
        have EB0 := RwT_E RB0 hb
        refine k_copyNumber KS0 S0 RB0 FB EB0 _ 0 o _ (Nat.zero_add _) P2 (fun h' P' => H1 k ?_ h' ?_)
        · rw [← e]
          show (if _ then _ else _) = _
          rw [if_pos ⟨q2, q3⟩]
        · rw [getD_at hb]; exact P')
theorem k_putMark {K : Int32 → HP → Prop} {sv : Nat → Bool} {o : List Nat} {h : HP} {i : Nat} {c : Nat × Nat × Nat} (KS0 : KSh h0) (S0 : OuS h0 A) (RC0 : RwT h0 c0 N0 t0 A0 f o0 n0 LC) (FC : PtF A c0 t0 A0) (E0 : KE h0 c0 N0 o0 n0 f i c) (hm : isMk c = true) (P : PtK h0 h A o sv g) (H0 : mkB f g c c.2.2 0 = none → K (nI 0) h) (H1 : ∀ l, mkB f g c c.2.2 0 = some l → ∀ h', PtK h0 h' A (o ++ l) sv g → K (nI 1) h') : wq_Patch_putMark 319 c0 (nI i) h K := by
  have G := PtK_y P
  have KS := KSh_y G (fun _ _ z => z.elim) KS0
  have RC := PtF_R FC G RC0
  have r1 := RC.1
  have hN := r1.2.2.2.2.2
  have T0 := RC0.2.2.2.2.1
  have tn := tx_n T0
  have EC := KE_pt FC P.2.1 E0
  obtain ⟨e1, ⟨e2, e3, e4⟩, e5, e6⟩ := id EC
  have dd := e6.2.2 hm
  have d1 := isD_r dd.1
  have hle : c.2.1 ≤ dgA c := by unfold dgA; omega
  have gd := P.2.2.2.2 (f (dgA c) - 48) (by omega)
  have Ft : ∀ b, XPt A b → b ≠ t0 ∧ b ≠ A0 := fun b z => ⟨(FC b z).2.2.2.2.1, (FC b z).2.2.2.2.2⟩
  have ek := mkB_mk (f := f) (g := g) hm (r := c.2.2) (k := 0) (by omega) (by omega)
  unfold wq_Patch_putMark
  simp (disch := omega) only [i0, i1, nLit, mul_I, add_I, nI_cl, isO_stI, isA_stI, isL_stI, gR_stI, gJ_stI, gK_stI, gL_stI, gS_stI, true_and, and_true, forall_eq, implies_true, ps_339, kO_319 KS, kR_319_1 KS, rS_o r1]
  refine k_digit RC EC hm ?_
  simp (disch := omega) only [i0, i1, nLit, mul_I, add_I, nI_cl, isO_stI, isA_stI, isL_stI, gR_stI, gJ_stI, gK_stI, gL_stI, gS_stI, true_and, and_true, forall_eq, implies_true, ps_339, kA_322 KS, kL_322 KS, gd.1, dI_m1 gd.2]
  refine ⟨fun c1 => ?_, fun c1 => H0 (by rw [ek, if_pos c1])⟩
  have g9 : 48 ≤ g (f (dgA c) - 48) ∧ g (f (dgA c) - 48) ≤ 57 := by rcases gd.2 with q | q; exact absurd q c1; exact q
  rw [if_neg c1] at ek
  rw [dI, if_neg c1]
  refine ⟨r1.1, k_digitPlace r1 EC ?_⟩
  simp (disch := omega) only [i0, i1, nLit, mul_I, add_I, nI_cl, isO_stI, isA_stI, isL_stI, gR_stI, gJ_stI, gK_stI, gL_stI, gS_stI, true_and, and_true, forall_eq, implies_true, ps_339, rS_o r1, rS_0 r1, rS_1 r1, rS_2 r1, rS_l0 r1, rS_l1 r1, rS_l2 r1, kO_319 KS, RC.2.2.1, e3]
  refine ⟨RC.2.2.2.1, k_copyO KS0 S0 T0 Ft (by omega) (dgA c - c.2.1) (c.2.1 - o0) o h (Or.inl (by omega)) P (fun h2 P2 => ?_)⟩
  rw [show o0 + (c.2.1 - o0) = c.2.1 by omega] at P2
  have KS2 := KSh_y (PtK_y P2) (fun _ _ z => z.elim) KS0
  have RC2 := PtF_R FC (PtK_y P2) RC0
  simp (disch := omega) only [i0, i1, nLit, mul_I, add_I, nI_cl, isO_stI, isA_stI, isL_stI, gR_stI, gJ_stI, gK_stI, gL_stI, gS_stI, true_and, and_true, forall_eq, implies_true, ps_339, kO_319 KS2, kR_319_0 KS2]
  refine ⟨(OuS_2 P2.1 S0).1, ?_⟩
  rw [show 48 + (g (f (dgA c) - 48) - 48) = g (f (dgA c) - 48) by omega]
  refine k_putO S0 P2 (by omega) (sgB_nar _) (fun h3 P3 => ?_)
  have KS3 := KSh_y (PtK_y P3) (fun _ _ z => z.elim) KS0
  have RC3 := PtF_R FC (PtK_y P3) RC0
  have r3 := RC3.1
  have EC3 := KE_pt FC P3.2.1 E0
  obtain ⟨u1, ⟨u2, u3, u4⟩, u5, u6⟩ := id EC3
  simp (disch := omega) only [i0, i1, nLit, mul_I, add_I, nI_cl, isO_stI, isA_stI, isL_stI, gR_stI, gJ_stI, gK_stI, gL_stI, gS_stI, true_and, and_true, forall_eq, implies_true, ps_339, rS_o r3, rS_0 r3, rS_1 r3, rS_2 r3, rS_l0 r3, rS_l1 r3, rS_l2 r3, kO_319 KS3, RC3.2.2.1, u3, u4]
  refine ⟨RC3.2.2.2.1, ?_⟩
  refine k_copyO KS0 S0 T0 Ft (by omega) (c.2.1 + c.2.2 - (dgA c + 1)) (dgA c - o0 + 1) _ h3 ?_ P3 (fun h4 P4 => H1 _ ek h4 ?_)
  · by_cases z : c.2.1 + c.2.2 - (dgA c + 1) = 0
    · exact Or.inr ⟨z, by omega, by omega⟩
    · exact Or.inl (by omega)
  · rw [show o0 + (dgA c - o0 + 1) = dgA c + 1 by omega] at P4
    simp only [Nat.add_zero]
    rw [List.append_assoc, List.append_assoc, List.singleton_append] at P4
    exact P4
theorem k_haveAll {K : Int32 → HP → Prop} {sv : Nat → Bool} {h : HP} (KS : KSh h) (R : RwT h a N t A1 f o1 n1 LA) (hA : LA.length ≤ 20) (Sv : ∀ i, i < 20 → gI h 323 i = b2I (sv i)) (H : K (b2I (alS sv LA 0)) h) : ∀ (r k : Nat), k + r = LA.length → alS sv (LA.drop k) k = alS sv LA 0 → Wp k_Patch_haveAllServed 2 [some (.ref 319), some (.ref a), some (.int (nI k))] [] h (0, 0) (QI K)
  | 0, k, h1, e => wb_Patch_haveAllServed_2_ok (by
      have r1 := R.1
      rw [List.drop_of_length_le (by omega), alS] at e
      unfold wb_Patch_haveAllServed_2
      simp (disch := omega) only [i0, i1, nLit, mul_I, add_I, nI_cl, isO_stI, isA_stI, isL_stI, gR_stI, gJ_stI, gK_stI, gL_stI, gS_stI, true_and, and_true, forall_eq, implies_true, ps_339, rS_o r1, R.2.1.1, le_I]
      exact ⟨fun _ => b2_1 e.symm H, fun z => absurd (by omega) z⟩)
  | r + 1, k, h1, e => wb_Patch_haveAllServed_2_ok (by
      have r1 := R.1
      have hN := r1.2.2.2.2.2
      have hk : k < LA.length := by omega
      have E := RwT_E R hk
      obtain ⟨e1, ⟨e2, e3, e4⟩, e5, e6⟩ := id E
      rw [List.drop_eq_getElem_cons hk, alS] at e
      have go := k_haveAll KS R hA Sv H r (k + 1) (by omega)
      unfold wb_Patch_haveAllServed_2
      simp (disch := omega) only [i0, i1, nLit, mul_I, add_I, nI_cl, isO_stI, isA_stI, isL_stI, gR_stI, gJ_stI, gK_stI, gL_stI, gS_stI, true_and, and_true, forall_eq, implies_true, ps_339, rS_o r1, rS_0 r1, rS_1 r1, rS_2 r1, rS_l0 r1, rS_l1 r1, rS_l2 r1, kO_319 KS, kR_319_2 KS, kA_323 KS, kL_323 KS, R.2.1.1, e2, le_I, eq_I, Sv k (by omega), b2I_eq0, Bool.not_eq_false]
      refine ⟨fun z => absurd z (by omega), fun _ => ⟨fun q => go ?_, fun q => ⟨fun q2 => go ?_, fun q2 => b2_0 ?_ H⟩⟩⟩
      · rw [← e]; simp [q]
      · rw [← e]; simp [q2]
      · rw [← e]; simp [q, q2])
theorem k_make_lp {K : Int32 → HP → Prop} {e : Nat} (KS0 : KSh h0) (S0 : OuS h0 A) (RC0 : RwT h0 c0 N0 t0 A0 f o0 n0 LC) (RA0 : RwT h0 a N t A1 f o1 n1 LA) (RB0 : RwT h0 a' N' t' A2 f o2 n2 LB) (FC : PtF A c0 t0 A0) (FA : PtF A a t A1) (FB : PtF A a' t' A2) (hl : LA.length = LB.length) (hA : LA.length ≤ 20) (e5 : gI h0 c0 5 = nI e) (he : e ≤ n0) (hCe : ∀ x ∈ LC, x.2.1 + x.2.2 ≤ o0 + e) (G : Option (List Nat × (Nat → Bool))) (H0 : G = none → ∀ h', (∃ o sv, PtK h0 h' A o sv g) → K (nI 0) h') (H1 : ∀ q, G = some q → ∀ h', PtK h0 h' A q.1 q.2 g → K (b2I (alS q.2 LA 0)) h') : ∀ (r k d : Nat) (o : List Nat) (sv : Nat → Bool) (h : HP), k + r = LC.length → o0 ≤ d → Chn d (LC.drop k) → d ≤ o0 + e → PtK h0 h A o sv g → pkL f g LA LB (o0 + e) (LC.drop k) d o sv = G → Wp k_Patch_make 32 [some (.ref 319), some (.ref c0), some (.ref a), some (.ref a'), some (.int (nI (d - o0))), some (.int (nI k)), none] [] h (0, 0) (QI K)
  | 0, k, d, o, sv, h, h1, hd, C, hde, P, eG => wb_Patch_make_32_ok (by
      have G1 := PtK_y P
      have KS := KSh_y G1 (fun _ _ z => z.elim) KS0
      have RC := PtF_R FC G1 RC0
      have r1 := RC.1
      have hN := r1.2.2.2.2.2
      have hl6 := RC.2.2.2.2.2.1
      have T0 := RC0.2.2.2.2.1
      have tn := tx_n T0
      have c5 : gI h c0 5 = nI e := by rw [P.2.1 c0 (fun z => (FC _ z).1 rfl)]; exact e5
      have Ft : ∀ b, XPt A b → b ≠ t0 ∧ b ≠ A0 := fun b z => ⟨(FC b z).2.2.2.2.1, (FC b z).2.2.2.2.2⟩
      rw [List.drop_of_length_le (by omega), pkL] at eG
      unfold wb_Patch_make_32
      simp (disch := omega) only [i0, i1, nLit, mul_I, add_I, nI_cl, isO_stI, isA_stI, isL_stI, gR_stI, gJ_stI, gK_stI, gL_stI, gS_stI, true_and, and_true, forall_eq, implies_true, ps_339, rS_o r1, rS_0 r1, rS_1 r1, rS_2 r1, rS_l0 r1, rS_l1 r1, rS_l2 r1, kO_319 KS, RC.2.1.1, RC.2.2.1, c5, le_I]
      refine ⟨fun _ => ⟨RC.2.2.2.1, k_copyO KS0 S0 T0 Ft he (o0 + e - d) (d - o0) o h ?_ P (fun h2 P2 => ?_)⟩, fun z => absurd (by omega) z⟩
      · by_cases z : o0 + e - d = 0
        · exact Or.inr ⟨z, by omega, by omega⟩
        · exact Or.inl (by omega)
      · have KS2 := KSh_y (PtK_y P2) (fun _ _ z => z.elim) KS0
        have RA2 := PtF_R FA (PtK_y P2) RA0
        rw [show o0 + (d - o0) = d by omega] at P2
        have := H1 _ eG.symm h2 P2
        exact ⟨kO_319 KS2, k_haveAll KS2 RA2 hA P2.2.2.2.1 ⟨b2I_01 _, this⟩ LA.length 0 (by omega) rfl⟩)
  | r + 1, k, d, o, sv, h, h1, hd, C, hde, P, eG => wb_Patch_make_32_ok (by
      have G1 := PtK_y P
      have KS := KSh_y G1 (fun _ _ z => z.elim) KS0
      have RC := PtF_R FC G1 RC0
      have r1 := RC.1
      have hN := r1.2.2.2.2.2
      have hl6 := RC.2.2.2.2.2.1
      have T0 := RC0.2.2.2.2.1
      have tn := tx_n T0
      have hk : k < LC.length := by omega
      have E := RwT_E RC hk
      have E0 := RwT_E RC0 hk
      have HCE := hCe _ (List.getElem_mem hk)
      have Ft : ∀ b, XPt A b → b ≠ t0 ∧ b ≠ A0 := fun b z => ⟨(FC b z).2.2.2.2.1, (FC b z).2.2.2.2.2⟩
      rw [List.drop_eq_getElem_cons hk, pkL] at eG
      rw [List.drop_eq_getElem_cons hk] at C
      generalize LC[k] = c at *
      obtain ⟨C1, C2⟩ := C
      obtain ⟨e1, ⟨e2, e3, e4⟩, e5', e6⟩ := id E
      have skip : ¬ (isMk c = true ∨ c.1 = 1) → Wp k_Patch_make 32 [some (.ref 319), some (.ref c0), some (.ref a), some (.ref a'), some (.int (nI (d - o0))), some (.int (nI (k + 1))), none] [] h (0, 0) (QI K) := fun hn => by
        rw [if_neg hn] at eG
        have C3 : Chn d (LC.drop (k + 1)) := by
          cases hq : LC.drop (k + 1) with
          | nil => trivial
          | cons x l => rw [hq] at C2; exact ⟨by have := C2.1; omega, C2.2⟩
        exact k_make_lp KS0 S0 RC0 RA0 RB0 FC FA FB hl hA e5 he hCe G H0 H1 r (k + 1) d o sv h (by omega) hd C3 hde P eG
      have b65 : ∀ (bm : Bool), bm = isMk c → (isMk c = true ∨ c.1 = 1) → c.2.1 + c.2.2 ≤ o0 + e → wb_Patch_make_65 319 c0 a a' (nI (d - o0)) (nI k) (b2I bm) h K := fun bm hbm hor hce => by
        rw [if_pos hor] at eG
        unfold wb_Patch_make_65
        simp (disch := omega) only [i0, i1, nLit, mul_I, add_I, nI_cl, isO_stI, isA_stI, isL_stI, gR_stI, gJ_stI, gK_stI, gL_stI, gS_stI, true_and, and_true, forall_eq, implies_true, ps_339, rS_o r1, rS_0 r1, rS_1 r1, rS_2 r1, rS_l0 r1, rS_l1 r1, rS_l2 r1, kO_319 KS, RC.2.2.1, e3]
        refine ⟨RC.2.2.2.1, k_copyO KS0 S0 T0 Ft (by omega) (c.2.1 - d) (d - o0) o h ?_ P (fun h2 P2 => ?_)⟩
        · by_cases z : c.2.1 - d = 0
          · exact Or.inr ⟨z, by omega, by omega⟩
          · exact Or.inl (by omega)
        rw [show o0 + (d - o0) = d by omega] at P2
        have G2 := PtK_y P2
        have KS2 := KSh_y G2 (fun _ _ z => z.elim) KS0
        have RC2 := PtF_R FC G2 RC0
        have r2 := RC2.1
        have EC2 := KE_pt FC P2.2.1 E0
        obtain ⟨u1, ⟨u2, u3, u4⟩, u5, u6⟩ := id EC2
        have nxt : ∀ q, pt1 f g LA LB c (o ++ bB f (c.2.1 - d) d) sv = some q → ∀ h', PtK h0 h' A q.1 q.2 g → Wp k_Patch_make 32 [some (.ref 319), some (.ref c0), some (.ref a), some (.ref a'), some (.int (nI (c.2.1 - o0 + c.2.2))), some (.int (nI (k + 1))), none] [] h' (0, 0) (QI K) := fun q eq h' P' => by
          rw [eq] at eG
          have := k_make_lp KS0 S0 RC0 RA0 RB0 FC FA FB hl hA e5 he hCe G H0 H1 r (k + 1) (c.2.1 + c.2.2) q.1 q.2 h' (by omega) (by omega) C2 hce P' eG
          rwa [show c.2.1 + c.2.2 - o0 = c.2.1 - o0 + c.2.2 by omega] at this
        have bad : pt1 f g LA LB c (o ++ bB f (c.2.1 - d) d) sv = none → ∀ h', (∃ o sv, PtK h0 h' A o sv g) → K (nI 0) h' := fun eq h' P' => by
          rw [eq] at eG
          exact H0 eG.symm h' P'
        simp (disch := omega) only [i0, i1, nLit, mul_I, add_I, nI_cl, isO_stI, isA_stI, isL_stI, gR_stI, gJ_stI, gK_stI, gL_stI, gS_stI, true_and, and_true, forall_eq, implies_true, ps_339, rS_o r2, rS_0 r2, rS_1 r2, rS_2 r2, rS_l0 r2, rS_l1 r2, rS_l2 r2, kO_319 KS2, u3, u4]
        refine ⟨fun c1 => ?_, fun c1 => ?_⟩
        · have hb := b2I_0 c1
          rw [hb] at hbm
          have hc1 : c.1 = 1 := by
            rcases hor with q | q
            · rw [q] at hbm; exact absurd hbm (by decide)
            · exact q
          have ep : pt1 f g LA LB c (o ++ bB f (c.2.1 - d) d) sv = (match srv f LA sv c LA.length 0 with
            | none => none
            | some b => some ((o ++ bB f (c.2.1 - d) d) ++ nmB f (LB.getD b (0, 0, 0)).2.1 (LB.getD b (0, 0, 0)).2.2 0, va_up sv b true)) := by unfold pt1; rw [if_pos hc1]; cases srv f LA sv c LA.length 0 <;> rfl
          refine k_putNumber KS0 S0 RC0 RA0 RB0 FC FA FB E0 hc1 hl hA P2 (fun es => ⟨fun z => absurd (by first | trivial | rfl) z, fun _ => bad (by rw [ep, es]) h2 ⟨_, _, P2⟩⟩) (fun b es h' P' => ⟨fun _ => nxt ((o ++ bB f (c.2.1 - d) d) ++ nmB f (LB.getD b (0, 0, 0)).2.1 (LB.getD b (0, 0, 0)).2.2 0, va_up sv b true) (by rw [ep, es]) h' P', fun z => absurd z (by decide)⟩) LA.length 0 (by omega) rfl
        · have hb := b2I_1 c1
          rw [hb] at hbm
          have hc1 : ¬ c.1 = 1 := fun z => by
            have q := hbm.symm
            unfold isMk at q
            simp [z] at q
          have ep : pt1 f g LA LB c (o ++ bB f (c.2.1 - d) d) sv = (match mkB f g c c.2.2 0 with
            | none => none
            | some l => some ((o ++ bB f (c.2.1 - d) d) ++ l, sv)) := by unfold pt1; rw [if_neg hc1]; cases mkB f g c c.2.2 0 <;> rfl
          refine k_putMark KS0 S0 RC0 FC E0 hbm.symm P2 (fun es => ⟨fun _ => bad (by rw [ep, es]) h2 ⟨_, _, P2⟩, fun z => absurd (by first | trivial | rfl) z⟩) (fun l es h' P' => ⟨fun z => absurd z (by decide), fun _ => nxt ((o ++ bB f (c.2.1 - d) d) ++ l, sv) (by rw [ep, es]) h' P'⟩)
      unfold wb_Patch_make_32
      simp (disch := omega) only [i0, i1, nLit, mul_I, add_I, nI_cl, isO_stI, isA_stI, isL_stI, gR_stI, gJ_stI, gK_stI, gL_stI, gS_stI, true_and, and_true, forall_eq, implies_true, ps_339, rS_o r1, rS_0 r1, rS_1 r1, rS_2 r1, rS_l0 r1, rS_l1 r1, rS_l2 r1, RC.2.1.1, le_I]
      refine ⟨fun z => absurd z (by omega), fun _ => k_isMark r1 E ?_⟩
      simp (disch := omega) only [i0, i1, nLit, mul_I, add_I, nI_cl, isO_stI, isA_stI, isL_stI, gR_stI, gJ_stI, gK_stI, gL_stI, gS_stI, true_and, and_true, forall_eq, implies_true, ps_339, rS_o r1, rS_0 r1, rS_1 r1, rS_2 r1, rS_l0 r1, rS_l1 r1, rS_l2 r1, e2, eq_I, b2I_eq0, Bool.not_eq_false]
      refine ⟨fun c1 => b65 _ rfl (Or.inl c1) ?_, fun c1 => ⟨fun c2 => skip (fun z => ?_), fun c2 => b65 _ rfl (Or.inr c2) ?_⟩⟩
      · exact HCE
      · rcases z with z | z
        · rw [c1] at z; exact absurd z (by decide)
        · exact c2 z
      · exact HCE)
end KP3
