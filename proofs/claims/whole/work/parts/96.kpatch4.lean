theorem pt_pk {f g : Nat → Nat} {LA LB : PcL} {pt e : Nat} : ∀ (k p d : Nat) (o : List Nat) (sv : Nat → Bool), d ≤ p → p ≤ e → e ≤ p + k → ptL f g LA LB (pcs (atM f e) pt e true k p) (o ++ bB f (p - d) d) sv = pkL f g LA LB e (pcs (atM f e) pt e false k p) d o sv
  | 0, p, d, o, sv, h1, h2, h3 => by
    rw [pcs, pcs, ptL, pkL, show e - d = p - d by omega]
  | k + 1, p, d, o, sv, h1, h2, h3 => by
    by_cases c : p < e
    · have hg := nxM_gt (atM f e) pt e p
      have hin := nxM_in (atM_z f e) (pt := pt) c
      have ej : o ++ bB f (p - d) d ++ bB f (nxM (atM f e) pt e p - p) p = o ++ bB f (nxM (atM f e) pt e p - d) d := by
        rw [List.append_assoc]
        have := bB_app f (p - d) (nxM (atM f e) pt e p - p) d
        rw [show d + (p - d) = p by omega, show p - d + (nxM (atM f e) pt e p - p) = nxM (atM f e) pt e p - d by omega] at this
        rw [this]
      have pl : ¬ (isMk (kdM (atM f e) p, p, nxM (atM f e) pt e p - p) = true ∨ kdM (atM f e) p = 1) → pt1 f g LA LB (kdM (atM f e) p, p, nxM (atM f e) pt e p - p) (o ++ bB f (p - d) d) sv = some (o ++ bB f (nxM (atM f e) pt e p - d) d, sv) := fun hn => by
        unfold pt1
        rw [if_neg (fun z => hn (Or.inr z)), mkB_pl (fun j _ _ z => hn (Or.inl z.1))]
        show some (_, sv) = _
        rw [Nat.add_zero]
        show some (o ++ bB f (p - d) d ++ bB f (nxM (atM f e) pt e p - p) p, sv) = _
        rw [ej]
      have ih := pt_pk (f := f) (g := g) (LA := LA) (LB := LB) (pt := pt) (e := e) k (nxM (atM f e) pt e p)
      rw [pcs, if_pos c, if_neg (fun z => absurd z.2 (by decide)), pcs, if_pos c]
      by_cases c6 : kdM (atM f e) p = 6
      · rw [if_pos ⟨c6, rfl⟩, ptL]
        have hn : ¬ (isMk (kdM (atM f e) p, p, nxM (atM f e) pt e p - p) = true ∨ kdM (atM f e) p = 1) := by
          rintro (z | z)
          · unfold isMk at z; simp [c6] at z
          · omega
        rw [pl hn]
        exact ih d o sv (by omega) hin (by omega)
      · rw [if_neg (fun z => c6 z.1), ptL, pkL]
        by_cases hn : isMk (kdM (atM f e) p, p, nxM (atM f e) pt e p - p) = true ∨ kdM (atM f e) p = 1
        · rw [if_pos hn]
          show (match pt1 f g LA LB (kdM (atM f e) p, p, nxM (atM f e) pt e p - p) (o ++ bB f (p - d) d) sv with
            | none => none
            | some q => ptL f g LA LB (pcs (atM f e) pt e true k (nxM (atM f e) pt e p)) q.1 q.2) = (match pt1 f g LA LB (kdM (atM f e) p, p, nxM (atM f e) pt e p - p) (o ++ bB f (p - d) d) sv with
            | none => none
            | some q => pkL f g LA LB e (pcs (atM f e) pt e false k (nxM (atM f e) pt e p)) (p + (nxM (atM f e) pt e p - p)) q.1 q.2)
          cases pt1 f g LA LB (kdM (atM f e) p, p, nxM (atM f e) pt e p - p) (o ++ bB f (p - d) d) sv with
          | none => rfl
          | some q =>
            have := ih (nxM (atM f e) pt e p) q.1 q.2 (Nat.le_refl _) hin (by omega)
            rw [Nat.sub_self, bB, List.append_nil] at this
            show ptL f g LA LB _ q.1 q.2 = pkL f g LA LB e _ (p + (nxM (atM f e) pt e p - p)) q.1 q.2
            rw [this, show p + (nxM (atM f e) pt e p - p) = nxM (atM f e) pt e p by omega]
        · rw [if_neg hn, pl hn]
          exact ih d o sv (by omega) hin (by omega)
    · have ep : p = e := by omega
      rw [pcs, if_neg c, pcs, if_neg c, ptL, pkL, ep]
section KP4
variable {B : Nat → Nat} {σ : St} {h : HP}
theorem Xpt_q : ∀ a, XPt (B 62) a → Xq B a := fun a z => by
  unfold XPt at z
  unfold Xq
  omega
theorem PtF_B (T : KTx B σ h) {a t r : Nat} (hr : r < 62) (ha : a + 3 < 320 ∨ (324 ≤ a ∧ a + 3 < 338)) (hna : ∀ b, isTA b → b ≠ a ∧ b ≠ a + 1 ∧ b ≠ a + 2 ∧ b ≠ a + 3) (ht : t = txA r) : PtF (B 62) a t (B r) := by
  intro b z
  have t62 := T.2.2.2.1 62 (by decide)
  have tr := T.2.2.2.1 r (by omega)
  have c := txA_c r
  have c2 := txA_ne hr
  have inj : B r ≠ B 62 := fun y => by have := T.2.2.2.2 r 62 (by omega) (by decide) y; omega
  unfold XPt at z
  rcases z with z | z | z | z
  · unfold isTA at tr; omega
  · have := hna (B 62) t62
    refine ⟨by rw [z]; exact this.1, by rw [z]; exact this.2.1, by rw [z]; exact this.2.2.1, by rw [z]; exact this.2.2.2, ?_, by rw [z]; exact Ne.symm inj⟩
    rw [z, ht]
    exact TA_txt t62
  · unfold isTA at tr; omega
  · unfold isTA at tr; omega
theorem k_make {K : Int32 → HP → Prop} {s q : Nat} (I : InvK B σ h) (w : WF σ) (hs : s < sS σ) (hq : q < sP σ) (lk : lkSP σ s q = true) (RC : RwT h 326 600 (232 + 2 * ltR σ q) (B (22 + ltR σ q)) (sf σ) (600 * (22 + ltR σ q)) (sz σ (22 + ltR σ q)) (pcRw σ (22 + ltR σ q))) (f4 : gI h 326 4 = nI 0) (f5 : gI h 326 5 = nI (sz σ (22 + ltR σ q))) (H0 : patR σ s q = none → ∀ h', AgY (XPt (B 62)) YN h h' → K (nI 0) h') (H1 : ∀ o, patR σ s q = some o → ∀ h', AgY (XPt (B 62)) YN h h' → OutK h' (B 62) o → K (nI 1) h') : wq_Patch_make 319 326 (114 + 6 * q) (9 + 4 * s) h K := by
  have S := I.1
  have hS := w.2.1.1
  have hP := w.2.2.1.1
  have hR := w.2.2.1.2.1
  have hlt := ltR_lt w hq
  have la := w.2.2.1.2.2.2.1 q hq
  have RA := IK_src I w hq
  have RB := IK_seg I w hs
  have T := I.2.1
  have t62 := T.2.2.2.1 62 (by decide)
  have t62' := t62
  unfold isTA at t62'
  have OS : OuS h (B 62) := ⟨T.2.1.1, T.2.1.2.1, ⟨by omega, T.2.1.2.2.1, T.2.1.2.2.2.1⟩, T.2.1.2.2.2.2, by omega, by omega, by omega⟩
  have FC : PtF (B 62) 326 (232 + 2 * ltR σ q) (B (22 + ltR σ q)) := PtF_B T (by omega) (Or.inr ⟨by omega, by omega⟩) (fun b hb => by unfold isTA at hb; omega) (tx_22 (by omega)).symm
  have FA : PtF (B 62) (114 + 6 * q) (112 + 6 * q) (B (2 + q)) := PtF_B T (by omega) (Or.inl (by omega)) (fun b hb => by unfold isTA at hb; omega) (tx_2 (by omega)).symm
  have FB : PtF (B 62) (9 + 4 * s) 5 (B 1) := PtF_B T (by omega) (Or.inl (by omega)) (fun b hb => by unfold isTA at hb; omega) rfl
  have lk2 := lk
  unfold lkSP lkL at lk2
  rw [Bool.and_eq_true] at lk2
  have hl := of_decide_eq_true lk2.1
  have z6 := w.1.2 (22 + ltR σ q) (by omega)
  unfold wq_Patch_make
  simp only [i0, i1, nLit, mul_I, add_I, nI_cl, isO_stI, isA_stI, isL_stI, gR_stI, gJ_stI, gK_stI, gL_stI, gS_stI, true_and, and_true, forall_eq, implies_true, ps_339, kO_319 S, kR_319_0 S, T.2.1.1]
  have P0 : PtP h (stI h 320 1 (nI 0)) (B 62) 0 := ⟨rfl, fun a ha => by rw [gI_stI_o _ _ _ _ (fun z => ha (Or.inl z))], by rw [gI_stI, if_pos ⟨rfl, rfl⟩], fun i hi => absurd hi (by omega)⟩
  refine k_forgetServed S (by omega) (fun h2 P2 => ?_) 20 0 _ (by omega) P0
  have S2 := KSh_y (h2_y P2.1 P2.2.1) (fun _ _ z => z.elim) S
  unfold wq_Patch_matchDigits
  simp only [i0, i1, nLit, mul_I, add_I, nI_cl, isO_stI, isA_stI, isL_stI, gR_stI, gJ_stI, gK_stI, gL_stI, gS_stI, true_and, and_true, forall_eq, implies_true, ps_339, kO_319 S2, kR_319_1 S2]
  refine k_fill ⟨by decide, kS_322 S2, kK_322 S2, kN_322 S2⟩ (by decide) (fun h3 e3 g3 v3 => ?_)
  have P3 : PtK h h3 (B 62) [] (fun _ => false) (fun _ => 0) := by
    refine ⟨e3.trans P2.1, fun a ha => by rw [g3 a (fun z => ha (Or.inr (Or.inr (Or.inl z))))]; exact P2.2.1 a ha, ⟨by rw [g3 320 (by decide)]; exact P2.2.2.1, fun i x _ hx => absurd hx (by simp), fun x hx => absurd hx (by simp)⟩, fun i hi => by rw [g3 323 (by decide)]; exact P2.2.2.2 i hi, fun d hd => ⟨?_, Or.inl rfl⟩⟩
    rw [v3 d hd]
    rfl
  refine k_match_lp S (by omega) RA RB FA FB hl (lkL_k lk2.2) _ (fun h4 ⟨g, P4, hg⟩ => ?_) (pcRw σ (2 + q)).length 0 (fun _ => 0) h3 (by omega) P3 rfl
  simp only [List.drop_zero] at hg ⊢
  have bad : patR σ s q = none → ∀ h', (∃ o sv, ∃ g, PtK h h' (B 62) o sv g) → K (nI 0) h' := fun e h' ⟨o, sv, g, P⟩ => H0 e h' (PtK_y P)
  cases eg : mpF (sf σ) (pcRw σ (2 + q)) (pcB σ s) (fun _ => 0) with
  | none =>
    refine ⟨fun z => absurd (by first | trivial | rfl) z, fun _ => bad (by simp [patR, lk, eg]) h4 ⟨_, _, _, P4⟩⟩
  | some g' =>
    have eg' := hg g' eg
    subst eg'
    refine ⟨fun _ => ⟨?_, ?_⟩, fun z => absurd (show (nI 1 : Int32) = nI 0 from z) (by decide)⟩
    · exact (PtF_R FC (PtK_y P4) RC).1.1
    have c4 : gI h4 326 4 = nI 0 := by rw [P4.2.1 326 (by unfold XPt; omega)]; exact f4
    rw [c4]
    have pq := pt_pk (f := sf σ) (g := g') (LA := pcRw σ (2 + q)) (LB := pcB σ s) (pt := 44) (e := 600 * (22 + ltR σ q) + sz σ (22 + ltR σ q)) 600 (600 * (22 + ltR σ q)) (600 * (22 + ltR σ q)) [] (fun _ => false) (Nat.le_refl _) (by omega) (by omega)
    rw [Nat.sub_self, bB, List.append_nil] at pq
    have eC : pcRw σ (22 + ltR σ q) = pcs (atM (sf σ) (600 * (22 + ltR σ q) + sz σ (22 + ltR σ q))) 44 (600 * (22 + ltR σ q) + sz σ (22 + ltR σ q)) false 600 (600 * (22 + ltR σ q)) := by unfold pcRw; rw [if_pos (by omega)]
    have hin : ∀ x ∈ pcRw σ (22 + ltR σ q), x.2.1 + x.2.2 ≤ 600 * (22 + ltR σ q) + sz σ (22 + ltR σ q) := fun x hx => by
      have := pcs_in (atM_z (sf σ) _) _ _ x hx
      omega
    have mk := k_make_lp (K := K) (g := g') (e := sz σ (22 + ltR σ q)) S OS RC RA RB FC FA FB hl la f5 (Nat.le_refl _) hin (ptL (sf σ) g' (pcRw σ (2 + q)) (pcB σ s) (pcA σ (22 + ltR σ q)) [] (fun _ => false)) (fun eG h' ⟨o, sv, P⟩ => bad (by simp [patR, lk, eg, eG]) h' ⟨o, sv, g', P⟩) (fun r eG h' P => ?_) (pcRw σ (22 + ltR σ q)).length 0 (600 * (22 + ltR σ q)) [] (fun _ => false) h4 (by omega) (Nat.le_refl _) (by rw [List.drop_zero, eC]; exact pcs_Chn _ _ _ (Nat.le_refl _)) (by omega) P4 (by rw [List.drop_zero, eC]; exact pq.symm)
    · rw [Nat.sub_self] at mk
      exact mk
    · cases ea : alS r.2 (pcRw σ (2 + q)) 0 with
      | false => exact bad (by simp [patR, lk, eg, eG, ea]) h' ⟨_, _, _, P⟩
      | true => exact H1 r.1 (by simp [patR, lk, eg, eG, ea]) h' (PtK_y P) P.2.2.1
theorem kc_patch {v p : Int32} {K : Int32 → HP → Prop} (I : InvK B σ h) (w : WF σ) (H : ∀ h', (∃ B, InvK B (tPatch σ v p) h') → Fc h h' → K (aPatch σ v p) h') : wq_K_patch 1 v p h K := by
  have S := I.1
  have hS := w.2.1.1
  have hP := w.2.2.1.1
  have hR := w.2.2.1.2.1
  unfold aPatch tPatch at H
  unfold wq_K_patch
  refine ⟨kO_1 S, k_isSegment I w ?_⟩
  simp only [i0, i1, nLit, mul_I, add_I, nI_cl, b2I_s]
  rcases ixI_c v (n := sS σ) (by omega) with ⟨e, c⟩ | ⟨s, hs, e, e2⟩
  · simp only [e] at H ⊢
    exact ⟨fun _ => H h ⟨B, I⟩ (Fc_rf h), fun z => absurd (by first | trivial | rfl) z⟩
  · simp only [e2] at H ⊢
    subst e
    refine ⟨fun z => absurd z (by simp), fun _ => ⟨kO_1 S, k_isPair I w ?_⟩⟩
    simp only [b2I_s]
    rcases ixI_c p (n := sP σ) (by omega) with ⟨e, c⟩ | ⟨q, hq, e, e2⟩
    · simp only [e] at H ⊢
      exact ⟨fun z => absurd (by first | trivial | rfl) z, fun _ => H h ⟨B, I⟩ (Fc_rf h)⟩
    · simp only [e2] at H ⊢
      subst e
      refine ⟨fun _ => ⟨kO_1 S, k_isLikeSource I w hs hq ⟨fun c => ?_, fun c => ?_⟩⟩, fun z => absurd z (by simp)⟩
      · have lk := b2I_1 c
        refine ⟨kO_1 S, k_readRendering I w hq (fun h2 Q2 RC f4 f5 => ?_)⟩
        have I2 := Qs_I Q2 I w
        have S2 := I2.1
        have F2 : Fc h h2 := Fq_c Q2.1 (I.2.1.2.2.2.1 62 (by decide))
        simp (disch := omega) only [i0, i1, nLit, mul_I, add_I, nI_cl, isO_stI, isA_stI, isL_stI, gR_stI, gJ_stI, gK_stI, gL_stI, gS_stI, true_and, and_true, forall_eq, implies_true, ps_339, true_or, or_true, true_imp_iff, not_true_eq_false, not_false_eq_true, false_imp_iff, kO_1 S2, kR_1_1 S2, kO_4 S2, kR_4_1 S2, kS_7 S2, kK_7 S2, kN_7 S2, kq_7 S2, kv_24, ps_9, kO_1 S2, kR_1_2 S2, kO_105 S2, kR_105_0 S2, kR_105_1 S2, kR_105_2 S2, kR_105_3 S2, kR_105_4 S2, kR_105_5 S2, kS_106 S2, kK_106 S2, kN_106 S2, kq_106 S2, kS_107 S2, kK_107 S2, kN_107 S2, kq_107 S2, kS_109 S2, kK_109 S2, kN_109 S2, kq_109 S2, kA_108 S2, kL_108 S2, kA_110 S2, kL_110 S2, kA_111 S2, kL_111 S2, kv_20, kv_40, ps_112, ps_114, ps_232, kR_1_5 S2, kR_1_7 S2, kO_319 S2]
        have toI : ∀ h', AgY (XPt (B 62)) YN h2 h' → InvK B σ h' ∧ Fc h h' := fun h' G => by
          have Gq : AgY (Xq B) Y3 h2 h' := AgY_mono G Xpt_q (fun _ _ z => z.elim)
          have t62 := I.2.1.2.2.2.1 62 (by decide)
          have t62' := t62
          unfold isTA at t62'
          exact ⟨InvK_q Gq (KnO_y G (by unfold XPt; omega) S2.1 I2.2.2.2.2.2.1) I2 w, Fc_tr F2 (Fq_c Gq t62)⟩
        refine k_make I2 w hs hq lk RC f4 f5 (fun en h3 G3 => ?_) (fun o en h3 G3 O3 => ?_)
        · simp only [en] at H
          have q3 := toI h3 G3
          exact ⟨fun z => absurd (by first | trivial | rfl) z, fun _ => H h3 ⟨B, q3.1⟩ q3.2⟩
        · simp only [en] at H
          obtain ⟨I3, F3⟩ := toI h3 G3
          have S3 := I3.1
          have t0 := I3.2.1.2.2.2.1 0 (by decide)
          have t62 := I3.2.1.2.2.2.1 62 (by decide)
          have T0 := IK_0 I3
          have l0 := I3.2.1.2.2.1
          obtain ⟨o1, o2, o3⟩ := O3
          refine ⟨fun _ => ?_, fun z => absurd z (by decide)⟩
          simp (disch := omega) only [i0, i1, nLit, mul_I, add_I, nI_cl, isO_stI, isA_stI, isL_stI, gR_stI, gJ_stI, gK_stI, gL_stI, gS_stI, true_and, and_true, forall_eq, implies_true, ps_339, kO_1 S3, kR_1_5 S3, kO_319 S3, kR_319_0 S3, kR_1_0 S3, I3.2.1.2.1.1, o1, le_I, tx_o T0]
          refine ⟨fun c6 => ?_, fun c6 => ?_⟩
          · have hlen : o.length ≤ 600 := by omega
            have em : min o.length 880 = o.length := by omega
            simp only [if_pos hlen] at H
            rw [em]
            have TO : TxO h3 320 (B 62) (fun i => o.getD i 0) 0 o.length := by
              have t62' := t62
              unfold isTA at t62'
              refine ⟨I3.2.1.2.1.1, I3.2.1.2.1.2.1, ⟨by omega, I3.2.1.2.1.2.2.1, I3.2.1.2.1.2.2.2.1⟩, by rw [o1, em], ⟨by rw [I3.2.1.2.1.2.2.2.2]; omega, by rw [I3.2.1.2.1.2.2.2.2]; decide⟩, fun i hi => ?_, fun i => ?_⟩
              · rw [Nat.zero_add]
                show _ = sgB (o.getD i 0)
                rw [List.getD_eq_getElem?_getD, List.getElem?_eq_getElem hi]
                exact o2 i _ (by omega) (List.getElem?_eq_getElem hi)
              · show o.getD i 0 < 256
                rw [List.getD_eq_getElem?_getD]
                cases hx : o[i]? with
                | none => exact (by decide : 0 < 256)
                | some x => exact o3 x (List.mem_of_getElem? hx)
            have ne0 : B 0 ≠ B 62 := fun z => by have := I3.2.1.2.2.2.2 0 62 (by decide) (by decide) z; omega
            refine k_take T0.1 T0.2.1 T0.2.2.1 (by omega) TO (Nat.zero_le _) (Nat.le_refl _) (by omega) (ta_2 t0) (by decide) (fun z => TA_txt t62 (z.symm.trans (show 2 = txA 0 from rfl))) (fun h4 A' Tk => ?_)
            rw [Nat.sub_zero] at Tk
            have eA : A' = B 0 := by
              rcases Tk.1 with q | q
              · exact q.1
              · omega
            subst eA
            have G4 : AgY (fun a => a = 2 ∨ a = B 0) (YT 2) h3 h4 := Tk.2.1
            have G4' : AgY (fun a => a = 2 ∨ a = B 0) YN h3 h4 := ⟨G4.1, fun a k ha _ => by
              by_cases z : YT 2 a k
              · rw [z.1, z.2, Tk.2.2.1]; exact T0.2.1.symm
              · exact G4.2.1 a k ha z, G4.2.2⟩
            have G0 : AgY (X0 B) YN h3 h4 := AgY_mono G4' (fun a z => by rcases z with z | z; exact Or.inl z; exact Or.inr (Or.inl z)) (fun _ _ z => z)
            have S4 := KSh_y G4' (fun _ _ z => z.elim) S3
            have hf : ∀ i, laO (sf σ) o o.length i < 256 := OutO_lt o3 w.1.1 _
            have T4 : TxO h4 2 (B 0) (laO (sf σ) o o.length) 0 o.length := TkO_T Tk T0.1 hf (fun i hi => by
              show laO (sf σ) o o.length (0 + i) = o.getD (0 + 0 + i) 0
              simp only [Nat.zero_add]
              unfold laO
              rw [if_pos hi])
            simp only [i0, i1, nLit, mul_I, add_I, nI_cl, isO_stI, isA_stI, isL_stI, gR_stI, gJ_stI, gK_stI, gL_stI, gS_stI, true_and, and_true, forall_eq, implies_true, ps_339, kO_1 S4, kR_1_0 S4, tx_o T4, T4.2.2.2.1]
            refine H h4 ⟨B, InvK_0 (σ := σ) G0 ⟨rfl, rfl, rfl, fun i hi => ?_, fun r hr => ?_⟩ hf T4 (KWd_0 (σ := setz (setf σ (laO (sf σ) o o.length)) (va_up (sz σ) 0 o.length)) G4' t0 I3.2.2.2.2.1) I3 w⟩ (Fc_tr F3 (X0_c G0 t0))
            · show laO (sf σ) o o.length i = sf σ i
              unfold laO
              rw [if_neg (by omega)]
            · show va_up (sz σ) 0 o.length r = sz σ r
              rw [va_up_ne _ _ hr]
          · simp only [if_neg (show ¬ o.length ≤ 600 by omega)] at H
            exact H h3 ⟨B, I3⟩ F3
      · have lk : lkSP σ s q = false := b2I_0 c
        have en : patR σ s q = none := by simp [patR, lk]
        simp only [en] at H
        exact H h ⟨B, I⟩ (Fc_rf h)
end KP4
