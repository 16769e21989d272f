section KP2
variable {h0 : HP} {A : Nat} {f : Nat → Nat}
/-- ahead of the digits -/
def PtP (h0 h : HP) (A k : Nat) : Prop := h.2 = h0.2 ∧ (∀ a, ¬ XPt A a → gI h a = gI h0 a) ∧ gI h 320 1 = nI 0 ∧ ∀ i, i < k → gI h 323 i = b2I false
theorem k_forgetServed {K : HP → Prop} (KS0 : KSh h0) (hA : A ≠ 323) (H : ∀ h', PtP h0 h' A 20 → K h') : ∀ (r k : Nat) (h : HP), k + r = 20 → PtP h0 h A k → Wp k_Patch_forgetServed 2 [some (.ref 319), some (.int (nI k))] [] h (0, 0) (QV K)
  | 0, k, h, h1, P => wb_Patch_forgetServed_2_ok (by
      unfold wb_Patch_forgetServed_2
      simp (disch := omega) only [i0, i1, nLit, mul_I, add_I, nI_cl, le_I]
      exact ⟨fun _ => H h (by rw [← show k = 20 by omega]; exact P), fun z => absurd (by omega) z⟩)
  | r + 1, k, h, h1, P => wb_Patch_forgetServed_2_ok (by
      have KS := KSh_y (h2_y P.1 P.2.1) (fun _ _ z => z.elim) KS0
      unfold wb_Patch_forgetServed_2
      simp (disch := omega) only [i0, i1, nLit, mul_I, add_I, nI_cl, isO_stI, isA_stI, isL_stI, gR_stI, gJ_stI, gK_stI, gL_stI, gS_stI, true_and, and_true, forall_eq, implies_true, ps_339, kO_319 KS, kR_319_2 KS, kA_323 KS, kL_323 KS, le_I]
      refine ⟨fun z => absurd z (by omega), fun _ => k_forgetServed KS0 hA H r (k + 1) _ (by omega) ⟨P.1, fun a ha => ?_, ?_, fun i hi => ?_⟩⟩
      · rw [gI_stI_o _ _ _ _ (fun z => ha (Or.inr (Or.inr (Or.inr z))))]; exact P.2.1 a ha
      · rw [gI_stI_o _ _ _ _ (by decide)]; exact P.2.2.1
      · rw [gI_stI]
        by_cases z : i = k
        · rw [if_pos ⟨rfl, z⟩]; rfl
        · rw [if_neg (fun y => z y.2)]; exact P.2.2.2 i (by omega))
theorem k_fill_lp {K : HP → Prop} {a N : Nat} {v : Int32} (hA : 0 < a ∧ a < gS h0 ∧ gK h0 a = 100 ∧ gL h0 a = N) (hN : N ≤ 1000) (H : ∀ h', h'.2 = h0.2 → (∀ b, b ≠ a → gI h' b = gI h0 b) → (∀ i, i < N → gI h' a i = v) → K h') : ∀ (r k : Nat) (h : HP), k + r = N → h.2 = h0.2 → (∀ b, b ≠ a → gI h b = gI h0 b) → (∀ i, i < k → gI h a i = v) → Wp k_Arrays_fill 5 [some (.ref a), some (.int v), some (.int (nI k)), some (.int (nI N))] [] h (0, 0) (QV K)
  | 0, k, h, h1, e, g, q => wb_Arrays_fill_5_ok (by
      unfold wb_Arrays_fill_5
      simp (disch := omega) only [le_I]
      exact ⟨fun _ => H h e g (fun i hi => q i (by omega)), fun z => absurd (by omega) z⟩)
  | r + 1, k, h, h1, e, g, q => wb_Arrays_fill_5_ok (by
      have e1 : gS h = gS h0 := congrArg (fun x => x.2.2.2.2) e
      have e2 : gK h = gK h0 := congrArg (fun x => x.2.2.1) e
      have e4 : gL h = gL h0 := congrArg (fun x => x.2.2.2.1) e
      unfold wb_Arrays_fill_5
      simp (disch := omega) only [i0, i1, nLit, mul_I, add_I, nI_cl, le_I]
      refine ⟨fun z => absurd z (by omega), fun _ => ⟨⟨hA.1, by rw [e1]; exact hA.2.1, by rw [e2]; exact hA.2.2.1, by rw [e4, hA.2.2.2]; exact nI_in' (by omega) (by omega)⟩, fun h2 e2' => ?_⟩⟩
      subst e2'
      refine k_fill_lp hA hN H r (k + 1) _ (by omega) e (fun b hb => by rw [gI_stI_o _ _ _ _ hb]; exact g b hb) (fun i hi => ?_)
      rw [gI_stI]
      by_cases z : i = k
      · rw [if_pos ⟨rfl, z⟩]
      · rw [if_neg (fun y => z y.2)]; exact q i (by omega))
theorem k_fill {K : HP → Prop} {a N : Nat} {v : Int32} (hA : 0 < a ∧ a < gS h0 ∧ gK h0 a = 100 ∧ gL h0 a = N) (hN : N ≤ 1000) (H : ∀ h', h'.2 = h0.2 → (∀ b, b ≠ a → gI h' b = gI h0 b) → (∀ i, i < N → gI h' a i = v) → K h') : wq_Arrays_fill a v h0 K := by
  unfold wq_Arrays_fill
  rw [hA.2.2.1, hA.2.2.2]
  exact ⟨⟨hA.2.1, by decide, by decide, fun z => by have := hA.1; omega⟩, k_fill_lp hA hN H N 0 h0 (by omega) rfl (fun _ _ => rfl) (fun i hi => absurd hi (by omega))⟩
theorem dI_m1 {n : Nat} (h : n = 0 ∨ (48 ≤ n ∧ n ≤ 57)) : (dI n = -nI 1) = (n = 0) := by
  unfold dI
  split
  · rename_i c; simp [c]
  · rename_i c
    have : ¬ nI (n - 48) = -nI 1 := fun z => by
      have q : (0 : Int32) ≤ nI (n - 48) := nI_pos' (by omega)
      rw [z] at q
      exact absurd q (by decide)
    simp [c, this]
section KMD
variable {a N t A1 o1 n1 a' N' t' A2 o2 n2 : Nat} {LA LB : PcL} {sv : Nat → Bool} {o : List Nat}
theorem k_match_lp {K : Int32 → HP → Prop} (KS0 : KSh h0) (hAn : A ≠ 322) (R0 : RwT h0 a N t A1 f o1 n1 LA) (R0' : RwT h0 a' N' t' A2 f o2 n2 LB) (F1 : PtF A a t A1) (F2 : PtF A a' t' A2) (hl : LA.length = LB.length) (hk : ∀ i (hi : i < LA.length) (hj : i < LB.length), LA[i].1 = LB[i].1) (G : Option (Nat → Nat)) (H : ∀ h', (∃ g, PtK h0 h' A o sv g ∧ ∀ g', G = some g' → g' = g) → K (b2I G.isSome) h') : ∀ (r k : Nat) (g : Nat → Nat) (h : HP), k + r = LA.length → PtK h0 h A o sv g → mpF f (LA.drop k) (LB.drop k) g = G → Wp k_Patch_matchDigits 10 [some (.ref 319), some (.ref a), some (.ref a'), some (.int (nI k)), none, none] [] h (0, 0) (QI K)
  | 0, k, g, h, h1, P, e => wb_Patch_matchDigits_10_ok (by
      have R := PtF_R F1 (PtK_y P) R0
      have r1 := R.1
      have hN := r1.2.2.2.2.2
      have hl6 := R.2.2.2.2.2.1
      rw [List.drop_of_length_le (by omega)] at e
      have e' : G = some g := by rw [← e]; rfl
      unfold wb_Patch_matchDigits_10
      simp (disch := omega) only [i0, i1, nLit, mul_I, add_I, nI_cl, isO_stI, isA_stI, isL_stI, gR_stI, gJ_stI, gK_stI, gL_stI, gS_stI, true_and, and_true, forall_eq, implies_true, ps_339, rS_o r1, R.2.1.1, le_I]
      refine ⟨fun _ => ?_, fun z => absurd (by omega) z⟩
      have := H h ⟨g, P, fun g' hg => by rw [e'] at hg; injection hg with hg; exact hg.symm⟩
      rw [e'] at this
      exact this)
  | r + 1, k, g, h, h1, P, e => wb_Patch_matchDigits_10_ok (by
      have R := PtF_R F1 (PtK_y P) R0
      have R' := PtF_R F2 (PtK_y P) R0'
      have KS := KSh_y (PtK_y P) (fun _ _ z => z.elim) KS0
      have r1 := R.1
      have s1 := R'.1
      have hN := r1.2.2.2.2.2
      have hl6 := R.2.2.2.2.2.1
      have ha : k < LA.length := by omega
      have hb : k < LB.length := by omega
      have E := RwT_E R ha
      have E' := RwT_E R' hb
      have hkk := hk k ha hb
      rw [List.drop_eq_getElem_cons ha, List.drop_eq_getElem_cons hb, mpF] at e
      generalize LA[k] = x at *
      generalize LB[k] = y at *
      unfold wb_Patch_matchDigits_10
      simp (disch := omega) only [i0, i1, nLit, mul_I, add_I, nI_cl, isO_stI, isA_stI, isL_stI, gR_stI, gJ_stI, gK_stI, gL_stI, gS_stI, true_and, and_true, forall_eq, implies_true, ps_339, rS_o r1, R.2.1.1, le_I]
      refine ⟨fun z => absurd z (by omega), fun _ => k_isMark r1 E ?_⟩
      simp only [b2I_eq0, Bool.not_eq_false]
      refine ⟨fun cm => ?_, fun cm => ⟨r1.1, k_digit R E cm ⟨s1.1, ?_⟩⟩⟩
      · simp only [cm, Bool.false_eq_true, if_false] at e
        exact k_match_lp KS0 hAn R0 R0' F1 F2 hl hk G H r (k + 1) g h (by omega) P e
      · simp only [cm, if_true] at e
        have cm2 : isMk y = true := by unfold isMk at cm ⊢; rw [← hkk]; exact cm
        refine k_digit R' E' cm2 ?_
        have d1 := isD_r (E.2.2.2.2.2 cm).1
        have d2 := isD_r (E'.2.2.2.2.2 cm2).1
        have gd := P.2.2.2.2 (f (dgA x) - 48) (by omega)
        simp (disch := omega) only [i0, i1, nLit, mul_I, add_I, nI_cl, isO_stI, isA_stI, isL_stI, gR_stI, gJ_stI, gK_stI, gL_stI, gS_stI, true_and, and_true, forall_eq, implies_true, ps_339, kO_319 KS, kR_319_1 KS, kA_322 KS, kL_322 KS, gd.1, dI_m1 gd.2]
        have nxt : ¬ (g (f (dgA x) - 48) ≠ 0 ∧ g (f (dgA x) - 48) ≠ f (dgA y)) → Wp k_Patch_matchDigits 10 [some (.ref 319), some (.ref a), some (.ref a'), some (.int (nI (k + 1))), none, none] [] (stI h 322 (f (dgA x) - 48) (nI (f (dgA y) - 48))) (0, 0) (QI K) := fun hn => by
          rw [if_neg hn] at e
          refine k_match_lp KS0 hAn R0 R0' F1 F2 hl hk G H r (k + 1) _ _ (by omega) ⟨P.1, fun b hb => ?_, ⟨?_, fun i x hi hx => ?_, P.2.2.1.2.2⟩, fun i hi => ?_, fun d hd => ?_⟩ e
          · rw [gI_stI_o _ _ _ _ (fun z => hb (Or.inr (Or.inr (Or.inl z))))]; exact P.2.1 b hb
          · rw [gI_stI_o _ _ _ _ (by decide)]; exact P.2.2.1.1
          · rw [gI_stI_o _ _ _ _ hAn]; exact P.2.2.1.2.1 i x hi hx
          · rw [gI_stI_o _ _ _ _ (by decide)]; exact P.2.2.2.1 i hi
          · rw [gI_stI, va_up_at]
            by_cases z : d = f (dgA x) - 48
            · rw [if_pos ⟨rfl, z⟩, if_pos z, dI, if_neg (by omega)]
              exact ⟨rfl, Or.inr d2⟩
            · rw [if_neg (fun y => z y.2), if_neg z]
              exact P.2.2.2.2 d hd
        refine ⟨fun c => nxt (fun z => z.1 c), fun c => ?_⟩
        have g9 : 48 ≤ g (f (dgA x) - 48) ∧ g (f (dgA x) - 48) ≤ 57 := by rcases gd.2 with q | q; exact absurd q c; exact q
        rw [dI, if_neg c, eq_I (by omega) (by omega)]
        refine ⟨fun c2 => nxt (fun z => z.2 (by omega)), fun c2 => ?_⟩
        rw [if_pos ⟨c, fun z => c2 (by rw [z])⟩] at e
        have := H h ⟨g, P, fun g' hg => by rw [← e] at hg; cases hg⟩
        rw [← e] at this
        exact this)
theorem k_readsSame_lp {K : Int32 → HP → Prop} {h : HP} {i j : Nat} {c x : Nat × Nat × Nat} (R : RwT h a N t A1 f o1 n1 LA) (R' : RwT h a' N' t' A2 f o2 n2 LB) (E : KE h a N o1 n1 f i c) (E' : KE h a' N' o2 n2 f j x) (hl : c.2.2 = x.2.2) : ∀ (r k : Nat), k + r = x.2.2 → K (b2I (rdF f x.2.1 c.2.1 r k)) h → Wp k_Patch_readsSame 20 [some (.ref a), some (.int (nI i)), some (.ref a'), some (.int (nI j)), some (.int (nI k)), none] [] h (0, 0) (QI K)
  | 0, k, h1, H => wb_Patch_readsSame_20_ok (by
      have s1 := R'.1
      have hN' := s1.2.2.2.2.2
      have tn := tx_n R'.2.2.2.2.1
      obtain ⟨d1, ⟨d2, d3, d4⟩, d5, d6⟩ := id E'
      unfold wb_Patch_readsSame_20
      simp (disch := omega) only [i0, i1, nLit, mul_I, add_I, nI_cl, isO_stI, isA_stI, isL_stI, gR_stI, gJ_stI, gK_stI, gL_stI, gS_stI, true_and, and_true, forall_eq, implies_true, ps_339, rS_o s1, rS_0 s1, rS_1 s1, rS_2 s1, rS_l0 s1, rS_l1 s1, rS_l2 s1, d4, le_I]
      exact ⟨fun _ => H, fun z => absurd (by omega) z⟩)
  | r + 1, k, h1, H => wb_Patch_readsSame_20_ok (by
      have r1 := R.1
      have s1 := R'.1
      have hN := r1.2.2.2.2.2
      have hN' := s1.2.2.2.2.2
      have T := R.2.2.2.2.1
      have T' := R'.2.2.2.2.1
      have tn := tx_n T
      have tn' := tx_n T'
      obtain ⟨e1, ⟨e2, e3, e4⟩, e5, e6⟩ := id E
      obtain ⟨d1, ⟨d2, d3, d4⟩, d5, d6⟩ := id E'
      have fb := T.2.2.2.2.2.2
      have go : ∀ v, v = ptB (f (x.2.1 + k)) → isO h a 6 ∧ 0 < gR h a 3 ∧ isO h a 6 ∧ 0 < gR h a 1 ∧ isL h (gR h a 1) 100 (nI i) ∧ isO h (gR h a 3) 7 ∧ wq_Text_at (gR h a 3) (gI h (gR h a 1) i + nI k) h (fun v13 h12 => (v13 = nI v → Wp k_Patch_readsSame 20 [some (.ref a), some (.int (nI i)), some (.ref a'), some (.int (nI j)), some (.int (nI (k + 1))), none] [] h12 (0, 0) (QI K)) ∧ (¬ v13 = nI v → K (nI 0) h12)) := fun v hv => by
        simp (disch := omega) only [i0, i1, nLit, mul_I, add_I, nI_cl, isO_stI, isA_stI, isL_stI, gR_stI, gJ_stI, gK_stI, gL_stI, gS_stI, true_and, and_true, forall_eq, implies_true, ps_339, rS_o r1, rS_0 r1, rS_1 r1, rS_2 r1, rS_l0 r1, rS_l1 r1, rS_l2 r1, R.2.2.1, e3, tx_o T]
        refine ⟨R.2.2.2.1, k_atN T (by omega) ?_⟩
        rw [show o1 + (c.2.1 - o1 + k) = c.2.1 + k by omega]
        have b1 := fb (c.2.1 + k)
        have b2 := ptB_lt (fb (x.2.1 + k))
        rw [eq_I (by omega) (by omega)]
        rw [rdF] at H
        refine ⟨fun q => k_readsSame_lp R R' E E' hl r (k + 1) (by omega) ?_, fun q => ?_⟩
        · rwa [decide_eq_true (show ptB (f (x.2.1 + k)) = f (c.2.1 + k) by omega), Bool.true_and] at H
        · exact b2_0 (by rw [decide_eq_false (show ¬ ptB (f (x.2.1 + k)) = f (c.2.1 + k) by omega), Bool.false_and]) H
      unfold wb_Patch_readsSame_20
      simp (disch := omega) only [i0, i1, nLit, mul_I, add_I, nI_cl, isO_stI, isA_stI, isL_stI, gR_stI, gJ_stI, gK_stI, gL_stI, gS_stI, true_and, and_true, forall_eq, implies_true, ps_339, rS_o s1, rS_0 s1, rS_1 s1, rS_2 s1, rS_l0 s1, rS_l1 s1, rS_l2 s1, d4, d3, R'.2.2.1, tx_o T', le_I]
      refine ⟨fun z => absurd z (by omega), fun _ => ⟨R'.2.2.2.1, k_atN T' (by omega) ?_⟩⟩
      rw [show o2 + (x.2.1 - o2 + k) = x.2.1 + k by omega]
      unfold wq_Patch_inRendering
      have b3 := fb (x.2.1 + k)
      have e46 : (nI (f (x.2.1 + k)) = (46 : Int32)) = (f (x.2.1 + k) = 46) := propext (eq_I (by omega) (by decide))
      rw [e46]
      exact ⟨fun q => go _ (by rw [ptB, if_neg q]), fun q => go 44 (by rw [ptB, if_pos q])⟩)
theorem k_readsSame {K : Int32 → HP → Prop} {h : HP} {i j : Nat} {c x : Nat × Nat × Nat} (R : RwT h a N t A1 f o1 n1 LA) (R' : RwT h a' N' t' A2 f o2 n2 LB) (E : KE h a N o1 n1 f i c) (E' : KE h a' N' o2 n2 f j x) (H : K (b2I (decide (x.2.2 = c.2.2) && rdF f x.2.1 c.2.1 c.2.2 0)) h) : wq_Patch_readsSame a (nI i) a' (nI j) h K := by
  have r1 := R.1
  have s1 := R'.1
  have hN := r1.2.2.2.2.2
  have hN' := s1.2.2.2.2.2
  have tn := tx_n R.2.2.2.2.1
  have tn' := tx_n R'.2.2.2.2.1
  obtain ⟨e1, ⟨e2, e3, e4⟩, e5, e6⟩ := id E
  obtain ⟨d1, ⟨d2, d3, d4⟩, d5, d6⟩ := id E'
  unfold wq_Patch_readsSame
  simp (disch := omega) only [i0, i1, nLit, mul_I, add_I, nI_cl, isO_stI, isA_stI, isL_stI, gR_stI, gJ_stI, gK_stI, gL_stI, gS_stI, true_and, and_true, forall_eq, implies_true, ps_339, rS_o r1, rS_0 r1, rS_1 r1, rS_2 r1, rS_l0 r1, rS_l1 r1, rS_l2 r1, rS_o s1, rS_0 s1, rS_1 s1, rS_2 s1, rS_l0 s1, rS_l1 s1, rS_l2 s1, e4, d4, eq_I]
  refine ⟨fun q => k_readsSame_lp R R' E E' q _ 0 (Nat.zero_add _) ?_, fun q => b2_0 (by rw [decide_eq_false (fun z => q z.symm), Bool.false_and]) H⟩
  rwa [decide_eq_true q.symm, Bool.true_and, q] at H
end KMD
end KP2
