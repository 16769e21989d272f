section KUN
variable {B : Nat → Nat} {σ σ' : St} {h h' : HP} {X : Nat → Prop} {K : Int32 → HP → Prop}
def XM (a : Nat) : Prop := a = 105 ∨ a = 108 ∨ a = 110 ∨ a = 111 ∨ (312 ≤ a ∧ a ≤ 316)
theorem XM_c (G : AgY XM YN h h') : Fc h h' := AgY_mono G (fun a z => by unfold XM at z; omega) (fun _ _ z => z.elim)
theorem InvK_g (G : AgY XM YN h h') (e1 : σ'.1 = σ.1) (e2 : σ'.2.1 = σ.2.1) (e3 : σ'.2.2.1 = σ.2.2.1) (e5 : σ'.2.2.2.2.1 = σ.2.2.2.2.1) (hP' : sP σ' ≤ sP σ) (M' : MeO σ' h') (K' : KSt h' (sD σ')) (I : InvK B σ h) (w : WF σ) : InvK B σ' h' := by
  obtain ⟨s, t, g, m, wd, kn, st⟩ := I
  obtain ⟨a1, a2, a3⟩ := sm_seg e3
  have hS := s.1
  have hSS := w.2.1.1
  have tB := t.2.2.2.1
  have ef : sf σ' = sf σ := e1
  have ez : sz σ' = sz σ := e2
  have pB : ∀ i, pcB σ' i = pcB σ i ∧ ctB σ' i = ctB σ i := fun i => by unfold pcB ctB; rw [ef, a2, a3]; exact ⟨rfl, rfl⟩
  have pR : ∀ r, pcRw σ' r = pcRw σ r := fun r => by unfold pcRw; rw [ef, ez]
  have x : ∀ a, ¬ (a = 105 ∨ a = 108 ∨ a = 110 ∨ a = 111 ∨ (312 ≤ a ∧ a ≤ 316)) → ¬ XM a := fun a p z => p z
  have gi : ∀ a, a < 362 → ¬ (a = 105 ∨ a = 108 ∨ a = 110 ∨ a = 111 ∨ (312 ≤ a ∧ a ≤ 316)) → gI h' a = gI h a := fun a ha p => (G.1 a (by omega) (x a p)).1
  refine ⟨KSh_y G (fun _ _ z => z.elim) s, ⟨fun r hr => ?_, ?_, ?_, tB, t.2.2.2.2⟩, ⟨by rw [gi 4 (by omega) (by omega), a1]; exact g.1, fun i hi => ?_⟩, M', ?_, fun p hp i hi => ?_, K'⟩
  · have c1 := txA_c r
    have c2 := tB r (by omega)
    unfold isTA at c2
    rw [ef, ez]
    exact TxO_y G (fun y => by unfold XM at y; omega) (fun y => by unfold XM at y; omega) (fun y => y) (t.1 r hr)
  · have t2 := t.2.1
    exact ⟨isO_y G t2.1, by rw [G.2.1 320 0 t2.1.2.1 (fun y => y)]; exact t2.2.1, Nat.lt_of_lt_of_le t2.2.2.1 G.2.2.2, by rw [(G.2.2.1 _ t2.2.2.1).1]; exact t2.2.2.2.1, by rw [(G.2.2.1 _ t2.2.2.1).2]; exact t2.2.2.2.2⟩
  · have := (t.1 0 (by decide)).2.2.1.2.1
    rw [(G.2.2.1 _ this).2]
    exact t.2.2.1
  · rw [a1] at hi
    have q := g.2 i hi
    rw [gi (9 + 4 * i) (by omega) (by omega), (pB i).1, (pB i).2, a2, a3, ez]
    exact ⟨⟨RwO_y G (by omega) (x _ (by omega)) (x _ (by omega)) (x _ (by omega)) (x _ (by omega)) q.1.1, q.1.2⟩, q.2⟩
  · have f1 : sE σ' = sE σ := congrArg (fun x => x.1) e5
    have f2 : sT σ' = sT σ := congrArg (fun x => x.2.1) e5
    have f3 : sF σ' = sF σ := congrArg (fun x => x.2.2.1) e5
    have f4 : sc σ' = sc σ := congrArg (fun x => x.2.2.2.1) e5
    have f5 : sl σ' = sl σ := congrArg (fun x => x.2.2.2.2) e5
    unfold KWd
    rw [f1, f2, f3, f4, f5]
    exact ⟨WdO_y G (x _ (by omega)) (x _ (by omega)) (fun z => z) wd.1, WdO_y G (x _ (by omega)) (x _ (by omega)) (fun z => z) wd.2.1, WdO_y G (x _ (by omega)) (x _ (by omega)) (fun z => z) wd.2.2.1, WdO_y G (x _ (by omega)) (x _ (by omega)) (fun z => z) wd.2.2.2⟩
  · rw [a1] at hi
    have es : scSP σ' i p = scSP σ i p := by unfold scSP; rw [(pB i).1, pR, ef]
    rw [gi 318 (by omega) (by omega), es]
    exact kn p (by omega) i hi
theorem kc_differ {p v : Int32} (I : InvK B σ h) (w : WF σ) (H : ∀ h', (∃ B, InvK B (tDiffer σ p v) h') → Fc h h' → K (aDiffer σ p v) h') : wq_K_differ 1 p v h K := by
  have S := I.1
  have hS := w.2.1.1
  have hP := w.2.2.1.1
  unfold aDiffer tDiffer at H
  unfold wq_K_differ
  refine ⟨kO_1 S, k_isPair I w ?_⟩
  simp only [i0, i1, nLit, mul_I, add_I, nI_cl, b2I_s]
  rcases ixI_c p (n := sP σ) (by omega) with ⟨e, c⟩ | ⟨q, hq, e, e2⟩
  · simp only [e] at H ⊢
    exact ⟨fun _ => H h ⟨B, I⟩ (Fc_rf h), fun z => absurd (by first | trivial | rfl) z⟩
  · simp only [e2] at H ⊢
    subst e
    refine ⟨fun z => absurd z (by simp), fun _ => ⟨kO_1 S, k_isSegment I w ?_⟩⟩
    simp only [b2I_s]
    rcases ixI_c v (n := sS σ) (by omega) with ⟨e, c⟩ | ⟨s, hs, e, e2⟩
    · simp only [e] at H ⊢
      exact ⟨fun z => absurd (by first | trivial | rfl) z, fun _ => H h ⟨B, I⟩ (Fc_rf h)⟩
    · simp only [e2] at H ⊢
      subst e
      have la := w.2.2.1.2.2.2.1 q hq
      have lb := w.2.1.2.2 s hs
      refine ⟨fun _ => ?_, fun z => absurd z (by simp)⟩
      simp (disch := omega) only [i0, i1, nLit, mul_I, add_I, nI_cl, isO_stI, isA_stI, isL_stI, gR_stI, gJ_stI, gK_stI, gL_stI, gS_stI, true_and, and_true, forall_eq, implies_true, ps_339, true_or, or_true, true_imp_iff, not_true_eq_false, not_false_eq_true, false_imp_iff, kO_1 S, kR_1_1 S, kO_4 S, kR_4_1 S, kS_7 S, kK_7 S, kN_7 S, kq_7 S, kv_24, ps_9, kO_1 S, kR_1_2 S, kO_105 S, kR_105_0 S, kR_105_1 S, kR_105_2 S, kR_105_3 S, kR_105_4 S, kR_105_5 S, kS_106 S, kK_106 S, kN_106 S, kq_106 S, kS_107 S, kK_107 S, kN_107 S, kq_107 S, kS_109 S, kK_109 S, kN_109 S, kq_109 S, kA_108 S, kL_108 S, kA_110 S, kL_110 S, kA_111 S, kL_111 S, kv_20, kv_40, ps_112, ps_114, ps_232, kR_1_4 S, kO_312 S]
      refine k_tell (LdF_sp I.2.1.2.2.2.1 (by omega) (by omega)) S (IK_src I w hq) (IK_seg I w hs) la lb (fun h2 G2 e22 K2 => ?_)
      have G3 : AgY XM YN h h2 := AgY_mono G2 (fun a z => Or.inr (Or.inr (Or.inr (Or.inr z)))) (fun _ _ z => z)
      have S2 := KSh_y G2 (fun _ _ z => z.elim) S
      have hg := S.1
      simp only [i0, i1, nLit, mul_I, add_I, nI_cl, isO_stI, isA_stI, isL_stI, gR_stI, gJ_stI, gK_stI, gL_stI, gS_stI, true_and, and_true, forall_eq, implies_true, ps_339, kO_1 S2, kR_1_4 S2, kO_312 S2, K2.1]
      refine H h2 ⟨B, InvK_g (σ := σ) G3 rfl rfl rfl rfl (Nat.le_refl _) ?_ K2 I w⟩ (XM_c G3)
      obtain ⟨m1, m2, m3, m4, m5⟩ := I.2.2.2.1
      have gx : ∀ a, a < 312 → gI h2 a = gI h a := fun a ha => (G2.1 a (by omega) (fun z => by have := z.1; omega)).1
      refine ⟨by rw [gx 105 (by decide)]; exact m1, by rw [gx 105 (by decide)]; exact m2, fun r hr => by rw [gx 110 (by decide), gx 111 (by decide)]; exact m3 r hr, fun p hp => by rw [gx 108 (by decide)]; exact m4 p hp, fun p hp => ?_⟩
      have hp' : p < sP σ := hp
      exact RwO_y G2 (by omega) (fun z => by have := z.1; omega) (fun z => by have := z.1; omega) (fun z => by have := z.1; omega) (fun z => by have := z.1; omega) (m5 p hp)
theorem latN_ne {w : Nat → Nat} {p R : Nat} (h : w R ≠ p) : latN w p (R + 1) = latN w p R := by rw [latN, if_neg h]
theorem latN_w {w : Nat → Nat} {p : Nat} : ∀ {t : Nat}, 0 < latN w p t → w (latN w p t - 1) = p ∧ latN w p t ≤ t
  | 0, h => absurd h (by simp [latN])
  | t + 1, h => by
    rw [latN] at *
    split at h
    · rename_i e
      rw [if_pos e]
      exact ⟨by rw [Nat.add_sub_cancel]; exact e, Nat.le_refl _⟩
    · rename_i e
      rw [if_neg e]
      have := latN_w h
      exact ⟨this.1, by omega⟩
theorem latN_pos {w : Nat → Nat} {p : Nat} : ∀ {t r : Nat}, r < t → w r = p → 0 < latN w p t
  | 0, r, h, _ => absurd h (by omega)
  | t + 1, r, h, e => by
    rw [latN]
    split
    · omega
    · rename_i ne
      exact latN_pos (r := r) (by by_cases z : r = t; rw [z] at e; exact absurd e ne; omega) e
theorem undo_last (w : WF σ) (h0 : sR σ ≠ 0) (hl : latN (sw σ) (sw σ (sR σ - 1)) (sR σ - 1) = 0) : sw σ (sR σ - 1) = sP σ - 1 := by
  obtain ⟨w1, w2, w3, w4, w5, w6⟩ := w.2.2.1
  have a := (w3 (sR σ - 1) (by omega)).1
  by_cases z : sw σ (sR σ - 1) = sP σ - 1
  · exact z
  · exfalso
    have b := w5 (sP σ - 1) (by omega)
    have c := latN_w b
    generalize latN (sw σ) (sP σ - 1) (sR σ) = u at *
    have ne : u - 1 ≠ sR σ - 1 := fun y => by rw [y] at c; exact z c.1
    have d := w6 (u - 1) (by omega) (sw σ (sR σ - 1)) (by rw [c.1]; omega)
    have e := latN_w d
    have f := latN_pos (w := sw σ) (p := sw σ (sR σ - 1)) (t := sR σ - 1) (r := latN (sw σ) (sw σ (sR σ - 1)) (u - 1) - 1) (by omega) e.1
    omega
theorem kc_undo (I : InvK B σ h) (w : WF σ) (H : ∀ h', (∃ B, InvK B (tUndo σ) h') → Fc h h' → K (aUndo σ) h') : wq_K_undo 1 h K := by
  have S := I.1
  have hP := w.2.2.1.1
  have hR := w.2.2.1.2.1
  obtain ⟨m1, m2, m3, m4, m5⟩ := I.2.2.2.1
  unfold aUndo tUndo at H
  unfold wq_K_undo
  simp (disch := omega) only [i0, i1, nLit, mul_I, add_I, nI_cl, isO_stI, isA_stI, isL_stI, gR_stI, gJ_stI, gK_stI, gL_stI, gS_stI, true_and, and_true, forall_eq, implies_true, ps_339, kO_1 S, kR_1_2 S, kO_105 S, m2, eq_I]
  refine ⟨fun c => ?_, fun c => ?_⟩
  · simp only [if_neg c] at H
    have hw := (w.2.2.1.2.2.1 (sR σ - 1) (by omega)).1
    have e7 : gI (stI h 105 7 (nI (sR σ - 1))) 105 7 = nI (sR σ - 1) := by rw [gI_stI, if_pos ⟨rfl, rfl⟩]
    have ew : gI (stI h 105 7 (nI (sR σ - 1))) 110 (sR σ - 1) = nI (sw σ (sR σ - 1)) := by rw [gI_stI_o _ _ _ _ (by decide)]; exact (m3 (sR σ - 1) (by omega)).1
    have G1 : AgY XM YN h (stI h 105 7 (nI (sR σ - 1))) := AgY_stI (AgY_rf _ _ h) (Or.inl rfl)
    have S1 := KSh_y G1 (fun _ _ z => z.elim) S
    unfold wq_Memory_takeBack
    simp (disch := omega) only [i0, i1, nLit, mul_I, add_I, nI_cl, isO_stI, isA_stI, isL_stI, gR_stI, gJ_stI, gK_stI, gL_stI, gS_stI, true_and, and_true, forall_eq, implies_true, ps_339, kO_105 S, kR_105_4 S, kA_110 S, kL_110 S, m2, sub_I, e7, ew]
    have W1 : ∀ r, r < sR σ - 1 → gI (stI h 105 7 (nI (sR σ - 1))) 110 r = nI (sw σ r) ∧ sw σ r < 20 := fun r hr => ⟨by rw [gI_stI_o _ _ _ _ (by decide)]; exact (m3 r (by omega)).1, by have := (w.2.2.1.2.2.1 r (by omega)).1; omega⟩
    refine k_renderingAt S1 W1 (by omega) e7 (by omega) (Nat.le_refl _) ?_
    have hll := latN_le (sw σ) (sw σ (sR σ - 1)) (sR σ - 1)
    have hne : ∀ p, p ≠ sw σ (sR σ - 1) → latN (sw σ) p (sR σ - 1) = latN (sw σ) p (sR σ) := fun p hp => by
      have := latN_ne (w := sw σ) (p := p) (R := sR σ - 1) (fun z => hp z.symm)
      rw [show sR σ - 1 + 1 = sR σ by omega] at this
      exact this.symm
    have ul := undo_last w c
    generalize hu : latN (sw σ) (sw σ (sR σ - 1)) (sR σ - 1) = u at *
    cases u with
    | zero =>
      simp only [if_true] at H
      refine ⟨fun z => absurd z (by decide), fun _ => ⟨kO_105 S1, kO_105 S1, ?_⟩⟩
      have e6 : gI (stI h 105 7 (nI (sR σ - 1))) 105 6 = nI (sP σ) := by rw [gI_stI, if_neg (by decide)]; exact m1
      rw [e6, sub_I (by omega)]
      generalize e9 : stI (stI h 105 7 (nI (sR σ - 1))) 105 6 (nI (sP σ - 1)) = h9
      have e9' := e9.symm
      have G9 : AgY XM YN h h9 := by rw [e9']; exact AgY_stI G1 (Or.inl rfl)
      have ul' := ul rfl
      have hg := S.1
      have gx : ∀ a, a ≠ 105 → gI h9 a = gI h a := fun a ha => by rw [e9', gI_stI_o _ _ _ _ ha, gI_stI_o _ _ _ _ ha]
      refine H h9 ⟨B, InvK_g (σ := σ) G9 rfl rfl rfl rfl (Nat.sub_le _ _) ⟨?_, ?_, fun r hr => ?_, fun p hp => ?_, fun p hp => ?_⟩ ?_ I w⟩ (XM_c G9)
      · rw [e9', gI_stI, if_pos ⟨rfl, rfl⟩]; rfl
      · rw [e9', gI_stI, if_neg (by decide), e7]; rfl
      · rw [gx 110 (by decide), gx 111 (by decide)]; exact m3 r hr
      · have hp' : p < sP σ - 1 := hp
        rw [gx 108 (by decide)]
        have el : ltR (setP σ (sP σ - 1) (sR σ - 1) (sw σ) (sy σ)) p = ltR σ p := by
          show latN (sw σ) p (sR σ - 1) - 1 = latN (sw σ) p (sR σ) - 1
          rw [hne p (by omega)]
        rw [el]
        exact m4 p (by omega)
      · have hp' : p < sP σ - 1 := hp
        unfold RwO
        rw [gx (114 + 6 * p) (by omega), gx (114 + 6 * p + 1) (by omega), gx (114 + 6 * p + 2) (by omega), gx (114 + 6 * p + 3) (by omega)]
        exact m5 p (by omega)
      · have k := I.2.2.2.2.2.2
        unfold KSt
        rw [gx 312 (by decide), gx 314 (by decide), gx 315 (by decide), gx 316 (by decide)]
        exact k
    | succ u =>
      rw [if_neg (by omega)] at H
      refine ⟨fun _ => ⟨kO_105 S1, by rw [kR_105_2 S1]; decide, by rw [kR_105_2 S1]; exact kA_108 S1 (by omega), ?_⟩, fun z => absurd (nI_pos' (by omega)) z⟩
      rw [kR_105_2 S1]
      generalize e4' : stI (stI h 105 7 (nI (sR σ - 1))) 108 (sw σ (sR σ - 1)) (tI (u + 1)) = h4
      have e4 := e4'.symm
      have G9 : AgY XM YN h h4 := by rw [e4]; exact AgY_stI G1 (Or.inr (Or.inl rfl))
      have gx : ∀ a, a ≠ 105 → a ≠ 108 → gI h4 a = gI h a := fun a ha hb => by rw [e4, gI_stI_o _ _ _ _ hb, gI_stI_o _ _ _ _ ha]
      have hg := S.1
      refine H h4 ⟨B, InvK_g (σ := σ) G9 rfl rfl rfl rfl (Nat.le_refl _) ⟨?_, ?_, fun r hr => ?_, fun p hp => ?_, fun p hp => ?_⟩ ?_ I w⟩ (XM_c G9)
      · rw [e4, gI_stI_o _ _ _ _ (by decide), gI_stI, if_neg (by decide)]; exact m1
      · rw [e4, gI_stI_o _ _ _ _ (by decide), e7]; rfl
      · rw [gx 110 (by decide) (by decide), gx 111 (by decide) (by decide)]; exact m3 r hr
      · have hp' : p < sP σ := hp
        rw [e4, gI_stI, gI_stI_o _ _ _ _ (by decide)]
        by_cases z : p = sw σ (sR σ - 1)
        · rw [if_pos ⟨rfl, z⟩, z]
          show nI u = nI (latN (sw σ) (sw σ (sR σ - 1)) (sR σ - 1) - 1)
          rw [hu]
          rfl
        · rw [if_neg (fun y => z y.2)]
          have el : ltR (setP σ (sP σ) (sR σ - 1) (sw σ) (sy σ)) p = ltR σ p := by
            show latN (sw σ) p (sR σ - 1) - 1 = latN (sw σ) p (sR σ) - 1
            rw [hne p z]
          rw [el]
          exact m4 p hp'
      · have hp' : p < sP σ := hp
        unfold RwO
        rw [gx (114 + 6 * p) (by omega) (by omega), gx (114 + 6 * p + 1) (by omega) (by omega), gx (114 + 6 * p + 2) (by omega) (by omega), gx (114 + 6 * p + 3) (by omega) (by omega)]
        exact m5 p hp'
      · have k := I.2.2.2.2.2.2
        unfold KSt
        rw [gx 312 (by decide) (by decide), gx 314 (by decide) (by decide), gx 315 (by decide) (by decide), gx 316 (by decide) (by decide)]
        exact k
  · simp only [if_pos c] at H
    exact H h ⟨B, I⟩ (Fc_rf h)
end KUN
