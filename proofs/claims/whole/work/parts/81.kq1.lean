/-! the class: questions -/
theorem alF_sym (f : Nat → Nat) (a b : Nat) : ∀ r k, alF f a b r k = alF f b a r k
  | 0, _ => rfl
  | r + 1, k => by rw [alF, alF, alF_sym f a b r, decide_eq_decide.mpr ⟨fun z => z.symm, fun z => z.symm⟩]
theorem alP_sym (f : Nat → Nat) (x y : Nat × Nat × Nat) : alP f x y = alP f y x := by
  unfold alP
  by_cases c : x.2.2 = y.2.2
  · rw [c, alF_sym]
  · rw [decide_eq_false c, decide_eq_false (fun z => c z.symm)]
    rfl
theorem lkP1_sym (f : Nat → Nat) (x y : Nat × Nat × Nat) : lkP1 f x y = lkP1 f y x := by
  unfold lkP1 wdP sgP
  by_cases c : x.1 = y.1
  · rw [c, alP_sym, decide_eq_decide.mpr (⟨fun z => z.symm, fun z => z.symm⟩ : f x.2.1 = f y.2.1 ↔ f y.2.1 = f x.2.1)]
  · have c' : ¬ y.1 = x.1 := fun z => c z.symm
    rw [decide_eq_false c, decide_eq_false c']
    rfl
theorem liF_sym (f : Nat → Nat) : ∀ L M : PcL, liF f L M = liF f M L
  | [], [] => rfl
  | [], _ :: _ => rfl
  | _ :: _, [] => rfl
  | x :: l, y :: m => by rw [liF, liF, lkP1_sym, liF_sym f l m]
theorem lkL_sym (f : Nat → Nat) (L M : PcL) : lkL f L M = lkL f M L := by
  unfold lkL
  rw [liF_sym, decide_eq_decide.mpr (⟨fun z => z.symm, fun z => z.symm⟩ : L.length = M.length ↔ M.length = L.length)]
/-- only the class's own cells have changed -/
def Fc (h h' : HP) : Prop := AgY (fun a => (0 < a ∧ a < 338) ∨ 361 < a) Ydy h h'
theorem Fc_rf (h : HP) : Fc h h := AgY_rf _ _ h
theorem Fc_tr {h1 h2 h3 : HP} (A : Fc h1 h2) (B : Fc h2 h3) : Fc h1 h3 := AgY_tr A B
section KQ1
variable {B : Nat → Nat} {σ : St} {h : HP} {K : Int32 → HP → Prop}
theorem Fq_c {h' : HP} (G : AgY (Xq B) Y3 h h') (T : isTA (B 62)) : Fc h h' := AgY_mono G (fun a z => by unfold Xq isTA at *; omega) Y3_dy
theorem KK_q {h' : HP} {v : Int32} (I : InvK B σ h) (w : WF σ) (G : AgY (Xq B) Y3 h h') (Kn : KnO σ h') (H : ∀ h', (∃ B, InvK B σ h') → Fc h h' → K v h') : K v h' := H h' ⟨B, InvK_q G Kn I w⟩ (Fq_c G (I.2.1.2.2.2.1 62 (by decide)))
theorem k_isN {v : Int32} {n : Nat} (hn : n < 2147483648) (H : K (b2I (ixI v n).isSome) h) : (v < 0 → K 0 h) ∧ (¬ v < 0 → (nI n ≤ v → K 0 h) ∧ (¬ nI n ≤ v → K 1 h)) := by
  rcases ixI_c v (n := n) hn with ⟨e, c⟩ | ⟨j, hj, e, e2⟩
  · rw [e] at H
    refine ⟨fun _ => H, fun c1 => ⟨fun _ => H, fun c2 => ?_⟩⟩
    rcases c with c | c
    · exact absurd c c1
    · exact absurd c c2
  · rw [e2] at H
    subst e
    refine ⟨fun z => absurd z (nI_pos (by omega)), fun _ => ⟨fun z => absurd ((le_I hn (by omega)).mp z) (by omega), fun _ => H⟩⟩
theorem k_isSegment {v : Int32} (I : InvK B σ h) (w : WF σ) (H : K (b2I (ixI v (sS σ)).isSome) h) : wq_K_isSegment 1 v h K := by
  have S := I.1
  have hS := w.2.1.1
  unfold wq_K_isSegment
  simp only [isO_stI, isA_stI, isL_stI, gR_stI, gJ_stI, gK_stI, gL_stI, gS_stI, true_and, and_true, forall_eq, implies_true, ps_339, kO_1 S, kR_1_1 S, kO_4 S, I.2.2.1.1]
  exact k_isN (by omega) H
theorem k_isPair {v : Int32} (I : InvK B σ h) (w : WF σ) (H : K (b2I (ixI v (sP σ)).isSome) h) : wq_K_isPair 1 v h K := by
  have S := I.1
  have hP := w.2.2.1.1
  unfold wq_K_isPair
  simp only [isO_stI, isA_stI, isL_stI, gR_stI, gJ_stI, gK_stI, gL_stI, gS_stI, true_and, and_true, forall_eq, implies_true, ps_339, kO_1 S, kR_1_2 S, kO_105 S, I.2.2.2.1.1]
  exact k_isN (by omega) H
theorem k_isSomebody {v : Int32} (H : K (b2I (ixI v 100).isSome) h) : wq_K_isSomebody 1 v h K := by
  have := k_isN (v := v) (n := 100) (by decide) H
  unfold wq_K_isSomebody
  refine ⟨this.1, fun c => ⟨fun c2 => (this.2 c).1 ?_, fun c2 => (this.2 c).2 ?_⟩⟩
  · rw [Int32.lt_iff_toInt_lt] at c2
    rw [Int32.le_iff_toInt_le]
    have e1 : (99 : Int32).toInt = 99 := by decide
    have e2 : (nI 100).toInt = 100 := by decide
    omega
  · intro z
    apply c2
    rw [Int32.le_iff_toInt_le] at z
    rw [Int32.lt_iff_toInt_lt]
    have e1 : (99 : Int32).toInt = 99 := by decide
    have e2 : (nI 100).toInt = 100 := by decide
    omega
theorem k_isLikeSource {s p : Nat} (I : InvK B σ h) (w : WF σ) (hs : s < sS σ) (hp : p < sP σ) (H : K (b2I (lkSP σ s p)) h) : wq_K_isLikeSource 1 (nI s) (nI p) h K := by
  have S := I.1
  have hS := w.2.1.1
  have hP := w.2.2.1.1
  have R := IK_seg I w hs
  have R' := IK_src I w hp
  have r1 := R.1
  have s1 := R'.1
  unfold wq_K_isLikeSource
  simp (disch := omega) only [i0, i1, nLit, mul_I, add_I, nI_cl, isO_stI, isA_stI, isL_stI, gR_stI, gJ_stI, gK_stI, gL_stI, gS_stI, true_and, and_true, forall_eq, implies_true, ps_339, true_or, or_true, true_imp_iff, not_true_eq_false, not_false_eq_true, false_imp_iff, kO_1 S, kR_1_1 S, kO_4 S, kR_4_1 S, kS_7 S, kK_7 S, kN_7 S, kq_7 S, kv_24, ps_9, kO_1 S, kR_1_2 S, kO_105 S, kR_105_0 S, kR_105_1 S, kR_105_2 S, kR_105_3 S, kR_105_4 S, kR_105_5 S, kS_106 S, kK_106 S, kN_106 S, kq_106 S, kS_107 S, kK_107 S, kN_107 S, kq_107 S, kS_109 S, kK_109 S, kN_109 S, kq_109 S, kA_108 S, kL_108 S, kA_110 S, kL_110 S, kA_111 S, kL_111 S, kv_20, kv_40, ps_112, ps_114, ps_232, rS_o r1]
  refine k_isLike R R' ⟨b2I_01 _, ?_⟩
  rw [lkL_sym]
  exact H
theorem LdF_sp (T : ∀ r, r < 63 → isTA (B r)) {s p : Nat} (hs : s < 24) (hp : p < 20) : LdF (114 + 6 * p) (112 + 6 * p) (B (2 + p)) (9 + 4 * s) 5 (B 1) := by
  intro b h1 h2
  have t1 := T (2 + p) (by omega)
  have t2 := T 1 (by omega)
  unfold isTA at t1 t2
  omega
theorem k_between {s p : Nat} (I : InvK B σ h) (w : WF σ) (hs : s < sS σ) (hp : p < sP σ) (H : ∀ h', AgY (Xq B) Y3 h h' → KnO σ h' → K (nI (scSP σ s p)) h') : wq_Near_between 317 (nI p) (114 + 6 * p) (nI s) (9 + 4 * s) h K := by
  have S := I.1
  have hS := w.2.1.1
  have hP := w.2.2.1.1
  have R := IK_seg I w hs
  have R' := IK_src I w hp
  have r1 := R.1
  have s1 := R'.1
  have la := w.2.2.1.2.2.2.1 p hp
  have lb := w.2.1.2.2 s hs
  have kn := I.2.2.2.2.2.1
  have b100 : scSP σ s p ≤ 100 := scN_le _ _ _
  have hw := wk_le (sf σ) (pcRw σ (2 + p)) (pcB σ s)
  have nk : ∀ v : Nat, v ≤ 100 → ¬ nI v = -nI 1 := fun v hv z => by
    have q : (0 : Int32) ≤ nI v := nI_pos' (by omega)
    rw [z] at q
    exact absurd q (by decide)
  have put : ∀ h4 : HP, AgY (fun b => b = 313) YN h h4 → AgY (Xq B) Y3 h (stI h4 318 (p * 24 + s) (nI (scSP σ s p))) ∧ KnO σ (stI h4 318 (p * 24 + s) (nI (scSP σ s p))) := fun h4 G4 => by
    refine ⟨AgY_stI (AgY_mono G4 (fun a z => Or.inr (Or.inl z)) (fun _ _ z => z.elim)) (Or.inr (Or.inr (Or.inl rfl))), fun p' hp' s' hs' => ?_⟩
    rw [gI_stI]
    by_cases z : p' * 24 + s' = p * 24 + s
    · rw [if_pos ⟨rfl, z⟩]
      have e1 : p' = p := by omega
      have e2 : s' = s := by omega
      rw [e1, e2]
      exact Or.inr rfl
    · rw [if_neg (fun y => z y.2), (G4.1 318 (by have := S.1; omega) (by decide)).1]
      exact kn p' hp' s' hs'
  unfold wq_Near_between
  simp (disch := omega) only [i0, i1, nLit, mul_I, add_I, nI_cl, isO_stI, isA_stI, isL_stI, gR_stI, gJ_stI, gK_stI, gL_stI, gS_stI, true_and, and_true, forall_eq, implies_true, ps_339, kO_317 S, kR_317_0 S, kR_317_1 S, kA_318 S, kL_318 S, kO_312 S, rS_o r1, rS_o s1, R.2.1.1, R'.2.1.1, max_I]
  refine ⟨fun c => ?_, fun c => ⟨fun c2 => ?_, fun c2 => ?_⟩⟩
  · rcases kn p hp s hs with q | q
    · exact absurd q c
    · rw [q]
      exact H h (AgY_rf _ _ h) kn
  · refine k_leastSum (LdF_sp I.2.1.2.2.2.1 (by omega) (by omega)) S R' R la lb (fun h4 F4 _ => ⟨c2, ?_⟩)
    have G4 : AgY (fun b => b = 313) YN h h4 := h2_y F4.1 (fun b hb => F4.2 b hb)
    have S4 := KSh_y G4 (fun _ _ z => z.elim) S
    have c3 : ¬ max (pcRw σ (2 + p)).length (pcB σ s).length = 0 := fun z => c2 (by rw [z])
    have hq : 10 * wk (sf σ) (pcRw σ (2 + p)) (pcB σ s) / max (pcRw σ (2 + p)).length (pcB σ s).length ≤ 10 * wk (sf σ) (pcRw σ (2 + p)) (pcB σ s) := Nat.div_le_self _ _
    have ev : 100 - 10 * wk (sf σ) (pcRw σ (2 + p)) (pcB σ s) / max (pcRw σ (2 + p)).length (pcB σ s).length = scSP σ s p := by
      show _ = scN _ _ _
      unfold scN
      rw [if_neg c3]
    rw [mul_I, pk_div (by omega) (by omega) (by omega)]
    refine ⟨kA_318 S4 (by omega), ?_⟩
    rw [sc_I (by omega), ev]
    have := put h4 G4
    refine ⟨kO_317 S4, ?_⟩
    simp (disch := omega) only [i0, i1, nLit, mul_I, add_I, nI_cl, isO_stI, isA_stI, isL_stI, gR_stI, gJ_stI, gK_stI, gL_stI, gS_stI, true_and, and_true, forall_eq, implies_true, ps_339, kR_317_0 S4, kA_318 S4, kL_318 S4]
    have e9 : gI (stI h4 318 (p * 24 + s) (nI (scSP σ s p))) 318 (p * 24 + s) = nI (scSP σ s p) := by rw [gI_stI, if_pos ⟨rfl, rfl⟩]
    rw [e9]
    exact H _ this.1 this.2
  · have c3 : max (pcRw σ (2 + p)).length (pcB σ s).length = 0 := (eq_I (by omega) (by omega)).mp c2
    have ev : scSP σ s p = 100 := by
      show scN _ _ _ = _
      unfold scN
      rw [if_pos c3]
    have := put h (AgY_rf _ _ h)
    rw [ev] at this H
    have e9 : gI (stI h 318 (p * 24 + s) (nI 100)) 318 (p * 24 + s) = nI 100 := by rw [gI_stI, if_pos ⟨rfl, rfl⟩]
    rw [e9]
    exact H _ this.1 this.2
theorem k_scoreOf {s p : Nat} (I : InvK B σ h) (w : WF σ) (hs : s < sS σ) (hp : p < sP σ) (H : ∀ h', AgY (Xq B) Y3 h h' → KnO σ h' → K (nI (scSP σ s p)) h') : wq_K_scoreOf 1 (nI s) (nI p) h K := by
  have S := I.1
  have hS := w.2.1.1
  have hP := w.2.2.1.1
  unfold wq_K_scoreOf
  simp (disch := omega) only [i0, i1, nLit, mul_I, add_I, nI_cl, isO_stI, isA_stI, isL_stI, gR_stI, gJ_stI, gK_stI, gL_stI, gS_stI, true_and, and_true, forall_eq, implies_true, ps_339, true_or, or_true, true_imp_iff, not_true_eq_false, not_false_eq_true, false_imp_iff, kO_1 S, kR_1_1 S, kO_4 S, kR_4_1 S, kS_7 S, kK_7 S, kN_7 S, kq_7 S, kv_24, ps_9, kO_1 S, kR_1_2 S, kO_105 S, kR_105_0 S, kR_105_1 S, kR_105_2 S, kR_105_3 S, kR_105_4 S, kR_105_5 S, kS_106 S, kK_106 S, kN_106 S, kq_106 S, kS_107 S, kK_107 S, kN_107 S, kq_107 S, kS_109 S, kK_109 S, kN_109 S, kq_109 S, kA_108 S, kL_108 S, kA_110 S, kL_110 S, kA_111 S, kL_111 S, kv_20, kv_40, ps_112, ps_114, ps_232, kR_1_3 S, kO_317 S]
  exact k_between I w hs hp H
end KQ1
