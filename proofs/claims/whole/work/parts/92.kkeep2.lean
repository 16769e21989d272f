section KK2
variable {B : Nat → Nat} {σ : St} {h : HP}
theorem Ag_YN {X : Nat → Prop} {h' : HP} {a t : Nat} (A : Ag X h h') (g : gR h' = gR (stR h a 3 t)) (e : gR h a 3 = t) : AgY X YN h h' := ⟨fun b hb hx => ⟨(A.1 b hb hx).1, (A.1 b hb hx).2.2⟩, fun b k hb _ => by
    rw [g, gR_stR]
    split
    · rename_i z; rw [z.1, z.2, e]
    · rfl, A.2.1, A.2.2⟩
theorem k_forgetPair {p : Nat} {K : HP → Prop} {h0 : HP} (S0 : KSh h0) (hp : p < 20) (H : ∀ h', AgY (fun a => a = 318) YN h0 h' → (∀ i, gI h' 318 i = if p * 24 ≤ i ∧ i < p * 24 + 24 then -nI 1 else gI h0 318 i) → K h') : ∀ (r k : Nat) (h : HP), k + r = 24 → AgY (fun a => a = 318) YN h0 h → (∀ i, gI h 318 i = if p * 24 ≤ i ∧ i < p * 24 + k then -nI 1 else gI h0 318 i) → Wp k_Near_forgetPair 2 [some (.ref 317), some (.int (nI p)), some (.int (nI k))] [] h (0, 0) (QV K)
  | 0, k, h, h1, G, e => wb_Near_forgetPair_2_ok (by
      unfold wb_Near_forgetPair_2
      simp (disch := omega) only [i0, i1, nLit, mul_I, add_I, nI_cl, le_I]
      refine ⟨fun _ => H h G ?_, fun z => absurd (by omega) z⟩
      rw [show k = 24 by omega] at e
      exact e)
  | r + 1, k, h, h1, G, e => wb_Near_forgetPair_2_ok (by
      have S := KSh_y G (fun _ _ z => z.elim) S0
      unfold wb_Near_forgetPair_2
      simp (disch := omega) only [i0, i1, nLit, mul_I, add_I, nI_cl, isO_stI, isA_stI, isL_stI, gR_stI, gJ_stI, gK_stI, gL_stI, gS_stI, true_and, and_true, forall_eq, implies_true, ps_339, kO_317 S, kR_317_0 S, kA_318 S, kL_318 S, le_I]
      refine ⟨fun z => absurd z (by omega), fun _ => k_forgetPair S0 hp H r (k + 1) _ (by omega) (AgY_stI G rfl) (fun i => ?_)⟩
      rw [gI_stI, e i]
      by_cases z : i = p * 24 + k
      · rw [if_pos ⟨rfl, z⟩, if_pos (by omega)]
      · rw [if_neg (fun y => z y.2)]
        by_cases y : p * 24 ≤ i ∧ i < p * 24 + k
        · rw [if_pos y, if_pos (by omega)]
        · rw [if_neg y, if_neg (by omega)])
/-- the state between a source and its first rendering, with the number of pairs as it was -/
def tMid (σ : St) (s : Nat) : St := setz (setf σ (cpF (sf σ) (600 + sb σ s) (2 + sP σ) (sn σ s))) (va_up (sz σ) (2 + sP σ) (sn σ s))
def XP (P A : Nat) (a : Nat) : Prop := a = 105 ∨ a = 112 + 6 * P ∨ a = A ∨ (114 + 6 * P ≤ a ∧ a ≤ 117 + 6 * P)
theorem k_addPair {s : Nat} {K : Int32 → HP → Prop} (I : InvK B σ h) (w : WF σ) (hs : s < sS σ) (hP : sP σ < 20) (hlen : (pcRw (tMid σ s) (2 + sP σ)).length ≤ 20) (H : ∀ h' B', KTx B' (tMid σ s) h' → AgY (XP (sP σ) (B (2 + sP σ))) (YT (112 + 6 * sP σ)) h h' → KSh h' → RwO h' (114 + 6 * sP σ) (600 * (2 + sP σ)) (pcRw (tMid σ s) (2 + sP σ)) → gI h' 105 6 = nI (sP σ + 1) → gI h' 105 7 = nI (sR σ) → K (nI (sP σ)) h') : wq_Memory_addPair 105 (9 + 4 * s) h K := by
  have S := I.1
  have hS := w.2.1.1
  have hR := w.2.2.1.2.1
  have R := IK_seg I w hs
  have r1 := R.1
  obtain ⟨⟨g0, g4, g5, g6, g8⟩, gz⟩ := I.2.2.1.2 s hs
  obtain ⟨m1, m2, m3, m4, m5⟩ := I.2.2.2.1
  have T1 := IK_1 I
  have T2 := IK_2 I hP
  have e2 := tx_2 hP
  have bn := w.2.1.2.1 s hs
  have ta := I.2.1.2.2.2.1
  have tr := ta (2 + sP σ) (by omega)
  have t1' := ta 1 (by decide)
  have tr' := tr
  have t1'' := t1'
  unfold isTA at tr' t1''
  have hg := S.1
  unfold wq_Memory_addPair
  simp (disch := omega) only [i0, i1, nLit, mul_I, add_I, nI_cl, isO_stI, isA_stI, isL_stI, gR_stI, gJ_stI, gK_stI, gL_stI, gS_stI, true_and, and_true, forall_eq, implies_true, ps_339, true_or, or_true, true_imp_iff, not_true_eq_false, not_false_eq_true, false_imp_iff, kO_1 S, kR_1_2 S, kO_105 S, kR_105_0 S, kR_105_1 S, kR_105_2 S, kR_105_3 S, kR_105_4 S, kR_105_5 S, kS_106 S, kK_106 S, kN_106 S, kq_106 S, kS_107 S, kK_107 S, kN_107 S, kq_107 S, kS_109 S, kK_109 S, kN_109 S, kq_109 S, kA_108 S, kL_108 S, kA_110 S, kL_110 S, kA_111 S, kL_111 S, kv_20, kv_40, ps_112, ps_114, ps_232, m1, tx_o T2, rS_o r1, R.2.2.1, g4, g5]
  refine k_take T2.1 T2.2.1 T2.2.2.1 T2.2.2.2.2.1.2 T1 (by omega) gz (by omega) (fun z => TA_txt (r := 2 + sP σ) tr (by rw [e2]; exact z.symm)) (by omega) (by omega) (fun h1 A' Tk => ?_)
  rw [Nat.add_sub_cancel_left] at Tk
  have Tk' : TkO h h1 (txA (2 + sP σ)) (B (2 + sP σ)) A' (fun i => sf σ (600 + sb σ s + i)) (sn σ s) := by rw [e2]; exact Tk
  have yd : ∀ a k, YT (112 + 6 * sP σ) a k → Ydy a k := fun a k z => Or.inr ⟨by rw [z.1]; unfold isTxt; simp; omega, z.2⟩
  have S1 := KSh_y Tk.2.1 yd S
  have t1 := KTx_up (σ := σ) (F := cpF (sf σ) (600 + sb σ s) (2 + sP σ) (sn σ s)) Tk' (by omega) (by omega) (cpF_lt w.1.1) (fun i hi => cpF_o (by omega)) (fun i hi => by rw [cpF_i hi]) S.1 w.1.2 I.2.1
  have T2' : TxO h1 (112 + 6 * sP σ) A' (sf (tMid σ s)) (600 * (2 + sP σ)) (sn σ s) := TkO_T Tk T2.1 (cpF_lt w.1.1) (fun i hi => cpF_i hi)
  have q1 := S1.2.2.2.2.2.1 (sP σ) (by omega)
  have s1 := q1.2.2.1
  simp (disch := omega) only [i0, i1, nLit, mul_I, add_I, nI_cl, isO_stI, isA_stI, isL_stI, gR_stI, gJ_stI, gK_stI, gL_stI, gS_stI, true_and, and_true, forall_eq, implies_true, ps_339, true_or, or_true, true_imp_iff, not_true_eq_false, not_false_eq_true, false_imp_iff, kO_1 S1, kR_1_2 S1, kO_105 S1, kR_105_0 S1, kR_105_1 S1, kR_105_2 S1, kR_105_3 S1, kR_105_4 S1, kR_105_5 S1, kS_106 S1, kK_106 S1, kN_106 S1, kq_106 S1, kS_107 S1, kK_107 S1, kN_107 S1, kq_107 S1, kS_109 S1, kK_109 S1, kN_109 S1, kq_109 S1, kA_108 S1, kL_108 S1, kA_110 S1, kL_110 S1, kA_111 S1, kL_111 S1, kv_20, kv_40, ps_112, ps_114, ps_232, tx_o T2', rS_o s1, T2'.2.2.2.1]
  have hA' : isTA A' := by
    rcases Tk.1 with q | q
    · rw [q.1]; exact tr
    · unfold isTA; omega
  have hA'' := hA'
  unfold isTA at hA''
  have nt : ¬ RwX (114 + 6 * sP σ) (112 + 6 * sP σ) := fun z => by unfold RwX at z; omega
  have nA : ¬ RwX (114 + 6 * sP σ) A' := fun z => by unfold RwX at z; omega
  have ep : pcRw (tMid σ s) (2 + sP σ) = pcs (atM (sf (tMid σ s)) (600 * (2 + sP σ) + sn σ s)) 46 (600 * (2 + sP σ) + sn σ s) false 600 (600 * (2 + sP σ) + 0) := by
    unfold pcRw
    have : sz (tMid σ s) (2 + sP σ) = sn σ s := va_up_self _ _ _
    rw [this, if_neg (by omega)]
    rfl
  rw [ep] at hlen
  refine k_read s1 T2' (Nat.le_refl _) (Nat.zero_le _) (by omega) ⟨by decide, by decide⟩ (by omega) nt nA hlen (fun h2 A2 g2 R2 => ?_)
  have G2 : AgY (RwX (114 + 6 * sP σ)) YN h1 h2 := Ag_YN A2 g2 q1.2.2.2
  have S2 := KSh_y G2 (fun _ _ z => z.elim) S1
  have c6 : gI h2 105 6 = nI (sP σ) := by
    rw [(G2.1 105 (by have := S1.1; omega) (fun z => by unfold RwX at z; omega)).1, (Tk.2.1.1 105 (by omega) (fun z => by rcases z with z | z <;> omega)).1]
    exact m1
  have c7 : gI h2 105 7 = nI (sR σ) := by
    rw [(G2.1 105 (by have := S1.1; omega) (fun z => by unfold RwX at z; omega)).1, (Tk.2.1.1 105 (by omega) (fun z => by rcases z with z | z <;> omega)).1]
    exact m2
  simp (disch := omega) only [i0, i1, nLit, mul_I, add_I, nI_cl, isO_stI, isA_stI, isL_stI, gR_stI, gJ_stI, gK_stI, gL_stI, gS_stI, true_and, and_true, forall_eq, implies_true, ps_339, kO_105 S2, c6]
  have t2 : KTx (va_up B (2 + sP σ) A') (tMid σ s) h2 := KTx_y (σ := tMid σ s) G2 (fun a z => by
      unfold RwX at z
      refine ⟨isTxt_f (by omega) (by omega) (by omega) (by omega) (by omega), ?_⟩
      unfold isTA
      omega) (fun _ z => z.elim) rfl rfl t1
  have t3 : KTx (va_up B (2 + sP σ) A') (tMid σ s) (stI h2 105 6 (nI (sP σ + 1))) := by
    have G3 : AgY (fun a => a = 105) YN h2 (stI h2 105 6 (nI (sP σ + 1))) := AgY_stI (AgY_rf _ _ h2) rfl
    exact KTx_y (σ := tMid σ s) G3 (fun a z => by rw [z]; exact ⟨by decide, by unfold isTA; omega⟩) (fun _ z => z.elim) rfl rfl t2
  refine H _ _ t3 ?_ S2 ?_ ?_ ?_
  · have GA : AgY (XP (sP σ) (B (2 + sP σ))) (YT (112 + 6 * sP σ)) h h1 := AgY_mono Tk.2.1 (fun a z => by rcases z with z | z; exact Or.inr (Or.inl z); exact Or.inr (Or.inr (Or.inl z))) (fun _ _ z => z)
    have GB : AgY (XP (sP σ) (B (2 + sP σ))) (YT (112 + 6 * sP σ)) h1 h2 := AgY_mono G2 (fun a z => Or.inr (Or.inr (Or.inr (by unfold RwX at z; omega)))) (fun _ _ z => z.elim)
    exact AgY_stI (AgY_tr GA GB) (Or.inl rfl)
  · rw [ep]
    have O := R2.2.1
    unfold RwO
    rw [gI_stI_o _ _ _ _ (by omega), gI_stI_o _ _ _ _ (by omega), gI_stI_o _ _ _ _ (by omega), gI_stI_o _ _ _ _ (by omega)]
    exact O
  · rw [gI_stI, if_pos ⟨rfl, rfl⟩]
  · rw [gI_stI, if_neg (by decide)]; exact c7
theorem kc_keep {v who : Int32} {K : Int32 → HP → Prop} (I : InvK B σ h) (w : WF σ) (hlen : ∀ s, s < sS σ → sP σ < 20 → (pcRw (tMid σ s) (2 + sP σ)).length ≤ 20) (H : ∀ h', (∃ B, InvK B (tKeep σ v who) h') → Fc h h' → K (aKeep σ v who) h') : wq_K_keep 1 v who h K := by
  have S := I.1
  have hS := w.2.1.1
  have hP := w.2.2.1.1
  have hR := w.2.2.1.2.1
  unfold aKeep tKeep at H
  unfold wq_K_keep
  refine ⟨kO_1 S, k_isSegment I w ?_⟩
  simp only [i0, i1, nLit, mul_I, add_I, nI_cl, b2I_s]
  rcases ixI_c v (n := sS σ) (by omega) with ⟨e, c⟩ | ⟨s, hs, e, e2⟩
  · simp only [e] at H ⊢
    exact ⟨fun z => absurd (by first | trivial | rfl) z, fun _ => H h ⟨B, I⟩ (Fc_rf h)⟩
  · simp only [e2] at H ⊢
    subst e
    refine ⟨fun _ => ⟨kO_1 S, k_isSomebody ?_⟩, fun z => absurd z (by simp)⟩
    simp only [b2I_s]
    rcases ixI_c who (n := 100) (by decide) with ⟨e, c⟩ | ⟨y, hy, e, e2⟩
    · simp only [e] at H ⊢
      exact ⟨fun z => absurd (by first | trivial | rfl) z, fun _ => H h ⟨B, I⟩ (Fc_rf h)⟩
    · simp only [e2] at H ⊢
      subst e
      have R := IK_seg I w hs
      have t4 := I.2.1.2.2.2.1 1 (by decide)
      unfold isTA at t4
      have bn := w.2.1.2.1 s hs
      refine ⟨fun _ => ?_, fun z => absurd z (by simp)⟩
      simp (disch := omega) only [i0, i1, nLit, mul_I, add_I, nI_cl, isO_stI, isA_stI, isL_stI, gR_stI, gJ_stI, gK_stI, gL_stI, gS_stI, true_and, and_true, forall_eq, implies_true, ps_339, true_or, or_true, true_imp_iff, not_true_eq_false, not_false_eq_true, false_imp_iff, kO_1 S, kR_1_1 S, kO_4 S, kR_4_1 S, kS_7 S, kK_7 S, kN_7 S, kq_7 S, kv_24, ps_9, kR_1_6 S, kO_324 S]
      refine k_isTorn S ⟨by omega, by omega, by omega, by omega, by decide, by omega⟩ R (w.1.2 1 (by decide)) (pcs_2 _ _) (pcs_Chn _ _ _ (by omega)) (fun h1 G1 => ?_)
      have Q1 : Qs B σ h h1 := ⟨AgY_mono G1 (fun a z => by unfold Xq; rw [z]; exact Or.inr (Or.inr (Or.inr (Or.inr (Or.inl ⟨by decide, by decide⟩))))) (fun _ _ z => z.elim), KnO_y G1 (by decide) S.1 I.2.2.2.2.2.1⟩
      have I1 := Qs_I Q1 I w
      have S1 := I1.1
      have Fq : ∀ {h'}, Qs B σ h h' → Fc h h' := fun Q => Fq_c Q.1 (I.2.1.2.2.2.1 62 (by decide))
      refine ⟨fun c => ?_, fun c => ⟨kO_1 S1, k_isTapeTorn I1 w (fun h2 Q2' => ?_)⟩⟩
      · have c' : trB σ s = true := b2I_1 c
        simp only [c', true_or, if_true] at H
        exact H h1 ⟨B, I1⟩ (Fq Q1)
      have c1 : trB σ s = false := b2I_0 c
      have Q2 := Qs_tr Q1 Q2'
      have I2 := Qs_I Q2 I w
      have S2 := I2.1
      obtain ⟨m1, m2, m3, m4, m5⟩ := I2.2.2.2.1
      simp (disch := omega) only [i0, i1, nLit, mul_I, add_I, nI_cl, isO_stI, isA_stI, isL_stI, gR_stI, gJ_stI, gK_stI, gL_stI, gS_stI, true_and, and_true, forall_eq, implies_true, ps_339, true_or, or_true, true_imp_iff, not_true_eq_false, not_false_eq_true, false_imp_iff, kO_1 S2, kR_1_1 S2, kO_4 S2, kR_4_1 S2, kS_7 S2, kK_7 S2, kN_7 S2, kq_7 S2, kv_24, ps_9, kR_1_2 S2, kO_105 S2, kR_1_3 S2, kO_317 S2, m1, m2, le_I, lt_I]
      refine ⟨fun c => ⟨fun c2 => ?_, fun c2 => ⟨fun c3 => ?_, fun c3 => ?_⟩⟩, fun c => ?_⟩
      · have c' : trT σ = false := b2I_0 c
        simp only [c1, c', show sP σ = 20 by omega, Bool.false_eq_true, or_self, if_false, true_or, if_true] at H
        exact H h2 ⟨B, I2⟩ (Fq Q2)
      · have c' : trT σ = false := b2I_0 c
        have hP2 : sP σ < 20 := by omega
        simp only [c1, c', show ¬ sP σ = 20 by omega, show ¬ sR σ = 40 by omega, Bool.false_eq_true, or_self, if_false] at H
        refine k_addPair I2 w hs hP2 (hlen s hs hP2) (fun h3 B3 t3 G3 S3 O3 f6 f7 => ?_)
        have tr := I2.2.1.2.2.2.1 (2 + sP σ) (by omega)
        have tr' := tr
        unfold isTA at tr'
        have hg2 := S2.1
        simp only [i0, i1, nLit, mul_I, add_I, nI_cl, isO_stI, isA_stI, isL_stI, gR_stI, gJ_stI, gK_stI, gL_stI, gS_stI, true_and, and_true, forall_eq, implies_true, ps_339, kO_1 S3, kR_1_3 S3, kO_317 S3]
        unfold wq_Near_forgetPair
        refine k_forgetPair S3 hP2 (fun h4 G4 e4 => ?_) 24 0 h3 (by omega) (AgY_rf _ _ h3) (fun i => by rw [if_neg (by omega)])
        have S4 := KSh_y G4 (fun _ _ z => z.elim) S3
        have hg3 := S3.1
        have hg4 := S4.1
        have t4' : KTx B3 (tMid σ s) h4 := KTx_y (σ := tMid σ s) G4 (fun a z => by rw [z]; exact ⟨by decide, by unfold isTA; omega⟩) (fun _ z => z.elim) rfl rfl t3
        have hzM : ∀ r, r < 62 → sz (tMid σ s) r ≤ 600 := fun r hr => by
          show va_up (sz σ) (2 + sP σ) (sn σ s) r ≤ 600
          rw [va_up_at]
          split
          · omega
          · exact w.1.2 r hr
        have f7' : gI h4 105 7 = nI (sR σ) := by rw [(G4.1 105 (by omega) (by decide)).1]; exact f7
        refine ⟨kO_1 S4, k_move S4 t4' hzM (cpF_lt w.1.1) f7' (by omega) hP2 (fun h5 B5 t5 G5 k7 k6 k8 k10 k11 S5 => ?_)⟩
        have tb := t4'.2.2.2.1 (22 + sR σ) (by omega)
        have hR2 : sR σ < 40 := by omega
        have xP : ∀ a, a ≠ 105 → ¬ (112 + 6 * sP σ ≤ a ∧ a ≤ 117 + 6 * sP σ) → ¬ isTA a → ¬ XP (sP σ) (B (2 + sP σ)) a := fun a p q r z => by
          unfold XP at z
          rcases z with z | z | z | z
          · exact p z
          · omega
          · exact r (by rw [z]; exact tr)
          · omega
        have xV : ∀ a, (a ≠ 2 ∧ a ≠ 105 ∧ a ≠ 108 ∧ a ≠ 110 ∧ a ≠ 111) → ¬ (232 ≤ a ∧ a < 312) → ¬ isTA a → ¬ XV (sR σ) (B3 (22 + sR σ)) a := fun a p q r => XV_n tb hR2 (fun _ => Or.inr trivial) p q r
        -- cells that none of the three touched
        have gg : ∀ a, a < 362 → (a ≠ 2 ∧ a ≠ 105 ∧ a ≠ 108 ∧ a ≠ 110 ∧ a ≠ 111) → a ≠ 318 → ¬ (112 + 6 * sP σ ≤ a ∧ a ≤ 117 + 6 * sP σ) → ¬ (232 ≤ a ∧ a < 312) → ¬ isTA a → gI h5 a = gI h2 a ∧ gJ h5 a = gJ h2 a := fun a ha p q r u x => by
          have b3 := G3.1 a (by omega) (xP a p.2.1 r x)
          have b4 := G4.1 a (by omega) q
          have b5 := G5.1 a (by omega) (xV a p u x)
          exact ⟨b5.1.trans (b4.1.trans b3.1), b5.2.trans (b4.2.trans b3.2)⟩
        have fo : ∀ i, i < 1200 ∨ (1200 ≤ i ∧ i < 600 * (2 + sP σ)) → sf (tComes (tSrc σ s) (sP σ) y) i = sf σ i := fun i hi => by
          show cpF (cpF (sf σ) (600 + sb σ s) (2 + sP σ) (sn σ s)) 0 (22 + sR σ) _ i = sf σ i
          rw [cpF_o (by omega), cpF_o (by omega)]
        have zo : ∀ r, r ≠ 0 → r ≠ 22 + sR σ → r ≠ 2 + sP σ → sz (tComes (tSrc σ s) (sP σ) y) r = sz σ r := fun r r1 r2 r3 => by
          show va_up (va_up (va_up (sz σ) (2 + sP σ) (sn σ s)) (22 + sR σ) _) 0 0 r = _
          rw [va_up_ne _ _ r1, va_up_ne _ _ r2, va_up_ne _ _ r3]
        have pR : ∀ p, p < sP σ → pcRw (tComes (tSrc σ s) (sP σ) y) (2 + p) = pcRw σ (2 + p) := fun p hp => pcRw_cg (zo _ (by omega) (by omega) (by omega)) (fun i h1 h2 => fo i (by have := w.1.2 (2 + p) (by omega); omega))
        have pB : ∀ i, i < sS σ → pcB (tComes (tSrc σ s) (sP σ) y) i = pcB σ i := fun i hi => (pcB_cg (σ := σ) (σ' := tComes (tSrc σ s) (sP σ) y) rfl rfl (fun j h1 h2 => fo j (by have := w.2.1.2.1 i hi; omega))).1
        have pM : pcRw (tComes (tSrc σ s) (sP σ) y) (2 + sP σ) = pcRw (tMid σ s) (2 + sP σ) := by
          refine pcRw_cg ?_ (fun i h1 h2 => ?_)
          · show va_up (va_up (va_up (sz σ) (2 + sP σ) (sn σ s)) (22 + sR σ) _) 0 0 (2 + sP σ) = va_up (sz σ) (2 + sP σ) (sn σ s) (2 + sP σ)
            rw [va_up_ne _ _ (by omega), va_up_ne _ _ (by omega)]
          · have hh := hzM (2 + sP σ) (by omega)
            show cpF (cpF (sf σ) (600 + sb σ s) (2 + sP σ) (sn σ s)) 0 (22 + sR σ) _ i = cpF (sf σ) (600 + sb σ s) (2 + sP σ) (sn σ s) i
            rw [cpF_o (by omega)]
        have rowk : ∀ a o L, a < 232 → (114 ≤ a) → ¬ (112 + 6 * sP σ ≤ a ∧ a ≤ 117 + 6 * sP σ) → (a - 114) % 6 = 0 → RwO h2 a o L → RwO h5 a o L := fun a o L ha h1 h2' h3 O => by
          unfold RwO at *
          rw [(gg a (by omega) (by omega) (by omega) (by omega) (by omega) (by unfold isTA; omega)).1, (gg (a + 1) (by omega) (by omega) (by omega) (by omega) (by omega) (by unfold isTA; omega)).1, (gg (a + 2) (by omega) (by omega) (by omega) (by omega) (by omega) (by unfold isTA; omega)).1, (gg (a + 3) (by omega) (by omega) (by omega) (by omega) (by omega) (by unfold isTA; omega)).1]
          exact O
        have GF : Fc h2 h5 := by
          have ydP : ∀ a k, YT (112 + 6 * sP σ) a k → Ydy a k := fun a k z => Or.inr ⟨by rw [z.1]; unfold isTxt; simp; omega, z.2⟩
          have F3 : Fc h2 h3 := AgY_mono G3 (fun a z => by unfold XP at z; omega) ydP
          have F4 : Fc h3 h4 := AgY_mono G4 (fun a z => by rw [z]; exact Or.inl (by decide)) (fun _ _ z => z.elim)
          exact Fc_tr (Fc_tr F3 F4) (XV_c tb hR2 G5)
        have GX : AgY (fun a => ¬ (a < 362 ∧ (a ≠ 2 ∧ a ≠ 105 ∧ a ≠ 108 ∧ a ≠ 110 ∧ a ≠ 111) ∧ a ≠ 318 ∧ ¬ (112 + 6 * sP σ ≤ a ∧ a ≤ 117 + 6 * sP σ) ∧ ¬ (232 ≤ a ∧ a < 312) ∧ ¬ isTA a)) Ydy h2 h5 := ⟨fun a ha hx => by
          have hx := Classical.not_not.mp hx
          exact gg a hx.1 hx.2.1 hx.2.2.1 hx.2.2.2.1 hx.2.2.2.2.1 hx.2.2.2.2.2, GF.2.1, GF.2.2⟩
        have nx : ∀ a, a < 362 → (a ≠ 2 ∧ a ≠ 105 ∧ a ≠ 108 ∧ a ≠ 110 ∧ a ≠ 111) → a ≠ 318 → ¬ (112 + 6 * sP σ ≤ a ∧ a ≤ 117 + 6 * sP σ) → ¬ (232 ≤ a ∧ a < 312) → ¬ isTA a → ¬ ¬ (a < 362 ∧ (a ≠ 2 ∧ a ≠ 105 ∧ a ≠ 108 ∧ a ≠ 110 ∧ a ≠ 111) ∧ a ≠ 318 ∧ ¬ (112 + 6 * sP σ ≤ a ∧ a ≤ 117 + 6 * sP σ) ∧ ¬ (232 ≤ a ∧ a < 312) ∧ ¬ isTA a) := fun a p1 p2 p3 p4 p5 p6 z => z ⟨p1, p2, p3, p4, p5, p6⟩
        have e8 : gI h4 108 = gI h2 108 := by rw [(G4.1 108 (by omega) (by decide)).1, (G3.1 108 (by omega) (xP 108 (by decide) (by omega) (by unfold isTA; omega))).1]
        have e10 : gI h4 110 = gI h2 110 := by rw [(G4.1 110 (by omega) (by decide)).1, (G3.1 110 (by omega) (xP 110 (by decide) (by omega) (by unfold isTA; omega))).1]
        have e11 : gI h4 111 = gI h2 111 := by rw [(G4.1 111 (by omega) (by decide)).1, (G3.1 111 (by omega) (xP 111 (by decide) (by omega) (by unfold isTA; omega))).1]
        have e318 : ∀ i, gI h5 318 i = if sP σ * 24 ≤ i ∧ i < sP σ * 24 + 24 then -nI 1 else gI h2 318 i := fun i => by
          rw [(G5.1 318 (by omega) (xV 318 (by decide) (by decide) (by unfold isTA; omega))).1, e4 i, (G3.1 318 (by omega) (xP 318 (by decide) (by omega) (by unfold isTA; omega))).1]
        refine H h5 ⟨B5, S5, t5, SgO_y (σ := σ) GX hg2 (nx 4 (by omega) (by omega) (by omega) (by omega) (by omega) (by unfold isTA; omega)) (fun a h1 h2 => nx a (by omega) (by omega) (by omega) (by omega) (by omega) (by unfold isTA; omega)) rfl (fun i h1 h2 => fo i (by omega)) (zo 1 (by decide) (by omega) (by omega)) w I2.2.2.1, ⟨?_, k7, fun r hr => ?_, fun p hp => ?_, fun p hp => ?_⟩, KWd_y (σ := σ) GX (fun a h1 h2 => nx a (by omega) (by omega) (by omega) (by omega) (by omega) (by unfold isTA; omega)) (fun a h1 h2 z => Ydy_n (by omega) (Or.inl (isTxt_f (by omega) (by omega) (by omega) (by omega) (by omega))) z) rfl I2.2.2.2.2.1, fun p hp i hi => ?_, KSt_y GX hg2 (fun a h1 h2 => nx a (by omega) (by omega) (by omega) (by omega) (by omega) (by unfold isTA; omega)) I2.2.2.2.2.2.2⟩ (Fc_tr (Fq Q2) GF)
        · rw [k6, (G4.1 105 (by omega) (by decide)).1]; exact f6
        · rw [k10, k11, e10, e11]
          exact ⟨up_row (N := 40) (fun i hi => (m3 i hi).1) r hr, up_row (N := 40) (fun i hi => (m3 i hi).2) r hr⟩
        · have hp' : p < sP σ + 1 := hp
          rw [k8, va_up_at, e8]
          show _ = nI (latN (va_up (sw σ) (sR σ) (sP σ)) p (sR σ + 1) - 1)
          by_cases z : p = sP σ
          · rw [if_pos z, latN, va_up_self, if_pos z.symm]
            rfl
          · rw [if_neg z, latN, va_up_self, if_neg (fun y => z y.symm), latN_cg (fun r hr => va_up_ne _ _ (by omega))]
            exact m4 p (by omega)
        · have hp' : p < sP σ + 1 := hp
          by_cases z : p = sP σ
          · subst z
            rw [pM]
            have O4 : RwO h4 (114 + 6 * sP σ) (600 * (2 + sP σ)) (pcRw (tMid σ s) (2 + sP σ)) := RwO_y G4 (by omega) (by omega) (by omega) (by omega) (by omega) O3
            exact RwO_y G5 (by omega) (xV _ (by omega) (by omega) (by unfold isTA; omega)) (xV _ (by omega) (by omega) (by unfold isTA; omega)) (xV _ (by omega) (by omega) (by unfold isTA; omega)) (xV _ (by omega) (by omega) (by unfold isTA; omega)) O4
          · rw [pR p (by omega)]
            exact rowk _ _ _ (by omega) (by omega) (by omega) (by omega) (m5 p (by omega))
        · have hp' : p < sP σ + 1 := hp
          have hi' : i < sS σ := hi
          rw [e318]
          by_cases z : p = sP σ
          · rw [if_pos (by omega)]
            exact Or.inl rfl
          · have es : scSP (tComes (tSrc σ s) (sP σ) y) i p = scSP σ i p := by
              unfold scSP
              rw [pR p (by omega), pB i hi']
              exact scN_cg (pcRw_E (fun j h1 h2 => fo j (by have := w.1.2 (2 + p) (by omega); omega))) (pcB_E (fun j h1 h2 => fo j (by have := w.2.1.2.1 i hi'; omega)))
            rw [if_neg (by omega), es]
            exact I2.2.2.2.2.2.1 p (by omega) i hi'
      · have c' : trT σ = false := b2I_0 c
        simp only [c1, c', show sR σ = 40 by omega, Bool.false_eq_true, or_self, if_false, or_true, if_true] at H
        exact H h2 ⟨B, I2⟩ (Fq Q2)
      · have c' : trT σ = true := b2I_1 c
        simp only [c', or_true, if_true] at H
        exact H h2 ⟨B, I2⟩ (Fq Q2)
end KK2
