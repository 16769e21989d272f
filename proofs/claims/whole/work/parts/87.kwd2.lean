section KW2
variable {B : Nat → Nat} {σ : St} {h : HP} {K : Int32 → HP → Prop}
theorem tEmp_s (σ : St) (r : Nat) (hr : r ≠ 0) : sz (tEmp σ) r = sz σ r := by
  show va_up (sz σ) 0 0 r = _
  rw [va_up_ne _ _ hr]
/-- a word of the tape comes to the list at a -/
theorem k_addTape {a N base m : Nat} (I : InvK B σ h) (w : WF σ) (W : WdO h a N base m (sc σ) (sl σ)) (ha : 330 ≤ a ∧ a ≤ 336) (H0 : iwM (sf σ) 0 (sz σ 0) = false → K (-nI 2) h) (H1 : iwM (sf σ) 0 (sz σ 0) = true → N ≤ m → K (-nI 5) h) (H2 : iwM (sf σ) 0 (sz σ 0) = true → m < N → K (nI (m + 1)) (stI (stI (stJ h (a + 1) m (lN (pkV (sf σ) 0 (sz σ 0)))) a 1 (nI (m + 1))) 2 1 (nI 0))) : wq_K_addTapeTo 1 a h K := by
  have S := I.1
  have T := IK_0 I
  unfold wq_K_addTapeTo
  simp only [i0, i1, nLit, mul_I, add_I, nI_cl, isO_stI, isA_stI, isL_stI, gR_stI, gJ_stI, gK_stI, gL_stI, gS_stI, true_and, and_true, forall_eq, implies_true, ps_339, kO_1 S, kR_1_0 S, tx_o T, T.2.2.2.1]
  refine k_packed T (Nat.le_refl _) (by omega) ?_
  rw [Nat.zero_add, Nat.sub_zero, pk_lc0]
  simp only [Bool.not_eq_false]
  refine ⟨fun c => ⟨W.1, k_isFull W ?_⟩, fun c => H0 c⟩
  simp only [b2I_eq0, Bool.not_eq_false]
  refine ⟨fun c2 => ⟨W.1, ?_⟩, fun c2 => H1 c (of_decide_eq_true c2)⟩
  have hm : m < N := by have := of_decide_eq_false c2; omega
  rw [pkI, if_pos c]
  refine k_add W hm ?_
  have G : AgY (fun b => b = a ∨ b = a + 1) YN h (stI (stJ h (a + 1) m (lN (pkV (sf σ) 0 (sz σ 0)))) a 1 (nI (m + 1))) := AgY_stI (AgY_stJ (AgY_rf _ _ h) (Or.inr rfl)) (Or.inl rfl)
  have S2 := KSh_y G (fun _ _ z => z.elim) S
  have o2 : isO (stI (stJ h (a + 1) m (lN (pkV (sf σ) 0 (sz σ 0)))) a 1 (nI (m + 1))) 2 7 := isO_y G T.1
  have oa : isO (stI (stJ h (a + 1) m (lN (pkV (sf σ) 0 (sz σ 0)))) a 1 (nI (m + 1))) a 8 := isO_y G W.1
  refine ⟨kO_1 S2, by rw [kR_1_0 S2]; decide, by rw [kR_1_0 S2]; exact o2, ?_⟩
  rw [kR_1_0 S2]
  refine ⟨oa, ?_⟩
  have e7 : gI (stI (stI (stJ h (a + 1) m (lN (pkV (sf σ) 0 (sz σ 0)))) a 1 (nI (m + 1))) 2 1 (nI 0)) a 1 = nI (m + 1) := by rw [gI_stI_o _ _ _ _ (by omega), gI_stI, if_pos ⟨rfl, rfl⟩]
  rw [e7]
  exact H2 c hm
theorem aw_G {a m : Nat} {v : Int64} (ha : 330 ≤ a ∧ a ≤ 336) : AgY (X0 B) YN h (stI (stI (stJ h (a + 1) m v) a 1 (nI (m + 1))) 2 1 (nI 0)) := AgY_stI (AgY_stI (AgY_stJ (AgY_rf _ _ h) (Or.inr (Or.inr (by omega)))) (Or.inr (Or.inr (by omega)))) (Or.inl rfl)
theorem aw_T {a m : Nat} {v : Int64} (I : InvK B σ h) (ha : 330 ≤ a ∧ a ≤ 336) : TxO (stI (stI (stJ h (a + 1) m v) a 1 (nI (m + 1))) 2 1 (nI 0)) 2 (B 0) (sf σ) 0 0 := by
  have ta := I.2.1.2.2.2.1 0 (by decide)
  have T := IK_0 I
  have G : AgY (fun b => b = a ∨ b = a + 1) YN h (stI (stJ h (a + 1) m v) a 1 (nI (m + 1))) := AgY_stI (AgY_stJ (AgY_rf _ _ h) (Or.inr rfl)) (Or.inl rfl)
  have ta' := ta
  unfold isTA at ta'
  exact TxO_cut (TxO_y G (by omega) (by omega) (fun z => z) T) (Nat.zero_le _) (ta_2 ta)
theorem aw_W {a m b0 N base m2 : Nat} {v : Int64} {c l : Nat → Nat} (ha : 330 ≤ a ∧ a ≤ 336) (hb : 330 ≤ b0 ∧ b0 ≤ 336) (ne : b0 ≠ a ∧ b0 ≠ a + 1 ∧ b0 + 1 ≠ a ∧ b0 + 1 ≠ a + 1) (W : WdO h b0 N base m2 c l) : WdO (stI (stI (stJ h (a + 1) m v) a 1 (nI (m + 1))) 2 1 (nI 0)) b0 N base m2 c l := by
  have G : AgY (fun b => b = a ∨ b = a + 1 ∨ b = 2) YN h (stI (stI (stJ h (a + 1) m v) a 1 (nI (m + 1))) 2 1 (nI 0)) := AgY_stI (AgY_stI (AgY_stJ (AgY_rf _ _ h) (Or.inr (Or.inl rfl))) (Or.inl rfl)) (Or.inr (Or.inr rfl))
  exact WdO_y G (by omega) (by omega) (fun z => z) W
theorem st2_W {b0 N base m2 k : Nat} {v : Int32} {c l : Nat → Nat} (hb : 330 ≤ b0) (W : WdO h b0 N base m2 c l) : WdO (stI h 2 k v) b0 N base m2 c l := by
  have G : AgY (fun b => b = 2) YN h (stI h 2 k v) := AgY_stI (AgY_rf _ _ h) rfl
  exact WdO_y G (by omega) (by omega) (fun z => z) W
theorem kc_except (I : InvK B σ h) (w : WF σ) (H : ∀ h', (∃ B, InvK B (tExcept σ) h') → Fc h h' → K (aExcept σ) h') : wq_K_except 1 h K := by
  have S := I.1
  have ta := I.2.1.2.2.2.1 0 (by decide)
  obtain ⟨W0, W1, W2, W3⟩ := I.2.2.2.2.1
  have hE := w.2.2.2.1.1
  unfold aExcept tExcept at H
  unfold wq_K_except
  simp only [isO_stI, isA_stI, isL_stI, gR_stI, gJ_stI, gK_stI, gL_stI, gS_stI, true_and, and_true, forall_eq, implies_true, ps_339, kO_1 S, kR_1_8 S]
  refine k_addTape I w W0 (by decide) (fun c => ?_) (fun c c2 => ?_) (fun c c2 => ?_)
  · simp only [c, Bool.false_eq_true, if_false] at H
    exact H h ⟨B, I⟩ (Fc_rf h)
  · simp only [c, if_true, if_pos (show sE σ = 8 by omega)] at H
    exact H h ⟨B, I⟩ (Fc_rf h)
  · simp only [c, if_true, if_neg (show ¬ sE σ = 8 by omega)] at H
    have hn := iwM_le c
    have T4 := W1.2.2.2.2.2.2.1
    have T5 := W3.2.2.2.2.2.2.1
    have wa := WdO_add (f := sf σ) (b := 0) W0 (by omega) c
    rw [Nat.zero_add] at wa
    have V1 := WdO_other (f := sf σ) (b := 0) (u := sE σ) W1 hn.2 (fun i hi => by omega)
    have V2 := WdO_other (f := sf σ) (b := 0) (u := sE σ) W2 hn.2 (fun i hi => by omega)
    have V3 := WdO_other (f := sf σ) (b := 0) (u := sE σ) W3 hn.2 (fun i hi => by omega)
    refine H _ ⟨B, InvK_0 (σ := σ) (aw_G (by decide)) ⟨rfl, rfl, rfl, fun _ _ => rfl, fun r hr => tEmp_s _ r hr⟩ w.1.1 (aw_T (σ := σ) I (by decide)) ⟨?_, ?_, ?_, ?_⟩ I w⟩ (X0_c (aw_G (by decide)) ta)
    · exact st2_W (by decide) wa
    · exact aw_W (by decide) (by decide) (by decide) V1
    · exact aw_W (by decide) (by decide) (by decide) V2
    · exact aw_W (by decide) (by decide) (by decide) V3
theorem kc_forbid (I : InvK B σ h) (w : WF σ) (H : ∀ h', (∃ B, InvK B (tForbid σ) h') → Fc h h' → K (aForbid σ) h') : wq_K_forbid 1 h K := by
  have S := I.1
  have ta := I.2.1.2.2.2.1 0 (by decide)
  obtain ⟨W0, W1, W2, W3⟩ := I.2.2.2.2.1
  have hF := w.2.2.2.1.2.2.1
  unfold aForbid tForbid at H
  unfold wq_K_forbid
  simp only [isO_stI, isA_stI, isL_stI, gR_stI, gJ_stI, gK_stI, gL_stI, gS_stI, true_and, and_true, forall_eq, implies_true, ps_339, kO_1 S, kR_1_11 S]
  refine k_addTape I w W3 (by decide) (fun c => ?_) (fun c c2 => ?_) (fun c c2 => ?_)
  · simp only [c, Bool.false_eq_true, if_false] at H
    exact H h ⟨B, I⟩ (Fc_rf h)
  · simp only [c, if_true, if_pos (show sF σ = 5 by omega)] at H
    exact H h ⟨B, I⟩ (Fc_rf h)
  · simp only [c, if_true, if_neg (show ¬ sF σ = 5 by omega)] at H
    have hn := iwM_le c
    have T3 := W0.2.2.2.2.2.2.1
    have T4 := W1.2.2.2.2.2.2.1
    have wa := WdO_add (f := sf σ) (b := 0) W3 (by omega) c
    have V0 := WdO_other (f := sf σ) (b := 0) (u := 28 + sF σ) W0 hn.2 (fun i hi => by omega)
    have V1 := WdO_other (f := sf σ) (b := 0) (u := 28 + sF σ) W1 hn.2 (fun i hi => by omega)
    have V2 := WdO_other (f := sf σ) (b := 0) (u := 28 + sF σ) W2 hn.2 (fun i hi => by omega)
    refine H _ ⟨B, InvK_0 (σ := σ) (aw_G (by decide)) ⟨rfl, rfl, rfl, fun _ _ => rfl, fun r hr => tEmp_s _ r hr⟩ w.1.1 (aw_T (σ := σ) I (by decide)) ⟨?_, ?_, ?_, ?_⟩ I w⟩ (X0_c (aw_G (by decide)) ta)
    · exact aw_W (by decide) (by decide) (by decide) V0
    · exact aw_W (by decide) (by decide) (by decide) V1
    · exact aw_W (by decide) (by decide) (by decide) V2
    · exact st2_W (by decide) wa
theorem k_firstBlank {t A o n : Nat} {f : Nat → Nat} (T : TxO h t A f o n) : ∀ (r k : Nat), k + r = n → (∀ j, o + j = fbl f r (o + k) → K (nI j) h) → Wp k_Text_firstBlank 2 [some (.ref t), some (.int (nI k))] [] h (0, 0) (QI K)
  | 0, k, h1, H => wb_Text_firstBlank_2_ok (by
      have tn := tx_n T
      unfold wb_Text_firstBlank_2
      rw [T.2.2.2.1, le_I (by omega) (by omega)]
      refine ⟨T.1, fun _ => ⟨T.1, ?_⟩, fun z => absurd (by omega) z⟩
      exact H n (by rw [fbl]; omega))
  | r + 1, k, h1, H => wb_Text_firstBlank_2_ok (by
      have tn := tx_n T
      unfold wb_Text_firstBlank_2
      rw [T.2.2.2.1, le_I (by omega) (by omega), T.2.1, nI_cl (by omega), T.2.2.2.2.2.1 k (by omega)]
      have e32 : (sgB (f (o + k)) = (32 : Int32)) = (f (o + k) = 32) := sgB_32 (T.2.2.2.2.2.2 _)
      rw [e32, i1, add_I]
      refine ⟨T.1, fun z => absurd z (by omega), fun _ => ⟨T.1, T.2.2.1.1, tx_A T (by omega), fun c => k_firstBlank T r (k + 1) (by omega) (fun j hj => H j ?_), fun c => H k ?_⟩⟩
      · rw [fbl, if_neg c]; exact hj
      · rw [fbl, if_pos c])
theorem kc_term (I : InvK B σ h) (w : WF σ) (H : ∀ h', (∃ B, InvK B (tTerm σ) h') → Fc h h' → K (aTerm σ) h') : wq_K_term 1 h K := by
  have S := I.1
  have T := IK_0 I
  have ta := I.2.1.2.2.2.1 0 (by decide)
  obtain ⟨W0, W1, W2, W3⟩ := I.2.2.2.2.1
  have hT := w.2.2.2.1.2.1
  have hz := w.1.2 0 (by omega)
  have hg := fbl_le (sf σ) (sz σ 0) 0
  unfold aTerm tTerm at H
  unfold wq_K_term
  simp only [i0, i1, nLit, mul_I, add_I, nI_cl, isO_stI, isA_stI, isL_stI, gR_stI, gJ_stI, gK_stI, gL_stI, gS_stI, true_and, and_true, forall_eq, implies_true, ps_339, kO_1 S, kR_1_0 S, tx_o T]
  refine k_firstBlank T (sz σ 0) 0 (by omega) (fun j hj => ?_)
  rw [Nat.zero_add, Nat.zero_add] at hj
  have ej : j = gapT σ := hj
  subst ej
  have hgl : gapT σ ≤ sz σ 0 := by unfold gapT; omega
  simp only [i0, i1, nLit, mul_I, add_I, nI_cl, isO_stI, isA_stI, isL_stI, gR_stI, gJ_stI, gK_stI, gL_stI, gS_stI, true_and, and_true, forall_eq, implies_true, ps_339, kO_1 S, kR_1_0 S, tx_o T]
  refine k_packed T hgl (by omega) ?_
  simp only [i0, i1, nLit, mul_I, add_I, nI_cl, isO_stI, isA_stI, isL_stI, gR_stI, gJ_stI, gK_stI, gL_stI, gS_stI, true_and, and_true, forall_eq, implies_true, ps_339, kO_1 S, kR_1_0 S, tx_o T, T.2.2.2.1]
  refine k_packed T (Nat.le_refl _) (by omega) ?_
  rw [Nat.zero_add, Nat.sub_zero, pk_lc0, pk_lc0, Nat.zero_add, show sz σ 0 - (gapT σ + 1) = sz σ 0 - gapT σ - 1 by omega]
  simp only [Bool.not_eq_false]
  have no : okT σ (gapT σ) = false → K (-nI 2) h := fun e => by
    simp only [e, Bool.false_eq_true, if_false] at H
    exact H h ⟨B, I⟩ (Fc_rf h)
  refine ⟨fun c => no (by simp [okT, c]), fun c => ⟨fun c2 => ?_, fun c2 => no (by simp [okT, c2])⟩⟩
  have n1 := iwM_le c
  have n2 := iwM_le c2
  have ok : okT σ (gapT σ) = true := by
    have : ¬ gapT σ = sz σ 0 := by omega
    simp [okT, c, c2, this]
  simp only [ok, if_true] at H
  refine ⟨kO_1 S, by rw [kR_1_9 S]; decide, by rw [kR_1_9 S]; exact W1.1, ?_⟩
  rw [kR_1_9 S]
  refine k_isFull W1 ?_
  simp only [b2I_eq0, Bool.not_eq_false]
  refine ⟨fun c3 => ?_, fun c3 => ?_⟩
  · have hm : sT σ < 10 := by have := of_decide_eq_false c3; omega
    simp only [if_neg (show ¬ sT σ = 10 by omega)] at H
    simp only [isO_stI, isA_stI, isL_stI, gR_stI, gJ_stI, gK_stI, gL_stI, gS_stI, true_and, and_true, forall_eq, implies_true, ps_339, kO_1 S, kR_1_9 S, W1.1]
    rw [pkI, if_pos c, pkI, if_pos c2]
    refine k_add W1 hm ?_
    have G1 : AgY (fun b => b = 332 ∨ b = 333) YN h (stI (stJ h 333 (sT σ) (lN (pkV (sf σ) 0 (gapT σ)))) 332 1 (nI (sT σ + 1))) := AgY_stI (AgY_stJ (AgY_rf _ _ h) (Or.inr rfl)) (Or.inl rfl)
    have wa := WdO_add (f := sf σ) (b := 0) W1 hm c
    have V0 := WdO_y G1 (by decide) (by decide) (fun z => z) (WdO_other (f := sf σ) (b := 0) (u := 8 + sT σ) W0 n1.2 (fun i hi => by have := W0.2.2.2.2.2.2.1; omega))
    have V2 := WdO_y G1 (by decide) (by decide) (fun z => z) (WdO_other (f := sf σ) (b := 0) (u := 8 + sT σ) W2 n1.2 (fun i hi => by omega))
    have V3 := WdO_y G1 (by decide) (by decide) (fun z => z) (WdO_other (f := sf σ) (b := 0) (u := 8 + sT σ) W3 n1.2 (fun i hi => by omega))
    have S1 := KSh_y G1 (fun _ _ z => z.elim) S
    generalize stI (stJ h 333 (sT σ) (lN (pkV (sf σ) 0 (gapT σ)))) 332 1 (nI (sT σ + 1)) = h1 at *
    simp only [isO_stI, isA_stI, isL_stI, gR_stI, gJ_stI, gK_stI, gL_stI, gS_stI, true_and, and_true, forall_eq, implies_true, ps_339, kO_1 S1, kR_1_10 S1, V2.1]
    refine k_add V2 hm ?_
    have G2 : AgY (fun b => b = 334 ∨ b = 335) YN h1 (stI (stJ h1 335 (sT σ) (lN (pkV (sf σ) (gapT σ + 1) (sz σ 0 - gapT σ - 1)))) 334 1 (nI (sT σ + 1))) := AgY_stI (AgY_stJ (AgY_rf _ _ h1) (Or.inr rfl)) (Or.inl rfl)
    have wb := WdO_add (f := sf σ) (b := gapT σ + 1) V2 hm c2
    have U0 := WdO_y G2 (by decide) (by decide) (fun z => z) (WdO_other (f := sf σ) (b := gapT σ + 1) (u := 18 + sT σ) V0 n2.2 (fun i hi => by have := W0.2.2.2.2.2.2.1; omega))
    have U1 := WdO_y G2 (by decide) (by decide) (fun z => z) (WdO_other (f := sf σ) (b := gapT σ + 1) (u := 18 + sT σ) wa n2.2 (fun i hi => by omega))
    have U3 := WdO_y G2 (by decide) (by decide) (fun z => z) (WdO_other (f := sf σ) (b := gapT σ + 1) (u := 18 + sT σ) V3 n2.2 (fun i hi => by omega))
    have S2 := KSh_y G2 (fun _ _ z => z.elim) S1
    have ta' := ta
    unfold isTA at ta'
    have T1 : TxO h1 2 (B 0) (sf σ) 0 (sz σ 0) := TxO_y G1 (by omega) (by omega) (fun z => z) T
    have T2 := TxO_y G2 (by omega) (by omega) (fun z => z) T1
    have G02 : AgY (X0 B) YN h (stI (stJ h1 335 (sT σ) (lN (pkV (sf σ) (gapT σ + 1) (sz σ 0 - gapT σ - 1)))) 334 1 (nI (sT σ + 1))) := AgY_tr (AgY_mono G1 (fun a z => Or.inr (Or.inr (by omega))) (fun _ _ z => z)) (AgY_mono G2 (fun a z => Or.inr (Or.inr (by omega))) (fun _ _ z => z))
    generalize stI (stJ h1 335 (sT σ) (lN (pkV (sf σ) (gapT σ + 1) (sz σ 0 - gapT σ - 1)))) 334 1 (nI (sT σ + 1)) = h2 at *
    simp only [i0, i1, nLit, mul_I, add_I, nI_cl, isO_stI, isA_stI, isL_stI, gR_stI, gJ_stI, gK_stI, gL_stI, gS_stI, true_and, and_true, forall_eq, implies_true, ps_339, kO_1 S2, kR_1_0 S2, kR_1_9 S2, tx_o T2, U1.1]
    have e9 : gI (stI h2 2 1 (nI 0)) 332 1 = nI (sT σ + 1) := by rw [gI_stI_o _ _ _ _ (by decide)]; exact U1.2.2.2.2.2.2.2.1
    rw [e9, sub_I (by omega), Nat.add_sub_cancel]
    have G3 : AgY (X0 B) YN h (stI h2 2 1 (nI 0)) := AgY_stI G02 (Or.inl rfl)
    exact H _ ⟨B, InvK_0 (σ := σ) G3 ⟨rfl, rfl, rfl, fun _ _ => rfl, fun r hr => tEmp_s _ r hr⟩ w.1.1 (TxO_cut T2 (Nat.zero_le _) (ta_2 ta)) ⟨st2_W (by decide) U0, st2_W (by decide) U1, st2_W (by decide) wb, st2_W (by decide) U3⟩ I w⟩ (X0_c G3 ta)
  · have hm := of_decide_eq_true c3
    simp only [if_pos (show sT σ = 10 by omega)] at H
    exact H h ⟨B, I⟩ (Fc_rf h)
end KW2
