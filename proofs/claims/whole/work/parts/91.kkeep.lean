/-! the class: pairs come -/
theorem cpF_o {f : Nat → Nat} {a t k i : Nat} (h : i < 600 * t ∨ 600 * t + k ≤ i) : cpF f a t k i = f i := by unfold cpF; rw [if_neg (by omega)]
theorem cpF_i {f : Nat → Nat} {a t k j : Nat} (h : j < k) : cpF f a t k (600 * t + j) = f (a + j) := by unfold cpF; rw [if_pos (by omega), Nat.add_sub_cancel_left]
theorem latN_cg {w w' : Nat → Nat} {p : Nat} : ∀ {t : Nat}, (∀ r, r < t → w' r = w r) → latN w' p t = latN w p t
  | 0, _ => rfl
  | t + 1, h => by rw [latN, latN, h t (by omega), latN_cg (fun r hr => h r (by omega))]
section KKP
variable {B : Nat → Nat} {σ τ : St} {h : HP}
def XV (R A : Nat) (a : Nat) : Prop := a = 2 ∨ a = 105 ∨ a = 108 ∨ a = 110 ∨ a = 111 ∨ a = 232 + 2 * R ∨ a = A
theorem k_move {p y R : Nat} {K : HP → Prop} (S : KSh h) (t : KTx B τ h) (hz : ∀ r, r < 62 → sz τ r ≤ 600) (hf : ∀ i, sf τ i < 256) (e7 : gI h 105 7 = nI R) (hR : R < 40) (hp : p < 20) (H : ∀ h' B', KTx B' (tEmp (setz (setf τ (cpF (sf τ) 0 (22 + R) (sz τ 0))) (va_up (sz τ) (22 + R) (sz τ 0)))) h' → AgY (XV R (B (22 + R))) (YT (232 + 2 * R)) h h' → gI h' 105 7 = nI (R + 1) → gI h' 105 6 = gI h 105 6 → gI h' 108 = va_up (gI h 108) p (nI R) → gI h' 110 = va_up (gI h 110) R (nI p) → gI h' 111 = va_up (gI h 111) R (nI y) → KSh h' → K h') : wq_K_moveTapeTo 1 (nI p) (nI y) h K := by
  have e22 := tx_22 hR
  have T0 : TxO h 2 (B 0) (sf τ) 0 (sz τ 0) := t.1 0 (by decide)
  have T22 := t.1 (22 + R) (by omega)
  rw [e22] at T22
  have z0 := hz 0 (by decide)
  have ta := t.2.2.2.1
  have tr := ta (22 + R) (by omega)
  have t0 := ta 0 (by decide)
  have tr' := tr
  have t0' := t0
  unfold isTA at tr' t0'
  unfold wq_K_moveTapeTo
  simp only [isO_stI, isA_stI, isL_stI, gR_stI, gJ_stI, gK_stI, gL_stI, gS_stI, true_and, and_true, forall_eq, implies_true, ps_339, kO_1 S, kR_1_0 S, kR_1_2 S, kO_105 S]
  unfold wq_Memory_addRendering
  simp (disch := omega) only [i0, i1, nLit, mul_I, add_I, nI_cl, isO_stI, isA_stI, isL_stI, gR_stI, gJ_stI, gK_stI, gL_stI, gS_stI, true_and, and_true, forall_eq, implies_true, ps_339, true_or, or_true, true_imp_iff, not_true_eq_false, not_false_eq_true, false_imp_iff, kO_1 S, kR_1_2 S, kO_105 S, kR_105_0 S, kR_105_1 S, kR_105_2 S, kR_105_3 S, kR_105_4 S, kR_105_5 S, kS_106 S, kK_106 S, kN_106 S, kq_106 S, kS_107 S, kK_107 S, kN_107 S, kq_107 S, kS_109 S, kK_109 S, kN_109 S, kq_109 S, kA_108 S, kL_108 S, kA_110 S, kL_110 S, kA_111 S, kL_111 S, kv_20, kv_40, ps_112, ps_114, ps_232, e7, tx_o T0, tx_o T22, T0.2.2.2.1]
  refine k_take T22.1 T22.2.1 T22.2.2.1 T22.2.2.2.2.1.2 T0 (Nat.zero_le _) (Nat.le_refl _) (by omega) (fun z => TA_txt (r := 22 + R) tr (by rw [e22]; exact z.symm)) (by omega) (by omega) (fun h1 A' Tk => ?_)
  rw [Nat.sub_zero] at Tk
  have Tk' : TkO h h1 (txA (22 + R)) (B (22 + R)) A' (fun i => sf τ (0 + 0 + i)) (sz τ 0) := by rw [e22]; exact Tk
  have G1 : AgY (XV R (B (22 + R))) (YT (232 + 2 * R)) h h1 := AgY_mono Tk.2.1 (fun a z => by rcases z with z | z; exact Or.inr (Or.inr (Or.inr (Or.inr (Or.inr (Or.inl z))))); exact Or.inr (Or.inr (Or.inr (Or.inr (Or.inr (Or.inr z)))))) (fun _ _ z => z)
  have yd : ∀ a k, YT (232 + 2 * R) a k → Ydy a k := fun a k z => Or.inr ⟨by rw [z.1]; unfold isTxt; simp; omega, z.2⟩
  have S1 := KSh_y G1 yd S
  have t1 := KTx_up (σ := τ) (F := cpF (sf τ) 0 (22 + R) (sz τ 0)) Tk' (by omega) (by omega) (cpF_lt hf) (fun i hi => cpF_o (by omega)) (fun i hi => by rw [cpF_i hi, Nat.zero_add]) S.1 hz t
  have hg := S.1
  have g1 : ∀ a, a < 362 → a ≠ 232 + 2 * R → ¬ isTA a → gI h1 a = gI h a := fun a ha h1' h2 => (Tk.2.1.1 a (by omega) (fun z => by
    rcases z with z | z
    · exact h1' z
    · exact h2 (by rw [z]; exact tr))).1
  have c7 : gI h1 105 7 = nI R := by rw [g1 105 (by decide) (by omega) (by unfold isTA; omega)]; exact e7
  have T1 : TxO h1 2 (va_up B (22 + R) A' 0) (cpF (sf τ) 0 (22 + R) (sz τ 0)) 0 (va_up (sz τ) (22 + R) (sz τ 0) 0) := t1.1 0 (by decide)
  simp (disch := omega) only [i0, i1, nLit, mul_I, add_I, nI_cl, isO_stI, isA_stI, isL_stI, gR_stI, gJ_stI, gK_stI, gL_stI, gS_stI, true_and, and_true, forall_eq, implies_true, ps_339, true_or, or_true, true_imp_iff, not_true_eq_false, not_false_eq_true, false_imp_iff, kO_1 S1, kR_1_2 S1, kO_105 S1, kR_105_0 S1, kR_105_1 S1, kR_105_2 S1, kR_105_3 S1, kR_105_4 S1, kR_105_5 S1, kS_106 S1, kK_106 S1, kN_106 S1, kq_106 S1, kS_107 S1, kK_107 S1, kN_107 S1, kq_107 S1, kS_109 S1, kK_109 S1, kN_109 S1, kq_109 S1, kA_108 S1, kL_108 S1, kA_110 S1, kL_110 S1, kA_111 S1, kL_111 S1, kv_20, kv_40, ps_112, ps_114, ps_232, c7, gI_stI_o, kR_1_0 S1, tx_o T1]
  have tM : KTx (va_up B (22 + R) A') (setz (setf τ (cpF (sf τ) 0 (22 + R) (sz τ 0))) (va_up (sz τ) (22 + R) (sz τ 0))) (stI (stI (stI (stI h1 110 R (nI p)) 111 R (nI y)) 108 p (nI R)) 105 7 (nI (R + 1))) := by
    have GM : AgY (fun a => a = 105 ∨ a = 108 ∨ a = 110 ∨ a = 111) YN h1 (stI (stI (stI (stI h1 110 R (nI p)) 111 R (nI y)) 108 p (nI R)) 105 7 (nI (R + 1))) := AgY_stI (AgY_stI (AgY_stI (AgY_stI (AgY_rf _ _ h1) (Or.inr (Or.inr (Or.inl rfl)))) (Or.inr (Or.inr (Or.inr rfl)))) (Or.inr (Or.inl rfl))) (Or.inl rfl)
    exact KTx_y GM (fun a z => by rcases z with z | z | z | z <;> (rw [z]; exact ⟨by decide, by unfold isTA; omega⟩)) (fun _ z => z.elim) rfl rfl t1
  have tE := KTx_emp tM
  refine H _ _ tE ?_ ?_ ?_ ?_ ?_ ?_ ?_
  · exact AgY_stI (AgY_stI (AgY_stI (AgY_stI (AgY_stI G1 (Or.inr (Or.inr (Or.inr (Or.inl rfl))))) (Or.inr (Or.inr (Or.inr (Or.inr (Or.inl rfl)))))) (Or.inr (Or.inr (Or.inl rfl)))) (Or.inr (Or.inl rfl))) (Or.inl rfl)
  · rw [gI_stI_o _ _ _ _ (by decide), gI_stI, if_pos ⟨rfl, rfl⟩]
  · rw [gI_stI_o _ _ _ _ (by decide), gI_stI, if_neg (by decide), gI_stI_o _ _ _ _ (by decide), gI_stI_o _ _ _ _ (by decide), gI_stI_o _ _ _ _ (by decide), g1 105 (by decide) (by omega) (by unfold isTA; omega)]
  · rw [gI_stI_o _ _ _ _ (by decide), gI_stI_o _ _ _ _ (by decide), gI_stI_s, gI_stI_o _ _ _ _ (by decide), gI_stI_o _ _ _ _ (by decide), g1 108 (by decide) (by omega) (by unfold isTA; omega)]
  · rw [gI_stI_o _ _ _ _ (by decide), gI_stI_o _ _ _ _ (by decide), gI_stI_o _ _ _ _ (by decide), gI_stI_o _ _ _ _ (by decide), gI_stI_s, g1 110 (by decide) (by omega) (by unfold isTA; omega)]
  · rw [gI_stI_o _ _ _ _ (by decide), gI_stI_o _ _ _ _ (by decide), gI_stI_o _ _ _ _ (by decide), gI_stI_s, gI_stI_o _ _ _ _ (by decide), g1 111 (by decide) (by omega) (by unfold isTA; omega)]
  · exact S1
theorem XV_n {R a : Nat} (ta : isTA (B (22 + R))) (hR : R < 40) (h1 : a < 338 ∨ 361 < a → False ∨ True) (h2 : a ≠ 2 ∧ a ≠ 105 ∧ a ≠ 108 ∧ a ≠ 110 ∧ a ≠ 111) (h3 : ¬ (232 ≤ a ∧ a < 312)) (h4 : ¬ isTA a) : ¬ XV R (B (22 + R)) a := fun z => by
  unfold XV at z
  rcases z with z | z | z | z | z | z | z
  · exact h2.1 z
  · exact h2.2.1 z
  · exact h2.2.2.1 z
  · exact h2.2.2.2.1 z
  · exact h2.2.2.2.2 z
  · omega
  · exact h4 (by rw [z]; exact ta)
theorem XV_c {R : Nat} {h' : HP} (ta : isTA (B (22 + R))) (hR : R < 40) (G : AgY (XV R (B (22 + R))) (YT (232 + 2 * R)) h h') : Fc h h' := AgY_mono G (fun a z => by unfold XV isTA at *; omega) (fun a k z => Or.inr ⟨by rw [z.1]; unfold isTxt; simp; omega, z.2⟩)
theorem kc_change {p who : Int32} {K : Int32 → HP → Prop} (I : InvK B σ h) (w : WF σ) (H : ∀ h', (∃ B, InvK B (tChange σ p who) h') → Fc h h' → K (aChange σ p who) h') : wq_K_change 1 p who h K := by
  have S := I.1
  have hP := w.2.2.1.1
  have hR := w.2.2.1.2.1
  unfold aChange tChange at H
  unfold wq_K_change
  refine ⟨kO_1 S, k_isPair I w ?_⟩
  simp only [i0, i1, nLit, mul_I, add_I, nI_cl, b2I_s]
  rcases ixI_c p (n := sP σ) (by omega) with ⟨e, c⟩ | ⟨q, hq, e, e2⟩
  · simp only [e] at H ⊢
    exact ⟨fun z => absurd (by first | trivial | rfl) z, fun _ => H h ⟨B, I⟩ (Fc_rf h)⟩
  · simp only [e2] at H ⊢
    subst e
    refine ⟨fun _ => ⟨kO_1 S, k_isSomebody ?_⟩, fun z => absurd z (by simp)⟩
    simp only [b2I_s]
    rcases ixI_c who (n := 100) (by decide) with ⟨e, c⟩ | ⟨y, hy, e, e2⟩
    · simp only [e] at H ⊢
      exact ⟨fun z => absurd (by first | trivial | rfl) z, fun _ => H h ⟨B, I⟩ (Fc_rf h)⟩
    · simp only [e2] at H ⊢
      subst e
      refine ⟨fun _ => ⟨kO_1 S, k_isTapeTorn I w (fun h1 Q1 => ?_)⟩, fun z => absurd z (by simp)⟩
      have I1 := Qs_I Q1 I w
      have S1 := I1.1
      obtain ⟨m1, m2, m3, m4, m5⟩ := I1.2.2.2.1
      simp (disch := omega) only [i0, i1, nLit, mul_I, add_I, nI_cl, isO_stI, isA_stI, isL_stI, gR_stI, gJ_stI, gK_stI, gL_stI, gS_stI, true_and, and_true, forall_eq, implies_true, ps_339, kO_1 S1, kR_1_2 S1, kO_105 S1, m2, lt_I]
      have F1 : Fc h h1 := Fq_c Q1.1 (I.2.1.2.2.2.1 62 (by decide))
      refine ⟨fun c => ⟨fun c2 => ?_, fun c2 => ?_⟩, fun c => ?_⟩
      · have c' : trT σ = false := b2I_0 c
        simp only [c', Bool.false_eq_true, if_false, if_neg (show ¬ sR σ = 40 by omega)] at H
        refine k_move S1 I1.2.1 w.1.2 w.1.1 m2 c2 (show q < 20 by omega) (fun h2 B2 t2 G2 f7 f6 f8 f10 f11 S2 => ?_)
        have tr := I1.2.1.2.2.2.1 (22 + sR σ) (by omega)
        simp only [i0, i1, nLit, mul_I, add_I, nI_cl, isO_stI, isA_stI, isL_stI, gR_stI, gJ_stI, gK_stI, gL_stI, gS_stI, true_and, and_true, forall_eq, implies_true, ps_339, kO_1 S2, kR_1_2 S2, kO_105 S2, f7]
        have hg := S1.1
        have xn : ∀ a, (a ≠ 2 ∧ a ≠ 105 ∧ a ≠ 108 ∧ a ≠ 110 ∧ a ≠ 111) → ¬ (232 ≤ a ∧ a < 312) → ¬ isTA a → ¬ XV (sR σ) (B (22 + sR σ)) a := fun a p q r => XV_n tr c2 (fun _ => Or.inr trivial) p q r
        have fo : ∀ i, (i < 600 * (22 + sR σ) ∨ 600 * (22 + sR σ) + sz σ 0 ≤ i) → sf (tComes σ q y) i = sf σ i := fun i hi => cpF_o hi
        have zo : ∀ r, r ≠ 0 → r ≠ 22 + sR σ → sz (tComes σ q y) r = sz σ r := fun r r1 r2 => by
          show va_up (va_up (sz σ) (22 + sR σ) (sz σ 0)) 0 0 r = _
          rw [va_up_ne _ _ r1, va_up_ne _ _ r2]
        have hz0 := w.1.2 0 (by decide)
        have pR : ∀ p, p < 20 → pcRw (tComes σ q y) (2 + p) = pcRw σ (2 + p) := fun p hp => pcRw_cg (zo _ (by omega) (by omega)) (fun i h1 h2 => fo i (by have := w.1.2 (2 + p) (by omega); omega))
        have pB : ∀ s, s < sS σ → pcB (tComes σ q y) s = pcB σ s := fun s hs => (pcB_cg (σ := σ) (σ' := tComes σ q y) rfl rfl (fun i h1 h2 => fo i (by have := w.2.1.2.1 s hs; omega))).1
        refine H h2 ⟨B2, S2, t2, SgO_y (σ := σ) G2 hg (xn 4 (by decide) (by decide) (by unfold isTA; omega)) (fun a h1 h2 => xn a (by omega) (by omega) (by unfold isTA; omega)) rfl (fun i h1 h2 => fo i (by omega)) (zo 1 (by decide) (by omega)) w I1.2.2.1, ⟨?_, f7, fun r hr => ?_, fun p hp => ?_, fun p hp => ?_⟩, KWd_y (σ := σ) G2 (fun a h1 h2 => xn a (by omega) (by omega) (by unfold isTA; omega)) (fun a h1 h2 z => by have := z.1; omega) rfl I1.2.2.2.2.1, fun p hp s hs => ?_, KSt_y G2 hg (fun a h1 h2 => xn a (by omega) (by omega) (by unfold isTA; omega)) I1.2.2.2.2.2.2⟩ (Fc_tr F1 (XV_c tr c2 G2))
        · rw [f6]; exact m1
        · rw [f10, f11]
          exact ⟨up_row (N := 40) (fun i hi => (m3 i hi).1) r hr, up_row (N := 40) (fun i hi => (m3 i hi).2) r hr⟩
        · have hp' : p < sP σ := hp
          rw [f8, va_up_at]
          show _ = nI (latN (va_up (sw σ) (sR σ) q) p (sR σ + 1) - 1)
          by_cases z : p = q
          · rw [if_pos z, latN, va_up_self, if_pos z.symm]
            rfl
          · rw [if_neg z, latN, va_up_self, if_neg (fun y => z y.symm), latN_cg (fun r hr => va_up_ne _ _ (by omega))]
            exact m4 p hp'
        · have hp' : p < sP σ := hp
          rw [pR p (by omega)]
          exact RwO_y G2 (by omega) (xn _ (by omega) (by omega) (by unfold isTA; omega)) (xn _ (by omega) (by omega) (by unfold isTA; omega)) (xn _ (by omega) (by omega) (by unfold isTA; omega)) (xn _ (by omega) (by omega) (by unfold isTA; omega)) (m5 p hp')
        · have hp' : p < sP σ := hp
          have hs' : s < sS σ := hs
          have es : scSP (tComes σ q y) s p = scSP σ s p := by
            unfold scSP
            rw [pR p (by omega), pB s hs']
            exact scN_cg (pcRw_E (fun i h1 h2 => fo i (by have := w.1.2 (2 + p) (by omega); omega))) (pcB_E (fun i h1 h2 => fo i (by have := w.2.1.2.1 s hs'; omega)))
          rw [(G2.1 318 (by omega) (xn 318 (by decide) (by decide) (by unfold isTA; omega))).1, es]
          exact I1.2.2.2.2.2.1 p hp' s hs'
      · have c' : trT σ = false := b2I_0 c
        simp only [c', Bool.false_eq_true, if_false, if_pos (show sR σ = 40 by omega)] at H
        exact H h1 ⟨B, I1⟩ F1
      · have c' : trT σ = true := b2I_1 c
        simp only [c', if_true] at H
        exact H h1 ⟨B, I1⟩ F1
end KKP
