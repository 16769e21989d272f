/-! the class: steps told -/
def KSt (h : HP) (d : StepL) : Prop := gI h 312 4 = nI d.length ∧ ∀ (j : Nat) (x : Nat × Int32 × Int32), d[j]? = some x → gI h 314 j = nI x.1 ∧ gI h 315 j = x.2.1 ∧ gI h 316 j = x.2.2
def DsK (h0 h : HP) (d : StepL) : Prop := h.2 = h0.2 ∧ (∀ b, b ≠ 312 → b ≠ 314 → b ≠ 315 → b ≠ 316 → gI h b = gI h0 b) ∧ KSt h d
theorem h2_y {X : Nat → Prop} {h h' : HP} (e : h'.2 = h.2) (g : ∀ b, ¬ X b → gI h' b = gI h b) : AgY X YN h h' := by
  have e1 : gS h' = gS h := congrArg (fun x => x.2.2.2.2) e
  have e2 : gK h' = gK h := congrArg (fun x => x.2.2.1) e
  have e3 : gR h' = gR h := congrArg (fun x => x.2.1) e
  have e4 : gL h' = gL h := congrArg (fun x => x.2.2.2.1) e
  have e5 : gJ h' = gJ h := congrArg (fun x => x.1) e
  exact ⟨fun b hb hx => ⟨g b hx, by rw [e5]⟩, fun b k _ _ => by rw [e3], fun b _ => ⟨by rw [e2], by rw [e4]⟩, by rw [e1]; exact Nat.le_refl _⟩
theorem DsK_y {h0 h : HP} {d : StepL} (D : DsK h0 h d) : AgY XL YN h0 h := h2_y D.1 (fun b hb => D.2.1 b (fun z => hb (by rw [z]; exact ⟨by decide, by decide⟩)) (fun z => hb (by rw [z]; exact ⟨by decide, by decide⟩)) (fun z => hb (by rw [z]; exact ⟨by decide, by decide⟩)) (fun z => hb (by rw [z]; exact ⟨by decide, by decide⟩)))
theorem k_addStep {h0 h : HP} {d : StepL} {k : Nat} {a b : Int32} {K : HP → Prop} (S0 : KSh h0) (D : DsK h0 h d) (hd : d.length < 40) (H : ∀ h', DsK h0 h' (d ++ [(k, a, b)]) → K h') : wq_Ladder_addStep 312 (nI k) a b h K := by
  have KS := KSh_y (DsK_y D) (fun _ _ z => z.elim) S0
  obtain ⟨d1, d2, d4, d5⟩ := D
  unfold wq_Ladder_addStep
  simp (disch := omega) only [i0, i1, nLit, mul_I, add_I, nI_cl, isO_stI, isA_stI, isL_stI, gR_stI, gJ_stI, gK_stI, gL_stI, gS_stI, true_and, and_true, forall_eq, implies_true, ps_339, kO_312 KS, kR_312_1 KS, kR_312_2 KS, kR_312_3 KS, kA_314 KS, kL_314 KS, kA_315 KS, kL_315 KS, kA_316 KS, kL_316 KS, d4, gI_stI_o]
  refine H _ ⟨d1, fun q q1 q2 q3 q4 => ?_, ?_, fun j x hj => ?_⟩
  · rw [gI_stI_o _ _ _ _ q1, gI_stI_o _ _ _ _ q4, gI_stI_o _ _ _ _ q3, gI_stI_o _ _ _ _ q2]
    exact d2 q q1 q2 q3 q4
  · rw [gI_stI, if_pos ⟨rfl, rfl⟩, List.length_append]
    rfl
  · have e1 : ∀ v : Int32, gI (stI (stI (stI (stI h 314 d.length (nI k)) 315 d.length a) 316 d.length b) 312 4 v) 314 j = if j = d.length then nI k else gI h 314 j := fun v => by
      rw [gI_stI_o _ _ _ _ (by decide), gI_stI_o _ _ _ _ (by decide), gI_stI_o _ _ _ _ (by decide), gI_stI]; simp
    have e2 : ∀ v : Int32, gI (stI (stI (stI (stI h 314 d.length (nI k)) 315 d.length a) 316 d.length b) 312 4 v) 315 j = if j = d.length then a else gI h 315 j := fun v => by
      rw [gI_stI_o _ _ _ _ (by decide), gI_stI_o _ _ _ _ (by decide), gI_stI, gI_stI_o _ _ _ _ (by decide)]; simp
    have e3 : ∀ v : Int32, gI (stI (stI (stI (stI h 314 d.length (nI k)) 315 d.length a) 316 d.length b) 312 4 v) 316 j = if j = d.length then b else gI h 316 j := fun v => by
      rw [gI_stI_o _ _ _ _ (by decide), gI_stI, gI_stI_o _ _ _ _ (by decide), gI_stI_o _ _ _ _ (by decide)]; simp
    rw [e1, e2, e3]
    by_cases z : j = d.length
    · rw [if_pos z, if_pos z, if_pos z]
      rw [z, List.getElem?_append_right (Nat.le_refl _), Nat.sub_self] at hj
      cases hj
      exact ⟨rfl, rfl, rfl⟩
    · rw [if_neg z, if_neg z, if_neg z]
      have hl := (List.getElem?_eq_some_iff.mp hj).1
      rw [List.length_append, List.length_singleton] at hl
      rw [List.getElem?_append_left (by omega)] at hj
      exact d5 j x hj
section KTL
variable {h0 : HP} {f : Nat → Nat} {a N t A o n a' N' t' A' o' n' : Nat} {LA LB : PcL} {K : HP → Prop}
theorem k_tell_lp (D0 : LdF a t A a' t' A') (S0 : KSh h0) (R0 : RwT h0 a N t A f o n LA) (R0' : RwT h0 a' N' t' A' f o' n' LB) (hA : LA.length ≤ 20) (hB : LB.length ≤ 20) (S : SmK h0 f LA LB 0 0) :
    ∀ (k i j m : Nat) (d : StepL) (h : HP), i ≤ LA.length → j ≤ LB.length → LA.length - i + (LB.length - j) ≤ k → d.length = m ∧ m + k ≤ 40 → DsK h0 h d → (∀ h', DsK h0 h' (d ++ stp f LA LB k i j) → K h') →
    Wp k_Ladder_tell 20 [some (.ref 312), some (.ref a), some (.ref a'), some (.int (nI i)), some (.int (nI j)), some (.int (nI m)), none, none] [] h (0, 0) (QV K) := by
  intro k
  induction k with
  | zero =>
    intro i j m d h hi hj hk hd0 D H
    obtain ⟨hm, hd⟩ := hd0
    have G := DsK_y D
    have KS := KSh_y G (fun _ _ z => z.elim) S0
    have R := LdF_R D0 G R0
    have R' := LdF_R' D0 G R0'
    have r1 := R.1
    have s1 := R'.1
    have sl := R.2.1.1
    have sl' := R'.2.1.1
    have HK := H h (by simpa [stp] using D)
    refine wb_Ladder_tell_20_ok ?_
    unfold wb_Ladder_tell_20
    simp (disch := omega) only [i0, i1, nLit, mul_I, add_I, nI_cl, isO_stI, isA_stI, isL_stI, gR_stI, gJ_stI, gK_stI, gL_stI, gS_stI, true_and, and_true, forall_eq, implies_true, ps_339, kO_312 KS, kR_312_1 KS, kK_314 KS, kN_314 KS, kS_314 KS, rS_o r1, rS_o s1, sl, sl', lt_I, le_I]
    refine ⟨by simp, ?_⟩
    exact ⟨fun _ => HK, fun _ => ⟨fun c => absurd c (by omega), fun _ => ⟨fun _ => HK, fun c => absurd (by omega) c⟩⟩⟩
  | succ k ih =>
    intro i j m d h hi hj hk hd0 D H
    obtain ⟨hm, hd⟩ := hd0
    have G := DsK_y D
    have KS := KSh_y G (fun _ _ z => z.elim) S0
    have R := LdF_R D0 G R0
    have R' := LdF_R' D0 G R0'
    have r1 := R.1
    have s1 := R'.1
    have sl := R.2.1.1
    have sl' := R'.2.1.1
    have S' : ∀ i' j', i' ≤ LA.length → j' ≤ LB.length → gI h 313 (i' * 21 + j') = nI (wk f (LA.drop i') (LB.drop j')) := fun i' j' a b => by
      rw [D.2.1 313 (by decide) (by decide) (by decide) (by decide)]
      exact S i' j' a b (by omega)
    have l0 := wk_le f (LA.drop i) (LB.drop j)
    have l1 := wk_le f (LA.drop (i + 1)) (LB.drop (j + 1))
    have l2 := wk_le f (LA.drop (i + 1)) (LB.drop j)
    have l4 := kcM_le f (LA.getD i (0, 0, 0)) (LB.getD j (0, 0, 0))
    have l5 := lcM_le (LA.getD i (0, 0, 0))
    rw [List.length_drop, List.length_drop] at l0 l1 l2
    have q1 : ∀ ci : i < LA.length, KE h a N o n f i (LA.getD i (0, 0, 0)) := fun ci => by rw [getD_at ci]; exact RwT_E R ci
    have q2 : ∀ cj : j < LB.length, KE h a' N' o' n' f j (LB.getD j (0, 0, 0)) := fun cj => by rw [getD_at cj]; exact RwT_E R' cj
    have n1 : ∀ ci : i < LA.length, ¬ wk f (LA.drop i) (LB.drop j) = wk f (LA.drop (i + 1)) (LB.drop j) + lcM (LA.getD i (0, 0, 0)) → j < LB.length := fun ci c => by
      by_cases z : j < LB.length
      · exact z
      · refine absurd ?_ c
        rw [List.drop_of_length_le (by omega : LB.length ≤ j), List.drop_eq_getElem_cons ci, getD_at ci, wk_cn]
    have put : ∀ hc : j < LB.length, ¬ (i < LA.length ∧ j < LB.length ∧ wk f (LA.drop i) (LB.drop j) = wk f (LA.drop (i + 1)) (LB.drop (j + 1)) + kcM f (LA.getD i (0, 0, 0)) (LB.getD j (0, 0, 0))) → ¬ (i < LA.length ∧ wk f (LA.drop i) (LB.drop j) = wk f (LA.drop (i + 1)) (LB.drop j) + lcM (LA.getD i (0, 0, 0))) → wq_Ladder_addStep 312 (nI 3) (-nI 1) (nI j) h (fun h51 => Wp k_Ladder_tell 20 [some (.ref 312), some (.ref a), some (.ref a'), some (.int (nI i)), some (.int (nI (j + 1))), some (.int (nI (m + 1))), none, none] [] h51 (0, 0) (QV K)) := by
      intro hc a1 a2
      have e : stp f LA LB (k + 1) i j = (3, -nI 1, nI j) :: stp f LA LB k i (j + 1) := by
        show (if _ then _ else _) = _
        rw [if_neg a1, if_neg a2, if_pos (Or.inr hc)]
      refine k_addStep S0 D (by omega) (fun h' D' => ih i (j + 1) (m + 1) _ h' hi (by omega) (by omega) ⟨by rw [List.length_append, List.length_singleton]; omega, by omega⟩ D' (fun h2 D2 => ?_))
      rw [List.append_assoc, List.singleton_append, ← e] at D2
      exact H h2 D2
    have b150 : ¬ (i < LA.length ∧ j < LB.length ∧ wk f (LA.drop i) (LB.drop j) = wk f (LA.drop (i + 1)) (LB.drop (j + 1)) + kcM f (LA.getD i (0, 0, 0)) (LB.getD j (0, 0, 0))) → (i < LA.length ∨ j < LB.length) → wb_Ladder_tell_150 312 a a' (nI i) (nI j) (nI m) (nI (wk f (LA.drop i) (LB.drop j))) h K := by
      intro a1 ho
      unfold wb_Ladder_tell_150 wb_Ladder_tell_196
      simp (disch := omega) only [i0, i1, nLit, mul_I, add_I, nI_cl, isO_stI, isA_stI, isL_stI, gR_stI, gJ_stI, gK_stI, gL_stI, gS_stI, true_and, and_true, forall_eq, implies_true, ps_339, kO_312 KS, kR_312_0 KS, rS_o r1, sl, le_I]
      refine ⟨fun c => put (by omega) a1 (by omega), fun c => k_aloneCost r1 (q1 (by omega)) ?_⟩
      have e2 := S' (i + 1) j (by omega) hj
      simp (disch := omega) only [i0, i1, nLit, mul_I, add_I, nI_cl, isO_stI, isA_stI, isL_stI, gR_stI, gJ_stI, gK_stI, gL_stI, gS_stI, true_and, and_true, forall_eq, implies_true, ps_339, kO_312 KS, kR_312_0 KS, kA_313 KS, kL_313 KS, e2, eq_I]
      refine ⟨fun c2 => put (n1 (by omega) (fun z => c2 (by omega))) a1 (fun z => c2 (by omega)), fun c2 => ?_⟩
      have e : stp f LA LB (k + 1) i j = (2, nI i, -nI 1) :: stp f LA LB k (i + 1) j := by
        show (if _ then _ else _) = _
        rw [if_neg a1, if_pos ⟨by omega, by omega⟩]
      refine k_addStep S0 D (by omega) (fun h' D' => ih (i + 1) j (m + 1) _ h' (by omega) hj (by omega) ⟨by rw [List.length_append, List.length_singleton]; omega, by omega⟩ D' (fun h2 D2 => ?_))
      rw [List.append_assoc, List.singleton_append, ← e] at D2
      exact H h2 D2
    have b47 : (i < LA.length ∨ j < LB.length) → wb_Ladder_tell_47 312 a a' (nI i) (nI j) (nI m) h K := by
      intro ho
      have e0 := S' i j hi hj
      unfold wb_Ladder_tell_47 wb_Ladder_tell_91 wb_Ladder_tell_135
      simp (disch := omega) only [i0, i1, nLit, mul_I, add_I, nI_cl, isO_stI, isA_stI, isL_stI, gR_stI, gJ_stI, gK_stI, gL_stI, gS_stI, true_and, and_true, forall_eq, implies_true, ps_339, kO_312 KS, kR_312_0 KS, kA_313 KS, kL_313 KS, rS_o r1, rS_o s1, sl, sl', e0, le_I, true_or, or_true, true_imp_iff, not_true_eq_false, not_false_eq_true, false_imp_iff]
      refine ⟨fun c => b150 (by omega) ho, fun c => ⟨fun c2 => b150 (by omega) ho, fun c2 => k_changeCost R R' (q1 (by omega)) (q2 (by omega)) ?_⟩⟩
      have e22 := S' (i + 1) (j + 1) (by omega) (by omega)
      rw [← Nat.add_assoc] at e22
      simp (disch := omega) only [i0, i1, nLit, mul_I, add_I, nI_cl, isO_stI, isA_stI, isL_stI, gR_stI, gJ_stI, gK_stI, gL_stI, gS_stI, true_and, and_true, forall_eq, implies_true, ps_339, kO_312 KS, kR_312_0 KS, kA_313 KS, kL_313 KS, e22, eq_I]
      refine ⟨fun c3 => absurd c3 (by omega), fun _ => ⟨fun c3 => b150 (fun z => c3 (by omega)) ho, fun c3 => ⟨fun c4 => ?_, fun c4 => ?_⟩⟩⟩
      · have e : stp f LA LB (k + 1) i j = (1, nI i, nI j) :: stp f LA LB k (i + 1) (j + 1) := by
          show (if _ then _ else _) = _
          rw [if_pos ⟨by omega, by omega, by omega⟩, if_neg c4]
        refine k_addStep S0 D (by omega) (fun h' D' => ih (i + 1) (j + 1) (m + 1) _ h' (by omega) (by omega) (by omega) ⟨by rw [List.length_append, List.length_singleton]; omega, by omega⟩ D' (fun h2 D2 => ?_))
        rw [List.append_assoc, List.singleton_append, ← e] at D2
        exact H h2 D2
      · have e : stp f LA LB (k + 1) i j = (0, nI i, nI j) :: stp f LA LB k (i + 1) (j + 1) := by
          show (if _ then _ else _) = _
          rw [if_pos ⟨by omega, by omega, by omega⟩, if_pos c4]
        refine k_addStep S0 D (by omega) (fun h' D' => ih (i + 1) (j + 1) (m + 1) _ h' (by omega) (by omega) (by omega) ⟨by rw [List.length_append, List.length_singleton]; omega, by omega⟩ D' (fun h2 D2 => ?_))
        rw [List.append_assoc, List.singleton_append, ← e] at D2
        exact H h2 D2
    refine wb_Ladder_tell_20_ok ?_
    unfold wb_Ladder_tell_20
    simp (disch := omega) only [i0, i1, nLit, mul_I, add_I, nI_cl, isO_stI, isA_stI, isL_stI, gR_stI, gJ_stI, gK_stI, gL_stI, gS_stI, true_and, and_true, forall_eq, implies_true, ps_339, kO_312 KS, kR_312_1 KS, kK_314 KS, kN_314 KS, kS_314 KS, rS_o r1, rS_o s1, sl, sl', lt_I, le_I]
    have stop : ¬ (i < LA.length ∨ j < LB.length) → K h := fun z => by
      have e : stp f LA LB (k + 1) i j = [] := by
        show (if _ then _ else _) = _
        rw [if_neg (by omega), if_neg (by omega), if_neg z]
      rw [e, List.append_nil] at H
      exact H h D
    refine ⟨by simp, ?_⟩
    exact ⟨fun c => absurd c (by omega), fun _ => ⟨fun c => b47 (Or.inl c), fun c => ⟨fun c2 => stop (by omega), fun c2 => b47 (by omega)⟩⟩⟩
theorem k_tell (D0 : LdF a t A a' t' A') (S0 : KSh h0) (R0 : RwT h0 a N t A f o n LA) (R0' : RwT h0 a' N' t' A' f o' n' LB) (hA : LA.length ≤ 20) (hB : LB.length ≤ 20) (H : ∀ h', AgY XL YN h0 h' → h'.2 = h0.2 → KSt h' (stp f LA LB 40 0 0) → K h') : wq_Ladder_tell 312 a a' h0 K := by
  unfold wq_Ladder_tell
  refine ⟨kO_312 S0, k_leastSum D0 S0 R0 R0' hA hB (fun h1 F1 S1 => ?_)⟩
  have G1 := Fs_y F1
  have KS1 := KSh_y G1 (fun _ _ z => z.elim) S0
  refine ⟨kO_312 KS1, fun h2 e2 => ?_⟩
  have X312 : XL 312 := ⟨by decide, by decide⟩
  have G2 : AgY XL YN h0 h2 := by rw [e2]; exact AgY_stI G1 X312
  have KS2 := KSh_y G2 (fun _ _ z => z.elim) S0
  have S2 : SmK h2 f LA LB 0 0 := by
    intro i' j' p q r
    rw [e2, gI_stI_o _ _ _ _ (by decide)]
    exact S1 i' j' p q r
  have D2 : DsK h2 h2 [] := ⟨rfl, fun _ _ _ _ _ => rfl, by rw [e2]; rfl, fun j x hj => absurd hj (by simp)⟩
  refine k_tell_lp D0 KS2 (LdF_R D0 G2 R0) (LdF_R' D0 G2 R0') hA hB S2 40 0 0 0 [] h2 (by omega) (by omega) (by omega) ⟨rfl, by decide⟩ D2 (fun h3 D3 => ?_)
  rw [List.nil_append] at D3
  have e22 : h2.2 = h0.2 := by rw [e2]; exact F1.1
  exact H h3 (AgY_tr G2 (DsK_y D3)) (D3.1.trans e22) D3.2.2
end KTL
