/-! the class: least sums -/
def YN (_ _ : Nat) : Prop := False
def SmK (h : HP) (f : Nat → Nat) (LA LB : PcL) (i j : Nat) : Prop := ∀ i' j', i' ≤ LA.length → j' ≤ LB.length → (i < i' ∨ (i' = i ∧ j ≤ j')) → gI h 313 (i' * 21 + j') = nI (wk f (LA.drop i') (LB.drop j'))
section KRT
variable {X : Nat → Prop} {Y : Nat → Nat → Prop} {h h' : HP} {a N t A o n : Nat} {f : Nat → Nat} {L : PcL}
theorem RwT_y (G : AgY X Y h h') (h0 : ¬ X a) (h1 : ¬ X (a + 1)) (h2 : ¬ X (a + 2)) (h3 : ¬ X (a + 3)) (ht : ¬ X t) (hA : ¬ X A) (hy : ∀ k, k < 4 → ¬ Y a k) (hyt : ¬ Y t 0) (R : RwT h a N t A f o n L) : RwT h' a N t A f o n L := by
  obtain ⟨r1, r2, r3, r4, r5, r6, r7⟩ := R
  have hs := r1.2.2.1
  have g := G.1
  refine ⟨RwS_y G (fun k hk => hy k (by omega)) r1, ⟨by rw [(g a (by omega) h0).1]; exact r2.1, fun j x hj => ?_⟩, by rw [G.2.1 a 3 (by omega) (hy 3 (by omega))]; exact r3, r4, TxO_y G ht hA hyt r5, r6, r7⟩
  rw [(g (a + 1) (by omega) h1).1, (g (a + 2) (by omega) h2).1, (g (a + 3) (by omega) h3).1]
  exact r2.2 j x hj
end KRT
section KLS
variable {h0 : HP} {f : Nat → Nat} {a N t A o n a' N' t' A' o' n' : Nat} {LA LB : PcL} {K : Int32 → HP → Prop}
/-- rows a and a' stay while cells of the ladder change -/
def LdF (a t A a' t' A' : Nat) : Prop := ∀ b, 312 ≤ b → b ≤ 316 → b ≠ a ∧ b ≠ a + 1 ∧ b ≠ a + 2 ∧ b ≠ a + 3 ∧ b ≠ t ∧ b ≠ A ∧ b ≠ a' ∧ b ≠ a' + 1 ∧ b ≠ a' + 2 ∧ b ≠ a' + 3 ∧ b ≠ t' ∧ b ≠ A'
def XL (b : Nat) : Prop := 312 ≤ b ∧ b ≤ 316
theorem LdF_R {h h' : HP} (D : LdF a t A a' t' A') (G : AgY XL YN h h') (R : RwT h a N t A f o n LA) : RwT h' a N t A f o n LA :=
  RwT_y G (fun z => (D _ z.1 z.2).1 rfl) (fun z => (D _ z.1 z.2).2.1 rfl) (fun z => (D _ z.1 z.2).2.2.1 rfl) (fun z => (D _ z.1 z.2).2.2.2.1 rfl) (fun z => (D _ z.1 z.2).2.2.2.2.1 rfl) (fun z => (D _ z.1 z.2).2.2.2.2.2.1 rfl) (fun _ _ z => z) (fun z => z) R
theorem LdF_R' {h h' : HP} (D : LdF a t A a' t' A') (G : AgY XL YN h h') (R : RwT h a' N' t' A' f o' n' LB) : RwT h' a' N' t' A' f o' n' LB :=
  RwT_y G (fun z => (D _ z.1 z.2).2.2.2.2.2.2.1 rfl) (fun z => (D _ z.1 z.2).2.2.2.2.2.2.2.1 rfl) (fun z => (D _ z.1 z.2).2.2.2.2.2.2.2.2.1 rfl) (fun z => (D _ z.1 z.2).2.2.2.2.2.2.2.2.2.1 rfl) (fun z => (D _ z.1 z.2).2.2.2.2.2.2.2.2.2.2.1 rfl) (fun z => (D _ z.1 z.2).2.2.2.2.2.2.2.2.2.2.2 rfl) (fun _ _ z => z) (fun z => z) R
/-- only the sums have changed -/
def Fs (h h' : HP) : Prop := h'.2 = h.2 ∧ ∀ b, b ≠ 313 → gI h' b = gI h b
theorem Fs_rf (h : HP) : Fs h h := ⟨rfl, fun _ _ => rfl⟩
theorem Fs_st {h h' : HP} {k : Nat} {v : Int32} (F : Fs h h') : Fs h (stI h' 313 k v) := ⟨F.1, fun b hb => by rw [gI_stI_o _ _ _ _ hb]; exact F.2 b hb⟩
theorem Fs_y {h h' : HP} (F : Fs h h') : AgY XL YN h h' := by
  obtain ⟨f1, f2⟩ := F
  have e1 : gS h' = gS h := congrArg (fun x => x.2.2.2.2) f1
  have e2 : gK h' = gK h := congrArg (fun x => x.2.2.1) f1
  have e3 : gR h' = gR h := congrArg (fun x => x.2.1) f1
  have e4 : gL h' = gL h := congrArg (fun x => x.2.2.2.1) f1
  have e5 : gJ h' = gJ h := congrArg (fun x => x.1) f1
  exact ⟨fun b hb hx => ⟨f2 b (fun z => hx (by rw [z]; exact ⟨by decide, by decide⟩)), by rw [e5]⟩, fun b k _ _ => by rw [e3], fun b _ => ⟨by rw [e2], by rw [e4]⟩, by rw [e1]; exact Nat.le_refl _⟩
theorem k_least_in (D : LdF a t A a' t' A') (S0 : KSh h0) (R0 : RwT h0 a N t A f o n LA) (R0' : RwT h0 a' N' t' A' f o' n' LB) (hA : LA.length ≤ 20) (hB : LB.length ≤ 20) {i : Nat} (hi : i ≤ LA.length) (H : ∀ h', Fs h0 h' → SmK h' f LA LB i 0 → Wp k_Ladder_leastSum 5 [some (.ref 312), some (.ref a), some (.ref a'), some (.int (tI i)), none, none, none, none] [] h' (0, 0) (QI K)) :
    ∀ (k : Nat) (h : HP), k ≤ LB.length + 1 → Fs h0 h → SmK h f LA LB i k → Wp k_Ladder_leastSum 15 [some (.ref 312), some (.ref a), some (.ref a'), some (.int (nI i)), some (.int (tI k)), none, none, none] [] h (0, 0) (QI K)
  | 0, h, hk, F, S => wb_Ladder_leastSum_15_ok (by
      unfold wb_Ladder_leastSum_15
      simp only [i1, dec_I]
      exact ⟨fun _ => H h F S, fun c => absurd (by decide) c⟩)
  | j + 1, h, hk, F, S => wb_Ladder_leastSum_15_ok (by
      have G := Fs_y F
      have KS := KSh_y G (fun _ _ z => z.elim) S0
      have R := LdF_R D G R0
      have R' := LdF_R' D G R0'
      have r1 := R.1
      have s1 := R'.1
      have sl := R.2.1.1
      have sl' := R'.2.1.1
      have l1 := wk_le f (LA.drop (i + 1)) (LB.drop (j + 1))
      have l2 := wk_le f (LA.drop (i + 1)) (LB.drop j)
      have l3 := wk_le f (LA.drop i) (LB.drop (j + 1))
      have l4 := kcM_le f (LA.getD i (0, 0, 0)) (LB.getD j (0, 0, 0))
      have l5 := lcM_le (LA.getD i (0, 0, 0))
      have l6 := lcM_le (LB.getD j (0, 0, 0))
      rw [List.length_drop, List.length_drop] at l1 l2 l3
      have EA : ∀ ci : i < LA.length, KE h a N o n f i (LA.getD i (0, 0, 0)) := fun ci => by rw [getD_at ci]; exact RwT_E R ci
      have EB : ∀ cj : j < LB.length, KE h a' N' o' n' f j (LB.getD j (0, 0, 0)) := fun cj => by rw [getD_at cj]; exact RwT_E R' cj
      have b171 : ∀ v, v = wk f (LA.drop i) (LB.drop j) → wb_Ladder_leastSum_171 312 a a' (nI i) (nI j) (nI v) h K := fun v hv => by
        unfold wb_Ladder_leastSum_171
        simp (disch := omega) only [i0, i1, nLit, mul_I, add_I, nI_cl, isO_stI, isA_stI, isL_stI, gR_stI, gJ_stI, gK_stI, gL_stI, gS_stI, true_and, and_true, forall_eq, implies_true, ps_339, kO_312 KS, kR_312_0 KS, kA_313 KS, kL_313 KS, dec_I]
        refine k_least_in D S0 R0 R0' hA hB hi H j _ (by omega) (Fs_st F) (fun i' j' hi' hj' hc => ?_)
        rw [gI_stI]
        by_cases z : i' = i ∧ j' = j
        · rw [if_pos ⟨rfl, by rw [z.1, z.2]⟩, z.1, z.2, hv]
        · rw [if_neg (by omega)]
          exact S i' j' hi' hj' (by omega)
      have b138 : ∀ b2 (bj : Bool), bj = decide (j < LB.length) → b2 ≤ 1000000 → (if j < LB.length ∧ wk f (LA.drop i) (LB.drop (j + 1)) + lcM (LB.getD j (0, 0, 0)) < b2 then wk f (LA.drop i) (LB.drop (j + 1)) + lcM (LB.getD j (0, 0, 0)) else b2) = wk f (LA.drop i) (LB.drop j) → wb_Ladder_leastSum_138 312 a a' (nI i) (nI j) (b2I bj) (nI b2) h K := fun b2 bj hbj hb2 hv => by
        unfold wb_Ladder_leastSum_138
        refine ⟨fun c => b171 b2 ?_, fun c => ?_⟩
        · have := b2I_0 c
          rw [this] at hbj
          rwa [if_neg (fun z => of_decide_eq_false hbj.symm z.1)] at hv
        · have := b2I_1 c
          rw [this] at hbj
          have hj := of_decide_eq_true hbj.symm
          refine ⟨s1.1, k_aloneCost s1 (EB hj) ?_⟩
          have e3 := S i (j + 1) hi (by omega) (Or.inr ⟨rfl, Nat.le_refl _⟩)
          rw [← Nat.add_assoc] at e3
          simp (disch := omega) only [i0, i1, nLit, mul_I, add_I, nI_cl, isO_stI, isA_stI, isL_stI, gR_stI, gJ_stI, gK_stI, gL_stI, gS_stI, true_and, and_true, forall_eq, implies_true, ps_339, kO_312 KS, kR_312_0 KS, kA_313 KS, kL_313 KS, e3]
          have ei : ∀ inst : Decidable (nI (lcM (LB.getD j (0, 0, 0)) + wk f (LA.drop i) (LB.drop (j + 1))) < nI b2), @ite Int32 _ inst (nI (lcM (LB.getD j (0, 0, 0)) + wk f (LA.drop i) (LB.drop (j + 1)))) (nI b2) = nI (if j < LB.length ∧ wk f (LA.drop i) (LB.drop (j + 1)) + lcM (LB.getD j (0, 0, 0)) < b2 then wk f (LA.drop i) (LB.drop (j + 1)) + lcM (LB.getD j (0, 0, 0)) else b2) := fun inst => by
            by_cases q : lcM (LB.getD j (0, 0, 0)) + wk f (LA.drop i) (LB.drop (j + 1)) < b2
            · rw [if_pos ((lt_I (by omega) (by omega)).mpr q), if_pos ⟨hj, by omega⟩, Nat.add_comm]
            · rw [if_neg (fun z => q ((lt_I (by omega) (by omega)).mp z)), if_neg (by omega)]
          rw [ei]
          exact b171 _ hv
      have b106 : ∀ b1 (bi bj : Bool), bi = decide (i < LA.length) → bj = decide (j < LB.length) → b1 ≤ 1000000 → (∀ b2, b2 = (if i < LA.length ∧ wk f (LA.drop (i + 1)) (LB.drop j) + lcM (LA.getD i (0, 0, 0)) < b1 then wk f (LA.drop (i + 1)) (LB.drop j) + lcM (LA.getD i (0, 0, 0)) else b1) → (if j < LB.length ∧ wk f (LA.drop i) (LB.drop (j + 1)) + lcM (LB.getD j (0, 0, 0)) < b2 then wk f (LA.drop i) (LB.drop (j + 1)) + lcM (LB.getD j (0, 0, 0)) else b2) = wk f (LA.drop i) (LB.drop j)) → wb_Ladder_leastSum_106 312 a a' (nI i) (nI j) (b2I bi) (b2I bj) (nI b1) h K := fun b1 bi bj hbi hbj hb1 hv => by
        unfold wb_Ladder_leastSum_106
        refine ⟨fun c => b138 b1 bj hbj hb1 (hv b1 ?_), fun c => ?_⟩
        · have := b2I_0 c
          rw [this] at hbi
          rw [if_neg (fun z => of_decide_eq_false hbi.symm z.1)]
        · have := b2I_1 c
          rw [this] at hbi
          have hi2 := of_decide_eq_true hbi.symm
          refine ⟨r1.1, k_aloneCost r1 (EA hi2) ?_⟩
          have e2 := S (i + 1) j (by omega) (by omega) (Or.inl (by omega))
          simp (disch := omega) only [i0, i1, nLit, mul_I, add_I, nI_cl, isO_stI, isA_stI, isL_stI, gR_stI, gJ_stI, gK_stI, gL_stI, gS_stI, true_and, and_true, forall_eq, implies_true, ps_339, kO_312 KS, kR_312_0 KS, kA_313 KS, kL_313 KS, e2]
          have ei : ∀ inst : Decidable (nI (lcM (LA.getD i (0, 0, 0)) + wk f (LA.drop (i + 1)) (LB.drop j)) < nI b1), @ite Int32 _ inst (nI (lcM (LA.getD i (0, 0, 0)) + wk f (LA.drop (i + 1)) (LB.drop j))) (nI b1) = nI (if i < LA.length ∧ wk f (LA.drop (i + 1)) (LB.drop j) + lcM (LA.getD i (0, 0, 0)) < b1 then wk f (LA.drop (i + 1)) (LB.drop j) + lcM (LA.getD i (0, 0, 0)) else b1) := fun inst => by
            by_cases q : lcM (LA.getD i (0, 0, 0)) + wk f (LA.drop (i + 1)) (LB.drop j) < b1
            · rw [if_pos ((lt_I (by omega) (by omega)).mpr q), if_pos ⟨hi2, by omega⟩, Nat.add_comm]
            · rw [if_neg (fun z => q ((lt_I (by omega) (by omega)).mp z)), if_neg (by omega)]
          rw [ei]
          exact b138 _ bj hbj (by split <;> omega) (hv _ rfl)
      have b67 : ∀ b0 (bi bj : Bool), bi = decide (i < LA.length) → bj = decide (j < LB.length) → b0 = (if i = LA.length ∧ j = LB.length then 0 else 1000000) → wb_Ladder_leastSum_67 312 a a' (nI i) (nI j) (b2I bi) (b2I bj) (nI b0) h K := fun b0 bi bj hbi hbj e0 => by
        have b0l : b0 ≤ 1000000 := by rw [e0]; split <;> omega
        have fin : ∀ b1, b1 = (if i < LA.length ∧ j < LB.length then wk f (LA.drop (i + 1)) (LB.drop (j + 1)) + kcM f (LA.getD i (0, 0, 0)) (LB.getD j (0, 0, 0)) else b0) → wb_Ladder_leastSum_106 312 a a' (nI i) (nI j) (b2I bi) (b2I bj) (nI b1) h K := fun b1 e1 => b106 b1 bi bj hbi hbj (by rw [e1]; split <;> omega) (fun b2 e2 => wk_ij hi (by omega) hA hB e0 e1 e2)
        unfold wb_Ladder_leastSum_67
        refine ⟨fun c => fin b0 ?_, fun c => ⟨fun c2 => fin b0 ?_, fun c2 => ?_⟩⟩
        · have := b2I_0 c
          rw [this] at hbi
          rw [if_neg (fun z => of_decide_eq_false hbi.symm z.1)]
        · have := b2I_0 c2
          rw [this] at hbj
          rw [if_neg (fun z => of_decide_eq_false hbj.symm z.2)]
        · have q1 := b2I_1 c
          have q2 := b2I_1 c2
          have hi2 : i < LA.length := of_decide_eq_true (by rw [← hbi, q1])
          have hj2 : j < LB.length := of_decide_eq_true (by rw [← hbj, q2])
          refine ⟨r1.1, k_changeCost R R' (EA hi2) (EB hj2) ?_⟩
          have e1 := S (i + 1) (j + 1) (by omega) (by omega) (Or.inl (by omega))
          rw [← Nat.add_assoc] at e1
          simp (disch := omega) only [i0, i1, nLit, mul_I, add_I, nI_cl, isO_stI, isA_stI, isL_stI, gR_stI, gJ_stI, gK_stI, gL_stI, gS_stI, true_and, and_true, forall_eq, implies_true, ps_339, kO_312 KS, kR_312_0 KS, kA_313 KS, kL_313 KS, e1]
          exact fin _ (by rw [if_pos ⟨hi2, hj2⟩, Nat.add_comm])
      have b49 : ∀ (bi bj : Bool), bi = decide (i < LA.length) → bj = decide (j < LB.length) → wb_Ladder_leastSum_49 312 a a' (nI i) (nI j) (b2I bi) (b2I bj) h K := fun bi bj hbi hbj => by
        unfold wb_Ladder_leastSum_49
        refine ⟨fun c => b67 1000000 bi bj hbi hbj ?_, fun c => ⟨fun c2 => b67 0 bi bj hbi hbj ?_, fun c2 => b67 1000000 bi bj hbi hbj ?_⟩⟩
        · have q := b2I_1 c
          have : i < LA.length := of_decide_eq_true (by rw [← hbi, q])
          rw [if_neg (by omega)]
        · have q := b2I_0 c
          have q2 := b2I_0 c2
          have h1 : ¬ i < LA.length := of_decide_eq_false (by rw [← hbi, q])
          have h2 : ¬ j < LB.length := of_decide_eq_false (by rw [← hbj, q2])
          rw [if_pos (by omega)]
        · have q2 := b2I_1 c2
          have : j < LB.length := of_decide_eq_true (by rw [← hbj, q2])
          rw [if_neg (by omega)]
      unfold wb_Ladder_leastSum_15 wb_Ladder_leastSum_33
      simp (disch := omega) only [tI, isO_stI, isA_stI, isL_stI, gR_stI, gJ_stI, gK_stI, gL_stI, gS_stI, true_and, and_true, forall_eq, implies_true, ps_339, rS_o r1, rS_o s1, sl, sl', le_I]
      refine ⟨fun c => absurd c (nI_pos (by omega)), fun _ => ⟨fun c => ⟨fun c2 => ?_, fun c2 => ?_⟩, fun c => ⟨fun c2 => ?_, fun c2 => ?_⟩⟩⟩
      · exact b49 false false (by simp; omega) (by simp; omega)
      · exact b49 false true (by simp; omega) (by simp; omega)
      · exact b49 true false (by simp; omega) (by simp; omega)
      · exact b49 true true (by simp; omega) (by simp; omega))
theorem k_least_lp (D : LdF a t A a' t' A') (S0 : KSh h0) (R0 : RwT h0 a N t A f o n LA) (R0' : RwT h0 a' N' t' A' f o' n' LB) (hA : LA.length ≤ 20) (hB : LB.length ≤ 20) (H : ∀ h', Fs h0 h' → SmK h' f LA LB 0 0 → K (nI (wk f LA LB)) h') :
    ∀ (q : Nat) (h : HP), q ≤ LA.length + 1 → Fs h0 h → SmK h f LA LB q 0 → Wp k_Ladder_leastSum 5 [some (.ref 312), some (.ref a), some (.ref a'), some (.int (tI q)), none, none, none, none] [] h (0, 0) (QI K)
  | 0, h, hk, F, S => wb_Ladder_leastSum_5_ok (by
      have KS := KSh_y (Fs_y F) (fun _ _ z => z.elim) S0
      have hz : gI h 313 0 = nI (wk f LA LB) := S 0 0 (by omega) (by omega) (Or.inr ⟨rfl, Nat.le_refl 0⟩)
      unfold wb_Ladder_leastSum_5
      refine ⟨fun _ => ?_, fun c => absurd (by decide) c⟩
      simp (disch := omega) only [i0, i1, nLit, mul_I, add_I, nI_cl, isO_stI, isA_stI, isL_stI, gR_stI, gJ_stI, gK_stI, gL_stI, gS_stI, true_and, and_true, forall_eq, implies_true, ps_339, kO_312 KS, kR_312_0 KS, kA_313 KS, kL_313 KS, hz]
      exact H h F S)
  | i + 1, h, hk, F, S => wb_Ladder_leastSum_5_ok (by
      have R' := LdF_R' D (Fs_y F) R0'
      unfold wb_Ladder_leastSum_5
      simp only [tI]
      refine ⟨fun c => absurd c (nI_pos (by omega)), fun _ => ⟨R'.1.1, ?_⟩⟩
      rw [R'.2.1.1]
      refine k_least_in D S0 R0 R0' hA hB (by omega) (fun h' F' S' => k_least_lp D S0 R0 R0' hA hB H i h' (by omega) F' S') (LB.length + 1) h (Nat.le_refl _) F (fun i' j' a b c => S i' j' a b (by omega)))
theorem k_leastSum (D : LdF a t A a' t' A') (S0 : KSh h0) (R0 : RwT h0 a N t A f o n LA) (R0' : RwT h0 a' N' t' A' f o' n' LB) (hA : LA.length ≤ 20) (hB : LB.length ≤ 20) (H : ∀ h', Fs h0 h' → SmK h' f LA LB 0 0 → K (nI (wk f LA LB)) h') : wq_Ladder_leastSum 312 a a' h0 K := by
  unfold wq_Ladder_leastSum
  refine ⟨R0.1.1, ?_⟩
  rw [R0.2.1.1]
  exact k_least_lp D S0 R0 R0' hA hB H (LA.length + 1) h0 (Nat.le_refl _) (Fs_rf h0) (fun i' j' a b c => absurd c (by omega))
end KLS
