/-! the class: reading a row -/
section KRD
variable {a N t A o n b e pt : Nat} {f : Nat → Nat} {K : HP → Prop}
theorem wct_app (l m : PcL) : wct (l ++ m) = wct l + wct m := by
  induction l with
  | nil => simp [wct]
  | cons x l ih => simp only [List.cons_append, wct, ih]; omega
theorem k_read_lp {h0 : HP} (T0 : TxO h0 t A f o n) (he : e ≤ n) (hp : 0 < pt ∧ pt < 256) (ht : ¬ RwX a t) (hA : ¬ RwX a A) (Lf : PcL) (cf : Nat) (hN : Lf.length ≤ N) (H : ∀ h', Ag (RwX a) h0 h' → gR h' = gR h0 → RwR h' a N o Lf b e cf (wct Lf) → K h') :
    ∀ (k i : Nat) (L : PcL) (cnt : Nat) (h : HP), e ≤ i + k → i ≤ n + 20 → Ag (RwX a) h0 h → gR h = gR h0 → RwR h a N o L b e cnt (wct L) → L ++ pcs (atM f (o + e)) pt (o + e) false k (o + i) = Lf → cnt + pct (atM f (o + e)) pt (o + e) k (o + i) = cf → Wp k_Row_read 33 [some (.ref a), some (.ref t), none, some (.int (nI e)), some (.int (nI pt)), some (.int (nI i)), none, none] [] h (0, 0) (QV K) := by
  intro k
  induction k with
  | zero =>
    intro i L cnt h h1 hi A0 gr R e1 e2
    have hn := tx_n T0
    refine wb_Row_read_33_ok ?_
    unfold wb_Row_read_33
    simp (disch := omega) only [le_I]
    refine ⟨fun _ => H h A0 gr ?_, fun z => absurd (by omega) z⟩
    rw [pcs, List.append_nil] at e1
    rw [pct, Nat.add_zero] at e2
    rw [← e1, ← e2]
    exact R
  | succ k ih =>
    intro i L cnt h h1 hi A0 gr R e1 e2
    have hn := tx_n T0
    have T := TxO_ag A0 ht hA T0
    refine wb_Row_read_33_ok ?_
    unfold wb_Row_read_33
    simp (disch := omega) only [i0, i1, nLit, mul_I, add_I, nI_cl, le_I]
    by_cases c : e ≤ i
    · refine ⟨fun _ => H h A0 gr ?_, fun z => absurd c z⟩
      rw [pcs, if_neg (by omega), List.append_nil] at e1
      rw [pct, if_neg (by omega), Nat.add_zero] at e2
      rw [← e1, ← e2]
      exact R
    · refine ⟨fun z => absurd z c, fun _ => k_kindAt T he (by omega) (k_endOf T he (by omega) hp (fun j hj => ?_))⟩
      have hg := nxM_gt (atM f (o + e)) pt (o + e) (o + i)
      have hin := nxM_in (atM_z f (o + e)) (pt := pt) (show o + i < o + e by omega)
      have h6 := kdM_le (atM f (o + e)) (o + i)
      have emx : ∀ inst : Decidable (nI (i + 1) < nI j), @ite Int32 (nI (i + 1) < nI j) inst (nI j) (nI (i + 1)) = nI j := fun inst => by
        by_cases q : i + 1 < j
        · rw [if_pos ((lt_I (by omega) (by omega)).mpr q)]
        · rw [if_neg (fun z => q ((lt_I (by omega) (by omega)).mp z)), show i + 1 = j by omega]
      refine ⟨R.1.1, ?_⟩
      rw [emx]
      rw [sub_I (by omega)]
      rw [pcs, if_pos (by omega)] at e1
      rw [pct, if_pos (by omega), ← hj] at e2
      have hlt : kdM (atM f (o + e)) (o + i) ≠ 6 → L.length < N := fun z => by
        rw [if_neg (fun y => z y.1)] at e1
        rw [← e1, List.length_append, List.length_cons] at hN
        omega
      refine k_addPiece (len := j - i) R h6 hlt (fun h2 A2 g2 R2 => ?_)
      by_cases c6 : kdM (atM f (o + e)) (o + i) = 6
      · rw [if_pos ⟨c6, rfl⟩] at e1
        rw [if_pos c6, if_neg (by omega)] at R2
        exact ih j L (cnt + 1) h2 (by omega) (by omega) (Ag_tr A0 A2) (g2.trans gr) R2 (by rw [hj]; exact e1) (by omega)
      · rw [if_neg (fun y => c6 y.1)] at e1
        rw [if_neg c6] at R2
        refine ih j (L ++ [(kdM (atM f (o + e)) (o + i), o + i, j - i)]) (cnt + 1) h2 (by omega) (by omega) (Ag_tr A0 A2) (g2.trans gr) ?_ ?_ (by omega)
        · rw [wct_app]
          have ew : (if kdM (atM f (o + e)) (o + i) = 0 then wct L + 1 else wct L) = wct L + wct [(kdM (atM f (o + e)) (o + i), o + i, j - i)] := by
            simp only [wct]
            split <;> omega
          rw [← ew]
          exact R2
        · rw [← e1, List.append_assoc, hj, show nxM (atM f (o + e)) pt (o + e) (o + i) - (o + i) = j - i by omega]
          rfl
theorem k_read {h : HP} (S : RwS h a N) (T : TxO h t A f o n) (he : e ≤ n) (hb : b ≤ e) (he6 : e ≤ b + 600) (hp : 0 < pt ∧ pt < 256) (h0 : 0 < t) (ht : ¬ RwX a t) (hA : ¬ RwX a A) (hN : (pcs (atM f (o + e)) pt (o + e) false 600 (o + b)).length ≤ N) (H : ∀ h', Ag (RwX a) h h' → gR h' = gR (stR h a 3 t) → RwR h' a N o (pcs (atM f (o + e)) pt (o + e) false 600 (o + b)) b e (pct (atM f (o + e)) pt (o + e) 600 (o + b)) (wct (pcs (atM f (o + e)) pt (o + e) false 600 (o + b))) → K h') : wq_Row_read a t (nI b) (nI e) (nI pt) h K := by
  have hn := tx_n T
  have xa : RwX a a := ⟨Nat.le_refl a, by omega⟩
  have g0 : ∀ k, k ≠ 3 → gR (stR h a 3 t) a k = gR h a k := fun k hk => by rw [gR_stR, if_neg (fun z => hk z.2)]
  have S1 : RwS (stR h a 3 t) a N := RwS_ag (X := RwX a) (Ag_stR (Ag_rf _ h) xa) ⟨g0 0 (by decide), g0 1 (by decide), g0 2 (by decide)⟩ S
  unfold wq_Row_read
  refine ⟨S.1, h0, ?_⟩
  simp only [forall_eq]
  refine ⟨S1.1, S1.1, S1.1, S1.1, S1.1, ?_⟩
  generalize e6 : stI (stI (stI (stI (stI (stR h a 3 t) a 4 (nI b)) a 5 (nI e)) a 6 0) a 7 0) a 8 0 = h6
  have A6 : Ag (RwX a) h h6 := by rw [← e6]; exact Ag_stI (Ag_stI (Ag_stI (Ag_stI (Ag_stI (Ag_stR (Ag_rf _ h) xa) xa) xa) xa) xa) xa
  have T6 := TxO_ag A6 ht hA T
  have gr6 : gR h6 = gR (stR h a 3 t) := by rw [← e6]; rfl
  have gf : ∀ k, gI h6 a k = if k = 8 then nI 0 else if k = 7 then nI 0 else if k = 6 then nI 0 else if k = 5 then nI e else if k = 4 then nI b else gI h a k := fun k => by
    rw [← e6]
    simp only [gI_stI, true_and]
    rfl
  have R6 : RwR h6 a N o [] b e 0 (wct []) := ⟨by rw [← e6]; exact S1, ⟨gf 7, fun j x hj => absurd hj (by simp)⟩, gf 4, gf 5, gf 6, gf 8⟩
  exact k_read_lp T6 he hp ht hA _ _ hN (fun h' A' g' R' => H h' (Ag_tr A6 A') (g'.trans gr6) R') 600 b [] 0 h6 (by omega) (by omega) (Ag_rf _ h6) rfl R6 rfl (Nat.zero_add _)
end KRD
