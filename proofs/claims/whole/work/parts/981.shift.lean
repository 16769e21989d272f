/-! a reading further on in the bytes, and one that ends earlier -/
section SHF
variable {g g' : Nat → Nat} {d : Nat}
theorem ltE_sh : ∀ (n q : Nat), (∀ i, q ≤ i → g' (i + d) = g i) → ltE g' (q + d) n = ltE g q n + d
  | 0, q, _ => rfl
  | n + 1, q, h => by
    rw [ltE, ltE, h q (Nat.le_refl q)]
    split
    · rw [show q + d + 1 = q + 1 + d by omega]
      exact ltE_sh n (q + 1) (fun i hi => h i (by omega))
    · rfl
theorem blE_sh : ∀ (n q : Nat), (∀ i, q ≤ i → g' (i + d) = g i) → blE g' (q + d) n = blE g q n + d
  | 0, q, _ => rfl
  | n + 1, q, h => by
    rw [blE, blE, h q (Nat.le_refl q)]
    split
    · rw [show q + d + 1 = q + 1 + d by omega]
      exact blE_sh n (q + 1) (fun i hi => h i (by omega))
    · rfl
theorem dgE_sh : ∀ (n q : Nat), (∀ i, q ≤ i → g' (i + d) = g i) → dgE g' (q + d) n = dgE g q n + d
  | 0, q, _ => rfl
  | n + 1, q, h => by
    rw [dgE, dgE, h q (Nat.le_refl q)]
    split
    · rw [show q + d + 1 = q + 1 + d by omega]
      exact dgE_sh n (q + 1) (fun i hi => h i (by omega))
    · rfl
theorem mkM_sh {p : Nat} (h : ∀ i, p ≤ i → g' (i + d) = g i) : mkM g' (p + d) = mkM g p := by
  unfold mkM
  rw [show p + d + 1 = p + 1 + d by omega, show p + d + 2 = p + 2 + d by omega, show p + d + 3 = p + 3 + d by omega, h p (by omega), h (p + 1) (by omega), h (p + 2) (by omega), h (p + 3) (by omega)]
theorem kdM_sh {p : Nat} (h : ∀ i, p ≤ i → g' (i + d) = g i) : kdM g' (p + d) = kdM g p := by
  unfold kdM
  rw [h p (by omega), mkM_sh h]
theorem nmE_sh {pt p : Nat} (h : ∀ i, p ≤ i → g' (i + d) = g i) : nmE g' pt (p + d) = nmE g pt p + d := by
  have a := dgE_le g 9 p
  unfold nmE
  rw [dgE_sh 9 p h, show dgE g p 9 + d + 1 = dgE g p 9 + 1 + d by omega, h (dgE g p 9) (by omega), h (dgE g p 9 + 1) (by omega), dgE_sh 4 (dgE g p 9 + 1) (fun q hq => h q (by omega))]
  split <;> rfl
theorem nxM_sh {pt e p : Nat} (hz : ∀ q, e ≤ q → g q = 0) (h : ∀ i, p ≤ i → g' (i + d) = g i) : nxM g' pt (e + d) (p + d) = nxM g pt e p + d := by
  unfold nxM
  rw [h p (by omega), show p + d + 1 = p + 1 + d by omega, ltE_sh _ (p + 1) (fun q hq => h q (by omega)), blE_sh _ (p + 1) (fun q hq => h q (by omega)), mkM_sh h, nmE_sh h, ltE_fu hz (e + d) e (p + 1) (by omega) (by omega), blE_fu hz (e + d) e (p + 1) (by omega) (by omega)]
  repeat' split
  all_goals omega
theorem pcs_sh {pt e : Nat} {bl : Bool} (hz : ∀ q, e ≤ q → g q = 0) : ∀ (k p : Nat), (∀ i, p ≤ i → g' (i + d) = g i) → (pcs g' pt (e + d) bl k (p + d)).length = (pcs g pt e bl k p).length
  | 0, p, _ => rfl
  | k + 1, p, h => by
    have a := nxM_gt g pt e p
    have ih := pcs_sh (pt := pt) (bl := bl) hz k (nxM g pt e p) (fun q hq => h q (by omega))
    rw [pcs, pcs, kdM_sh h, nxM_sh hz h]
    by_cases c : p < e
    · rw [if_pos c, if_pos (show p + d < e + d by omega)]
      split
      · exact ih
      · rw [List.length_cons, List.length_cons, ih]
    · rw [if_neg c, if_neg (show ¬ p + d < e + d by omega)]
/-- fuel -/
theorem pcs_fu {pt e : Nat} {bl : Bool} : ∀ (n m p : Nat), e ≤ p + n → e ≤ p + m → pcs g pt e bl n p = pcs g pt e bl m p
  | 0, 0, p, _, _ => rfl
  | 0, m + 1, p, h1, _ => by rw [pcs, pcs, if_neg (by omega)]
  | n + 1, 0, p, _, h2 => by rw [pcs, pcs, if_neg (by omega)]
  | n + 1, m + 1, p, h1, h2 => by
    have a := nxM_gt g pt e p
    rw [pcs, pcs, pcs_fu n m (nxM g pt e p) (by omega) (by omega)]
end SHF
section TRU
variable {g g' : Nat → Nat} {e : Nat}
theorem Lt_32 {x : Nat} (h : x = 32) : isLt x = false := by rw [h]; decide
theorem D_32 {x : Nat} (h : x = 32) : isD x = false := by rw [h]; decide
theorem ltE_tr (h32 : g (e - 1) = 32) : ∀ (n m q : Nat), q < e → e ≤ q + n → e ≤ q + m → (∀ i, q ≤ i → i < e → g' i = g i) → ltE g' q n = ltE g q m ∧ ltE g q m < e
  | 0, m, q, hq, h1, h2, h => by omega
  | n + 1, 0, q, hq, h1, h2, h => by omega
  | n + 1, m + 1, q, hq, h1, h2, h => by
    rw [ltE, ltE, h q (Nat.le_refl q) hq]
    by_cases c : isLt (g q) = true
    · rw [if_pos c, if_pos c]
      have : q ≠ e - 1 := fun z => by rw [z, Lt_32 h32] at c; cases c
      exact ltE_tr h32 n m (q + 1) (by omega) (by omega) (by omega) (fun i hi => h i (by omega))
    · rw [if_neg c, if_neg c]
      exact ⟨rfl, hq⟩
theorem dgE_tr (h32 : g (e - 1) = 32) : ∀ (n q : Nat), q < e → (∀ i, q ≤ i → i < e → g' i = g i) → dgE g' q n = dgE g q n ∧ dgE g q n < e
  | 0, q, hq, h => ⟨rfl, hq⟩
  | n + 1, q, hq, h => by
    rw [dgE, dgE, h q (Nat.le_refl q) hq]
    by_cases c : isD (g q) = true
    · rw [if_pos c, if_pos c]
      have : q ≠ e - 1 := fun z => by rw [z, D_32 h32] at c; cases c
      exact dgE_tr h32 n (q + 1) (by omega) (fun i hi => h i (by omega))
    · rw [if_neg c, if_neg c]
      exact ⟨rfl, hq⟩
theorem blE_tr (he : g e ≠ 32) (he' : g' e ≠ 32) : ∀ (n m q : Nat), q ≤ e → e ≤ q + n → e ≤ q + m → (∀ i, q ≤ i → i < e → g' i = g i) → blE g' q n = blE g q m ∧ blE g q m ≤ e
  | 0, 0, q, hq, h1, h2, h => ⟨rfl, hq⟩
  | 0, m + 1, q, hq, h1, h2, h => by
    have : q = e := by omega
    rw [blE, blE, this, if_neg he]
    exact ⟨rfl, Nat.le_refl e⟩
  | n + 1, 0, q, hq, h1, h2, h => by
    have : q = e := by omega
    rw [blE, blE, this, if_neg he']
    exact ⟨rfl, Nat.le_refl e⟩
  | n + 1, m + 1, q, hq, h1, h2, h => by
    by_cases c : q = e
    · rw [blE, blE, c, if_neg he, if_neg he']
      exact ⟨rfl, Nat.le_refl e⟩
    · rw [blE, blE, h q (Nat.le_refl q) (by omega)]
      split
      · exact blE_tr he he' n m (q + 1) (by omega) (by omega) (by omega) (fun i hi => h i (by omega))
      · exact ⟨rfl, hq⟩
theorem mkM_tr {p : Nat} (h32 : g (e - 1) = 32) (hp : p < e) (h : ∀ i, p ≤ i → i < e → g' i = g i) : mkM g' p = mkM g p ∧ (mkM g p = 2 → p + 3 ≤ e) ∧ (mkM g p ≠ 9 → mkM g p ≠ 2 → p + 4 ≤ e) := by
  have n1 : ∀ i, i < e → g i ≠ 32 → i + 1 < e := fun i hi hn => by
    have : i ≠ e - 1 := fun z => hn (by rw [z]; exact h32)
    omega
  have d1 : ∀ i, isD (g i) = true → g i ≠ 32 := fun i hi z => by rw [D_32 z] at hi; cases hi
  unfold mkM
  rw [h p (Nat.le_refl p) hp]
  by_cases c0 : g p = 60
  · rw [if_pos c0, if_pos c0]
    have p1 := n1 p hp (by omega)
    rw [h (p + 1) (by omega) p1]
    by_cases c1 : g (p + 1) = 47
    · rw [if_pos c1, if_pos c1]
      have p2 := n1 (p + 1) p1 (by omega)
      rw [h (p + 2) (by omega) p2]
      by_cases c2 : isD (g (p + 2)) = true
      · have p3 := n1 (p + 2) p2 (d1 _ c2)
        rw [h (p + 3) (by omega) p3]
        refine ⟨rfl, fun _ => by omega, fun _ _ => by omega⟩
      · rw [if_neg (fun z => c2 z.1), if_neg (fun z => c2 z.1)]
        exact ⟨rfl, fun z => absurd z (by decide), fun z => absurd rfl z⟩
    · rw [if_neg c1, if_neg c1]
      by_cases c2 : isD (g (p + 1)) = true
      · rw [if_pos c2, if_pos c2]
        have p2 := n1 (p + 1) p1 (d1 _ c2)
        rw [h (p + 2) (by omega) p2]
        by_cases c3 : g (p + 2) = 62
        · rw [if_pos c3, if_pos c3]
          exact ⟨rfl, fun _ => by omega, fun _ z => absurd rfl z⟩
        · rw [if_neg c3, if_neg c3]
          by_cases c4 : g (p + 2) = 47
          · have p3 := n1 (p + 2) p2 (by omega)
            rw [h (p + 3) (by omega) p3]
            exact ⟨rfl, fun _ => by omega, fun _ _ => by omega⟩
          · rw [if_neg (fun z => c4 z.1), if_neg (fun z => c4 z.1)]
            exact ⟨rfl, fun z => absurd z (by decide), fun z => absurd rfl z⟩
      · rw [if_neg c2, if_neg c2]
        exact ⟨rfl, fun z => absurd z (by decide), fun z => absurd rfl z⟩
  · rw [if_neg c0, if_neg c0]
    exact ⟨rfl, fun z => absurd z (by decide), fun z => absurd rfl z⟩
theorem kdM_tr {p : Nat} (h32 : g (e - 1) = 32) (hp : p < e) (h : ∀ i, p ≤ i → i < e → g' i = g i) : kdM g' p = kdM g p := by
  unfold kdM
  rw [h p (Nat.le_refl p) hp, (mkM_tr h32 hp h).1]
theorem nxM_tr {p pt z : Nat} (h32 : g (e - 1) = 32) (he : g e ≠ 32) (he' : g' e ≠ 32) (hpt : pt ≠ 32) (hp : p < e) (hz : e ≤ z) (h : ∀ i, p ≤ i → i < e → g' i = g i) : nxM g' pt e p = nxM g pt z p := by
  have n1 : g p ≠ 32 → p + 1 < e := fun hn => by
    have : p ≠ e - 1 := fun z => hn (by rw [z]; exact h32)
    omega
  have mk := mkM_tr h32 hp h
  unfold nxM
  rw [h p (Nat.le_refl p) hp, mk.1]
  by_cases c : isLt (g p) = true
  · rw [if_pos c, if_pos c]
    exact (ltE_tr h32 e z (p + 1) (n1 (fun q => by rw [Lt_32 q] at c; cases c)) (by omega) (by omega) (fun i hi => h i (by omega))).1
  · rw [if_neg c, if_neg c]
    by_cases c2 : isD (g p) = true
    · rw [if_pos c2, if_pos c2]
      unfold nmE
      have q := dgE_tr h32 9 p hp h
      have ql := dgE_le g 9 p
      rw [q.1, h _ ql.1 q.2]
      by_cases c3 : g (dgE g p 9) = pt
      · have : dgE g p 9 ≠ e - 1 := fun y => by rw [y, h32] at c3; exact hpt c3.symm
        rw [h (dgE g p 9 + 1) (by omega) (by omega), (dgE_tr h32 4 (dgE g p 9 + 1) (by omega) (fun i hi => h i (by omega))).1]
      · rw [if_neg (fun y => c3 y.1), if_neg (fun y => c3 y.1)]
    · rw [if_neg c2, if_neg c2]
      by_cases c3 : g p = 32
      · rw [if_pos c3, if_pos c3]
        exact (blE_tr he he' e z (p + 1) (by omega) (by omega) (by omega) (fun i hi => h i (by omega))).1
      · rw [if_neg c3, if_neg c3]
end TRU
