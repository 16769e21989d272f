/-! the model's read, whole -/
theorem ltE_le (g : Nat → Nat) : ∀ (n q : Nat), q ≤ ltE g q n
  | 0, q => Nat.le_refl q
  | n + 1, q => by
    have ih := ltE_le g n (q + 1)
    unfold ltE
    split <;> omega
theorem blE_le (g : Nat → Nat) : ∀ (n q : Nat), q ≤ blE g q n
  | 0, q => Nat.le_refl q
  | n + 1, q => by
    have ih := blE_le g n (q + 1)
    unfold blE
    split <;> omega
theorem ltE_up (g : Nat → Nat) : ∀ (n q : Nat), ltE g q n ≤ q + n
  | 0, q => Nat.le_refl q
  | n + 1, q => by
    have ih := ltE_up g n (q + 1)
    unfold ltE
    split <;> omega
theorem blE_up (g : Nat → Nat) : ∀ (n q : Nat), blE g q n ≤ q + n
  | 0, q => Nat.le_refl q
  | n + 1, q => by
    have ih := blE_up g n (q + 1)
    unfold blE
    split <;> omega
theorem dgE_pos {g : Nat → Nat} {p n : Nat} (h : isD (g p) = true) : p + 1 ≤ dgE g p (n + 1) := by
  unfold dgE
  rw [if_pos h]
  exact (dgE_le g n (p + 1)).1
theorem nxM_gt (g : Nat → Nat) (pt e p : Nat) : p + 1 ≤ nxM g pt e p ∧ nxM g pt e p ≤ p + e + 15 := by
  unfold nxM
  have h1 := ltE_le g e (p + 1)
  have h2 := ltE_up g e (p + 1)
  have h3 := blE_le g e (p + 1)
  have h4 := blE_up g e (p + 1)
  split
  · omega
  · split
    · rename_i hd
      have a1 : p + 1 ≤ dgE g p 9 := dgE_pos (n := 8) hd
      have a2 := dgE_le g 9 p
      have a3 := dgE_le g 4 (dgE g p 9 + 1)
      unfold nmE
      split <;> omega
    · repeat' split
      all_goals omega
def pcs (g : Nat → Nat) (pt e : Nat) (bl : Bool) : Nat → Nat → List (Nat × Nat × Nat)
  | 0, _ => []
  | k + 1, p => if p < e then (if kdM g p = 6 ∧ bl = false then pcs g pt e bl k (nxM g pt e p) else (kdM g p, p, nxM g pt e p - p) :: pcs g pt e bl k (nxM g pt e p)) else []
def pct (g : Nat → Nat) (pt e : Nat) : Nat → Nat → Nat
  | 0, _ => 0
  | k + 1, p => if p < e then pct g pt e k (nxM g pt e p) + 1 else 0
/-- what a reading has done: to the rows 341, 342, 343 from place 600 place + n on the pieces L; cnt more are counted in 344 -/
def Rd (h h' : HP) (pl n : Nat) (L : List (Nat × Nat × Nat)) (cnt : Nat) : Prop :=
  h'.2 = h.2 ∧ (∀ a, a ≠ 341 → a ≠ 342 → a ≠ 343 → a ≠ 344 → gI h' a = gI h a) ∧ gI h' 344 = va_up (gI h 344) pl (gI h 344 pl + nI cnt) ∧
  (∀ i, (i < 600 * pl + n ∨ 600 * pl + n + L.length ≤ i) → gI h' 341 i = gI h 341 i ∧ gI h' 342 i = gI h 342 i ∧ gI h' 343 i = gI h 343 i) ∧
  ∀ (j : Nat) (x : Nat × Nat × Nat), L[j]? = some x → gI h' 341 (600 * pl + n + j) = nI x.1 ∧ gI h' 342 (600 * pl + n + j) = nI x.2.1 ∧ gI h' 343 (600 * pl + n + j) = nI x.2.2
theorem Rd_nil (h : HP) (pl n : Nat) : Rd h h pl n [] 0 := by
  refine ⟨rfl, fun _ _ _ _ _ => rfl, ?_, fun _ _ => ⟨rfl, rfl, rfl⟩, fun j x q => by simp at q⟩
  funext i
  unfold va_up
  split
  · rename_i e; rw [e]; show _ = _ + (0 : Int32); simp
  · rfl
theorem Rd_skip {h h' : HP} {pl n cnt : Nat} {L : List (Nat × Nat × Nat)} (R : Rd (stI h 344 pl (gI h 344 pl + nI 1)) h' pl n L cnt) : Rd h h' pl n L (cnt + 1) := by
  obtain ⟨r1, r2, r3, r4, r5⟩ := R
  refine ⟨r1, fun a a1 a2 a3 a4 => (r2 a a1 a2 a3 a4).trans (gI_stI_o _ _ _ _ a4), ?_, fun i hi => ?_, r5⟩
  · rw [r3, gI_stI_s]
    funext i
    unfold va_up
    by_cases e : i = pl
    · simp only [e, if_true]
      rw [Int32.add_assoc, add_I, Nat.add_comm]
    · simp only [e, if_false]
  · have := r4 i hi
    rw [gI_stI_o _ _ _ _ (by decide), gI_stI_o _ _ _ _ (by decide), gI_stI_o _ _ _ _ (by decide)] at this
    exact this
def put3 (h : HP) (i : Nat) (x : Nat × Nat × Nat) : HP := stI (stI (stI h 341 i (nI x.1)) 342 i (nI x.2.1)) 343 i (nI x.2.2)
theorem put3_o (h : HP) (i : Nat) (x : Nat × Nat × Nat) {a : Nat} (a1 : a ≠ 341) (a2 : a ≠ 342) (a3 : a ≠ 343) : gI (put3 h i x) a = gI h a := by
  unfold put3
  rw [gI_stI_o _ _ _ _ a3, gI_stI_o _ _ _ _ a2, gI_stI_o _ _ _ _ a1]
theorem put3_at (h : HP) (i : Nat) (x : Nat × Nat × Nat) (j : Nat) : gI (put3 h i x) 341 j = (if j = i then nI x.1 else gI h 341 j) ∧ gI (put3 h i x) 342 j = (if j = i then nI x.2.1 else gI h 342 j) ∧ gI (put3 h i x) 343 j = (if j = i then nI x.2.2 else gI h 343 j) := by
  unfold put3
  refine ⟨?_, ?_, ?_⟩ <;> simp [gI_stI]
theorem Rd_cons {h h' : HP} {pl n cnt : Nat} {x : Nat × Nat × Nat} {L : List (Nat × Nat × Nat)} (R : Rd (put3 (stI h 344 pl (gI h 344 pl + nI 1)) (600 * pl + n) x) h' pl (n + 1) L cnt) : Rd h h' pl n (x :: L) (cnt + 1) := by
  refine Rd_skip ?_
  generalize stI h 344 pl (gI h 344 pl + nI 1) = h1 at R ⊢
  obtain ⟨r1, r2, r3, r4, r5⟩ := R
  refine ⟨r1, fun a a1 a2 a3 a4 => (r2 a a1 a2 a3 a4).trans (put3_o _ _ _ a1 a2 a3), ?_, fun i hi => ?_, fun j y hj => ?_⟩
  · rw [r3, put3_o _ _ _ (by decide) (by decide) (by decide)]
  · rw [List.length_cons] at hi
    have := r4 i (by omega)
    obtain ⟨p1, p2, p3⟩ := put3_at h1 (600 * pl + n) x i
    rw [p1, p2, p3, if_neg (by omega), if_neg (by omega), if_neg (by omega)] at this
    exact this
  · cases j with
    | zero =>
      cases hj
      have := r4 (600 * pl + n) (by omega)
      obtain ⟨p1, p2, p3⟩ := put3_at h1 (600 * pl + n) x (600 * pl + n)
      rw [p1, p2, p3, if_pos rfl, if_pos rfl, if_pos rfl] at this
      exact this
    | succ j =>
      have := r5 j y hj
      rw [show 600 * pl + (n + 1) + j = 600 * pl + n + (j + 1) by omega] at this
      exact this
theorem MB_put {h : HP} {f : Nat → Nat} {e a k : Nat} {v : Int32} (B : MB h f e) (h1 : a ≠ 338) (h2 : a ≠ 339) : MB (stI h a k v) f e := by
  obtain ⟨b1, b2, b3, b4, b5⟩ := B
  exact ⟨b1, fun i hi => by rw [gI_stI_o _ _ _ _ (Ne.symm h2)]; exact b2 i hi, b3, by rw [gI_stI_o _ _ _ _ (Ne.symm h1)]; exact b4, b5⟩
