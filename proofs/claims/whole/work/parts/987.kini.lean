/-! the class's cells as its constructors lay them: kinds, lengths, references -/
def kdF (a : Nat) : Nat :=
  if a = 1 then 9 else if a = 2 then 7 else if a = 3 then 101 else if a = 4 then 0 else if a = 5 then 7 else if a = 6 then 101 else if a = 7 then 104 else if a = 8 then 100
  else if a < 105 then (if (a - 9) % 4 = 0 then 6 else 100)
  else if a = 105 then 2 else if a = 106 then 105 else if a = 107 then 104 else if a = 108 then 100 else if a = 109 then 105 else if a = 110 then 100 else if a = 111 then 100
  else if a < 232 then (if (a - 112) % 6 = 0 then 7 else if (a - 112) % 6 = 1 then 101 else if (a - 112) % 6 = 2 then 6 else 100)
  else if a < 312 then (if a % 2 = 0 then 7 else 101)
  else [1, 100, 100, 100, 100, 3, 100, 5, 7, 101, 100, 102, 4, 100, 6, 100, 100, 100, 8, 103, 8, 103, 8, 103, 8, 103].getD (a - 312) 0
def lnF (a : Nat) : Nat :=
  if a = 3 then 600 else if a = 7 then 24 else if a = 8 then 24 else if a < 9 then 0
  else if a < 105 then (if (a - 9) % 4 = 0 then 0 else 20)
  else if a = 105 then 0 else if a = 106 then 20 else if a = 107 then 20 else if a = 108 then 20 else if a < 112 then 40
  else if a < 232 then (if (a - 112) % 6 < 3 then 0 else 20)
  else if a < 312 then 0
  else [0, 441, 40, 40, 40, 0, 480, 0, 0, 880, 10, 20, 0, 200, 0, 600, 600, 600, 0, 8, 0, 10, 0, 10, 0, 5].getD (a - 312) 0
def rfF (a j : Nat) : Nat :=
  if a = 1 then [2, 4, 105, 317, 312, 319, 324, 326, 330, 332, 334, 336].getD j 0
  else if a = 2 then (if j = 0 then 3 else 0)
  else if a = 4 then [5, 7, 8].getD j 0
  else if a = 5 then (if j = 0 then 6 else 0)
  else if a = 7 then (if j < 24 then 9 + 4 * j else 0)
  else if a < 9 then 0
  else if a < 105 then (if (a - 9) % 4 = 0 then (if j < 3 then a + 1 + j else if j = 3 then 5 else 0) else 0)
  else if a = 105 then [106, 107, 108, 109, 110, 111].getD j 0
  else if a = 106 then (if j < 20 then 112 + 6 * j else 0)
  else if a = 107 then (if j < 20 then 114 + 6 * j else 0)
  else if a = 109 then (if j < 40 then 232 + 2 * j else 0)
  else if a < 112 then 0
  else if a < 232 then (if (a - 112) % 6 = 0 then (if j = 0 then a + 1 else 0) else if (a - 112) % 6 = 2 then (if j < 3 then a + 1 + j else if j = 3 then a - 2 else 0) else 0)
  else if a < 312 then (if a % 2 = 0 then (if j = 0 then a + 1 else 0) else 0)
  else if a = 312 then [313, 314, 315, 316].getD j 0
  else if a = 317 then [318, 312].getD j 0
  else if a = 319 then [320, 322, 323].getD j 0
  else if a = 320 then (if j = 0 then 321 else 0)
  else if a = 324 then (if j = 0 then 325 else 0)
  else if a = 326 then (if j < 3 then 327 + j else if j = 3 then 2 else 0)
  else if a = 330 ∨ a = 332 ∨ a = 334 ∨ a = 336 then (if j = 0 then a + 1 else 0)
  else 0
section BDS
variable {h0 h h1 : HP} {A p k v n kd : Nat} {Pn Pn' : Nat → Nat → Prop}
def Bd (h0 h : HP) (A : Nat) (Pn : Nat → Nat → Prop) : Prop :=
  gS h = A ∧ 1 ≤ A ∧ (∀ a, 1 ≤ a → a < A → gK h a = kdF a ∧ gL h a = lnF a) ∧ (∀ a j, 1 ≤ a → a < A → ¬ Pn a j → gR h a j = rfF a j) ∧ (∀ a, 1 ≤ a → a < A → a ≠ 318 → gI h a = (fun _ => 0) ∧ gJ h a = fun _ => 0) ∧ gI h 0 = gI h0 0 ∧ gK h 0 = gK h0 0 ∧ gL h 0 = gL h0 0
theorem bd_new (P : Bd h0 h A Pn) (e : h1 = nwC h kd n) (hk : kdF A = kd) (hl : lnF A = n) (hP : ∀ a j, Pn a j → Pn' a j) (hr : ∀ j, rfF A j = 0 ∨ Pn' A j) : Bd h0 h1 (A + 1) Pn' := by
  subst e
  obtain ⟨p1, p2, p3, p4, p5, p6, p7, p8⟩ := P
  have n0 : 0 ≠ gS h := by omega
  refine ⟨by show gS h + 1 = A + 1; omega, by omega, fun a h1 h2 => ?_, fun a j h1 h2 hn => ?_, fun a h1 h2 h3 => ?_, by rw [(nw_o n0).1]; exact p6, by rw [(nw_o n0).2.2.2.1]; exact p7, by rw [(nw_o n0).2.2.2.2]; exact p8⟩
  · by_cases c : a = gS h
    · rw [c, nw_K, nw_L, p1, hk, hl]
      exact ⟨rfl, rfl⟩
    · rw [(nw_o c).2.2.2.1, (nw_o c).2.2.2.2]
      exact p3 a h1 (by omega)
  · by_cases c : a = gS h
    · rw [c, nw_R, p1]
      rw [c, p1] at hn
      rcases hr j with q | q
      · exact q.symm
      · exact absurd q hn
    · rw [(nw_o c).2.2.1]
      exact p4 a j h1 (by omega) (fun z => hn (hP a j z))
  · by_cases c : a = gS h
    · rw [c]
      exact ⟨nw_I, nw_J⟩
    · rw [(nw_o c).1, (nw_o c).2.1]
      exact p5 a h1 (by omega) h3
theorem bd_set (P : Bd h0 h A Pn) (e : h1 = stR h p k v) (hp : 1 ≤ p) (hv : rfF p k = v) (hP : ∀ a j, Pn a j → Pn' a j ∨ (a = p ∧ j = k)) : Bd h0 h1 A Pn' := by
  subst e
  obtain ⟨p1, p2, p3, p4, p5, p6, p7, p8⟩ := P
  refine ⟨p1, p2, p3, fun a j h1 h2 hn => ?_, p5, p6, p7, p8⟩
  rw [gR_stR]
  by_cases c : a = p ∧ j = k
  · rw [if_pos c, c.1, c.2, hv]
  · rw [if_neg c]
    exact p4 a j h1 h2 (fun z => (hP a j z).elim hn c)
theorem bd_O (P : Bd h0 h A Pn) (h1 : 1 ≤ p) (h2 : p < A) (hk : kdF p = kd) : isO h p kd := ⟨h1, by rw [P.1]; exact h2, by rw [(P.2.2.1 p h1 h2).1]; exact hk⟩
theorem bd_R (P : Bd h0 h A Pn) (h1 : 1 ≤ p) (h2 : p < A) (hn : ¬ Pn p k) : gR h p k = rfF p k := P.2.2.2.1 p k h1 h2 hn
theorem bd_w (P : Bd h0 h A Pn) (hP : ∀ a j, Pn a j → Pn' a j) : Bd h0 h A Pn' := ⟨P.1, P.2.1, P.2.2.1, fun a j h1 h2 hn => P.2.2.2.1 a j h1 h2 (fun z => hn (hP a j z)), P.2.2.2.2⟩
theorem nn_n (hn : n < 2147483648) : ¬ nI n < (0 : Int32) := fun z => absurd ((lt_I (b := 0) hn (by decide)).mp z) (by omega)
theorem mx_n (hn : n < 2147483648) : ∀ i : Decidable (nI n < (0 : Int32)), @ite Int32 (nI n < (0 : Int32)) i (0 : Int32) (nI n) = nI n := fun i => by
  rw [if_neg (nn_n hn)]
theorem c_Text {K : HP → Prop} (P : Bd h0 h A Pn) (hp : p < A) (h1 : 1 ≤ p) (kp : kdF p = 7) (ka : kdF A = 101) (la : lnF A = n) (hn : n ≤ 880) (rp : rfF p 0 = A) (ra : ∀ j, rfF A j = 0) (hP : ∀ a j, Pn a j → Pn' a j ∨ (a = p ∧ j = 0)) (H : ∀ h', Bd h0 h' (A + 1) Pn' → K h') : wq_Text_init p (nI n) h K := by
  unfold wq_Text_init
  rw [mx_n (by omega), nI_cl (by omega)]
  refine ⟨nn_n (by omega), by omega, by decide, hn, fun h2 e2 => ?_⟩
  have P2 := bd_new P e2 ka la (fun _ _ z => z) (fun j => Or.inl (ra j))
  rw [P.1]
  exact ⟨bd_O P2 h1 (by omega) kp, by omega, fun h3 e3 => H h3 (bd_set P2 e3 h1 rp hP)⟩
theorem c_Words {K : HP → Prop} (P : Bd h0 h A Pn) (hp : p < A) (h1 : 1 ≤ p) (kp : kdF p = 8) (ka : kdF A = 103) (la : lnF A = n) (hn : n ≤ 10) (rp : rfF p 0 = A) (ra : ∀ j, rfF A j = 0) (hP : ∀ a j, Pn a j → Pn' a j ∨ (a = p ∧ j = 0)) (H : ∀ h', Bd h0 h' (A + 1) Pn' → K h') : wq_Words_init p (nI n) h K := by
  unfold wq_Words_init
  rw [mx_n (by omega), nI_cl (by omega)]
  refine ⟨nn_n (by omega), by omega, by decide, hn, fun h2 e2 => ?_⟩
  have P2 := bd_new P e2 ka la (fun _ _ z => z) (fun j => Or.inl (ra j))
  rw [P.1]
  exact ⟨bd_O P2 h1 (by omega) kp, by omega, fun h3 e3 => H h3 (bd_set P2 e3 h1 rp hP)⟩
theorem c_Row {K : HP → Prop} {t : Nat} (P : Bd h0 h A Pn) (hp : p < A) (h1 : 1 ≤ p) (ht : 1 ≤ t) (kp : kdF p = 6) (ka : kdF A = 100 ∧ kdF (A + 1) = 100 ∧ kdF (A + 2) = 100) (la : lnF A = n ∧ lnF (A + 1) = n ∧ lnF (A + 2) = n) (hn : n ≤ 600) (rp : rfF p 0 = A ∧ rfF p 1 = A + 1 ∧ rfF p 2 = A + 2 ∧ rfF p 3 = t) (ra : ∀ j, rfF A j = 0 ∧ rfF (A + 1) j = 0 ∧ rfF (A + 2) j = 0) (hP : ∀ a j, Pn a j → Pn' a j ∨ (a = p ∧ j < 4)) (H : ∀ h', Bd h0 h' (A + 3) Pn' → K h') : wq_Row_init p t (nI n) h K := by
  unfold wq_Row_init
  refine ⟨bd_O P h1 hp kp, ht, fun g1 e1 => ?_⟩
  have P1 : Bd h0 g1 A (fun a j => Pn' a j ∨ (a = p ∧ j < 3)) := bd_set P e1 h1 rp.2.2.2 (fun a j z => by rcases hP a j z with q | q; exact Or.inl (Or.inl q); omega)
  rw [mx_n (by omega), nI_cl (by omega)]
  refine ⟨nn_n (by omega), by omega, by decide, by omega, fun g2 e2 => ?_⟩
  have P2 := bd_new P1 e2 ka.1 la.1 (fun _ _ z => z) (fun j => Or.inl (ra j).1)
  rw [P1.1]
  refine ⟨bd_O P2 h1 (by omega) kp, by omega, fun g3 e3 => ?_⟩
  have P3 : Bd h0 g3 (A + 1) (fun a j => Pn' a j ∨ (a = p ∧ 1 ≤ j ∧ j < 3)) := bd_set P2 e3 h1 rp.1 (fun a j z => by rcases z with q | q; exact Or.inl (Or.inl q); omega)
  refine ⟨nn_n (by omega), by omega, by decide, by omega, fun g4 e4 => ?_⟩
  have P4 := bd_new P3 e4 ka.2.1 la.2.1 (fun _ _ z => z) (fun j => Or.inl (ra j).2.1)
  rw [P3.1]
  refine ⟨bd_O P4 h1 (by omega) kp, by omega, fun g5 e5 => ?_⟩
  have P5 : Bd h0 g5 (A + 1 + 1) (fun a j => Pn' a j ∨ (a = p ∧ 2 ≤ j ∧ j < 3)) := bd_set P4 e5 h1 rp.2.1 (fun a j z => by rcases z with q | q; exact Or.inl (Or.inl q); omega)
  refine ⟨nn_n (by omega), by omega, by decide, by omega, fun g6 e6 => ?_⟩
  have P6 := bd_new P5 e6 ka.2.2 la.2.2 (fun _ _ z => z) (fun j => Or.inl (ra j).2.2)
  rw [P5.1]
  refine ⟨bd_O P6 h1 (by omega) kp, by omega, fun g7 e7 => H g7 ?_⟩
  exact bd_set P6 e7 h1 rp.2.2.1 (fun a j z => by rcases z with q | q; exact Or.inl q; omega)
end BDS
