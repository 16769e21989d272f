/-! the class's constructors -/
section BD2
variable {h0 h h1 : HP} {A p k n kd : Nat} {Pn Pn' : Nat → Nat → Prop} {K : HP → Prop}
theorem bd_arr {c : Nat} {Q : HP → Prop} (P : Bd h0 h A Pn) (hk : kdF A = kd) (hl : lnF A = n) (ra : ∀ j, rfF A j = 0 ∨ Pn' A j) (h1 : 1 ≤ p) (h2 : p < A) (kp : kdF p = c) (rp : rfF p k = A) (hP : ∀ a j, Pn a j → Pn' a j ∨ (a = p ∧ j = k)) (H : ∀ h3, Bd h0 h3 (A + 1) Pn' → Q h3) : ∀ h1, h1 = nwC h kd n → isO h1 p c ∧ 0 < gS h ∧ ∀ h3, h3 = stR h1 p k (gS h) → Q h3 := by
  intro g1 e1
  have P1 : Bd h0 g1 (A + 1) (fun a j => Pn' a j ∨ (a = p ∧ j = k)) := bd_new P e1 hk hl hP (fun j => (ra j).imp id Or.inl)
  rw [P.1]
  exact ⟨bd_O P1 h1 (by omega) kp, by have := P.2.1; omega, fun h3 e3 => H h3 (bd_set P1 e3 h1 rp (fun a j z => z))⟩
theorem r_kd' : ∀ s, s < 24 → kdF (9 + 4 * s) = 6 ∧ kdF (9 + 4 * s + 1) = 100 ∧ kdF (9 + 4 * s + 1 + 1) = 100 ∧ kdF (9 + 4 * s + 1 + 2) = 100 := by decide
theorem r_ln' : ∀ s, s < 24 → lnF (9 + 4 * s) = 0 ∧ lnF (9 + 4 * s + 1) = 20 ∧ lnF (9 + 4 * s + 1 + 1) = 20 ∧ lnF (9 + 4 * s + 1 + 2) = 20 := by decide
theorem r_kd {s : Nat} (hs : s < 24) : kdF (9 + 4 * s) = 6 ∧ kdF (9 + 4 * s + 1) = 100 ∧ kdF (9 + 4 * s + 1 + 1) = 100 ∧ kdF (9 + 4 * s + 1 + 2) = 100 := r_kd' s hs
theorem r_ln {s : Nat} (hs : s < 24) : lnF (9 + 4 * s) = 0 ∧ lnF (9 + 4 * s + 1) = 20 ∧ lnF (9 + 4 * s + 1 + 1) = 20 ∧ lnF (9 + 4 * s + 1 + 2) = 20 := r_ln' s hs
theorem rf_9 {a j : Nat} (h1 : 9 ≤ a) (h2 : a < 105) : rfF a j = if (a - 9) % 4 = 0 then (if j < 3 then a + 1 + j else if j = 3 then 5 else 0) else 0 := by
  unfold rfF
  rw [if_neg (by omega), if_neg (by omega), if_neg (by omega), if_neg (by omega), if_neg (by omega), if_neg (by omega), if_pos h2]
theorem r_rf {s j : Nat} (hs : s < 24) : rfF (9 + 4 * s) j = (if j < 3 then 9 + 4 * s + 1 + j else if j = 3 then 5 else 0) ∧ rfF (9 + 4 * s + 1) j = 0 ∧ rfF (9 + 4 * s + 1 + 1) j = 0 ∧ rfF (9 + 4 * s + 1 + 2) j = 0 := by
  refine ⟨by rw [rf_9 (by omega) (by omega), if_pos (by omega)], by rw [rf_9 (by omega) (by omega), if_neg (by omega)], by rw [rf_9 (by omega) (by omega), if_neg (by omega)], by rw [rf_9 (by omega) (by omega), if_neg (by omega)]⟩
theorem r_7 {s : Nat} (hs : s < 24) : rfF 7 s = 9 + 4 * s := by show (if s < 24 then 9 + 4 * s else 0) = _; rw [if_pos hs]
theorem bk_lp (H : ∀ h', Bd h0 h' 105 (fun a j => a = 1 ∧ 1 ≤ j) → K h') : ∀ (r s bc bs : Nat) (h : HP), s + r = 24 → bc = 4 * r → bs = 1809 * r → Bd h0 h (9 + 4 * s) (fun a j => (a = 1 ∧ 1 ≤ j) ∨ (a = 7 ∧ s ≤ j ∧ j < 24)) → Wp k_Book_init 35 [some (.ref 4), some (.int (nI s))] [] h (bc, bs) (QV K)
  | 0, s, bc, bs, h, e, e1, e2, P => wb_Book_init_35_ok (by
      unfold wb_Book_init_35
      simp (disch := omega) only [i0, i1, nLit, mul_I, add_I, nI_cl, le_I]
      refine ⟨fun _ => H h ?_, fun z => absurd (by omega) z⟩
      have P' := bd_w (Pn' := fun a j => a = 1 ∧ 1 ≤ j) P (fun a j z => by omega)
      rw [show 9 + 4 * s = 105 by omega] at P'
      exact P')
  | r + 1, s, bc, bs, h, e, e1, e2, P => wb_Book_init_35_ok (by
      have hs : s < 24 := by omega
      have g41 : gR h 4 1 = 7 := bd_R P (by omega) (by omega) (by omega)
      unfold wb_Book_init_35
      rw [g41]
      simp (disch := omega) only [i0, i1, nLit, mul_I, add_I, nI_cl, le_I]
      refine ⟨fun z => absurd z (by omega), fun _ => ⟨bd_O P (by omega) (by omega) rfl, by decide, ⟨by omega, by omega⟩, ?_⟩⟩
      try simp only [forall_eq]
      have P1 : Bd h0 (nwC h 6 0) (9 + 4 * s + 1) (fun a j => ((a = 1 ∧ 1 ≤ j) ∨ (a = 7 ∧ s ≤ j ∧ j < 24)) ∨ (a = 9 + 4 * s ∧ j < 4)) := bd_new P rfl (r_kd hs).1 (r_ln hs).1 (fun a j z => Or.inl z) (fun j => by
        rw [(r_rf hs).1]
        by_cases c : j < 4
        · exact Or.inr (Or.inr ⟨rfl, c⟩)
        · left
          rw [if_neg (by omega), if_neg (by omega)])
      have g40 : gR (nwC h 6 0) 4 0 = 5 := bd_R P1 (by omega) (by omega) (by omega)
      rw [P.1, g40]
      refine ⟨bd_O P1 (by omega) (by omega) rfl, by decide, ⟨by omega, by omega⟩, ?_⟩
      refine c_Row (Pn' := fun a j => (a = 1 ∧ 1 ≤ j) ∨ (a = 7 ∧ s ≤ j ∧ j < 24)) P1 (by omega) (by omega) (by decide) (r_kd hs).1 (r_kd hs).2 (r_ln hs).2 (by decide) ⟨by rw [(r_rf hs).1]; rfl, by rw [(r_rf hs).1]; rfl, by rw [(r_rf hs).1]; rfl, by rw [(r_rf hs).1]; rfl⟩ (fun j => (r_rf hs).2) (fun a j z => z) (fun h2 P2 => ?_)
      have k7 := P2.2.2.1 7 (by omega) (by omega)
      refine ⟨Or.inl ⟨k7.1, bd_O P2 (by omega) (by omega) (r_kd hs).1⟩, by decide, by rw [P2.1]; omega, by rw [k7.2]; exact nI_in' hs (by decide), ?_⟩
      try simp only [forall_eq]
      intros
      refine bk_lp H r (s + 1) _ _ _ (by omega) (by omega) (by omega) ?_
      first
      | (rename_i e23
         have P3 := bd_set (Pn' := fun a j => (a = 1 ∧ 1 ≤ j) ∨ (a = 7 ∧ s + 1 ≤ j ∧ j < 24)) P2 e23 (by omega) (r_7 hs) (fun a j z => by omega)
         rw [show 9 + 4 * (s + 1) = 9 + 4 * s + 1 + 3 by omega]
         exact P3)
      | (have P3 := bd_set (Pn' := fun a j => (a = 1 ∧ 1 ≤ j) ∨ (a = 7 ∧ s + 1 ≤ j ∧ j < 24)) P2 rfl (by omega) (r_7 hs) (fun a j z => by omega)
         rw [show 9 + 4 * (s + 1) = 9 + 4 * s + 1 + 3 by omega]
         exact P3))
theorem c_Book (P : Bd h0 h 5 (fun a j => (a = 1 ∧ 1 ≤ j) ∨ (a = 4 ∧ j < 3))) (H : ∀ h', Bd h0 h' 105 (fun a j => a = 1 ∧ 1 ≤ j) → K h') : wq_Book_init 4 h K := by
  unfold wq_Book_init
  intro g1 e1
  have P1 : Bd h0 g1 6 (fun a j => ((a = 1 ∧ 1 ≤ j) ∨ (a = 4 ∧ j < 3)) ∨ (a = 5 ∧ j = 0)) := bd_new P e1 rfl rfl (fun a j z => Or.inl z) (fun j => by
    by_cases c : j = 0
    · exact Or.inr (Or.inr ⟨rfl, c⟩)
    · left; show (if j = 0 then 6 else 0) = 0; rw [if_neg c])
  rw [P.1]
  refine c_Text (n := 0) (Pn' := fun a j => (a = 1 ∧ 1 ≤ j) ∨ (a = 4 ∧ j < 3)) P1 (by decide) (by decide) rfl rfl rfl (by decide) rfl (fun _ => rfl) (fun a j z => z) (fun h3 P3 => ⟨bd_O P3 (by decide) (by decide) rfl, by decide, fun h4 e4 => ?_⟩)
  have P4 : Bd h0 h4 7 (fun a j => (a = 1 ∧ 1 ≤ j) ∨ (a = 4 ∧ j ≠ 0 ∧ j < 3)) := bd_set P3 e4 (by decide) rfl (fun a j z => by omega)
  refine bd_arr (Pn' := fun a j => (a = 1 ∧ 1 ≤ j) ∨ (a = 4 ∧ j = 2) ∨ (a = 7 ∧ j < 24)) P4 rfl rfl (fun j => ?_) (by decide) (by decide) rfl rfl (fun a j z => by omega) (fun h7 P7 => ?_)
  · by_cases c : j < 24
    · exact Or.inr (Or.inr (Or.inr ⟨rfl, c⟩))
    · left; show (if j < 24 then 9 + 4 * j else 0) = 0; rw [if_neg c]
  refine bd_arr (Pn' := fun a j => (a = 1 ∧ 1 ≤ j) ∨ (a = 7 ∧ 0 ≤ j ∧ j < 24)) P7 rfl rfl (fun j => Or.inl rfl) (by decide) (by decide) rfl rfl (fun a j z => by omega) (fun h8 P8 => ?_)
  exact bk_lp H 24 0 96 43416 h8 (by decide) (by decide) (by decide) P8
end BD2
