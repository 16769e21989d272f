/-! the class's constructors: the memory -/
section BD3
variable {h0 h : HP} {K : HP → Prop}
theorem q_kd : ∀ p, p < 20 → kdF (112 + 6 * p) = 7 ∧ kdF (112 + 6 * p + 1) = 101 ∧ kdF (112 + 6 * p + 1 + 1) = 6 ∧ kdF (112 + 6 * p + 1 + 1 + 1) = 100 ∧ kdF (112 + 6 * p + 1 + 1 + 1 + 1) = 100 ∧ kdF (112 + 6 * p + 1 + 1 + 1 + 2) = 100 := by decide
theorem q_ln : ∀ p, p < 20 → lnF (112 + 6 * p) = 0 ∧ lnF (112 + 6 * p + 1) = 0 ∧ lnF (112 + 6 * p + 1 + 1) = 0 ∧ lnF (112 + 6 * p + 1 + 1 + 1) = 20 ∧ lnF (112 + 6 * p + 1 + 1 + 1 + 1) = 20 ∧ lnF (112 + 6 * p + 1 + 1 + 1 + 2) = 20 := by decide
theorem t_kd : ∀ p, p < 40 → kdF (232 + 2 * p) = 7 ∧ kdF (232 + 2 * p + 1) = 101 ∧ lnF (232 + 2 * p) = 0 ∧ lnF (232 + 2 * p + 1) = 0 := by decide
theorem rf_112 {a j : Nat} (h1 : 112 ≤ a) (h2 : a < 232) : rfF a j = if (a - 112) % 6 = 0 then (if j = 0 then a + 1 else 0) else if (a - 112) % 6 = 2 then (if j < 3 then a + 1 + j else if j = 3 then a - 2 else 0) else 0 := by
  unfold rfF
  rw [if_neg (by omega), if_neg (by omega), if_neg (by omega), if_neg (by omega), if_neg (by omega), if_neg (by omega), if_neg (by omega), if_neg (by omega), if_neg (by omega), if_neg (by omega), if_neg (by omega), if_neg (by omega), if_pos h2]
theorem rf_232 {a j : Nat} (h1 : 232 ≤ a) (h2 : a < 312) : rfF a j = if a % 2 = 0 then (if j = 0 then a + 1 else 0) else 0 := by
  unfold rfF
  rw [if_neg (by omega), if_neg (by omega), if_neg (by omega), if_neg (by omega), if_neg (by omega), if_neg (by omega), if_neg (by omega), if_neg (by omega), if_neg (by omega), if_neg (by omega), if_neg (by omega), if_neg (by omega), if_neg (by omega), if_pos h2]
theorem q_0 {p j : Nat} (hp : p < 20) : rfF (112 + 6 * p) j = if j = 0 then 112 + 6 * p + 1 else 0 := by rw [rf_112 (by omega) (by omega), if_pos (by omega)]
theorem q_1 {p j i : Nat} (hp : p < 20) (hi : i = 1 ∨ i = 3 ∨ i = 4 ∨ i = 5) : rfF (112 + 6 * p + i) j = 0 := by rw [rf_112 (by omega) (by omega), if_neg (by omega), if_neg (by omega)]
theorem q_2 {p j : Nat} (hp : p < 20) : rfF (112 + 6 * p + 1 + 1) j = if j < 3 then 112 + 6 * p + 1 + 1 + 1 + j else if j = 3 then 112 + 6 * p else 0 := by rw [rf_112 (by omega) (by omega), if_neg (by omega), if_pos (by omega)]; rfl
theorem t_0 {p j : Nat} (hp : p < 40) : rfF (232 + 2 * p) j = if j = 0 then 232 + 2 * p + 1 else 0 := by rw [rf_232 (by omega) (by omega), if_pos (by omega)]
theorem t_1 {p j : Nat} (hp : p < 40) : rfF (232 + 2 * p + 1) j = 0 := by rw [rf_232 (by omega) (by omega), if_neg (by omega)]
theorem r_106 {p : Nat} (hp : p < 20) : rfF 106 p = 112 + 6 * p := by show (if p < 20 then 112 + 6 * p else 0) = _; rw [if_pos hp]
theorem r_107 {p : Nat} (hp : p < 20) : rfF 107 p = 112 + 6 * p + 1 + 1 := by show (if p < 20 then 114 + 6 * p else 0) = _; rw [if_pos hp]; omega
theorem r_109 {p : Nat} (hp : p < 40) : rfF 109 p = 232 + 2 * p := by show (if p < 40 then 232 + 2 * p else 0) = _; rw [if_pos hp]
theorem mm2_lp (H : ∀ h', Bd h0 h' 312 (fun a j => a = 1 ∧ 2 ≤ j) → K h') : ∀ (r p bc bs : Nat) (h : HP), p + r = 40 → bc = 2 * r → bs = 882 * r → Bd h0 h (232 + 2 * p) (fun a j => (a = 1 ∧ 2 ≤ j) ∨ (a = 109 ∧ p ≤ j ∧ j < 40)) → Wp k_Memory_init 106 [some (.ref 105), some (.int (nI p))] [] h (bc, bs) (QV K)
  | 0, p, bc, bs, h, e, e1, e2, P => wb_Memory_init_106_ok (by
      unfold wb_Memory_init_106
      simp (disch := omega) only [i0, i1, nLit, mul_I, add_I, nI_cl, le_I]
      refine ⟨fun _ => H h ?_, fun z => absurd (by omega) z⟩
      have P' := bd_w (Pn' := fun a j => a = 1 ∧ 2 ≤ j) P (fun a j z => by omega)
      rw [show 232 + 2 * p = 312 by omega] at P'
      exact P')
  | r + 1, p, bc, bs, h, e, e1, e2, P => wb_Memory_init_106_ok (by
      have hp : p < 40 := by omega
      have g : gR h 105 3 = 109 := bd_R P (by omega) (by omega) (by omega)
      have kk := t_kd p hp
      unfold wb_Memory_init_106
      rw [g]
      simp (disch := omega) only [i0, i1, nLit, mul_I, add_I, nI_cl, le_I]
      refine ⟨fun z => absurd z (by omega), fun _ => ⟨bd_O P (by omega) (by omega) rfl, by decide, ⟨by omega, by omega⟩, fun g1 e1 => ⟨⟨by omega, by omega⟩, ?_⟩⟩⟩
      have P1 : Bd h0 g1 (232 + 2 * p + 1) (fun a j => ((a = 1 ∧ 2 ≤ j) ∨ (a = 109 ∧ p ≤ j ∧ j < 40)) ∨ (a = 232 + 2 * p ∧ j = 0)) := bd_new P e1 kk.1 kk.2.2.1 (fun a j z => Or.inl z) (fun j => by
        rw [t_0 hp]
        by_cases c : j = 0
        · exact Or.inr (Or.inr ⟨rfl, c⟩)
        · left; rw [if_neg c])
      rw [P.1]
      refine c_Text (n := 0) (Pn' := fun a j => (a = 1 ∧ 2 ≤ j) ∨ (a = 109 ∧ p ≤ j ∧ j < 40)) P1 (by omega) (by omega) kk.1 kk.2.1 kk.2.2.2 (by decide) (by rw [t_0 hp]; rfl) (fun j => t_1 hp) (fun a j z => z) (fun h2 P2 => ?_)
      have k9 := P2.2.2.1 109 (by omega) (by omega)
      refine ⟨Or.inr ⟨k9.1, bd_O P2 (by omega) (by omega) kk.1⟩, by decide, by rw [P2.1]; omega, by rw [k9.2]; exact nI_in' hp (by decide), fun g3 e3 => ?_⟩
      refine mm2_lp H r (p + 1) _ _ _ (by omega) (by omega) (by omega) ?_
      have P3 := bd_set (Pn' := fun a j => (a = 1 ∧ 2 ≤ j) ∨ (a = 109 ∧ p + 1 ≤ j ∧ j < 40)) P2 e3 (by omega) (r_109 hp) (fun a j z => by omega)
      rw [show 232 + 2 * (p + 1) = 232 + 2 * p + 1 + 1 by omega]
      exact P3)
theorem mm_lp (H : ∀ h', Bd h0 h' 312 (fun a j => a = 1 ∧ 2 ≤ j) → K h') : ∀ (r p bc bs : Nat) (h : HP), p + r = 20 → bc = 6 * r + 80 → bs = 2691 * r + 35280 → Bd h0 h (112 + 6 * p) (fun a j => (a = 1 ∧ 2 ≤ j) ∨ (a = 106 ∧ p ≤ j ∧ j < 20) ∨ (a = 107 ∧ p ≤ j ∧ j < 20) ∨ (a = 109 ∧ j < 40)) → Wp k_Memory_init 57 [some (.ref 105), some (.int (nI p))] [] h (bc, bs) (QV K)
  | 0, p, bc, bs, h, e, e1, e2, P => wb_Memory_init_57_ok (by
      unfold wb_Memory_init_57
      simp (disch := omega) only [i0, i1, nLit, mul_I, add_I, nI_cl, le_I]
      refine ⟨fun _ => mm2_lp H 40 0 bc bs h (by omega) (by omega) (by omega) ?_, fun z => absurd (by omega) z⟩
      have P' := bd_w (Pn' := fun a j => (a = 1 ∧ 2 ≤ j) ∨ (a = 109 ∧ 0 ≤ j ∧ j < 40)) P (fun a j z => by omega)
      rw [show 112 + 6 * p = 232 + 2 * 0 by omega] at P'
      exact P')
  | r + 1, p, bc, bs, h, e, e1, e2, P => wb_Memory_init_57_ok (by
      have hp : p < 20 := by omega
      have g : gR h 105 0 = 106 := bd_R P (by omega) (by omega) (by omega)
      have kk := q_kd p hp
      have ll := q_ln p hp
      unfold wb_Memory_init_57
      rw [g]
      simp (disch := omega) only [i0, i1, nLit, mul_I, add_I, nI_cl, le_I]
      refine ⟨fun z => absurd z (by omega), fun _ => ⟨bd_O P (by omega) (by omega) rfl, by decide, ⟨by omega, by omega⟩, fun g1 e1 => ⟨⟨by omega, by omega⟩, ?_⟩⟩⟩
      have P1 : Bd h0 g1 (112 + 6 * p + 1) (fun a j => ((a = 1 ∧ 2 ≤ j) ∨ (a = 106 ∧ p ≤ j ∧ j < 20) ∨ (a = 107 ∧ p ≤ j ∧ j < 20) ∨ (a = 109 ∧ j < 40)) ∨ (a = 112 + 6 * p ∧ j = 0)) := bd_new P e1 kk.1 ll.1 (fun a j z => Or.inl z) (fun j => by
        rw [q_0 hp]
        by_cases c : j = 0
        · exact Or.inr (Or.inr ⟨rfl, c⟩)
        · left; rw [if_neg c])
      rw [P.1]
      refine c_Text (n := 0) (Pn' := fun a j => (a = 1 ∧ 2 ≤ j) ∨ (a = 106 ∧ p ≤ j ∧ j < 20) ∨ (a = 107 ∧ p ≤ j ∧ j < 20) ∨ (a = 109 ∧ j < 40)) P1 (by omega) (by omega) kk.1 kk.2.1 ll.2.1 (by decide) (by rw [q_0 hp]; rfl) (fun j => q_1 hp (Or.inl rfl)) (fun a j z => z) (fun h2 P2 => ?_)
      have k6 := P2.2.2.1 106 (by omega) (by omega)
      refine ⟨Or.inr ⟨k6.1, bd_O P2 (by omega) (by omega) kk.1⟩, by decide, by rw [P2.1]; omega, by rw [k6.2]; exact nI_in' hp (by decide), fun g3 e3 => ?_⟩
      have P3 := bd_set (Pn' := fun a j => (a = 1 ∧ 2 ≤ j) ∨ (a = 106 ∧ p + 1 ≤ j ∧ j < 20) ∨ (a = 107 ∧ p ≤ j ∧ j < 20) ∨ (a = 109 ∧ j < 40)) P2 e3 (by omega) (r_106 hp) (fun a j z => by omega)
      have g1' : gR g3 105 1 = 107 := bd_R P3 (by omega) (by omega) (by omega)
      rw [g1']
      refine ⟨bd_O P3 (by omega) (by omega) rfl, by decide, ⟨by omega, by omega⟩, fun g4 e4 => ?_⟩
      have P4 : Bd h0 g4 (112 + 6 * p + 1 + 1 + 1) (fun a j => ((a = 1 ∧ 2 ≤ j) ∨ (a = 106 ∧ p + 1 ≤ j ∧ j < 20) ∨ (a = 107 ∧ p ≤ j ∧ j < 20) ∨ (a = 109 ∧ j < 40)) ∨ (a = 112 + 6 * p + 1 + 1 ∧ j < 4)) := bd_new P3 e4 kk.2.2.1 ll.2.2.1 (fun a j z => Or.inl z) (fun j => by
        rw [q_2 hp]
        by_cases c : j < 4
        · exact Or.inr (Or.inr ⟨rfl, c⟩)
        · left; rw [if_neg (by omega), if_neg (by omega)])
      have g0' : gR g4 105 0 = 106 := bd_R P4 (by omega) (by omega) (by omega)
      have gp : gR g4 106 p = 112 + 6 * p := by rw [bd_R P4 (by omega) (by omega) (by omega)]; exact r_106 hp
      have k6' := P4.2.2.1 106 (by omega) (by omega)
      rw [g0', gp, P3.1]
      refine ⟨bd_O P4 (by omega) (by omega) rfl, by decide, by decide, by rw [P4.1]; omega, Or.inr k6'.1, by rw [k6'.2]; exact nI_in' hp (by decide), by omega, ⟨by omega, by omega⟩, ?_⟩
      refine c_Row (n := 20) (Pn' := fun a j => (a = 1 ∧ 2 ≤ j) ∨ (a = 106 ∧ p + 1 ≤ j ∧ j < 20) ∨ (a = 107 ∧ p ≤ j ∧ j < 20) ∨ (a = 109 ∧ j < 40)) P4 (by omega) (by omega) (by omega) kk.2.2.1 kk.2.2.2 ll.2.2.2 (by decide) ⟨by rw [q_2 hp]; rfl, by rw [q_2 hp]; rfl, by rw [q_2 hp]; rfl, by rw [q_2 hp]; rfl⟩ (fun j => ⟨q_1 (i := 3) hp (by omega), q_1 (i := 4) hp (by omega), q_1 (i := 5) hp (by omega)⟩) (fun a j z => z) (fun h5 P5 => ?_)
      have k7 := P5.2.2.1 107 (by omega) (by omega)
      refine ⟨Or.inl ⟨k7.1, bd_O P5 (by omega) (by omega) kk.2.2.1⟩, by decide, by rw [P5.1]; omega, by rw [k7.2]; exact nI_in' hp (by decide), fun g6 e6 => ?_⟩
      refine mm_lp H r (p + 1) _ _ _ (by omega) (by omega) (by omega) ?_
      have P6 := bd_set (Pn' := fun a j => (a = 1 ∧ 2 ≤ j) ∨ (a = 106 ∧ p + 1 ≤ j ∧ j < 20) ∨ (a = 107 ∧ p + 1 ≤ j ∧ j < 20) ∨ (a = 109 ∧ j < 40)) P5 e6 (by omega) (r_107 hp) (fun a j z => by omega)
      rw [show 112 + 6 * (p + 1) = 112 + 6 * p + 1 + 1 + 1 + 3 by omega]
      exact P6)
theorem c_Memory (P : Bd h0 h 106 (fun a j => (a = 1 ∧ 2 ≤ j) ∨ (a = 105 ∧ j < 6))) (H : ∀ h', Bd h0 h' 312 (fun a j => a = 1 ∧ 2 ≤ j) → K h') : wq_Memory_init 105 h K := by
  unfold wq_Memory_init
  refine bd_arr (Pn' := fun a j => (a = 1 ∧ 2 ≤ j) ∨ (a = 105 ∧ 1 ≤ j ∧ j < 6) ∨ (a = 106 ∧ j < 20)) P rfl rfl (fun j => ?_) (by decide) (by decide) rfl rfl (fun a j z => by omega) (fun h1 P1 => ?_)
  · by_cases c : j < 20
    · exact Or.inr (Or.inr (Or.inr ⟨rfl, c⟩))
    · left; show (if j < 20 then 112 + 6 * j else 0) = 0; rw [if_neg c]
  refine bd_arr (Pn' := fun a j => (a = 1 ∧ 2 ≤ j) ∨ (a = 105 ∧ 2 ≤ j ∧ j < 6) ∨ (a = 106 ∧ j < 20) ∨ (a = 107 ∧ j < 20)) P1 rfl rfl (fun j => ?_) (by decide) (by decide) rfl rfl (fun a j z => by omega) (fun h2 P2 => ?_)
  · by_cases c : j < 20
    · exact Or.inr (Or.inr (Or.inr (Or.inr ⟨rfl, c⟩)))
    · left; show (if j < 20 then 114 + 6 * j else 0) = 0; rw [if_neg c]
  refine bd_arr (Pn' := fun a j => (a = 1 ∧ 2 ≤ j) ∨ (a = 105 ∧ 3 ≤ j ∧ j < 6) ∨ (a = 106 ∧ j < 20) ∨ (a = 107 ∧ j < 20)) P2 rfl rfl (fun j => Or.inl rfl) (by decide) (by decide) rfl rfl (fun a j z => by omega) (fun h3 P3 => ?_)
  refine bd_arr (Pn' := fun a j => (a = 1 ∧ 2 ≤ j) ∨ (a = 105 ∧ 4 ≤ j ∧ j < 6) ∨ (a = 106 ∧ j < 20) ∨ (a = 107 ∧ j < 20) ∨ (a = 109 ∧ j < 40)) P3 rfl rfl (fun j => ?_) (by decide) (by decide) rfl rfl (fun a j z => by omega) (fun h4 P4 => ?_)
  · by_cases c : j < 40
    · exact Or.inr (Or.inr (Or.inr (Or.inr (Or.inr ⟨rfl, c⟩))))
    · left; show (if j < 40 then 232 + 2 * j else 0) = 0; rw [if_neg c]
  refine bd_arr (Pn' := fun a j => (a = 1 ∧ 2 ≤ j) ∨ (a = 105 ∧ 5 ≤ j ∧ j < 6) ∨ (a = 106 ∧ j < 20) ∨ (a = 107 ∧ j < 20) ∨ (a = 109 ∧ j < 40)) P4 rfl rfl (fun j => Or.inl rfl) (by decide) (by decide) rfl rfl (fun a j z => by omega) (fun h5 P5 => ?_)
  refine bd_arr (Pn' := fun a j => (a = 1 ∧ 2 ≤ j) ∨ (a = 106 ∧ 0 ≤ j ∧ j < 20) ∨ (a = 107 ∧ 0 ≤ j ∧ j < 20) ∨ (a = 109 ∧ j < 40)) P5 rfl rfl (fun j => Or.inl rfl) (by decide) (by decide) rfl rfl (fun a j z => by omega) (fun h6 P6 => ?_)
  exact mm_lp H 20 0 200 89100 h6 (by decide) (by decide) (by decide) P6
end BD3
