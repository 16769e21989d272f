/-! the class's constructor -/
section BD4
variable {h0 h h' : HP} {K : HP → Prop} {A : Nat} {Pn : Nat → Nat → Prop}
theorem bd_fill (P : Bd h0 h A Pn) (e : h'.2 = h.2) (g : ∀ b, b ≠ 318 → gI h' b = gI h b) : Bd h0 h' A Pn := by
  have e1 : gS h' = gS h := congrArg (fun x => x.2.2.2.2) e
  have e2 : gK h' = gK h := congrArg (fun x => x.2.2.1) e
  have e3 : gR h' = gR h := congrArg (fun x => x.2.1) e
  have e4 : gL h' = gL h := congrArg (fun x => x.2.2.2.1) e
  have e5 : gJ h' = gJ h := congrArg (fun x => x.1) e
  unfold Bd
  rw [e1, e2, e3, e4, e5, g 0 (by decide)]
  exact ⟨P.1, P.2.1, P.2.2.1, P.2.2.2.1, fun a h1 h2 h3 => by rw [g a h3]; exact P.2.2.2.2.1 a h1 h2 h3, P.2.2.2.2.2⟩
theorem c_Ladder (P : Bd h0 h 313 (fun a j => (a = 1 ∧ 3 ≤ j) ∨ (a = 312 ∧ j < 4))) (H : ∀ h', Bd h0 h' 317 (fun a j => a = 1 ∧ 3 ≤ j) → K h') : wq_Ladder_init 312 h K := by
  unfold wq_Ladder_init
  refine bd_arr (Pn' := fun a j => (a = 1 ∧ 3 ≤ j) ∨ (a = 312 ∧ 1 ≤ j ∧ j < 4)) P rfl rfl (fun j => Or.inl rfl) (by decide) (by decide) rfl rfl (fun a j z => by omega) (fun h1 P1 => ?_)
  refine bd_arr (Pn' := fun a j => (a = 1 ∧ 3 ≤ j) ∨ (a = 312 ∧ 2 ≤ j ∧ j < 4)) P1 rfl rfl (fun j => Or.inl rfl) (by decide) (by decide) rfl rfl (fun a j z => by omega) (fun h2 P2 => ?_)
  refine bd_arr (Pn' := fun a j => (a = 1 ∧ 3 ≤ j) ∨ (a = 312 ∧ 3 ≤ j ∧ j < 4)) P2 rfl rfl (fun j => Or.inl rfl) (by decide) (by decide) rfl rfl (fun a j z => by omega) (fun h3 P3 => ?_)
  exact bd_arr (Pn' := fun a j => a = 1 ∧ 3 ≤ j) P3 rfl rfl (fun j => Or.inl rfl) (by decide) (by decide) rfl rfl (fun a j z => by omega) (fun h4 P4 => H h4 P4)
theorem c_Near (P : Bd h0 h 318 (fun a j => (a = 1 ∧ 3 ≤ j ∧ j ≠ 4) ∨ (a = 317 ∧ j < 2))) (H : ∀ h', Bd h0 h' 319 (fun a j => a = 1 ∧ 3 ≤ j ∧ j ≠ 4) → K h') : wq_Near_init 317 312 h K := by
  unfold wq_Near_init
  refine bd_arr (Pn' := fun a j => (a = 1 ∧ 3 ≤ j ∧ j ≠ 4) ∨ (a = 317 ∧ j = 1)) P rfl rfl (fun j => Or.inl rfl) (by decide) (by decide) rfl rfl (fun a j z => by omega) (fun h1 P1 => ?_)
  refine ⟨bd_O P1 (by decide) (by decide) rfl, by decide, fun h2 e2 => ?_⟩
  have P2 : Bd h0 h2 319 (fun a j => a = 1 ∧ 3 ≤ j ∧ j ≠ 4) := bd_set P1 e2 (by decide) rfl (fun a j z => by omega)
  have g : gR h2 317 0 = 318 := bd_R P2 (by decide) (by decide) (by omega)
  have k8 := P2.2.2.1 318 (by decide) (by decide)
  unfold wq_Near_forgetAll
  rw [g]
  exact ⟨bd_O P2 (by decide) (by decide) rfl, bd_O P2 (by decide) (by decide) rfl, by decide, k_fill (N := 480) ⟨by decide, by rw [P2.1]; decide, k8.1, k8.2⟩ (by decide) (fun h3 f1 f2 _ => H h3 (bd_fill P2 f1 f2))⟩
theorem c_Patch (P : Bd h0 h 320 (fun a j => (a = 1 ∧ 5 ≤ j) ∨ (a = 319 ∧ j < 3))) (H : ∀ h', Bd h0 h' 324 (fun a j => a = 1 ∧ 5 ≤ j) → K h') : wq_Patch_init 319 h K := by
  unfold wq_Patch_init
  intro g1 e1
  have P1 : Bd h0 g1 321 (fun a j => ((a = 1 ∧ 5 ≤ j) ∨ (a = 319 ∧ j < 3)) ∨ (a = 320 ∧ j = 0)) := bd_new P e1 rfl rfl (fun a j z => Or.inl z) (fun j => by
    by_cases c : j = 0
    · exact Or.inr (Or.inr ⟨rfl, c⟩)
    · left; show (if j = 0 then 321 else 0) = 0; rw [if_neg c])
  rw [P.1]
  refine c_Text (n := 880) (Pn' := fun a j => (a = 1 ∧ 5 ≤ j) ∨ (a = 319 ∧ j < 3)) P1 (by decide) (by decide) rfl rfl rfl (by decide) rfl (fun _ => rfl) (fun a j z => z) (fun h3 P3 => ⟨bd_O P3 (by decide) (by decide) rfl, by decide, fun h4 e4 => ?_⟩)
  have P4 : Bd h0 h4 322 (fun a j => (a = 1 ∧ 5 ≤ j) ∨ (a = 319 ∧ 1 ≤ j ∧ j < 3)) := bd_set P3 e4 (by decide) rfl (fun a j z => by omega)
  refine bd_arr (Pn' := fun a j => (a = 1 ∧ 5 ≤ j) ∨ (a = 319 ∧ 2 ≤ j ∧ j < 3)) P4 rfl rfl (fun j => Or.inl rfl) (by decide) (by decide) rfl rfl (fun a j z => by omega) (fun h5 P5 => ?_)
  exact bd_arr (Pn' := fun a j => a = 1 ∧ 5 ≤ j) P5 rfl rfl (fun j => Or.inl rfl) (by decide) (by decide) rfl rfl (fun a j z => by omega) (fun h6 P6 => H h6 P6)
theorem rf_4 (j : Nat) : rfF 4 j = 0 ∨ j < 3 := by
  by_cases c : j < 3
  · exact Or.inr c
  · obtain ⟨i, rfl⟩ : ∃ i, j = i + 3 := ⟨j - 3, by omega⟩
    exact Or.inl rfl
theorem rf_105 (j : Nat) : rfF 105 j = 0 ∨ j < 6 := by
  by_cases c : j < 6
  · exact Or.inr c
  · obtain ⟨i, rfl⟩ : ∃ i, j = i + 6 := ⟨j - 6, by omega⟩
    exact Or.inl rfl
theorem rf_312 (j : Nat) : rfF 312 j = 0 ∨ j < 4 := by
  by_cases c : j < 4
  · exact Or.inr c
  · obtain ⟨i, rfl⟩ : ∃ i, j = i + 4 := ⟨j - 4, by omega⟩
    exact Or.inl rfl
theorem rf_317 (j : Nat) : rfF 317 j = 0 ∨ j < 2 := by
  by_cases c : j < 2
  · exact Or.inr c
  · obtain ⟨i, rfl⟩ : ∃ i, j = i + 2 := ⟨j - 2, by omega⟩
    exact Or.inl rfl
theorem rf_319 (j : Nat) : rfF 319 j = 0 ∨ j < 3 := by
  by_cases c : j < 3
  · exact Or.inr c
  · obtain ⟨i, rfl⟩ : ∃ i, j = i + 3 := ⟨j - 3, by omega⟩
    exact Or.inl rfl
theorem rf_326 (j : Nat) : rfF 326 j = 0 ∨ j < 4 := by
  by_cases c : j < 4
  · exact Or.inr c
  · left
    show (if j < 3 then 327 + j else if j = 3 then 2 else 0) = 0
    rw [if_neg (by omega), if_neg (by omega)]
theorem rf_e {a : Nat} (ha : a = 2 ∨ a = 324 ∨ a = 330 ∨ a = 332 ∨ a = 334 ∨ a = 336) (j : Nat) : rfF a j = 0 ∨ j = 0 := by
  by_cases c : j = 0
  · exact Or.inr c
  · left
    rcases ha with e | e | e | e | e | e <;> rw [e]
    · show (if j = 0 then 3 else 0) = 0; rw [if_neg c]
    · show (if j = 0 then 325 else 0) = 0; rw [if_neg c]
    · show (if j = 0 then 331 else 0) = 0; rw [if_neg c]
    · show (if j = 0 then 333 else 0) = 0; rw [if_neg c]
    · show (if j = 0 then 335 else 0) = 0; rw [if_neg c]
    · show (if j = 0 then 337 else 0) = 0; rw [if_neg c]
theorem c_K (P : Bd h0 h 2 (fun a _ => a = 1)) (H : ∀ h', Bd h0 h' 338 (fun a j => a = 1 ∧ 12 ≤ j) → K h') : wq_K_init 1 h K := by
  unfold wq_K_init
  intro g1 e1
  have P1 : Bd h0 g1 3 (fun a j => a = 1 ∨ (a = 2 ∧ j = 0)) := bd_new P e1 rfl rfl (fun a j z => Or.inl z) (fun j => (rf_e (Or.inl rfl) j).imp id (fun c => Or.inr ⟨rfl, c⟩))
  rw [P.1]
  refine c_Text (n := 600) (Pn' := fun a _ => a = 1) P1 (by decide) (by decide) rfl rfl rfl (by decide) rfl (fun _ => rfl) (fun a j z => z) (fun g3 P3 => ⟨bd_O P3 (by decide) (by decide) rfl, by decide, fun g4 e4 => ?_⟩)
  have P4 : Bd h0 g4 4 (fun a j => a = 1 ∧ 1 ≤ j) := bd_set P3 e4 (by decide) rfl (fun a j z => by omega)
  intro g5 e5
  have P5 : Bd h0 g5 5 (fun a j => (a = 1 ∧ 1 ≤ j) ∨ (a = 4 ∧ j < 3)) := bd_new P4 e5 rfl rfl (fun a j z => Or.inl z) (fun j => (rf_4 j).imp id (fun c => Or.inr ⟨rfl, c⟩))
  rw [P4.1]
  refine c_Book P5 (fun g7 P7 => ⟨bd_O P7 (by decide) (by decide) rfl, by decide, fun g8 e8 => ?_⟩)
  have P8 : Bd h0 g8 105 (fun a j => a = 1 ∧ 2 ≤ j) := bd_set P7 e8 (by decide) rfl (fun a j z => by omega)
  intro g9 e9
  have P9 : Bd h0 g9 106 (fun a j => (a = 1 ∧ 2 ≤ j) ∨ (a = 105 ∧ j < 6)) := bd_new P8 e9 rfl rfl (fun a j z => Or.inl z) (fun j => (rf_105 j).imp id (fun c => Or.inr ⟨rfl, c⟩))
  rw [P8.1]
  refine c_Memory P9 (fun g11 P11 => ⟨bd_O P11 (by decide) (by decide) rfl, by decide, fun g12 e12 => ?_⟩)
  have P12 : Bd h0 g12 312 (fun a j => a = 1 ∧ 3 ≤ j) := bd_set P11 e12 (by decide) rfl (fun a j z => by omega)
  intro g13 e13
  have P13 : Bd h0 g13 313 (fun a j => (a = 1 ∧ 3 ≤ j) ∨ (a = 312 ∧ j < 4)) := bd_new P12 e13 rfl rfl (fun a j z => Or.inl z) (fun j => (rf_312 j).imp id (fun c => Or.inr ⟨rfl, c⟩))
  rw [P12.1]
  refine c_Ladder P13 (fun g15 P15 => ⟨bd_O P15 (by decide) (by decide) rfl, by decide, fun g16 e16 => ?_⟩)
  have P16 : Bd h0 g16 317 (fun a j => a = 1 ∧ 3 ≤ j ∧ j ≠ 4) := bd_set P15 e16 (by decide) rfl (fun a j z => by omega)
  intro g17 e17
  have P17 : Bd h0 g17 318 (fun a j => (a = 1 ∧ 3 ≤ j ∧ j ≠ 4) ∨ (a = 317 ∧ j < 2)) := bd_new P16 e17 rfl rfl (fun a j z => Or.inl z) (fun j => (rf_317 j).imp id (fun c => Or.inr ⟨rfl, c⟩))
  have q14 : gR g17 1 4 = 312 := bd_R P17 (by decide) (by decide) (by omega)
  rw [P16.1, q14]
  refine ⟨bd_O P17 (by decide) (by decide) rfl, by decide, c_Near P17 (fun g19 P19 => ⟨bd_O P19 (by decide) (by decide) rfl, by decide, fun g20 e20 => ?_⟩)⟩
  have P20 : Bd h0 g20 319 (fun a j => a = 1 ∧ 5 ≤ j) := bd_set P19 e20 (by decide) rfl (fun a j z => by omega)
  intro g21 e21
  have P21 : Bd h0 g21 320 (fun a j => (a = 1 ∧ 5 ≤ j) ∨ (a = 319 ∧ j < 3)) := bd_new P20 e21 rfl rfl (fun a j z => Or.inl z) (fun j => (rf_319 j).imp id (fun c => Or.inr ⟨rfl, c⟩))
  rw [P20.1]
  refine c_Patch P21 (fun g23 P23 => ⟨bd_O P23 (by decide) (by decide) rfl, by decide, fun g24 e24 => ?_⟩)
  have P24 : Bd h0 g24 324 (fun a j => a = 1 ∧ 6 ≤ j) := bd_set P23 e24 (by decide) rfl (fun a j z => by omega)
  intro g25 e25
  have P25 : Bd h0 g25 325 (fun a j => (a = 1 ∧ 6 ≤ j) ∨ (a = 324 ∧ j = 0)) := bd_new P24 e25 rfl rfl (fun a j z => Or.inl z) (fun j => (rf_e (Or.inr (Or.inl rfl)) j).imp id (fun c => Or.inr ⟨rfl, c⟩))
  rw [P24.1]
  unfold wq_Nest_init
  refine bd_arr (Pn' := fun a j => a = 1 ∧ 6 ≤ j) P25 rfl rfl (fun j => Or.inl rfl) (by decide) (by decide) rfl rfl (fun a j z => by omega) (fun g27 P27 => ⟨bd_O P27 (by decide) (by decide) rfl, by decide, fun g28 e28 => ?_⟩)
  have P28 : Bd h0 g28 326 (fun a j => a = 1 ∧ 7 ≤ j) := bd_set P27 e28 (by decide) rfl (fun a j z => by omega)
  intro g29 e29
  have P29 : Bd h0 g29 327 (fun a j => (a = 1 ∧ 7 ≤ j) ∨ (a = 326 ∧ j < 4)) := bd_new P28 e29 rfl rfl (fun a j z => Or.inl z) (fun j => (rf_326 j).imp id (fun c => Or.inr ⟨rfl, c⟩))
  have q10 : gR g29 1 0 = 2 := bd_R P29 (by decide) (by decide) (by omega)
  rw [P28.1, q10]
  refine ⟨bd_O P29 (by decide) (by decide) rfl, by decide, c_Row (n := 600) (Pn' := fun a j => a = 1 ∧ 7 ≤ j) P29 (by decide) (by decide) (by decide) rfl ⟨rfl, rfl, rfl⟩ ⟨rfl, rfl, rfl⟩ (by decide) ⟨rfl, rfl, rfl, rfl⟩ (fun j => ⟨rfl, rfl, rfl⟩) (fun a j z => z) (fun g31 P31 => ⟨bd_O P31 (by decide) (by decide) rfl, by decide, fun g32 e32 => ?_⟩)⟩
  have P32 : Bd h0 g32 330 (fun a j => a = 1 ∧ 8 ≤ j) := bd_set P31 e32 (by decide) rfl (fun a j z => by omega)
  intro g33 e33
  have P33 : Bd h0 g33 331 (fun a j => (a = 1 ∧ 8 ≤ j) ∨ (a = 330 ∧ j = 0)) := bd_new P32 e33 rfl rfl (fun a j z => Or.inl z) (fun j => (rf_e (by decide) j).imp id (fun c => Or.inr ⟨rfl, c⟩))
  rw [P32.1]
  refine c_Words (n := 8) (Pn' := fun a j => a = 1 ∧ 8 ≤ j) P33 (by decide) (by decide) rfl rfl rfl (by decide) rfl (fun _ => rfl) (fun a j z => z) (fun g35 P35 => ⟨bd_O P35 (by decide) (by decide) rfl, by decide, fun g36 e36 => ?_⟩)
  have P36 : Bd h0 g36 332 (fun a j => a = 1 ∧ 9 ≤ j) := bd_set P35 e36 (by decide) rfl (fun a j z => by omega)
  intro g37 e37
  have P37 : Bd h0 g37 333 (fun a j => (a = 1 ∧ 9 ≤ j) ∨ (a = 332 ∧ j = 0)) := bd_new P36 e37 rfl rfl (fun a j z => Or.inl z) (fun j => (rf_e (by decide) j).imp id (fun c => Or.inr ⟨rfl, c⟩))
  rw [P36.1]
  refine c_Words (n := 10) (Pn' := fun a j => a = 1 ∧ 9 ≤ j) P37 (by decide) (by decide) rfl rfl rfl (by decide) rfl (fun _ => rfl) (fun a j z => z) (fun g39 P39 => ⟨bd_O P39 (by decide) (by decide) rfl, by decide, fun g40 e40 => ?_⟩)
  have P40 : Bd h0 g40 334 (fun a j => a = 1 ∧ 10 ≤ j) := bd_set P39 e40 (by decide) rfl (fun a j z => by omega)
  intro g41 e41
  have P41 : Bd h0 g41 335 (fun a j => (a = 1 ∧ 10 ≤ j) ∨ (a = 334 ∧ j = 0)) := bd_new P40 e41 rfl rfl (fun a j z => Or.inl z) (fun j => (rf_e (by decide) j).imp id (fun c => Or.inr ⟨rfl, c⟩))
  rw [P40.1]
  refine c_Words (n := 10) (Pn' := fun a j => a = 1 ∧ 10 ≤ j) P41 (by decide) (by decide) rfl rfl rfl (by decide) rfl (fun _ => rfl) (fun a j z => z) (fun g43 P43 => ⟨bd_O P43 (by decide) (by decide) rfl, by decide, fun g44 e44 => ?_⟩)
  have P44 : Bd h0 g44 336 (fun a j => a = 1 ∧ 11 ≤ j) := bd_set P43 e44 (by decide) rfl (fun a j z => by omega)
  intro g45 e45
  have P45 : Bd h0 g45 337 (fun a j => (a = 1 ∧ 11 ≤ j) ∨ (a = 336 ∧ j = 0)) := bd_new P44 e45 rfl rfl (fun a j z => Or.inl z) (fun j => (rf_e (by decide) j).imp id (fun c => Or.inr ⟨rfl, c⟩))
  rw [P44.1]
  refine c_Words (n := 5) (Pn' := fun a j => a = 1 ∧ 11 ≤ j) P45 (by decide) (by decide) rfl rfl rfl (by decide) rfl (fun _ => rfl) (fun a j z => z) (fun g47 P47 => ⟨bd_O P47 (by decide) (by decide) rfl, by decide, fun g48 e48 => ?_⟩)
  exact H g48 (bd_set P47 e48 (by decide) rfl (fun a j z => by omega))
end BD4
