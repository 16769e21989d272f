theorem aft_mono {k : Nat} {K K' Q' : QT} (h : ∀ v h', K v h' → K' v h') (H : aft k K Q') : aft k K' Q' := by
  unfold aft at *
  split
  · exact fun h' q => h _ _ (H h' q)
  · exact fun v h' q => h _ _ (H v h' q)
  · rename_i n0 n2
    split at H
    · exact absurd rfl n0
    · exact absurd rfl n2
    · exact fun v h' q => h _ _ (H v h' q)
theorem Fcmp_mono {cd : ClassFile.Cond} {x y : Int32} {A B A' B' : Prop} (h1 : A → A') (h2 : B → B') (H : Fcmp cd x y A B) : Fcmp cd x y A' B' := by
  cases cd <;> exact ⟨fun q => h1 (H.1 q), fun q => h2 (H.2 q)⟩
theorem Fcall_mono {P P' : PT} (h : ∀ X pc lo st h bd Q, P X pc lo st h bd Q → P' X pc lo st h bd Q) {X nx a : Nat} {as rest : List Value} {lo : LO} {hp : HP} {bd : Nat × Nat} {Q : QT} (H : Fcall P X nx a as rest lo hp bd Q) : Fcall P' X nx a as rest lo hp bd Q := by
  obtain ⟨h1, h2, h3, h0, Q', h4, h5⟩ := H
  exact ⟨h1, h2, h3, h0, Q', h _ _ _ _ _ _ _ h4, aft_mono (fun _ _ q => h _ _ _ _ _ _ _ q) h5⟩
theorem Fld_mono {P P' : PT} (hP : ∀ X pc lo st h bd Q, P X pc lo st h bd Q → P' X pc lo st h bd Q) {X nx : Nat} {lo : LO} {st : List Value} {h : HP} {bd : Nat × Nat} {Q : QT} {t n : Nat} {kn : List Nat} (H : Fld P X nx lo st h bd Q t n kn) : Fld P' X nx lo st h bd Q t n kn := by
  unfold Fld at *
  generalize nth lo n = o at *
  split at H
  · exact hP _ _ _ _ _ _ _ H
  · exact hP _ _ _ _ _ _ _ H
  · exact hP _ _ _ _ _ _ _ H
  · exact H.elim
theorem Fst_mono {P P' : PT} (hP : ∀ X pc lo st h bd Q, P X pc lo st h bd Q → P' X pc lo st h bd Q) {X nx : Nat} {lo : LO} {st : List Value} {h : HP} {bd : Nat × Nat} {Q : QT} {t n : Nat} {kn : List Nat} (H : Fst P X nx lo st h bd Q t n kn) : Fst P' X nx lo st h bd Q t n kn := by
  unfold Fst at *
  split at H
  · exact ⟨H.1, hP _ _ _ _ _ _ _ H.2⟩
  · exact ⟨H.1, hP _ _ _ _ _ _ _ H.2⟩
  · exact ⟨H.1, hP _ _ _ _ _ _ _ H.2⟩
  · exact H.elim
theorem Fi_mono {P P' : PT} (hP : ∀ X pc lo st h bd Q, P X pc lo st h bd Q → P' X pc lo st h bd Q) {X pc : Nat} {i : Instr} {nx : Nat} {kn : List Nat} {a : Nat} {ka : List Nat} {b : Nat} {c : Int32} {lo : LO} {st : List Value} {h : HP} {bd : Nat × Nat} {Q : QT} (H : Fi P X pc i nx kn a ka b c lo st h bd Q) : Fi P' X pc i nx kn a ka b c lo st h bd Q := by
  unfold Fi at *
  generalize isRf a b = rf at *
  generalize Nat.beq a 1000 = z1 at *
  generalize spc a = z2 at *
  split <;> simp only at H ⊢
  all_goals first
      | exact hP _ _ _ _ _ _ _ H
      | exact Fld_mono hP H
      | exact Fst_mono hP H
      | exact H.elim
      | skip
  case h_13 =>
    generalize nth lo _ = o at *
    split at H
    · exact ⟨H.1, hP _ _ _ _ _ _ _ H.2⟩
    · exact H.elim
  all_goals first
    | (split at H <;> first
      | exact H.elim
      | exact hP _ _ _ _ _ _ _ H
      | exact ⟨H.1, hP _ _ _ _ _ _ _ H.2⟩
      | exact Fcmp_mono (hP _ _ _ _ _ _ _) (hP _ _ _ _ _ _ _) H
      | exact ⟨fun q => hP _ _ _ _ _ _ _ (H.1 q), fun j off q r => hP _ _ _ _ _ _ _ (H.2 j off q r)⟩
      | exact ⟨H.1, H.2.1, hP _ _ _ _ _ _ _ H.2.2⟩
      | exact ⟨H.1, H.2.1, H.2.2.1, H.2.2.2.1, hP _ _ _ _ _ _ _ H.2.2.2.2⟩
      | exact ⟨H.1, H.2.1, H.2.2.1, H.2.2.2.1, H.2.2.2.2.1, hP _ _ _ _ _ _ _ H.2.2.2.2.2⟩
      | exact ⟨H.1, H.2.1, H.2.2.1, H.2.2.2.1, H.2.2.2.2.1, H.2.2.2.2.2.1, hP _ _ _ _ _ _ _ H.2.2.2.2.2.2⟩
      | (refine ⟨H.1, ?_⟩; have H := H.2; split at H; exact hP _ _ _ _ _ _ _ H; exact ⟨H.1, hP _ _ _ _ _ _ _ H.2⟩)
      | done)
    | exact ⟨H.1, H.2.1, hP _ _ _ _ _ _ _ H.2.2⟩
    | exact H
    | skip
  · generalize popN _ _ _ = o at *
    split at H
    · exact ⟨H.1, Fcall_mono hP H.2⟩
    · exact H.elim
  · generalize popN _ _ _ = o at *
    split at H
    · exact ⟨H.1, hP _ _ _ _ _ _ _ H.2⟩
    · exact Fcall_mono hP H
    · exact H.elim
  · generalize popN _ _ _ = o at *
    split at H
    · exact ⟨H.1, H.2.1, H.2.2.1, H.2.2.2.1, H.2.2.2.2.1, H.2.2.2.2.2.1, hP _ _ _ _ _ _ _ H.2.2.2.2.2.2⟩
    · exact ⟨H.1, hP _ _ _ _ _ _ _ H.2⟩
    · exact ⟨H.1, hP _ _ _ _ _ _ _ H.2⟩
    · split at H
      · exact Fcall_mono hP H
      · exact H.elim
    · exact H.elim
theorem F_mono {P P' : PT} (hP : ∀ X pc lo st h bd Q, P X pc lo st h bd Q → P' X pc lo st h bd Q) {X pc : Nat} {lo : LO} {st : List Value} {h : HP} {bd : Nat × Nat} {Q : QT} (H : F P X pc lo st h bd Q) : F P' X pc lo st h bd Q := by
  unfold F at *
  split
  · rename_i q; rw [q] at H; exact H
  · rename_i q; rw [q] at H; exact Fi_mono hP H
theorem Wp.step {X pc : Nat} {lo : LO} {st : List Value} {h : HP} {bd : Nat × Nat} {Q : QT} (H : F Wp X pc lo st h bd Q) : Wp X pc lo st h bd Q := fun P hP => hP _ _ _ _ _ _ _ (F_mono (fun _ _ _ _ _ _ _ q => q P hP) H)
theorem Wp.inv {X pc : Nat} {lo : LO} {st : List Value} {h : HP} {bd : Nat × Nat} {Q : QT} (H : Wp X pc lo st h bd Q) : F Wp X pc lo st h bd Q := H (F Wp) (fun _ _ _ _ _ _ _ q => F_mono (fun _ _ _ _ _ _ _ r => Wp.step r) q)
