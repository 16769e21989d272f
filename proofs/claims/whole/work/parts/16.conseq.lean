theorem Fcall_map {P P' : PT} {Q Q2 : QT} (hP : ∀ X pc lo st h bd, P X pc lo st h bd Q → P' X pc lo st h bd Q2) (hC : ∀ X pc lo st h bd Q', P X pc lo st h bd Q' → P' X pc lo st h bd Q') {X nx a : Nat} {as rest : List Value} {lo : LO} {hp : HP} {bd : Nat × Nat} (H : Fcall P X nx a as rest lo hp bd Q) : Fcall P' X nx a as rest lo hp bd Q2 := by
  obtain ⟨h1, h2, h3, h0, Q', h4, h5⟩ := H
  exact ⟨h1, h2, h3, h0, Q', hC _ _ _ _ _ _ _ h4, aft_mono (fun _ _ q => hP _ _ _ _ _ _ q) h5⟩
theorem Fld_map {P P' : PT} {Q Q2 : QT} (hP : ∀ X pc lo st h bd, P X pc lo st h bd Q → P' X pc lo st h bd Q2) {X nx : Nat} {lo : LO} {st : List Value} {h : HP} {bd : Nat × Nat} {t n : Nat} {kn : List Nat} (H : Fld P X nx lo st h bd Q t n kn) : Fld P' X nx lo st h bd Q2 t n kn := by
  unfold Fld at *
  generalize nth lo n = o at *
  split at H
  · exact hP _ _ _ _ _ _ H
  · exact hP _ _ _ _ _ _ H
  · exact hP _ _ _ _ _ _ H
  · exact H.elim
theorem Fst_map {P P' : PT} {Q Q2 : QT} (hP : ∀ X pc lo st h bd, P X pc lo st h bd Q → P' X pc lo st h bd Q2) {X nx : Nat} {lo : LO} {st : List Value} {h : HP} {bd : Nat × Nat} {t n : Nat} {kn : List Nat} (H : Fst P X nx lo st h bd Q t n kn) : Fst P' X nx lo st h bd Q2 t n kn := by
  unfold Fst at *
  split at H
  · exact ⟨H.1, hP _ _ _ _ _ _ H.2⟩
  · exact ⟨H.1, hP _ _ _ _ _ _ H.2⟩
  · exact ⟨H.1, hP _ _ _ _ _ _ H.2⟩
  · exact H.elim
theorem Fi_map {P P' : PT} {Q Q2 : QT} (hP : ∀ X pc lo st h bd, P X pc lo st h bd Q → P' X pc lo st h bd Q2) (hC : ∀ X pc lo st h bd Q', P X pc lo st h bd Q' → P' X pc lo st h bd Q') (hQ : ∀ r h, Q r h → Q2 r h) {X pc : Nat} {i : Instr} {nx : Nat} {kn : List Nat} {a : Nat} {ka : List Nat} {b : Nat} {c : Int32} {lo : LO} {st : List Value} {h : HP} {bd : Nat × Nat} (H : Fi P X pc i nx kn a ka b c lo st h bd Q) : Fi P' X pc i nx kn a ka b c lo st h bd Q2 := by
  unfold Fi at *
  generalize isRf a b = rf at *
  generalize Nat.beq a 1000 = z1 at *
  generalize spc a = z2 at *
  split <;> simp only at H ⊢
  all_goals first
      | exact hP _ _ _ _ _ _ H
      | exact Fld_map hP H
      | exact Fst_map hP H
      | exact H.elim
      | skip
  case h_13 =>
    generalize nth lo _ = o at *
    split at H
    · exact ⟨H.1, hP _ _ _ _ _ _ H.2⟩
    · exact H.elim
  all_goals first
    | (split at H <;> first
      | exact H.elim
      | exact hP _ _ _ _ _ _ H
      | exact ⟨H.1, hP _ _ _ _ _ _ H.2⟩
      | exact Fcmp_mono (hP _ _ _ _ _ _) (hP _ _ _ _ _ _) H
      | exact ⟨fun q => hP _ _ _ _ _ _ (H.1 q), fun j off q r => hP _ _ _ _ _ _ (H.2 j off q r)⟩
      | exact ⟨H.1, H.2.1, hP _ _ _ _ _ _ H.2.2⟩
      | exact ⟨H.1, H.2.1, H.2.2.1, H.2.2.2.1, hP _ _ _ _ _ _ H.2.2.2.2⟩
      | exact ⟨H.1, H.2.1, H.2.2.1, H.2.2.2.1, H.2.2.2.2.1, hP _ _ _ _ _ _ H.2.2.2.2.2⟩
      | exact ⟨H.1, H.2.1, H.2.2.1, H.2.2.2.1, H.2.2.2.2.1, H.2.2.2.2.2.1, hP _ _ _ _ _ _ H.2.2.2.2.2.2⟩
      | (refine ⟨H.1, ?_⟩; have H := H.2; split at H; exact hP _ _ _ _ _ _ H; exact ⟨H.1, hP _ _ _ _ _ _ H.2⟩)
      | done)
    | exact ⟨H.1, H.2.1, hP _ _ _ _ _ _ H.2.2⟩
    | (split at H <;> first
      | exact H.elim
      | exact ⟨H.1, hQ _ _ H.2⟩
      | (split at H; exact hQ _ _ H; exact ⟨H.1, hQ _ _ H.2⟩; exact H.elim))
    | skip
  · generalize popN _ _ _ = o at *
    split at H
    · exact ⟨H.1, Fcall_map hP hC H.2⟩
    · exact H.elim
  · generalize popN _ _ _ = o at *
    split at H
    · exact ⟨H.1, hP _ _ _ _ _ _ H.2⟩
    · exact Fcall_map hP hC H
    · exact H.elim
  · generalize popN _ _ _ = o at *
    split at H
    · exact ⟨H.1, H.2.1, H.2.2.1, H.2.2.2.1, H.2.2.2.2.1, H.2.2.2.2.2.1, hP _ _ _ _ _ _ H.2.2.2.2.2.2⟩
    · exact ⟨H.1, hP _ _ _ _ _ _ H.2⟩
    · exact ⟨H.1, hP _ _ _ _ _ _ H.2⟩
    · split at H
      · exact Fcall_map hP hC H
      · exact H.elim
    · exact H.elim
def PCq : PT := fun X pc lo st h bd Q => ∀ Q2 : QT, (∀ r h, Q r h → Q2 r h) → Wp X pc lo st h bd Q2
theorem Wp.conseq {X pc : Nat} {lo : LO} {st : List Value} {h : HP} {bd : Nat × Nat} {Q Q2 : QT} (H : Wp X pc lo st h bd Q) (hQ : ∀ r h, Q r h → Q2 r h) : Wp X pc lo st h bd Q2 := by
  have K : PCq X pc lo st h bd Q := by
    refine H PCq ?_
    intro X pc lo st h bd Q HF Q2 hQ
    refine Wp.step ?_
    unfold F at *
    split at HF
    · exact HF.elim
    · exact Fi_map (P := PCq) (fun _ _ _ _ _ _ k => k Q2 hQ) (fun _ _ _ _ _ _ Q' k => k Q' (fun _ _ z => z)) hQ HF
  exact K Q2 hQ
def QI (K : Int32 → HP → Prop) : QT := fun r h => ∃ v : Int32, r = some (.int v) ∧ K v h
def QJ (K : Int64 → HP → Prop) : QT := fun r h => ∃ v : Int64, r = some (.long v) ∧ K v h
def QV (K : HP → Prop) : QT := fun r h => r = none ∧ K h
theorem Wp.conI {X pc : Nat} {lo : LO} {st : List Value} {h : HP} {bd : Nat × Nat} {K K2 : Int32 → HP → Prop} (H : Wp X pc lo st h bd (QI K)) (hK : ∀ v h, K v h → K2 v h) : Wp X pc lo st h bd (QI K2) := H.conseq (fun _ _ ⟨v, e, k⟩ => ⟨v, e, hK v _ k⟩)
theorem Wp.conJ {X pc : Nat} {lo : LO} {st : List Value} {h : HP} {bd : Nat × Nat} {K K2 : Int64 → HP → Prop} (H : Wp X pc lo st h bd (QJ K)) (hK : ∀ v h, K v h → K2 v h) : Wp X pc lo st h bd (QJ K2) := H.conseq (fun _ _ ⟨v, e, k⟩ => ⟨v, e, hK v _ k⟩)
theorem Wp.conV {X pc : Nat} {lo : LO} {st : List Value} {h : HP} {bd : Nat × Nat} {K K2 : HP → Prop} (H : Wp X pc lo st h bd (QV K)) (hK : ∀ h, K h → K2 h) : Wp X pc lo st h bd (QV K2) := H.conseq (fun _ _ ⟨e, k⟩ => ⟨e, hK _ k⟩)
