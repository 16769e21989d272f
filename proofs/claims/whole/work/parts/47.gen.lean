/-! laws for the simplifier -/
theorem isO_stI (h : HP) (a k : Nat) (v : Int32) (x c : Nat) : isO (stI h a k v) x c = isO h x c := rfl
theorem isA_stI (h : HP) (a k : Nat) (v : Int32) (x c : Nat) (i : Int32) : isA (stI h a k v) x c i = isA h x c i := rfl
theorem isL_stI (h : HP) (a k : Nat) (v : Int32) (x c : Nat) (i : Int32) : isL (stI h a k v) x c i = isL h x c i := rfl
theorem ps_339 (n : Nat) : (0 < n + 1) = True := by simp
/-- rows q of the list ex alone have changed -/
def FrX (ex : List Nat) (h h' : HP) : Prop := h'.2 = h.2 ∧ ∀ a, a ∉ ex → gI h' a = gI h a
theorem FrX_rf (ex : List Nat) (h : HP) : FrX ex h h := ⟨rfl, fun _ _ => rfl⟩
theorem FrX_tr {ex : List Nat} {h1 h2 h3 : HP} (A : FrX ex h1 h2) (B : FrX ex h2 h3) : FrX ex h1 h3 := ⟨B.1.trans A.1, fun a ha => (B.2 a ha).trans (A.2 a ha)⟩
theorem FrX_mono {ex ey : List Nat} {h1 h2 : HP} (A : FrX ex h1 h2) (s : ∀ a, a ∈ ex → a ∈ ey) : FrX ey h1 h2 := ⟨A.1, fun a ha => A.2 a (fun z => ha (s a z))⟩
theorem FrX_st {ex : List Nat} {h1 h2 : HP} {a k : Nat} {v : Int32} (A : FrX ex h1 h2) (ha : a ∈ ex) : FrX ex h1 (stI h2 a k v) := ⟨A.1, fun b hb => by rw [gI_stI_o _ _ _ _ (fun z => hb (by rw [z]; exact ha))]; exact A.2 b hb⟩
theorem FrX_MSh {ex : List Nat} {h h' : HP} (A : FrX ex h h') (H : MSh h) : MSh h' := MSh_2 A.1 H
theorem FrX_MBy {ex : List Nat} {h h' : HP} {f : Nat → Nat} (A : FrX ex h h') (hx : 339 ∉ ex) (B : MBy h f) : MBy h' f := ⟨MSh_2 A.1 B.1, fun i hi => by rw [A.2 339 hx]; exact B.2.1 i hi, B.2.2⟩
theorem FrX_PlR {ex : List Nat} {h h' : HP} {pl : Nat} {L : List (Nat × Nat × Nat)} (A : FrX ex h h') (h1 : 341 ∉ ex) (h2 : 342 ∉ ex) (h3 : 343 ∉ ex) (h5 : 345 ∉ ex) (P : PlR h pl L) : PlR h' pl L := by
  unfold PlR at *
  rw [A.2 345 h5, A.2 341 h1, A.2 342 h2, A.2 343 h3]
  exact P
theorem RD_Fr {h h' : HP} {pl e cnt : Nat} {L : List (Nat × Nat × Nat)} (R : RD h h' pl e L cnt) : FrX [338, 341, 342, 343, 344, 345] h h' := ⟨R.1, fun a ha => by
  simp only [List.mem_cons, List.not_mem_nil, or_false, not_or] at ha
  exact R.2.1 a ha.1 ha.2.1 ha.2.2.1 ha.2.2.2.1 ha.2.2.2.2.1 ha.2.2.2.2.2⟩
