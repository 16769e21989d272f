/-! the class: what has changed -/
def Ag (X : Nat → Prop) (h h' : HP) : Prop := (∀ a, a < gS h → ¬ X a → gI h' a = gI h a ∧ gR h' a = gR h a ∧ gJ h' a = gJ h a) ∧ (∀ a, a < gS h → gK h' a = gK h a ∧ gL h' a = gL h a) ∧ gS h ≤ gS h'
section AG
variable {X Y : Nat → Prop} {h h' h2 : HP}
theorem Ag_rf (X : Nat → Prop) (h : HP) : Ag X h h := ⟨fun _ _ _ => ⟨rfl, rfl, rfl⟩, fun _ _ => ⟨rfl, rfl⟩, Nat.le_refl _⟩
theorem Ag_tr (A : Ag X h h') (B : Ag X h' h2) : Ag X h h2 := ⟨fun a ha hx => by
    have p := A.1 a ha hx
    have q := B.1 a (Nat.lt_of_lt_of_le ha A.2.2) hx
    exact ⟨q.1.trans p.1, q.2.1.trans p.2.1, q.2.2.trans p.2.2⟩, fun a ha => by
    have p := A.2.1 a ha
    have q := B.2.1 a (Nat.lt_of_lt_of_le ha A.2.2)
    exact ⟨q.1.trans p.1, q.2.trans p.2⟩, Nat.le_trans A.2.2 B.2.2⟩
theorem Ag_mono (A : Ag X h h') (s : ∀ a, X a → Y a) : Ag Y h h' := ⟨fun a ha hy => A.1 a ha (fun z => hy (s a z)), A.2⟩
theorem Ag_stI {a k : Nat} {v : Int32} (A : Ag X h h') (ha : X a) : Ag X h (stI h' a k v) := ⟨fun b hb hx => by
    have p := A.1 b hb hx
    exact ⟨by rw [gI_stI_o _ _ _ _ (fun z => hx (by rw [z]; exact ha))]; exact p.1, p.2⟩, A.2⟩
theorem Ag_stA {a : Nat} {g : Nat → Int32} (A : Ag X h h') (ha : X a) : Ag X h (stA h' a g) := ⟨fun b hb hx => by
    have p := A.1 b hb hx
    refine ⟨?_, p.2⟩
    show va_up (gI h') a g b = _
    rw [va_up_ne _ _ (fun z => hx (by rw [z]; exact ha))]
    exact p.1, A.2⟩
theorem Ag_stR {a k v : Nat} (A : Ag X h h') (ha : X a) : Ag X h (stR h' a k v) := ⟨fun b hb hx => by
    have p := A.1 b hb hx
    refine ⟨p.1, ?_, p.2.2⟩
    show va_up (gR h') a _ b = _
    rw [va_up_ne _ _ (fun z => hx (by rw [z]; exact ha))]
    exact p.2.1, A.2⟩
theorem Ag_stJ {a k : Nat} {v : Int64} (A : Ag X h h') (ha : X a) : Ag X h (stJ h' a k v) := ⟨fun b hb hx => by
    have p := A.1 b hb hx
    refine ⟨p.1, p.2.1, ?_⟩
    show va_up (gJ h') a _ b = _
    rw [va_up_ne _ _ (fun z => hx (by rw [z]; exact ha))]
    exact p.2.2, A.2⟩
theorem Ag_nw {kd n : Nat} (A : Ag X h h') : Ag X h (nwC h' kd n) := by
  have q : ∀ b, b < gS h → b ≠ gS h' := fun b hb => by have := A.2.2; omega
  refine ⟨fun b hb hx => ?_, fun b hb => ?_, by have := A.2.2; show gS h ≤ gS h' + 1; omega⟩
  · have p := A.1 b hb hx
    refine ⟨(va_up_ne _ _ (q b hb)).trans p.1, (va_up_ne _ _ (q b hb)).trans p.2.1, (va_up_ne _ _ (q b hb)).trans p.2.2⟩
  · have p := A.2.1 b hb
    exact ⟨(va_up_ne _ _ (q b hb)).trans p.1, (va_up_ne _ _ (q b hb)).trans p.2⟩
theorem isO_ag {a c : Nat} (A : Ag X h h') (H : isO h a c) : isO h' a c := ⟨H.1, Nat.lt_of_lt_of_le H.2.1 A.2.2, (A.2.1 a H.2.1).1.trans H.2.2⟩
theorem isA_ag {a c : Nat} {i : Int32} (A : Ag X h h') (H : isA h a c i) : isA h' a c i := by
  obtain ⟨h1, h3, h4, h5⟩ := H
  exact ⟨h1, Nat.lt_of_lt_of_le h3 A.2.2, (A.2.1 a h3).1.trans h4, by rw [(A.2.1 a h3).2]; exact h5⟩
theorem TxO_ag {t A0 o n : Nat} {f : Nat → Nat} (A : Ag X h h') (ht : ¬ X t) (hA : ¬ X A0) (T : TxO h t A0 f o n) : TxO h' t A0 f o n := by
  obtain ⟨t1, t2, t3, t4, t5, t6, t7⟩ := T
  have pt := A.1 t t1.2.1 ht
  have pa := A.1 A0 t3.2.1 hA
  have ka := A.2.1 A0 t3.2.1
  exact ⟨isO_ag A t1, by rw [pt.2.1]; exact t2, ⟨t3.1, Nat.lt_of_lt_of_le t3.2.1 A.2.2, ka.1.trans t3.2.2⟩, by rw [pt.1]; exact t4, by rw [ka.2]; exact t5, fun i hi => by rw [pa.1]; exact t6 i hi, t7⟩
end AG
/-! a row of pieces: cell a, its arrays behind it, room for N -/
def RwS (h : HP) (a N : Nat) : Prop := isO h a 6 ∧ (gR h a 0 = a + 1 ∧ gR h a 1 = a + 2 ∧ gR h a 2 = a + 3) ∧ a + 3 < gS h ∧ (gK h (a + 1) = 100 ∧ gK h (a + 2) = 100 ∧ gK h (a + 3) = 100) ∧ (gL h (a + 1) = N ∧ gL h (a + 2) = N ∧ gL h (a + 3) = N) ∧ N ≤ 1000
def RwX (a : Nat) : Nat → Prop := fun b => a ≤ b ∧ b ≤ a + 3
section RWS
variable {h : HP} {a N : Nat}
theorem rS_o (S : RwS h a N) : isO h a 6 := S.1
theorem rS_0 (S : RwS h a N) : gR h a 0 = a + 1 := S.2.1.1
theorem rS_1 (S : RwS h a N) : gR h a 1 = a + 2 := S.2.1.2.1
theorem rS_2 (S : RwS h a N) : gR h a 2 = a + 3 := S.2.1.2.2
theorem rS_a0 (S : RwS h a N) {i : Nat} (hi : i < N) : isA h (a + 1) 100 (nI i) := ⟨by omega, by have := S.2.2.1; omega, S.2.2.2.1.1, by rw [S.2.2.2.2.1.1]; exact nI_in' hi (by have := S.2.2.2.2.2; omega)⟩
theorem rS_a1 (S : RwS h a N) {i : Nat} (hi : i < N) : isA h (a + 2) 100 (nI i) := ⟨by omega, by have := S.2.2.1; omega, S.2.2.2.1.2.1, by rw [S.2.2.2.2.1.2.1]; exact nI_in' hi (by have := S.2.2.2.2.2; omega)⟩
theorem rS_a2 (S : RwS h a N) {i : Nat} (hi : i < N) : isA h (a + 3) 100 (nI i) := ⟨by omega, by have := S.2.2.1; omega, S.2.2.2.1.2.2, by rw [S.2.2.2.2.1.2.2]; exact nI_in' hi (by have := S.2.2.2.2.2; omega)⟩
theorem rS_l0 (S : RwS h a N) {i : Nat} (hi : i < N) : isL h (a + 1) 100 (nI i) := (rS_a0 S hi).2
theorem rS_l1 (S : RwS h a N) {i : Nat} (hi : i < N) : isL h (a + 2) 100 (nI i) := (rS_a1 S hi).2
theorem rS_l2 (S : RwS h a N) {i : Nat} (hi : i < N) : isL h (a + 3) 100 (nI i) := (rS_a2 S hi).2
theorem RwS_ag {X : Nat → Prop} {h' : HP} (A : Ag X h h') (hr : gR h' a 0 = gR h a 0 ∧ gR h' a 1 = gR h a 1 ∧ gR h' a 2 = gR h a 2) (S : RwS h a N) : RwS h' a N := by
  obtain ⟨s1, s2, s3, s4, s5, s6⟩ := S
  have k := A.2.1
  exact ⟨isO_ag A s1, by rw [hr.1, hr.2.1, hr.2.2]; exact s2, Nat.lt_of_lt_of_le s3 A.2.2, by rw [(k _ (by omega)).1, (k (a + 2) (by omega)).1, (k (a + 3) (by omega)).1]; exact s4, by rw [(k _ (by omega)).2, (k (a + 2) (by omega)).2, (k (a + 3) (by omega)).2]; exact s5, s6⟩
end RWS
def RwO (h : HP) (a o : Nat) (L : PcL) : Prop := gI h a 7 = nI L.length ∧ ∀ (j : Nat) (x : Nat × Nat × Nat), L[j]? = some x → gI h (a + 1) j = nI x.1 ∧ gI h (a + 2) j = nI (x.2.1 - o) ∧ gI h (a + 3) j = nI x.2.2
/-- a row while it is read: from, to, all, words too -/
def RwR (h : HP) (a N o : Nat) (L : PcL) (b e cnt wd : Nat) : Prop := RwS h a N ∧ RwO h a o L ∧ gI h a 4 = nI b ∧ gI h a 5 = nI e ∧ gI h a 6 = nI cnt ∧ gI h a 8 = nI wd
section RWR
variable {h : HP} {a N o b e cnt wd : Nat} {L : PcL}
theorem k_addPiece {kd p len : Nat} {K : HP → Prop} (R : RwR h a N o L b e cnt wd) (hk : kd ≤ 6) (hl : kd ≠ 6 → L.length < N) (H : ∀ h', Ag (RwX a) h h' → gR h' = gR h → RwR h' a N o (if kd = 6 then L else L ++ [(kd, o + p, len)]) b e (cnt + 1) (if kd = 0 then wd + 1 else wd) → K h') : wq_Row_addPiece a (nI kd) (nI p) (nI len) h K := by
  obtain ⟨S, ⟨O1, O2⟩, r4, r5, r6, r8⟩ := R
  have hN := S.2.2.2.2.2
  have xa : RwX a a := ⟨Nat.le_refl a, by omega⟩
  have x1 : RwX a (a + 1) := ⟨by omega, by omega⟩
  have x2 : RwX a (a + 2) := ⟨by omega, by omega⟩
  have x3 : RwX a (a + 3) := ⟨by omega, by omega⟩
  have n1 : a ≠ a + 1 := by omega
  have n2 : a ≠ a + 2 := by omega
  have n3 : a ≠ a + 3 := by omega
  have n4 : a + 1 ≠ a + 2 := by omega
  have n5 : a + 1 ≠ a + 3 := by omega
  have n6 : a + 2 ≠ a + 3 := by omega
  unfold wq_Row_addPiece
  simp (disch := omega) only [i0, i1, nLit, mul_I, add_I, nI_cl, isO_stI, isA_stI, isL_stI, gR_stI, gJ_stI, gK_stI, gL_stI, gS_stI, true_and, and_true, forall_eq, implies_true, ps_339, rS_o S, r6, eq_I]
  refine ⟨fun c => ?_, fun c => ?_⟩
  · refine H _ (Ag_stI (Ag_rf _ h) xa) rfl ?_
    rw [if_pos c, if_neg (by omega)]
    refine ⟨S, ⟨by rw [gI_stI, if_neg (by omega)]; exact O1, fun j x hj => ?_⟩, by rw [gI_stI, if_neg (by omega)]; exact r4, by rw [gI_stI, if_neg (by omega)]; exact r5, by rw [gI_stI, if_pos ⟨rfl, rfl⟩], by rw [gI_stI, if_neg (by omega)]; exact r8⟩
    rw [gI_stI_o _ _ _ _ (Ne.symm n1), gI_stI_o _ _ _ _ (Ne.symm n2), gI_stI_o _ _ _ _ (Ne.symm n3)]
    exact O2 j x hj
  · have hl' := hl c
    have e7 : gI (stI h a 6 (nI (cnt + 1))) a 7 = nI L.length := by rw [gI_stI, if_neg (by omega)]; exact O1
    have gl : gL (stI h a 6 (nI (cnt + 1))) (a + 1) = N := S.2.2.2.2.1.1
    have arr : a + 1 < gS h ∧ 100 ≤ gK h (a + 1) ∧ gK h (a + 1) ≤ 105 ∧ (a + 1 = 0 → gK h (a + 1) = 100) := by
      have := S.2.2.1
      rw [S.2.2.2.1.1]
      exact ⟨by omega, by decide, by decide, fun z => absurd z (by omega)⟩
    simp (disch := omega) only [isO_stI, isA_stI, isL_stI, gR_stI, gJ_stI, gK_stI, gL_stI, gS_stI, true_and, and_true, forall_eq, implies_true, ps_339, rS_o S, rS_0 S, rS_1 S, rS_2 S, rS_a0 S, rS_a1 S, rS_a2 S, e7, S.2.2.2.2.1.1, lt_I, nI_cl, gI_stI_o _ _ _ _ n1, gI_stI_o _ _ _ _ n2, gI_stI_o _ _ _ _ n3]
    refine ⟨arr, fun _ => ?_, fun z => absurd hl' z⟩
    simp only [add_I]
    have fin : ∀ hh : HP, Ag (RwX a) h hh → gR hh = gR h → (∀ k, k ≠ 6 → k ≠ 7 → k ≠ 8 → gI hh a k = gI h a k) → gI hh a 6 = nI (cnt + 1) → gI hh a 7 = nI (L.length + 1) → gI hh a 8 = nI (if kd = 0 then wd + 1 else wd) → (∀ j, gI hh (a + 1) j = (if j = L.length then nI kd else gI h (a + 1) j) ∧ gI hh (a + 2) j = (if j = L.length then nI p else gI h (a + 2) j) ∧ gI hh (a + 3) j = (if j = L.length then nI len else gI h (a + 3) j)) → K hh := fun hh A gr gf g6 g7 g8 ga => by
      refine H hh A gr ?_
      rw [if_neg c]
      refine ⟨RwS_ag A (by rw [gr]; exact ⟨rfl, rfl, rfl⟩) S, ⟨by rw [g7, List.length_append]; rfl, fun j x hj => ?_⟩, by rw [gf 4 (by decide) (by decide) (by decide)]; exact r4, by rw [gf 5 (by decide) (by decide) (by decide)]; exact r5, g6, g8⟩
      obtain ⟨a1, a2, a3⟩ := ga j
      rw [a1, a2, a3]
      by_cases z : j = L.length
      · rw [if_pos z, if_pos z, if_pos z]
        rw [z, List.getElem?_append_right (Nat.le_refl _), Nat.sub_self] at hj
        cases hj
        exact ⟨rfl, by show nI p = nI (o + p - o); rw [Nat.add_sub_cancel_left], rfl⟩
      · rw [if_neg z, if_neg z, if_neg z]
        have hjl := (List.getElem?_eq_some_iff.mp hj).1
        rw [List.length_append, List.length_singleton] at hjl
        rw [List.getElem?_append_left (by omega)] at hj
        exact O2 j x hj
    have gA : ∀ hh : HP, hh = stI (stI (stI (stI (stI h a 6 (nI (cnt + 1))) (a + 1) L.length (nI kd)) (a + 2) L.length (nI p)) (a + 3) L.length (nI len)) a 7 (nI (L.length + 1)) → (∀ j, gI hh (a + 1) j = (if j = L.length then nI kd else gI h (a + 1) j) ∧ gI hh (a + 2) j = (if j = L.length then nI p else gI h (a + 2) j) ∧ gI hh (a + 3) j = (if j = L.length then nI len else gI h (a + 3) j)) ∧ Ag (RwX a) h hh ∧ gR hh = gR h ∧ (∀ k, k ≠ 6 → k ≠ 7 → gI hh a k = gI h a k) ∧ gI hh a 6 = nI (cnt + 1) ∧ gI hh a 7 = nI (L.length + 1) := fun hh eh => by
      subst eh
      refine ⟨fun j => ⟨?_, ?_, ?_⟩, Ag_stI (Ag_stI (Ag_stI (Ag_stI (Ag_stI (Ag_rf _ h) xa) x1) x2) x3) xa, rfl, fun k k6 k7 => ?_, ?_, ?_⟩
      · rw [gI_stI_o _ _ _ _ (Ne.symm n1), gI_stI_o _ _ _ _ n5, gI_stI_o _ _ _ _ n4, gI_stI, gI_stI_o _ _ _ _ (Ne.symm n1)]; simp
      · rw [gI_stI_o _ _ _ _ (Ne.symm n2), gI_stI_o _ _ _ _ n6, gI_stI, gI_stI_o _ _ _ _ (Ne.symm n4), gI_stI_o _ _ _ _ (Ne.symm n2)]; simp
      · rw [gI_stI_o _ _ _ _ (Ne.symm n3), gI_stI, gI_stI_o _ _ _ _ (Ne.symm n6), gI_stI_o _ _ _ _ (Ne.symm n5), gI_stI_o _ _ _ _ (Ne.symm n3)]; simp
      · rw [gI_stI, if_neg (by omega), gI_stI_o _ _ _ _ n3, gI_stI_o _ _ _ _ n2, gI_stI_o _ _ _ _ n1, gI_stI, if_neg (by omega)]
      · rw [gI_stI, if_neg (by omega), gI_stI_o _ _ _ _ n3, gI_stI_o _ _ _ _ n2, gI_stI_o _ _ _ _ n1, gI_stI, if_pos ⟨rfl, rfl⟩]
      · rw [gI_stI, if_pos ⟨rfl, rfl⟩]
    obtain ⟨g1, g2, g3, g4, g5, g6⟩ := gA _ rfl
    generalize stI (stI (stI (stI (stI h a 6 (nI (cnt + 1))) (a + 1) L.length (nI kd)) (a + 2) L.length (nI p)) (a + 3) L.length (nI len)) a 7 (nI (L.length + 1)) = hh at *
    have g8 : gI hh a 8 = nI wd := by rw [g4 8 (by decide) (by decide)]; exact r8
    refine ⟨fun c0 => fin hh g2 g3 (fun k k6 k7 _ => g4 k k6 k7) g5 g6 (by rw [if_neg c0]; exact g8) g1, fun c0 => ?_⟩
    rw [g8, add_I]
    refine fin _ (Ag_stI g2 xa) g3 (fun k k6 k7 k8 => ?_) ?_ ?_ ?_ (fun j => ?_)
    · rw [gI_stI, if_neg (by omega)]; exact g4 k k6 k7
    · rw [gI_stI, if_neg (by omega)]; exact g5
    · rw [gI_stI, if_neg (by omega)]; exact g6
    · rw [gI_stI, if_pos ⟨rfl, rfl⟩, if_pos c0]
    · rw [gI_stI_o _ _ _ _ (Ne.symm n1), gI_stI_o _ _ _ _ (Ne.symm n2), gI_stI_o _ _ _ _ (Ne.symm n3)]
      exact g1 j
end RWR
