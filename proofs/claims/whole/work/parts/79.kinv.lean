/-! what the class keeps -/
def txA (r : Nat) : Nat := if r = 0 then 2 else if r = 1 then 5 else if r < 22 then 112 + 6 * (r - 2) else if r < 62 then 232 + 2 * (r - 22) else 320
def isTA (a : Nat) : Prop := a = 3 ∨ a = 6 ∨ (113 ≤ a ∧ a < 232 ∧ (a - 113) % 6 = 0) ∨ (233 ≤ a ∧ a < 312 ∧ a % 2 = 1) ∨ a = 321 ∨ 362 ≤ a
def KTx (B : Nat → Nat) (σ : St) (h : HP) : Prop := (∀ r, r < 62 → TxO h (txA r) (B r) (sf σ) (600 * r) (sz σ r)) ∧ (isO h 320 7 ∧ gR h 320 0 = B 62 ∧ B 62 < gS h ∧ gK h (B 62) = 101 ∧ gL h (B 62) = 880) ∧ gL h (B 0) = 600 ∧ (∀ r, r < 63 → isTA (B r)) ∧ ∀ r s, r < 63 → s < 63 → B r = B s → r = s
def KnO (σ : St) (h : HP) : Prop := ∀ p, p < sP σ → ∀ s, s < sS σ → gI h 318 (p * 24 + s) = -nI 1 ∨ gI h 318 (p * 24 + s) = nI (scSP σ s p)
def SgO (σ : St) (h : HP) : Prop := gI h 4 3 = nI (sS σ) ∧ ∀ s, s < sS σ → (RwO h (9 + 4 * s) 600 (pcB σ s) ∧ gI h (9 + 4 * s) 4 = nI (sb σ s) ∧ gI h (9 + 4 * s) 5 = nI (sb σ s + sn σ s) ∧ gI h (9 + 4 * s) 6 = nI (ctB σ s) ∧ gI h (9 + 4 * s) 8 = nI (wct (pcB σ s))) ∧ sb σ s + sn σ s ≤ sz σ 1
def MeO (σ : St) (h : HP) : Prop := gI h 105 6 = nI (sP σ) ∧ gI h 105 7 = nI (sR σ) ∧ (∀ r, r < 40 → gI h 110 r = nI (sw σ r) ∧ gI h 111 r = nI (sy σ r)) ∧ (∀ p, p < sP σ → gI h 108 p = nI (ltR σ p)) ∧ ∀ p, p < sP σ → RwO h (114 + 6 * p) (600 * (2 + p)) (pcRw σ (2 + p))
def KWd (σ : St) (h : HP) : Prop := WdO h 330 8 0 (sE σ) (sc σ) (sl σ) ∧ WdO h 332 10 8 (sT σ) (sc σ) (sl σ) ∧ WdO h 334 10 18 (sT σ) (sc σ) (sl σ) ∧ WdO h 336 5 28 (sF σ) (sc σ) (sl σ)
def InvK (B : Nat → Nat) (σ : St) (h : HP) : Prop := KSh h ∧ KTx B σ h ∧ SgO σ h ∧ MeO σ h ∧ KWd σ h ∧ KnO σ h ∧ KSt h (sD σ)
/-- cells that a question may change -/
def Xq (B : Nat → Nat) (a : Nat) : Prop := a = 8 ∨ a = 313 ∨ a = 318 ∨ a = 320 ∨ (322 ≤ a ∧ a ≤ 329) ∨ a = B 62
def Y3 (a k : Nat) : Prop := a = 326 ∧ k = 3
theorem Y3_dy : ∀ a k, Y3 a k → Ydy a k := fun _ _ z => Or.inl z
section KIV
variable {B : Nat → Nat} {σ : St} {h h' : HP} {X : Nat → Prop} {Y : Nat → Nat → Prop}
theorem txA_c (r : Nat) : txA r = 2 ∨ txA r = 5 ∨ (112 ≤ txA r ∧ txA r < 232 ∧ (txA r - 112) % 6 = 0) ∨ (232 ≤ txA r ∧ txA r < 312 ∧ txA r % 2 = 0) ∨ txA r = 320 := by
  unfold txA
  repeat' split
  all_goals omega
theorem txA_ne {r : Nat} (hr : r < 62) : txA r ≠ 320 := by
  unfold txA
  repeat' split
  all_goals omega
theorem txA_inj {r s : Nat} (hr : r < 63) (hs : s < 63) (e : txA r = txA s) : r = s := by
  unfold txA at e
  repeat' split at e
  all_goals omega
theorem WdO_y {a N base m : Nat} {c l : Nat → Nat} (G : AgY X Y h h') (h1 : ¬ X a) (h2 : ¬ X (a + 1)) (h3 : ¬ Y a 0) (W : WdO h a N base m c l) : WdO h' a N base m c l := by
  obtain ⟨w1, w2, w3, w4, w5, w6, w7, w8, w9⟩ := W
  have k := G.2.2.1 (a + 1) w3
  exact ⟨isO_y G w1, by rw [G.2.1 a 0 w1.2.1 h3]; exact w2, Nat.lt_of_lt_of_le w3 G.2.2.2, by rw [k.1]; exact w4, by rw [k.2]; exact w5, w6, w7, by rw [(G.1 a w1.2.1 h1).1]; exact w8, fun i hi => by rw [(G.1 (a + 1) w3 h2).2]; exact w9 i hi⟩
theorem RwO_y {a o : Nat} {L : PcL} (G : AgY X Y h h') (hs : a + 3 < gS h) (h0 : ¬ X a) (h1 : ¬ X (a + 1)) (h2 : ¬ X (a + 2)) (h3 : ¬ X (a + 3)) (O : RwO h a o L) : RwO h' a o L := by
  refine ⟨by rw [(G.1 a (by omega) h0).1]; exact O.1, fun j x hj => ?_⟩
  rw [(G.1 (a + 1) (by omega) h1).1, (G.1 (a + 2) (by omega) h2).1, (G.1 (a + 3) (by omega) h3).1]
  exact O.2 j x hj
theorem KTx_q (G : AgY (Xq B) Y h h') (hY : ∀ a k, Y a k → ¬ isTxt a = true) (T : KTx B σ h) : KTx B σ h' := by
  obtain ⟨t1, t2, t3, t4, t5⟩ := T
  have ny : ∀ r, r < 63 → ¬ Y (txA r) 0 := fun r hr z => by
    refine hY _ _ z ?_
    have := txA_c r
    unfold isTxt
    rcases this with q | q | q | q | q
    · simp [q]
    · simp [q]
    · simp [q]
    · simp [q]
    · simp [q]
  refine ⟨fun r hr => ?_, ⟨isO_y G t2.1, by rw [G.2.1 320 0 t2.1.2.1 (ny 62 (by decide))]; exact t2.2.1, Nat.lt_of_lt_of_le t2.2.2.1 G.2.2.2, by rw [(G.2.2.1 _ t2.2.2.1).1]; exact t2.2.2.2.1, by rw [(G.2.2.1 _ t2.2.2.1).2]; exact t2.2.2.2.2⟩, ?_, t4, t5⟩
  · have a1 := txA_c r
    have a2 := t4 r (by omega)
    have a3 := txA_ne hr
    have a4 : ¬ B r = B 62 := fun z => by have := t5 r 62 (by omega) (by decide) z; omega
    have a5 := t4 62 (by decide)
    unfold isTA at a2 a5
    exact TxO_y G (fun z => by unfold Xq at z; omega) (fun z => by unfold Xq at z; omega) (ny r (by omega)) (t1 r hr)
  · have := (t1 0 (by decide)).2.2.1.2.1
    rw [(G.2.2.1 _ this).2]
    exact t3
/-- a question keeps all -/
theorem InvK_q (G : AgY (Xq B) Y3 h h') (Kn : KnO σ h') (I : InvK B σ h) (w : WF σ) : InvK B σ h' := by
  obtain ⟨s, t, g, m, wd, kn, st⟩ := I
  have hS := s.1
  have b62 := t.2.2.2.1 62 (by decide)
  unfold isTA at b62
  have x : ∀ a, a < 362 → ¬ (a = 8 ∨ a = 313 ∨ a = 318 ∨ a = 320 ∨ (322 ≤ a ∧ a ≤ 329)) → ¬ (a = 3 ∨ a = 6 ∨ (113 ≤ a ∧ a < 232 ∧ (a - 113) % 6 = 0) ∨ (233 ≤ a ∧ a < 312 ∧ a % 2 = 1) ∨ a = 321) → ¬ Xq B a := fun a ha p q z => by unfold Xq at z; omega
  have gi : ∀ a, a < 362 → ¬ (a = 8 ∨ a = 313 ∨ a = 318 ∨ a = 320 ∨ (322 ≤ a ∧ a ≤ 329)) → ¬ (a = 3 ∨ a = 6 ∨ (113 ≤ a ∧ a < 232 ∧ (a - 113) % 6 = 0) ∨ (233 ≤ a ∧ a < 312 ∧ a % 2 = 1) ∨ a = 321) → gI h' a = gI h a := fun a ha p q => (G.1 a (by omega) (x a ha p q)).1
  have hSS := w.2.1.1
  have hP := w.2.2.1.1
  refine ⟨KSh_y G Y3_dy s, KTx_q G (fun a k z y => by rw [z.1] at y; exact absurd y (by decide)) t, ⟨by rw [gi 4 (by omega) (by omega) (by omega)]; exact g.1, fun i hi => ?_⟩, ⟨?_, ?_, fun r hr => ?_, fun p hp => ?_, fun p hp => ?_⟩, ⟨?_, ?_, ?_, ?_⟩, Kn, ?_, fun j y hj => ?_⟩
  · have q := g.2 i hi
    rw [gi (9 + 4 * i) (by omega) (by omega) (by omega)]
    exact ⟨⟨RwO_y G (by omega) (x _ (by omega) (by omega) (by omega)) (x _ (by omega) (by omega) (by omega)) (x _ (by omega) (by omega) (by omega)) (x _ (by omega) (by omega) (by omega)) q.1.1, q.1.2⟩, q.2⟩
  · rw [gi 105 (by omega) (by omega) (by omega)]; exact m.1
  · rw [gi 105 (by omega) (by omega) (by omega)]; exact m.2.1
  · rw [gi 110 (by omega) (by omega) (by omega), gi 111 (by omega) (by omega) (by omega)]; exact m.2.2.1 r hr
  · rw [gi 108 (by omega) (by omega) (by omega)]; exact m.2.2.2.1 p hp
  · exact RwO_y G (by omega) (x _ (by omega) (by omega) (by omega)) (x _ (by omega) (by omega) (by omega)) (x _ (by omega) (by omega) (by omega)) (x _ (by omega) (by omega) (by omega)) (m.2.2.2.2 p hp)
  · exact WdO_y G (x _ (by omega) (by omega) (by omega)) (x _ (by omega) (by omega) (by omega)) (fun z => absurd z.1 (by decide)) wd.1
  · exact WdO_y G (x _ (by omega) (by omega) (by omega)) (x _ (by omega) (by omega) (by omega)) (fun z => absurd z.1 (by decide)) wd.2.1
  · exact WdO_y G (x _ (by omega) (by omega) (by omega)) (x _ (by omega) (by omega) (by omega)) (fun z => absurd z.1 (by decide)) wd.2.2.1
  · exact WdO_y G (x _ (by omega) (by omega) (by omega)) (x _ (by omega) (by omega) (by omega)) (fun z => absurd z.1 (by decide)) wd.2.2.2
  · rw [gi 312 (by omega) (by omega) (by omega)]; exact st.1
  · rw [gi 314 (by omega) (by omega) (by omega), gi 315 (by omega) (by omega) (by omega), gi 316 (by omega) (by omega) (by omega)]
    exact st.2 j y hj
theorem KnO_y (G : AgY X Y h h') (h3 : ¬ X 318) (hS : 362 ≤ gS h) (Kn : KnO σ h) : KnO σ h' := fun p hp s hs => by
  rw [(G.1 318 (by omega) h3).1]
  exact Kn p hp s hs
theorem pcs_T {f : Nat → Nat} {pt e k p o n : Nat} (h1 : o ≤ p) (h2 : e ≤ o + n) : ∀ x ∈ pcs (atM f e) pt e false k p, (o ≤ x.2.1 ∧ x.2.1 + x.2.2 ≤ o + n ∧ x.1 ≤ 5) ∧ GdP f x := fun x hx => by
  have a := pcs_in (atM_z f e) k p x hx
  have b := pcs_k5 k p x hx
  exact ⟨⟨by omega, by omega, b⟩, pcs_Gd k p x hx⟩
/-- the row of a segment -/
theorem IK_seg (I : InvK B σ h) (w : WF σ) {s : Nat} (hs : s < sS σ) : RwT h (9 + 4 * s) 20 5 (B 1) (sf σ) 600 (sz σ 1) (pcB σ s) := by
  have hSS := w.2.1.1
  have k := I.1.2.2.2.2.1 s (by omega)
  have g := I.2.2.1.2 s hs
  refine ⟨k.2.1, g.1.1, k.2.2, by decide, I.2.1.1 1 (by decide), w.2.1.2.2 s hs, ?_⟩
  exact pcs_T (by omega) (by have := g.2; omega)
/-- the row of a source -/
theorem IK_src (I : InvK B σ h) (w : WF σ) {p : Nat} (hp : p < sP σ) : RwT h (114 + 6 * p) 20 (112 + 6 * p) (B (2 + p)) (sf σ) (600 * (2 + p)) (sz σ (2 + p)) (pcRw σ (2 + p)) := by
  have hP := w.2.2.1.1
  have k := I.1.2.2.2.2.2.1 p (by omega)
  have t := I.2.1.1 (2 + p) (by omega)
  have et : txA (2 + p) = 112 + 6 * p := by
    unfold txA
    rw [if_neg (by omega), if_neg (by omega), if_pos (by omega)]
    omega
  rw [et] at t
  exact ⟨k.2.2.1, I.2.2.2.1.2.2.2.2 p hp, k.2.2.2, by omega, t, w.2.2.1.2.2.2.1 p hp, pcs_T (Nat.le_refl _) (Nat.le_refl _)⟩
end KIV
