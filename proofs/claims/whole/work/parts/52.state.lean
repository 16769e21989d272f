/-! the mathematical state: bytes f (62 rows of 600), sizes z, (segments S, begins b, sizes n), (pairs P, renderings R, of which pair w, by whom y), (exceptions E, terms T, forbidden F, their bytes c, their letters l), steps told -/
abbrev StepL : Type := List (Nat × Int32 × Int32)
abbrev St : Type := (Nat → Nat) × (Nat → Nat) × (Nat × (Nat → Nat) × (Nat → Nat)) × (Nat × Nat × (Nat → Nat) × (Nat → Nat)) × (Nat × Nat × Nat × (Nat → Nat) × (Nat → Nat)) × StepL
def sf (σ : St) : Nat → Nat := σ.1
def sz (σ : St) : Nat → Nat := σ.2.1
def sS (σ : St) : Nat := σ.2.2.1.1
def sb (σ : St) : Nat → Nat := σ.2.2.1.2.1
def sn (σ : St) : Nat → Nat := σ.2.2.1.2.2
def sP (σ : St) : Nat := σ.2.2.2.1.1
def sR (σ : St) : Nat := σ.2.2.2.1.2.1
def sw (σ : St) : Nat → Nat := σ.2.2.2.1.2.2.1
def sy (σ : St) : Nat → Nat := σ.2.2.2.1.2.2.2
def sE (σ : St) : Nat := σ.2.2.2.2.1.1
def sT (σ : St) : Nat := σ.2.2.2.2.1.2.1
def sF (σ : St) : Nat := σ.2.2.2.2.1.2.2.1
def sc (σ : St) : Nat → Nat := σ.2.2.2.2.1.2.2.2.1
def sl (σ : St) : Nat → Nat := σ.2.2.2.2.1.2.2.2.2
def sD (σ : St) : StepL := σ.2.2.2.2.2
/-- pieces of segment s, of row r -/
def pcB (σ : St) (s : Nat) : PcL := pcs (atM (sf σ) (600 + sb σ s + sn σ s)) 46 (600 + sb σ s + sn σ s) false 600 (600 + sb σ s)
def pcRw (σ : St) (r : Nat) : PcL := pcs (atM (sf σ) (600 * r + sz σ r)) (if 22 ≤ r ∨ r = 0 then 44 else 46) (600 * r + sz σ r) false 600 (600 * r)
def wdUsed (σ : St) (i : Nat) : Prop := i < sE σ ∨ (8 ≤ i ∧ i < 8 + sT σ) ∨ (18 ≤ i ∧ i < 18 + sT σ) ∨ (28 ≤ i ∧ i < 28 + sF σ)
def WF (σ : St) : Prop :=
  ((∀ i, sf σ i < 256) ∧ (∀ r, r < 62 → sz σ r ≤ 600)) ∧
  (sS σ ≤ 24 ∧ (∀ s, s < sS σ → sb σ s + sn σ s ≤ 600) ∧ ∀ s, s < sS σ → (pcB σ s).length ≤ 20) ∧
  (sP σ ≤ 20 ∧ sR σ ≤ 40 ∧ (∀ r, r < sR σ → sw σ r < sP σ ∧ sy σ r ≤ 99) ∧ (∀ p, p < sP σ → (pcRw σ (2 + p)).length ≤ 20) ∧ (∀ p, p < sP σ → 0 < latN (sw σ) p (sR σ)) ∧ (∀ r, r < sR σ → ∀ p, p < sw σ r → 0 < latN (sw σ) p r)) ∧
  (sE σ ≤ 8 ∧ sT σ ≤ 10 ∧ sF σ ≤ 5 ∧ (∀ i, sc σ i < 256) ∧ (∀ i, sl σ i ≤ 8) ∧ ∀ i, wdUsed σ i → 1 ≤ sl σ i ∧ ∀ k, k < sl σ i → isLt (sc σ (8 * i + k)) = true) ∧
  (sD σ).length ≤ 40 ∧ ∀ x ∈ sD σ, x.1 ≤ 3
def MSt (h : HP) (d : StepL) : Prop := gI h 338 28 = nI d.length ∧ ∀ (j : Nat) (x : Nat × Int32 × Int32), d[j]? = some x → gI h 356 j = nI x.1 ∧ gI h 357 j = x.2.1 ∧ gI h 358 j = x.2.2
def InvM (σ : St) (h : HP) : Prop :=
  MSh h ∧ (∀ i, i < 37200 → gI h 339 i = nI (sf σ i)) ∧ (∀ r, r < 62 → gI h 340 r = nI (sz σ r)) ∧
  (gI h 338 15 = nI (sS σ) ∧ ∀ s, s < 24 → gI h 349 s = nI (sb σ s) ∧ gI h 350 s = nI (sn σ s)) ∧
  (gI h 338 19 = nI (sP σ) ∧ gI h 338 20 = nI (sR σ) ∧ ∀ r, r < 40 → gI h 352 r = nI (sw σ r) ∧ gI h 353 r = nI (sy σ r)) ∧
  (gI h 338 12 = nI (sE σ) ∧ gI h 338 13 = nI (sT σ) ∧ gI h 338 14 = nI (sF σ) ∧ (∀ i, i < 264 → gI h 347 i = nI (sc σ i)) ∧ ∀ i, i < 33 → gI h 348 i = nI (sl σ i)) ∧
  MSt h (sD σ)
/-- only cells that the model uses for a while have changed -/
def scr (a : Nat) : Bool := (decide (341 ≤ a) && decide (a ≤ 346)) || decide (a = 351) || decide (a = 354) || decide (a = 355) || decide (a = 359) || decide (a = 360) || decide (a = 361)
def Fm (h h' : HP) : Prop := h'.2 = h.2 ∧ (∀ a, scr a = false → a ≠ 338 → gI h' a = gI h a) ∧ ∀ k, k ≠ 8 → k ≠ 32 → gI h' 338 k = gI h 338 k
/-- only the model's own cells have changed -/
def Fo (h h' : HP) : Prop := h'.2 = h.2 ∧ ∀ a, (a < 338 ∨ 361 < a) → gI h' a = gI h a
theorem scr_out {a : Nat} (h : a < 338 ∨ 361 < a) : scr a = false := by simp [scr]; omega
theorem Fm_o {h h' : HP} (F : Fm h h') : Fo h h' := ⟨F.1, fun a ha => F.2.1 a (scr_out ha) (by omega)⟩
theorem Fm_rf (h : HP) : Fm h h := ⟨rfl, fun _ _ _ => rfl, fun _ _ _ => rfl⟩
theorem Fm_tr {h1 h2 h3 : HP} (A : Fm h1 h2) (B : Fm h2 h3) : Fm h1 h3 := ⟨B.1.trans A.1, fun a x y => (B.2.1 a x y).trans (A.2.1 a x y), fun k x y => (B.2.2 k x y).trans (A.2.2 k x y)⟩
theorem Fo_rf (h : HP) : Fo h h := ⟨rfl, fun _ _ => rfl⟩
theorem Fo_tr {h1 h2 h3 : HP} (A : Fo h1 h2) (B : Fo h2 h3) : Fo h1 h3 := ⟨B.1.trans A.1, fun a x => (B.2 a x).trans (A.2 a x)⟩
theorem Fo_st {h h' : HP} {a k : Nat} {v : Int32} (F : Fo h h') (h1 : 338 ≤ a ∧ a ≤ 361) : Fo h (stI h' a k v) := ⟨F.1, fun b hb => by rw [gI_stI_o _ _ _ _ (by omega)]; exact F.2 b hb⟩
theorem Fm_st {h h' : HP} {a k : Nat} {v : Int32} (F : Fm h h') (h1 : scr a = true) : Fm h (stI h' a k v) := by
  have q : 338 ≠ a := fun z => by rw [← z] at h1; exact absurd h1 (by decide)
  exact ⟨F.1, fun b hb hc => by rw [gI_stI_o _ _ _ _ (fun z => by rw [z, h1] at hb; exact absurd hb (by decide))]; exact F.2.1 b hb hc, fun k' x y => by rw [gI_stI_o _ _ _ _ q]; exact F.2.2 k' x y⟩
theorem Fm_s8 {h h' : HP} {k : Nat} {v : Int32} (F : Fm h h') (h1 : k = 8 ∨ k = 32) : Fm h (stI h' 338 k v) := ⟨F.1, fun b hb hc => by rw [gI_stI_o _ _ _ _ hc]; exact F.2.1 b hb hc, fun k' x y => by rw [gI_stI, if_neg (by omega)]; exact F.2.2 k' x y⟩
theorem FrX_m {ex : List Nat} {h h' : HP} (A : FrX ex h h') (hs : ∀ a ∈ ex, scr a = true) : Fm h h' := by
  have nm : ∀ a, scr a = false → a ∉ ex := fun a ha z => by rw [hs a z] at ha; exact absurd ha (by decide)
  exact ⟨A.1, fun a ha _ => A.2 a (nm a ha), fun k _ _ => by rw [A.2 338 (nm 338 (by decide))]⟩
theorem Fr6_m {h h' : HP} (A : Fr6 h h') : Fm h h' := ⟨A.1, fun a ha hb => A.2 a (fun z => by rw [z] at ha; exact absurd ha (by decide)), fun k _ _ => by rw [A.2 338 (by decide)]⟩
theorem RD_m {h h' : HP} {pl e cnt : Nat} {L : PcL} (R : RD h h' pl e L cnt) : Fm h h' := by
  refine ⟨R.1, fun a ha hb => ?_, fun k hk _ => by rw [R.2.2.1, va_up_ne _ _ hk]⟩
  have nm : ∀ b, scr b = true → a ≠ b := fun b q z => by rw [z, q] at ha; exact absurd ha (by decide)
  exact R.2.1 a hb (nm 341 rfl) (nm 342 rfl) (nm 343 rfl) (nm 344 rfl) (nm 345 rfl)
theorem InvM_m {σ : St} {h h' : HP} (F : Fm h h') (I : InvM σ h) : InvM σ h' := by
  obtain ⟨i1, i2, i3, i4, i5, i6, i7⟩ := I
  obtain ⟨f1, f2, f3⟩ := F
  have g : ∀ a, scr a = false → a ≠ 338 → gI h' a = gI h a := f2
  unfold InvM MSt
  rw [g 339 rfl (by decide), g 340 rfl (by decide), g 349 rfl (by decide), g 350 rfl (by decide), g 352 rfl (by decide), g 353 rfl (by decide), g 347 rfl (by decide), g 348 rfl (by decide), g 356 rfl (by decide), g 357 rfl (by decide), g 358 rfl (by decide),
    f3 15 (by decide) (by decide), f3 19 (by decide) (by decide), f3 20 (by decide) (by decide), f3 12 (by decide) (by decide), f3 13 (by decide) (by decide), f3 14 (by decide) (by decide), f3 28 (by decide) (by decide)]
  exact ⟨MSh_2 f1 i1, i2, i3, i4, i5, i6, i7⟩
/-! new states -/
def setf (σ : St) (f : Nat → Nat) : St := (f, σ.2)
def setz (σ : St) (z : Nat → Nat) : St := (σ.1, z, σ.2.2)
def setS (σ : St) (S : Nat) (b n : Nat → Nat) : St := (σ.1, σ.2.1, (S, b, n), σ.2.2.2)
def setP (σ : St) (P R : Nat) (w y : Nat → Nat) : St := (σ.1, σ.2.1, σ.2.2.1, (P, R, w, y), σ.2.2.2.2)
def setW (σ : St) (E T F : Nat) (c l : Nat → Nat) : St := (σ.1, σ.2.1, σ.2.2.1, σ.2.2.2.1, (E, T, F, c, l), σ.2.2.2.2.2)
def setD (σ : St) (d : StepL) : St := (σ.1, σ.2.1, σ.2.2.1, σ.2.2.2.1, σ.2.2.2.2.1, d)
section IMS
variable {σ : St} {h : HP}
theorem up_row {g : Nat → Int32} {z : Nat → Nat} {r v : Nat} {N : Nat} (H : ∀ i, i < N → g i = nI (z i)) : ∀ i, i < N → va_up g r (nI v) i = nI (va_up z r v i) := fun i hi => by
  unfold va_up
  split
  · rfl
  · exact H i hi
theorem IM_z {r v : Nat} (I : InvM σ h) : InvM (setz σ (va_up (sz σ) r v)) (stI h 340 r (nI v)) := by
  obtain ⟨i1, i2, i3, i4, i5, i6, i7⟩ := I
  exact ⟨i1, i2, fun i hi => by rw [gI_stI_s]; exact up_row i3 i hi, i4, i5, i6, i7⟩
theorem IM_f {r v : Nat} (I : InvM σ h) : InvM (setf σ (va_up (sf σ) r v)) (stI h 339 r (nI v)) := by
  obtain ⟨i1, i2, i3, i4, i5, i6, i7⟩ := I
  exact ⟨i1, fun i hi => by rw [gI_stI_s]; exact up_row i2 i hi, i3, i4, i5, i6, i7⟩
theorem IM_b {r v : Nat} (I : InvM σ h) : InvM (setS σ (sS σ) (va_up (sb σ) r v) (sn σ)) (stI h 349 r (nI v)) := by
  obtain ⟨i1, i2, i3, i4, i5, i6, i7⟩ := I
  exact ⟨i1, i2, i3, ⟨i4.1, fun i hi => ⟨by rw [gI_stI_s]; exact up_row (N := 24) (fun i hi => (i4.2 i hi).1) i hi, (i4.2 i hi).2⟩⟩, i5, i6, i7⟩
theorem IM_n {r v : Nat} (I : InvM σ h) : InvM (setS σ (sS σ) (sb σ) (va_up (sn σ) r v)) (stI h 350 r (nI v)) := by
  obtain ⟨i1, i2, i3, i4, i5, i6, i7⟩ := I
  exact ⟨i1, i2, i3, ⟨i4.1, fun i hi => ⟨(i4.2 i hi).1, by rw [gI_stI_s]; exact up_row (N := 24) (fun i hi => (i4.2 i hi).2) i hi⟩⟩, i5, i6, i7⟩
theorem IM_S1 {v : Nat} (I : InvM σ h) : InvM (setS σ v (sb σ) (sn σ)) (stI h 338 15 (nI v)) := by
  obtain ⟨i1, i2, i3, i4, i5, i6, i7⟩ := I
  exact ⟨i1, i2, i3, ⟨rfl, i4.2⟩, i5, i6, i7⟩
theorem IM_P1 {v : Nat} (I : InvM σ h) : InvM (setP σ v (sR σ) (sw σ) (sy σ)) (stI h 338 19 (nI v)) := by
  obtain ⟨i1, i2, i3, i4, i5, i6, i7⟩ := I
  exact ⟨i1, i2, i3, i4, ⟨rfl, i5.2⟩, i6, i7⟩
theorem IM_R1 {v : Nat} (I : InvM σ h) : InvM (setP σ (sP σ) v (sw σ) (sy σ)) (stI h 338 20 (nI v)) := by
  obtain ⟨i1, i2, i3, i4, i5, i6, i7⟩ := I
  exact ⟨i1, i2, i3, i4, ⟨i5.1, rfl, i5.2.2⟩, i6, i7⟩
theorem IM_w {r v : Nat} (I : InvM σ h) : InvM (setP σ (sP σ) (sR σ) (va_up (sw σ) r v) (sy σ)) (stI h 352 r (nI v)) := by
  obtain ⟨i1, i2, i3, i4, i5, i6, i7⟩ := I
  exact ⟨i1, i2, i3, i4, ⟨i5.1, i5.2.1, fun i hi => ⟨by rw [gI_stI_s]; exact up_row (N := 40) (fun i hi => (i5.2.2 i hi).1) i hi, (i5.2.2 i hi).2⟩⟩, i6, i7⟩
theorem IM_y {r v : Nat} (I : InvM σ h) : InvM (setP σ (sP σ) (sR σ) (sw σ) (va_up (sy σ) r v)) (stI h 353 r (nI v)) := by
  obtain ⟨i1, i2, i3, i4, i5, i6, i7⟩ := I
  exact ⟨i1, i2, i3, i4, ⟨i5.1, i5.2.1, fun i hi => ⟨(i5.2.2 i hi).1, by rw [gI_stI_s]; exact up_row (N := 40) (fun i hi => (i5.2.2 i hi).2) i hi⟩⟩, i6, i7⟩
theorem IM_E1 {v : Nat} (I : InvM σ h) : InvM (setW σ v (sT σ) (sF σ) (sc σ) (sl σ)) (stI h 338 12 (nI v)) := by
  obtain ⟨i1, i2, i3, i4, i5, i6, i7⟩ := I
  exact ⟨i1, i2, i3, i4, i5, ⟨rfl, i6.2⟩, i7⟩
theorem IM_T1 {v : Nat} (I : InvM σ h) : InvM (setW σ (sE σ) v (sF σ) (sc σ) (sl σ)) (stI h 338 13 (nI v)) := by
  obtain ⟨i1, i2, i3, i4, i5, i6, i7⟩ := I
  exact ⟨i1, i2, i3, i4, i5, ⟨i6.1, rfl, i6.2.2⟩, i7⟩
theorem IM_F1 {v : Nat} (I : InvM σ h) : InvM (setW σ (sE σ) (sT σ) v (sc σ) (sl σ)) (stI h 338 14 (nI v)) := by
  obtain ⟨i1, i2, i3, i4, i5, i6, i7⟩ := I
  exact ⟨i1, i2, i3, i4, i5, ⟨i6.1, i6.2.1, rfl, i6.2.2.2⟩, i7⟩
theorem IM_cp {h' : HP} {a n t : Nat} (C : CP h h' (sf σ) a n t) (I : InvM σ h) : InvM (setz (setf σ (cpF (sf σ) a t n)) (va_up (sz σ) t n)) h' := by
  obtain ⟨i1, i2, i3, i4, i5, i6, i7⟩ := I
  obtain ⟨c1, c2, c3, c4⟩ := C
  unfold InvM MSt at *
  rw [c2 338 (by decide) (by decide), c2 349 (by decide) (by decide), c2 350 (by decide) (by decide), c2 352 (by decide) (by decide), c2 353 (by decide) (by decide), c2 347 (by decide) (by decide), c2 348 (by decide) (by decide), c2 356 (by decide) (by decide), c2 357 (by decide) (by decide), c2 358 (by decide) (by decide), c3]
  exact ⟨MSh_2 c1 i1, c4.2.1, up_row i3, i4, i5, i6, i7⟩
theorem CP_o {h' : HP} {f : Nat → Nat} {a n t : Nat} (C : CP h h' f a n t) : Fo h h' := ⟨C.1, fun q hq => C.2.1 q (by omega) (by omega)⟩
theorem IM_wd {h' : HP} {c l : Nat → Nat} (F : FrX [347, 348] h h') (W : MWd h' c l) (I : InvM σ h) : InvM (setW σ (sE σ) (sT σ) (sF σ) c l) h' := by
  obtain ⟨i1, i2, i3, i4, i5, i6, i7⟩ := I
  obtain ⟨c1, c2⟩ := F
  unfold InvM MSt at *
  rw [c2 338 (by decide), c2 339 (by decide), c2 340 (by decide), c2 349 (by decide), c2 350 (by decide), c2 352 (by decide), c2 353 (by decide), c2 356 (by decide), c2 357 (by decide), c2 358 (by decide)]
  exact ⟨MSh_2 c1 i1, i2, i3, i4, i5, ⟨i6.1, i6.2.1, i6.2.2.1, W.1, W.2.1⟩, i7⟩
theorem FrX_o {ex : List Nat} {h' : HP} (A : FrX ex h h') (hs : ∀ a ∈ ex, 338 ≤ a ∧ a ≤ 361) : Fo h h' := ⟨A.1, fun a ha => A.2 a (fun z => by have := hs a z; omega)⟩
end IMS
section IM
variable {σ : St} {h : HP}
theorem IM_B (I : InvM σ h) (w : WF σ) : MBy h (sf σ) := ⟨I.1, I.2.1, w.1.1⟩
theorem IM_Z (I : InvM σ h) (w : WF σ) : MZ h (sz σ) := ⟨I.2.2.1, w.1.2⟩
theorem IM_S (I : InvM σ h) (w : WF σ) : MSg h (sS σ) (sb σ) (sn σ) := ⟨w.2.1.1, fun s hs => I.2.2.2.1.2 s (by have := w.2.1.1; omega), w.2.1.2.1⟩
theorem IM_P (I : InvM σ h) (w : WF σ) : MPO h (sw σ) (sR σ) := ⟨w.2.2.1.2.1, fun r hr => ⟨(I.2.2.2.2.1.2.2 r (by have := w.2.2.1.2.1; omega)).1, by have := (w.2.2.1.2.2.1 r hr).1; have := w.2.2.1.1; omega⟩⟩
theorem IM_W (I : InvM σ h) (w : WF σ) : MWd h (sc σ) (sl σ) := ⟨I.2.2.2.2.2.1.2.2.2.1, I.2.2.2.2.2.1.2.2.2.2, w.2.2.2.1.2.2.2.1, w.2.2.2.1.2.2.2.2.1⟩
theorem pcB_Wf (w : WF σ) {s : Nat} (hs : s < sS σ) : ∀ x ∈ pcB σ s, WfP x := pcs_Wf (by have := w.2.1.2.1 s hs; omega)
theorem pcRw_Wf (w : WF σ) {r : Nat} (hr : r < 62) : ∀ x ∈ pcRw σ r, WfP x := pcs_Wf (by have := w.1.2 r hr; omega)
theorem pcB_len (σ : St) (s : Nat) : (pcB σ s).length ≤ 600 := pcs_len _ _ _ _ _ _
theorem pcRw_len (σ : St) (r : Nat) : (pcRw σ r).length ≤ 600 := pcs_len _ _ _ _ _ _
/-- what both readings leave -/
theorem m_readBoth {s p : Nat} {K : HP → Prop} (I : InvM σ h) (w : WF σ) (hs : s < sS σ) (hp : p < sP σ) (H : ∀ h', Fm h h' → gI h' 355 = gI h 355 → PlR h' 0 (pcRw σ (2 + p)) → PlR h' 1 (pcB σ s) → K h') : wq_M_readBoth 338 (nI s) (nI p) h K := by
  have hP := w.2.2.1.1
  unfold wq_M_readBoth
  simp only [i0, i1, nLit, mul_I, add_I, nI_cl, isO_stI, isA_stI, isL_stI, gR_stI, gJ_stI, gK_stI, gL_stI, gS_stI, true_and, and_true, forall_eq, implies_true, ps_339, MSh_o I.1]
  refine m_readRow (IM_B I w) (IM_Z I w) (by decide) (by omega) (fun h1 R1 => ?_)
  have I1 := InvM_m (RD_m R1) I
  refine ⟨MSh_o I1.1, m_readSegment (IM_B I1 w) (IM_S I1 w) (by decide) hs (fun h2 R2 => ?_)⟩
  have len1 := pcRw_len σ (2 + p)
  have len2 := pcB_len σ s
  exact H h2 (Fm_tr (RD_m R1) (RD_m R2)) (by rw [(RD_Fr R2).2 355 (by decide), (RD_Fr R1).2 355 (by decide)]) (RD_other R2 len2 (by decide) (RD_pl R1 len1)) (RD_pl R2 len2)
theorem m_scoreOf {s p : Nat} {K : Int32 → HP → Prop} (I : InvM σ h) (w : WF σ) (hs : s < sS σ) (hp : p < sP σ) (H : ∀ h', Fm h h' → gI h' 355 = gI h 355 → K (nI (scN (sf σ) (pcRw σ (2 + p)) (pcB σ s))) h') : wq_M_scoreOf 338 (nI s) (nI p) h K := by
  have hP := w.2.2.1.1
  have la := w.2.2.1.2.2.2.1 p hp
  have lb := w.2.1.2.2 s hs
  unfold wq_M_scoreOf
  refine ⟨MSh_o I.1, m_readBoth I w hs hp (fun h1 F1 E1 PA PB => ?_)⟩
  have I1 := InvM_m F1 I
  have hM := I1.1
  have go : wb_M_scoreOf_36 338 (nI (max (pcRw σ (2 + p)).length (pcB σ s).length)) h1 K := m_scoreOf_36 (IM_B I1 w) PA PB (pcRw_Wf w (by omega)) (pcB_Wf w hs) la lb (fun h2 F2 => H h2 (Fm_tr F1 (FrX_m F2 (by decide))) (by rw [F2.2 355 (by decide), E1]))
  simp (disch := omega) only [i0, i1, nLit, mul_I, add_I, nI_cl, isO_stI, isA_stI, isL_stI, gR_stI, gJ_stI, gK_stI, gL_stI, gS_stI, true_and, and_true, forall_eq, implies_true, ps_339, MSh_o hM, mR_solid hM, mL_solid hM, mA_solid hM, PA.1, PB.1, le_I]
  refine ⟨fun c => ?_, fun c => ?_⟩
  · rwa [show max (pcRw σ (2 + p)).length (pcB σ s).length = (pcB σ s).length by omega] at go
  · rwa [show max (pcRw σ (2 + p)).length (pcB σ s).length = (pcRw σ (2 + p)).length by omega] at go
end IM
