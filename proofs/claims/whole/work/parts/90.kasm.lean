section KAS
variable {B : Nat → Nat} {σ σ' : St} {h h' : HP} {X : Nat → Prop} {Y : Nat → Nat → Prop}
theorem SgO_y (G : AgY X Y h h') (hS : 362 ≤ gS h) (x4 : ¬ X 4) (xr : ∀ a, 9 ≤ a → a ≤ 104 → ¬ X a) (e3 : σ'.2.2.1 = σ.2.2.1) (hf : ∀ i, 600 ≤ i → i < 1200 → sf σ' i = sf σ i) (hz : sz σ' 1 = sz σ 1) (w : WF σ) (g : SgO σ h) : SgO σ' h' := by
  obtain ⟨a1, a2, a3⟩ := sm_seg e3
  have hSS := w.2.1.1
  refine ⟨by rw [(G.1 4 (by omega) x4).1, a1]; exact g.1, fun i hi => ?_⟩
  rw [a1] at hi
  have q := g.2 i hi
  have bn := w.2.1.2.1 i hi
  obtain ⟨c1, c2⟩ := pcB_cg (σ := σ) (σ' := σ') (s := i) (by rw [a2]) (by rw [a3]) (fun j h1 h2 => hf j (by omega) (by omega))
  rw [(G.1 (9 + 4 * i) (by omega) (xr _ (by omega) (by omega))).1, c1, c2, a2, a3, hz]
  exact ⟨⟨RwO_y G (by omega) (xr _ (by omega) (by omega)) (xr _ (by omega) (by omega)) (xr _ (by omega) (by omega)) (xr _ (by omega) (by omega)) q.1.1, q.1.2⟩, q.2⟩
theorem KWd_y (G : AgY X Y h h') (xr : ∀ a, 330 ≤ a → a ≤ 337 → ¬ X a) (yr : ∀ a, 330 ≤ a → a ≤ 337 → ¬ Y a 0) (e5 : σ'.2.2.2.2.1 = σ.2.2.2.2.1) (wd : KWd σ h) : KWd σ' h' := by
  have f1 : sE σ' = sE σ := congrArg (fun x => x.1) e5
  have f2 : sT σ' = sT σ := congrArg (fun x => x.2.1) e5
  have f3 : sF σ' = sF σ := congrArg (fun x => x.2.2.1) e5
  have f4 : sc σ' = sc σ := congrArg (fun x => x.2.2.2.1) e5
  have f5 : sl σ' = sl σ := congrArg (fun x => x.2.2.2.2) e5
  unfold KWd
  rw [f1, f2, f3, f4, f5]
  exact ⟨WdO_y G (xr _ (by decide) (by decide)) (xr _ (by decide) (by decide)) (yr _ (by decide) (by decide)) wd.1, WdO_y G (xr _ (by decide) (by decide)) (xr _ (by decide) (by decide)) (yr _ (by decide) (by decide)) wd.2.1, WdO_y G (xr _ (by decide) (by decide)) (xr _ (by decide) (by decide)) (yr _ (by decide) (by decide)) wd.2.2.1, WdO_y G (xr _ (by decide) (by decide)) (xr _ (by decide) (by decide)) (yr _ (by decide) (by decide)) wd.2.2.2⟩
theorem KSt_y {d : StepL} (G : AgY X Y h h') (hS : 362 ≤ gS h) (xr : ∀ a, 312 ≤ a → a ≤ 316 → ¬ X a) (k : KSt h d) : KSt h' d := by
  unfold KSt
  rw [(G.1 312 (by omega) (xr _ (by decide) (by decide))).1, (G.1 314 (by omega) (xr _ (by decide) (by decide))).1, (G.1 315 (by omega) (xr _ (by decide) (by decide))).1, (G.1 316 (by omega) (xr _ (by decide) (by decide))).1]
  exact k
/-- cells that are no part of a text -/
theorem KTx_y (G : AgY X Y h h') (xr : ∀ a, X a → isTxt a = false ∧ ¬ isTA a) (yr : ∀ a, Y a 0 → isTxt a = false) (e1 : σ'.1 = σ.1) (e2 : σ'.2.1 = σ.2.1) (t : KTx B σ h) : KTx B σ' h' := by
  obtain ⟨t1, t2, t3, t4, t5⟩ := t
  have it : ∀ r, isTxt (txA r) = true := fun r => by
    have := txA_c r
    unfold isTxt
    rcases this with q | q | q | q | q <;> simp [q]
  have ef : sf σ' = sf σ := e1
  have ez : sz σ' = sz σ := e2
  have nx : ∀ r, ¬ X (txA r) := fun r z => by have := (xr _ z).1; rw [it r] at this; exact absurd this (by decide)
  have ny : ∀ r, ¬ Y (txA r) 0 := fun r z => by have := yr _ z; rw [it r] at this; exact absurd this (by decide)
  refine ⟨fun r hr => ?_, ⟨isO_y G t2.1, by rw [G.2.1 320 0 t2.1.2.1 (ny 62)]; exact t2.2.1, Nat.lt_of_lt_of_le t2.2.2.1 G.2.2.2, by rw [(G.2.2.1 _ t2.2.2.1).1]; exact t2.2.2.2.1, by rw [(G.2.2.1 _ t2.2.2.1).2]; exact t2.2.2.2.2⟩, ?_, t4, t5⟩
  · rw [ef, ez]
    exact TxO_y G (nx r) (fun z => (xr _ z).2 (t4 r (by omega))) (ny r) (t1 r hr)
  · have := (t1 0 (by decide)).2.2.1.2.1
    rw [(G.2.2.1 _ this).2]
    exact t3
theorem TA_txt {a r : Nat} (h : isTA a) : a ≠ txA r := by
  have := txA_c r
  unfold isTA at h
  omega
/-- text r0 has taken n bytes -/
theorem KTx_up {r0 A' n : Nat} {g F : Nat → Nat} (T : TkO h h' (txA r0) (B r0) A' g n) (h0 : 0 < r0) (h62 : r0 < 62) (hF : ∀ i, F i < 256) (hF1 : ∀ i, (i < 600 * r0 ∨ 600 * r0 + 600 ≤ i) → F i = sf σ i) (hF2 : ∀ i, i < n → F (600 * r0 + i) = g i) (hS : 362 ≤ gS h) (hz : ∀ r, r < 62 → sz σ r ≤ 600) (t : KTx B σ h) : KTx (va_up B r0 A') (setz (setf σ F) (va_up (sz σ) r0 n)) h' := by
  obtain ⟨t1, t2, t3, t4, t5⟩ := t
  have ho := (t1 r0 h62).1
  have G := T.2.1
  have hA' : isTA A' := by
    rcases T.1 with q | q
    · rw [q.1]; exact t4 r0 (by omega)
    · unfold isTA; omega
  have nA' : ∀ r, r < 63 → r ≠ r0 → B r ≠ A' := fun r hr hne z => by
    rcases T.1 with q | q
    · exact hne (t5 r r0 hr (by omega) (by rw [z]; exact q.1))
    · have : B r < gS h := by
        by_cases y : r = 62
        · rw [y]; exact t2.2.2.1
        · exact (t1 r (by omega)).2.2.1.2.1
      omega
  have xo : ∀ r, r < 63 → r ≠ r0 → ¬ (txA r = txA r0 ∨ txA r = B r0) := fun r hr hne z => by
    rcases z with z | z
    · exact hne (txA_inj hr (by omega) z)
    · exact TA_txt (t4 r0 (by omega)) z.symm
  have xb : ∀ r, r < 63 → r ≠ r0 → ¬ (B r = txA r0 ∨ B r = B r0) := fun r hr hne z => by
    rcases z with z | z
    · exact TA_txt (t4 r hr) z
    · exact hne (t5 r r0 hr (by omega) z)
  refine ⟨fun r hr => ?_, ?_, ?_, fun r hr => ?_, fun r s hr hs e => ?_⟩
  · by_cases z : r = r0
    · subst z
      have : TxO h' (txA r) A' F (600 * r) n := TkO_T T ho hF hF2
      show TxO h' (txA r) (va_up B r A' r) F (600 * r) (va_up (sz σ) r n r)
      rw [va_up_self, va_up_self]
      exact this
    · show TxO h' (txA r) (va_up B r0 A' r) F (600 * r) (va_up (sz σ) r0 n r)
      rw [va_up_ne _ _ z, va_up_ne _ _ z]
      have hzr := hz r hr
      exact TxO_cg (fun i h1 h2 => hF1 i (by omega)) hF (TxO_y G (xo r (by omega) z) (xb r (by omega) z) (fun y => xo r (by omega) z (Or.inl y.1)) (t1 r hr))
  · have z : 62 ≠ r0 := by omega
    rw [va_up_ne _ _ z]
    exact ⟨isO_y G t2.1, by rw [G.2.1 320 0 t2.1.2.1 (fun y => xo 62 (by decide) z (Or.inl y.1))]; exact t2.2.1, Nat.lt_of_lt_of_le t2.2.2.1 G.2.2.2, by rw [(G.2.2.1 _ t2.2.2.1).1]; exact t2.2.2.2.1, by rw [(G.2.2.1 _ t2.2.2.1).2]; exact t2.2.2.2.2⟩
  · rw [va_up_ne _ _ (by omega : 0 ≠ r0)]
    have := (t1 0 (by decide)).2.2.1.2.1
    rw [(G.2.2.1 _ this).2]
    exact t3
  · rw [va_up_at]
    split
    · exact hA'
    · exact t4 r hr
  · rw [va_up_at, va_up_at] at e
    by_cases zr : r = r0
    · by_cases zs : s = r0
      · omega
      · rw [if_pos zr, if_neg zs] at e
        exact absurd e.symm (nA' s hs zs)
    · by_cases zs : s = r0
      · rw [if_neg zr, if_pos zs] at e
        exact absurd e (nA' r hr zr)
      · rw [if_neg zr, if_neg zs] at e
        exact t5 r s hr hs e
theorem KTx_emp (t : KTx B σ h) : KTx B (tEmp σ) (stI h 2 1 (nI 0)) := by
  obtain ⟨t1, t2, t3, t4, t5⟩ := t
  have G : AgY (fun a => a = 2) YN h (stI h 2 1 (nI 0)) := AgY_stI (AgY_rf _ _ h) rfl
  have ta := t4 0 (by decide)
  refine ⟨fun r hr => ?_, t2, t3, t4, t5⟩
  by_cases z : r = 0
  · subst z
    have T0 : TxO h 2 (B 0) (sf σ) 0 (sz σ 0) := t1 0 (by decide)
    exact TxO_cut T0 (Nat.zero_le _) (ta_2 ta)
  · have e : sz (tEmp σ) r = sz σ r := tEmp_s σ r z
    rw [e]
    have a5 : txA r ≠ 2 := fun y => z (txA_inj (by omega) (by decide) (y.trans (show 2 = txA 0 from rfl)))
    have a6 : B r ≠ 2 := fun y => TA_txt (t4 r (by omega)) (y.trans (show 2 = txA 0 from rfl))
    exact TxO_y G a5 a6 (fun y => y) (t1 r hr)
end KAS
