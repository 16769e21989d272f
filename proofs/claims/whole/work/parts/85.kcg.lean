/-! what counts of the bytes -/
def EqP (f f' : Nat → Nat) (x : Nat × Nat × Nat) : Prop := ∀ k, k < x.2.2 → f' (x.2.1 + k) = f (x.2.1 + k)
section ECG
variable {f f' : Nat → Nat} {x y : Nat × Nat × Nat}
theorem saF_cg {a b : Nat} : ∀ {r k : Nat}, (∀ j, k ≤ j → j < k + r → f' (a + j) = f (a + j) ∧ f' (b + j) = f (b + j)) → saF f' a b r k = saF f a b r k
  | 0, _, _ => rfl
  | r + 1, k, h => by
    have := h k (Nat.le_refl k) (by omega)
    rw [saF, saF, this.1, this.2, saF_cg (fun j h1 h2 => h j (by omega) (by omega))]
theorem alF_cg {a b : Nat} : ∀ {r k : Nat}, (∀ j, k ≤ j → j < k + r → f' (a + j) = f (a + j) ∧ f' (b + j) = f (b + j)) → alF f' a b r k = alF f a b r k
  | 0, _, _ => rfl
  | r + 1, k, h => by
    have := h k (Nat.le_refl k) (by omega)
    rw [alF, alF, this.1, this.2, alF_cg (fun j h1 h2 => h j (by omega) (by omega))]
theorem smP_cg (hx : EqP f f' x) (hy : EqP f f' y) : smP f' x y = smP f x y := by
  unfold smP
  by_cases c : x.2.2 = y.2.2
  · rw [saF_cg (fun j _ h2 => ⟨hx j (by omega), hy j (by omega)⟩)]
  · rw [decide_eq_false c, Bool.false_and, Bool.false_and]
theorem alP_cg (hx : EqP f f' x) (hy : EqP f f' y) : alP f' x y = alP f x y := by
  unfold alP
  by_cases c : x.2.2 = y.2.2
  · rw [alF_cg (fun j _ h2 => ⟨hx j (by omega), hy j (by omega)⟩)]
  · rw [decide_eq_false c, Bool.false_and, Bool.false_and]
theorem kcM_cg (hx : EqP f f' x) (hy : EqP f f' y) : kcM f' x y = kcM f x y := by
  unfold kcM kc2
  rw [smP_cg hx hy, alP_cg hx hy]
theorem wkB_cg {pv pv' : PcL → Nat} (hx : EqP f f' x) : ∀ {M : PcL}, (∀ y ∈ M, EqP f f' y) → (∀ M', (∀ y ∈ M', EqP f f' y) → pv' M' = pv M') → wkB f' x pv' M = wkB f x pv M
  | [], _, hp => by rw [wkB, wkB, hp [] (fun y hy => absurd hy (by simp))]
  | y :: M, hM, hp => by
    have hM' : ∀ z ∈ M, EqP f f' z := fun z hz => hM z (List.mem_cons_of_mem _ hz)
    rw [wkB, wkB, hp M hM', hp (y :: M) hM, kcM_cg hx (hM y (by simp)), wkB_cg hx hM' hp]
theorem wk_cg : ∀ {L M : PcL}, (∀ x ∈ L, EqP f f' x) → (∀ y ∈ M, EqP f f' y) → wk f' L M = wk f L M
  | [], M, _, _ => rfl
  | x :: L, M, hL, hM => by
    show wkB f' x (wk f' L) M = wkB f x (wk f L) M
    exact wkB_cg (hL x (by simp)) hM (fun M' hM' => wk_cg (fun z hz => hL z (List.mem_cons_of_mem _ hz)) hM')
theorem scN_cg {L M : PcL} (hL : ∀ x ∈ L, EqP f f' x) (hM : ∀ y ∈ M, EqP f f' y) : scN f' L M = scN f L M := by
  unfold scN
  rw [wk_cg hL hM]
end ECG
section CGS
variable {σ σ' : St}
theorem pcRw_cg {r : Nat} (hz : sz σ' r = sz σ r) (hf : ∀ i, 600 * r ≤ i → i < 600 * r + sz σ r → sf σ' i = sf σ i) : pcRw σ' r = pcRw σ r := by
  unfold pcRw
  rw [hz]
  exact pcs_cg 600 _ (atM_cg hf)
theorem pcB_cg {s : Nat} (hb : sb σ' s = sb σ s) (hn : sn σ' s = sn σ s) (hf : ∀ i, 600 + sb σ s ≤ i → i < 600 + sb σ s + sn σ s → sf σ' i = sf σ i) : pcB σ' s = pcB σ s ∧ ctB σ' s = ctB σ s := by
  unfold pcB ctB
  rw [hb, hn]
  exact ⟨pcs_cg 600 _ (atM_cg hf), pct_cg 600 _ (atM_cg hf)⟩
theorem pcRw_E {f' : Nat → Nat} {r : Nat} (hf : ∀ i, 600 * r ≤ i → i < 600 * r + sz σ r → f' i = sf σ i) : ∀ x ∈ pcRw σ r, EqP (sf σ) f' x := fun x hx k hk => by
  have := pcs_in (atM_z (sf σ) _) _ _ x hx
  exact hf _ (by omega) (by omega)
theorem pcB_E {f' : Nat → Nat} {s : Nat} (hf : ∀ i, 600 + sb σ s ≤ i → i < 600 + sb σ s + sn σ s → f' i = sf σ i) : ∀ x ∈ pcB σ s, EqP (sf σ) f' x := fun x hx k hk => by
  have := pcs_in (atM_z (sf σ) _) _ _ x hx
  exact hf _ (by omega) (by omega)
theorem TxO_cg {h : HP} {t A o n : Nat} {f f' : Nat → Nat} (hf : ∀ i, o ≤ i → i < o + n → f' i = f i) (h2 : ∀ i, f' i < 256) (T : TxO h t A f o n) : TxO h t A f' o n := by
  obtain ⟨t1, t2, t3, t4, t5, t6, t7⟩ := T
  exact ⟨t1, t2, t3, t4, t5, fun i hi => by rw [hf (o + i) (by omega) (by omega)]; exact t6 i hi, h2⟩
/-- but for the tape, and words, all is the same -/
def Sm0 (σ σ' : St) : Prop := σ'.2.2.1 = σ.2.2.1 ∧ σ'.2.2.2.1 = σ.2.2.2.1 ∧ sD σ' = sD σ ∧ (∀ i, 600 ≤ i → sf σ' i = sf σ i) ∧ ∀ r, r ≠ 0 → sz σ' r = sz σ r
theorem sm_seg (e : σ'.2.2.1 = σ.2.2.1) : sS σ' = sS σ ∧ sb σ' = sb σ ∧ sn σ' = sn σ := ⟨congrArg (fun x => x.1) e, congrArg (fun x => x.2.1) e, congrArg (fun x => x.2.2) e⟩
theorem sm_mem (e : σ'.2.2.2.1 = σ.2.2.2.1) : sP σ' = sP σ ∧ sR σ' = sR σ ∧ sw σ' = sw σ ∧ sy σ' = sy σ := ⟨congrArg (fun x => x.1) e, congrArg (fun x => x.2.1) e, congrArg (fun x => x.2.2.1) e, congrArg (fun x => x.2.2.2) e⟩
theorem Sm0_pc (M : Sm0 σ σ') (w : WF σ) : (∀ s, s < sS σ → pcB σ' s = pcB σ s ∧ ctB σ' s = ctB σ s) ∧ (∀ r, 0 < r → r < 62 → pcRw σ' r = pcRw σ r) ∧ (∀ s p, s < sS σ → p < sP σ → scSP σ' s p = scSP σ s p) ∧ ∀ p, ltR σ' p = ltR σ p := by
  obtain ⟨m1, m2, m3, m4, m5⟩ := M
  obtain ⟨e1, e2, e3⟩ := sm_seg m1
  obtain ⟨d1, d2, d3, d4⟩ := sm_mem m2
  have hS := w.2.1.1
  have hP := w.2.2.1.1
  have p1 : ∀ s, s < sS σ → pcB σ' s = pcB σ s ∧ ctB σ' s = ctB σ s := fun s hs => pcB_cg (by rw [e2]) (by rw [e3]) (fun i h1 h2 => m4 i (by omega))
  have p2 : ∀ r, 0 < r → r < 62 → pcRw σ' r = pcRw σ r := fun r h0 hr => pcRw_cg (m5 r (by omega)) (fun i h1 h2 => m4 i (by omega))
  refine ⟨p1, p2, fun s p hs hp => ?_, fun p => by unfold ltR; rw [d2, d3]⟩
  unfold scSP
  rw [(p1 s hs).1, p2 (2 + p) (by omega) (by omega)]
  exact scN_cg (pcRw_E (fun i h1 h2 => m4 i (by omega))) (pcB_E (fun i h1 h2 => m4 i (by omega)))
def X0 (B : Nat → Nat) (a : Nat) : Prop := a = 2 ∨ a = B 0 ∨ (330 ≤ a ∧ a ≤ 337)
theorem X0_c {B : Nat → Nat} {h h' : HP} (G : AgY (X0 B) YN h h') (T : isTA (B 0)) : Fc h h' := AgY_mono G (fun a z => by unfold X0 isTA at *; omega) (fun _ _ z => z.elim)
theorem InvK_0 {B : Nat → Nat} {h h' : HP} (G : AgY (X0 B) YN h h') (M : Sm0 σ σ') (hf : ∀ i, sf σ' i < 256) (T0 : TxO h' 2 (B 0) (sf σ') 0 (sz σ' 0)) (Wd : KWd σ' h') (I : InvK B σ h) (w : WF σ) : InvK B σ' h' := by
  obtain ⟨s, t, g, m, wd, kn, st⟩ := I
  obtain ⟨p1, p2, p3, p4⟩ := Sm0_pc M w
  obtain ⟨m1, m2, m3, m4, m5⟩ := M
  obtain ⟨e1, e2, e3⟩ := sm_seg m1
  obtain ⟨d1, d2, d3, d4⟩ := sm_mem m2
  have hS := s.1
  have hSS := w.2.1.1
  have hP := w.2.2.1.1
  have tB := t.2.2.2.1
  have b0 := tB 0 (by decide)
  unfold isTA at b0
  have x : ∀ a, a < 362 → ¬ (a = 2 ∨ (330 ≤ a ∧ a ≤ 337)) → ¬ (a = 3 ∨ a = 6 ∨ (113 ≤ a ∧ a < 232 ∧ (a - 113) % 6 = 0) ∨ (233 ≤ a ∧ a < 312 ∧ a % 2 = 1) ∨ a = 321) → ¬ X0 B a := fun a ha p q z => by unfold X0 at z; omega
  have gi : ∀ a, a < 362 → ¬ (a = 2 ∨ (330 ≤ a ∧ a ≤ 337)) → ¬ (a = 3 ∨ a = 6 ∨ (113 ≤ a ∧ a < 232 ∧ (a - 113) % 6 = 0) ∨ (233 ≤ a ∧ a < 312 ∧ a % 2 = 1) ∨ a = 321) → gI h' a = gI h a := fun a ha p q => (G.1 a (by omega) (x a ha p q)).1
  refine ⟨KSh_y G (fun _ _ z => z.elim) s, ⟨fun r hr => ?_, ?_, ?_, tB, t.2.2.2.2⟩, ⟨by rw [gi 4 (by omega) (by omega) (by omega), e1]; exact g.1, fun i hi => ?_⟩, ⟨?_, ?_, fun r hr => ?_, fun p hp => ?_, fun p hp => ?_⟩, Wd, fun p hp i hi => ?_, ?_, fun j y hj => ?_⟩
  · by_cases z : r = 0
    · subst z; exact T0
    · have a1 := txA_c r
      have a2 := tB r (by omega)
      have a4 : ¬ B r = B 0 := fun y => z (t.2.2.2.2 r 0 (by omega) (by decide) y)
      have a5 : txA r ≠ 2 := fun y => z (txA_inj (by omega) (by decide) (y.trans (show 2 = txA 0 from rfl)))
      unfold isTA at a2
      rw [m5 r z]
      exact TxO_cg (fun i h1 h2 => m4 i (by omega)) hf (TxO_y G (fun y => by unfold X0 at y; omega) (fun y => by unfold X0 at y; omega) (fun y => y) (t.1 r hr))
  · have t2 := t.2.1
    exact ⟨isO_y G t2.1, by rw [G.2.1 320 0 t2.1.2.1 (fun y => y)]; exact t2.2.1, Nat.lt_of_lt_of_le t2.2.2.1 G.2.2.2, by rw [(G.2.2.1 _ t2.2.2.1).1]; exact t2.2.2.2.1, by rw [(G.2.2.1 _ t2.2.2.1).2]; exact t2.2.2.2.2⟩
  · have := (t.1 0 (by decide)).2.2.1.2.1
    rw [(G.2.2.1 _ this).2]
    exact t.2.2.1
  · rw [e1] at hi
    have q := g.2 i hi
    rw [gi (9 + 4 * i) (by omega) (by omega) (by omega), (p1 i hi).1, (p1 i hi).2, e2, e3, m5 1 (by decide)]
    exact ⟨⟨RwO_y G (by omega) (x _ (by omega) (by omega) (by omega)) (x _ (by omega) (by omega) (by omega)) (x _ (by omega) (by omega) (by omega)) (x _ (by omega) (by omega) (by omega)) q.1.1, q.1.2⟩, q.2⟩
  · rw [gi 105 (by omega) (by omega) (by omega), d1]; exact m.1
  · rw [gi 105 (by omega) (by omega) (by omega), d2]; exact m.2.1
  · rw [gi 110 (by omega) (by omega) (by omega), gi 111 (by omega) (by omega) (by omega), d3, d4]; exact m.2.2.1 r hr
  · rw [d1] at hp
    rw [gi 108 (by omega) (by omega) (by omega), p4]; exact m.2.2.2.1 p hp
  · rw [d1] at hp
    rw [p2 (2 + p) (by omega) (by omega)]
    exact RwO_y G (by omega) (x _ (by omega) (by omega) (by omega)) (x _ (by omega) (by omega) (by omega)) (x _ (by omega) (by omega) (by omega)) (x _ (by omega) (by omega) (by omega)) (m.2.2.2.2 p hp)
  · rw [d1] at hp
    rw [e1] at hi
    rw [gi 318 (by omega) (by omega) (by omega), p3 i p hi hp]
    exact kn p hp i hi
  · rw [gi 312 (by omega) (by omega) (by omega), m3]; exact st.1
  · rw [m3] at hj
    rw [gi 314 (by omega) (by omega) (by omega), gi 315 (by omega) (by omega) (by omega), gi 316 (by omega) (by omega) (by omega)]
    exact st.2 j y hj
end CGS
