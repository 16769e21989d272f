/-! the state stays well formed -/
section WFS
variable {σ : St}
theorem WF_tp {f z : Nat → Nat} (w : WF σ) (hf : ∀ i, f i < 256) (ho : ∀ i, 600 ≤ i → f i = sf σ i) (h0 : z 0 ≤ 600) (hz : ∀ r, 0 < r → z r = sz σ r) : WF (setz (setf σ f) z) := by
  refine ⟨⟨hf, fun r hr => ?_⟩, ⟨w.2.1.1, w.2.1.2.1, fun s hs => ?_⟩, ⟨w.2.2.1.1, w.2.2.1.2.1, w.2.2.1.2.2.1, fun p hp => ?_, w.2.2.1.2.2.2.2⟩, w.2.2.2⟩
  · by_cases c : r = 0
    · rw [c]; exact h0
    · show z r ≤ 600
      rw [hz r (by omega)]
      exact w.1.2 r hr
  · rw [(pcB_cg (σ := σ) (σ' := setz (setf σ f) z) rfl rfl (fun i h1 _ => ho i (by omega))).1]
    exact w.2.1.2.2 s hs
  · rw [pcRw_cg (σ := σ) (σ' := setz (setf σ f) z) (hz (2 + p) (by omega)) (fun i h1 _ => ho i (by omega))]
    exact w.2.2.1.2.2.2.1 p hp
theorem WF_z0 {k : Nat} (w : WF σ) (hk : k ≤ 600) : WF (setz σ (va_up (sz σ) 0 k)) :=
  WF_tp (f := sf σ) w w.1.1 (fun _ _ => rfl) (by rw [va_up_self]; exact hk) (fun r hr => va_up_ne _ _ (by omega))
theorem WF_emp (w : WF σ) : WF (tEmp σ) := WF_z0 w (by omega)
theorem WF_feed {v : Int64} {n : Int32} (w : WF σ) : WF (tFeed σ v n) := by
  unfold tFeed
  split
  · split
    · rename_i _ c
      exact WF_tp w (fdF_lt v _ _ _ w.1.1) (fun i hi => fdF_o v _ _ _ i (Or.inr (by omega))) (by rw [va_up_self]; exact c) (fun r hr => va_up_ne _ _ (by omega))
    · exact w
  · exact w
theorem WF_cut {n : Int32} (w : WF σ) : WF (tCut σ n) := by
  have hz := w.1.2 0 (by decide)
  unfold tCut
  rcases ixI_c n (n := sz σ 0 + 1) (by omega) with ⟨e, _⟩ | ⟨k, hk, _, e⟩
  · rw [e]; exact w
  · rw [e]; exact WF_z0 w (by omega)
def wdQ (c l : Nat → Nat) (i : Nat) : Prop := 1 ≤ l i ∧ ∀ k, k < l i → isLt (c (8 * i + k)) = true
theorem wdQ_o {c l f : Nat → Nat} {a t n i : Nat} (hn : n ≤ 8) (hl : l i ≤ 8) (hi : i ≠ t) (p : wdQ c l i) : wdQ (cpW c f a t n) (va_up l t n) i := by
  unfold wdQ
  rw [va_up_ne _ _ hi]
  exact ⟨p.1, fun k hk => by rw [cpW_o (by omega)]; exact p.2 k hk⟩
theorem wdQ_t {c l f : Nat → Nat} {a t n : Nat} (h : iwM f a n = true) : wdQ (cpW c f a t n) (va_up l t n) t := by
  unfold wdQ
  rw [va_up_self]
  refine ⟨(iwM_le h).1, fun k hk => ?_⟩
  rw [cpW_i hk]
  unfold iwM at h
  rw [Bool.and_eq_true] at h
  exact iwF_all h.2 k hk
theorem cpW_lt {c f : Nat → Nat} {a t n : Nat} (hc : ∀ i, c i < 256) (hf : ∀ i, f i < 256) : ∀ i, cpW c f a t n i < 256 := fun i => by
  unfold cpW
  split
  · exact hf _
  · exact hc _
theorem up_8 {l : Nat → Nat} {t n : Nat} (hl : ∀ i, l i ≤ 8) (hn : n ≤ 8) : ∀ i, va_up l t n i ≤ 8 := fun i => by
  rw [va_up_at]
  split
  · exact hn
  · exact hl i
theorem WF_W {E T F : Nat} {c l : Nat → Nat} (w : WF σ) (h1 : E ≤ 8) (h2 : T ≤ 10) (h3 : F ≤ 5) (h4 : ∀ i, c i < 256) (h5 : ∀ i, l i ≤ 8) (h6 : ∀ i, (i < E ∨ (8 ≤ i ∧ i < 8 + T) ∨ (18 ≤ i ∧ i < 18 + T) ∨ (28 ≤ i ∧ i < 28 + F)) → wdQ c l i) : WF (setW σ E T F c l) :=
  ⟨w.1, w.2.1, w.2.2.1, ⟨h1, h2, h3, h4, h5, h6⟩, w.2.2.2.2⟩
theorem WF_used (w : WF σ) {i : Nat} (h : i < sE σ ∨ (8 ≤ i ∧ i < 8 + sT σ) ∨ (18 ≤ i ∧ i < 18 + sT σ) ∨ (28 ≤ i ∧ i < 28 + sF σ)) : wdQ (sc σ) (sl σ) i := w.2.2.2.1.2.2.2.2.2 i h
theorem WF_except (w : WF σ) : WF (tExcept σ) := by
  obtain ⟨e1, e2, e3, e4, e5, e6⟩ := w.2.2.2.1
  unfold tExcept
  split
  · rename_i c
    have hn := iwM_le c
    split
    · exact w
    · rename_i c8
      refine WF_emp (WF_W w (by omega) e2 e3 (cpW_lt e4 w.1.1) (up_8 e5 hn.2) (fun i hi => ?_))
      by_cases y : i = sE σ
      · rw [y]; exact wdQ_t c
      · exact wdQ_o hn.2 (e5 i) y (WF_used w (by omega))
  · exact w
theorem WF_forbid (w : WF σ) : WF (tForbid σ) := by
  obtain ⟨e1, e2, e3, e4, e5, e6⟩ := w.2.2.2.1
  unfold tForbid
  split
  · rename_i c
    have hn := iwM_le c
    split
    · exact w
    · rename_i c8
      refine WF_emp (WF_W w e1 e2 (by omega) (cpW_lt e4 w.1.1) (up_8 e5 hn.2) (fun i hi => ?_))
      by_cases y : i = 28 + sF σ
      · rw [y]; exact wdQ_t c
      · exact wdQ_o hn.2 (e5 i) y (WF_used w (by omega))
  · exact w
theorem WF_term (w : WF σ) : WF (tTerm σ) := by
  obtain ⟨e1, e2, e3, e4, e5, e6⟩ := w.2.2.2.1
  unfold tTerm
  split
  · rename_i c
    unfold okT at c
    rw [Bool.and_eq_true, Bool.and_eq_true] at c
    have ha := iwM_le c.1.1
    have hb := iwM_le c.2
    split
    · exact w
    · rename_i c8
      refine WF_emp (WF_W w e1 (by omega) e3 (cpW_lt (cpW_lt e4 w.1.1) w.1.1) (up_8 (up_8 e5 ha.2) hb.2) (fun i hi => ?_))
      by_cases y : i = 18 + sT σ
      · rw [y]; exact wdQ_t c.2
      · refine wdQ_o hb.2 (up_8 e5 ha.2 i) y ?_
        by_cases y2 : i = 8 + sT σ
        · rw [y2]; exact wdQ_t c.1.1
        · exact wdQ_o ha.2 (e5 i) y2 (WF_used w (by omega))
  · exact w
theorem WF_patch {v p : Int32} (w : WF σ) (hf : ∀ i, sf (tPatch σ v p) i < 256) : WF (tPatch σ v p) := by
  have hS := w.2.1.1
  have hP := w.2.2.1.1
  unfold tPatch at *
  rcases ixI_c v (n := sS σ) (by omega) with ⟨e, _⟩ | ⟨s, hs, _, e⟩
  · rw [e]; exact w
  · simp only [e] at hf ⊢
    rcases ixI_c p (n := sP σ) (by omega) with ⟨e, _⟩ | ⟨q, hq, _, e⟩
    · rw [e]; exact w
    · simp only [e] at hf ⊢
      cases eo : patR σ s q with
      | none => exact w
      | some o =>
        simp only [eo] at hf ⊢
        by_cases c : o.length ≤ 600
        · rw [if_pos c] at hf ⊢
          exact WF_tp w hf (fun i hi => by unfold laO; rw [if_neg (by omega)]) (by rw [va_up_self]; exact c) (fun r hr => va_up_ne _ _ (by omega))
        · rw [if_neg c]; exact w
theorem WF_differ {p v : Int32} (w : WF σ) : WF (tDiffer σ p v) := by
  have hS := w.2.1.1
  have hP := w.2.2.1.1
  unfold tDiffer
  rcases ixI_c p (n := sP σ) (by omega) with ⟨e, _⟩ | ⟨q, hq, _, e⟩
  · rw [e]; exact w
  · rw [e]
    rcases ixI_c v (n := sS σ) (by omega) with ⟨e, _⟩ | ⟨s, hs, _, e⟩
    · rw [e]; exact w
    · rw [e]
      have l := stp_len (sf σ) (pcRw σ (2 + q)) (pcB σ s) 40 0 0
      exact ⟨w.1, w.2.1, w.2.2.1, w.2.2.2.1, l.1, l.2⟩
theorem WF_load (w : WF σ) : WF (tLoad σ) := by
  have hz := w.1.2 0 (by decide)
  unfold tLoad
  split
  · rename_i ok
    have hN := load_N w ok
    have hm := load_m w
    have hx := load_x w
    rw [okL_N w, Bool.and_eq_true] at ok
    have l24 := of_decide_eq_true ok.1
    generalize ctL σ = C at *
    have eb : ∀ s, s < C.length → bgF C (sb σ) C.length s = bgC C s := fun s hs => by
      unfold bgF bgC
      rw [if_pos hs]
    have en : ∀ s, s < C.length → szF C (sn σ) C.length s = C.getD s 0 - bgC C s := fun s hs => by
      unfold szF bgC
      rw [if_pos hs]
    refine ⟨⟨cpF_lt w.1.1, fun r hr => ?_⟩, ⟨l24, fun s hs => ?_, fun s hs => ?_⟩, ⟨w.2.2.1.1, w.2.2.1.2.1, w.2.2.1.2.2.1, fun p hp => ?_, w.2.2.1.2.2.2.2⟩, w.2.2.2⟩
    · show va_up (va_up (sz σ) 1 (sz σ 0)) 0 0 r ≤ 600
      rw [va_up_at, va_up_at]
      have := w.1.2 r hr
      split
      · omega
      · split
        · omega
        · omega
    · have hs' : s < C.length := hs
      show bgF C (sb σ) C.length s + szF C (sn σ) C.length s ≤ 600
      rw [eb s hs', en s hs']
      have := hm s hs'
      have := hx s
      omega
    · have hs' : s < C.length := hs
      have e : pcB (setS (setz (setf σ (cpF (sf σ) 0 1 (sz σ 0))) (va_up (va_up (sz σ) 1 (sz σ 0)) 0 0)) C.length (bgF C (sb σ) C.length) (szF C (sn σ) C.length)) s = pcC (cpF (sf σ) 0 1 (sz σ 0)) C s := by
        show pcs (atM (cpF (sf σ) 0 1 (sz σ 0)) (600 + bgF C (sb σ) C.length s + szF C (sn σ) C.length s)) 46 (600 + bgF C (sb σ) C.length s + szF C (sn σ) C.length s) false 600 (600 + bgF C (sb σ) C.length s) = _
        have := hm s hs'
        rw [eb s hs', en s hs', show 600 + bgC C s + (C.getD s 0 - bgC C s) = 600 + C.getD s 0 by omega]
        rfl
      rw [e]
      exact hN s hs'
    · have e := pcRw_cg (σ := σ) (σ' := setS (setz (setf σ (cpF (sf σ) 0 1 (sz σ 0))) (va_up (va_up (sz σ) 1 (sz σ 0)) 0 0)) C.length (bgF C (sb σ) C.length) (szF C (sn σ) C.length)) (r := 2 + p) (by
        show va_up (va_up (sz σ) 1 (sz σ 0)) 0 0 (2 + p) = _
        rw [va_up_ne _ _ (by omega), va_up_ne _ _ (by omega)]) (fun i h1 _ => cpF_o (by omega))
      rw [e]
      exact w.2.2.1.2.2.2.1 p hp
  · exact w
theorem WF_comes {τ : St} {p y : Nat} (a1 : ∀ i, sf τ i < 256) (a2 : ∀ r, r < 62 → sz τ r ≤ 600) (b1 : sS τ ≤ 24 ∧ (∀ s, s < sS τ → sb τ s + sn τ s ≤ 600) ∧ ∀ s, s < sS τ → (pcB τ s).length ≤ 20) (c1 : sP τ ≤ 20) (c2 : sR τ < 40) (c3 : ∀ r, r < sR τ → sw τ r < sP τ ∧ sy τ r ≤ 99) (c4 : ∀ p, p < sP τ → (pcRw τ (2 + p)).length ≤ 20) (c5 : ∀ q, q < sP τ → q ≠ p → 0 < latN (sw τ) q (sR τ)) (c6 : ∀ r, r < sR τ → ∀ q, q < sw τ r → 0 < latN (sw τ) q r) (hp : p < sP τ) (hy : y ≤ 99) (d1 : sE τ ≤ 8 ∧ sT τ ≤ 10 ∧ sF τ ≤ 5 ∧ (∀ i, sc τ i < 256) ∧ (∀ i, sl τ i ≤ 8) ∧ ∀ i, wdUsed τ i → 1 ≤ sl τ i ∧ ∀ k, k < sl τ i → isLt (sc τ (8 * i + k)) = true) (d2 : (sD τ).length ≤ 40 ∧ ∀ x ∈ sD τ, x.1 ≤ 3) : WF (tComes τ p y) := by
  have h0 := a2 0 (by decide)
  have lt : ∀ q t, t ≤ sR τ → latN (va_up (sw τ) (sR τ) p) q t = latN (sw τ) q t := fun q t ht => latN_cg (fun r hr => va_up_ne _ _ (by omega))
  refine ⟨⟨cpF_lt a1, fun r hr => ?_⟩, ⟨b1.1, b1.2.1, fun s hs => ?_⟩, ⟨c1, c2, fun r hr => ?_, fun q hq => ?_, fun q hq => ?_, fun r hr q hq => ?_⟩, d1, d2⟩
  · show va_up (va_up (sz τ) (22 + sR τ) (sz τ 0)) 0 0 r ≤ 600
    rw [va_up_at, va_up_at]
    have := a2 r hr
    split
    · omega
    · split
      · omega
      · omega
  · have bn := b1.2.1 s hs
    rw [(pcB_cg (σ := τ) (σ' := tComes τ p y) rfl rfl (fun i h1 h2 => cpF_o (by omega))).1]
    exact b1.2.2 s hs
  · show va_up (sw τ) (sR τ) p r < sP τ ∧ va_up (sy τ) (sR τ) y r ≤ 99
    have hr' : r < sR τ + 1 := hr
    rw [va_up_at, va_up_at]
    by_cases c : r = sR τ
    · rw [if_pos c, if_pos c]; exact ⟨hp, hy⟩
    · rw [if_neg c, if_neg c]; exact c3 r (by omega)
  · have hq' : q < sP τ := hq
    rw [pcRw_cg (σ := τ) (σ' := tComes τ p y) (r := 2 + q) (by
      show va_up (va_up (sz τ) (22 + sR τ) (sz τ 0)) 0 0 (2 + q) = _
      rw [va_up_ne _ _ (by omega), va_up_ne _ _ (by omega)]) (fun i h1 h2 => cpF_o (by have := a2 (2 + q) (by omega); omega))]
    exact c4 q hq
  · show 0 < latN (va_up (sw τ) (sR τ) p) q (sR τ + 1)
    rw [latN, va_up_self]
    split
    · omega
    · rename_i c
      rw [lt q _ (Nat.le_refl _)]
      exact c5 q hq (fun z => c z.symm)
  · have hr' : r < sR τ + 1 := hr
    have hq' : q < va_up (sw τ) (sR τ) p r := hq
    show 0 < latN (va_up (sw τ) (sR τ) p) q r
    rw [lt q r (by omega)]
    rw [va_up_at] at hq'
    by_cases c : r = sR τ
    · rw [if_pos c] at hq'
      rw [c]
      exact c5 q (by omega) (by omega)
    · rw [if_neg c] at hq'
      exact c6 r (by omega) q hq'
theorem WF_change {p who : Int32} (w : WF σ) : WF (tChange σ p who) := by
  have hP := w.2.2.1.1
  have hR := w.2.2.1.2.1
  unfold tChange
  rcases ixI_c p (n := sP σ) (by omega) with ⟨e, _⟩ | ⟨q, hq, _, e⟩
  · rw [e]; exact w
  · rw [e]
    rcases ixI_c who (n := 100) (by decide) with ⟨e, _⟩ | ⟨y, hy, _, e⟩
    · rw [e]; exact w
    · rw [e]
      show WF (if trT σ = true then σ else if sR σ = 40 then σ else tComes σ q y)
      split
      · exact w
      · split
        · exact w
        · exact WF_comes w.1.1 w.1.2 w.2.1 hP (by omega) w.2.2.1.2.2.1 w.2.2.1.2.2.2.1 (fun q' h _ => w.2.2.1.2.2.2.2.1 q' h) w.2.2.1.2.2.2.2.2 hq (by omega) w.2.2.2.1 w.2.2.2.2
theorem WF_keep {v who : Int32} (w : WF σ) : WF (tKeep σ v who) := by
  have hS := w.2.1.1
  have hP := w.2.2.1.1
  have hR := w.2.2.1.2.1
  unfold tKeep
  rcases ixI_c v (n := sS σ) (by omega) with ⟨e, _⟩ | ⟨s, hs, _, e⟩
  · rw [e]; exact w
  · rw [e]
    rcases ixI_c who (n := 100) (by decide) with ⟨e, _⟩ | ⟨y, hy, _, e⟩
    · rw [e]; exact w
    · rw [e]
      show WF (if trB σ s = true ∨ trT σ = true then σ else if sP σ = 20 ∨ sR σ = 40 then σ else tComes (tSrc σ s) (sP σ) y)
      split
      · exact w
      · split
        · exact w
        · rename_i c
          have bn := w.2.1.2.1 s hs
          refine WF_comes (τ := tSrc σ s) (cpF_lt w.1.1) (fun r hr => ?_) ⟨hS, w.2.1.2.1, fun t ht => ?_⟩ (by show sP σ + 1 ≤ 20; omega) (by show sR σ < 40; omega) (fun r hr => ?_) (fun q hq => ?_) (fun q hq hn => ?_) w.2.2.1.2.2.2.2.2 (by show sP σ < sP σ + 1; omega) (by omega) w.2.2.2.1 w.2.2.2.2
          · show va_up (sz σ) (2 + sP σ) (sn σ s) r ≤ 600
            rw [va_up_at]
            split
            · omega
            · exact w.1.2 r hr
          · have ht' : t < sS σ := ht
            have bt := w.2.1.2.1 t ht'
            rw [(pcB_cg (σ := σ) (σ' := tSrc σ s) rfl rfl (fun i h1 h2 => cpF_o (by omega))).1]
            exact w.2.1.2.2 t ht'
          · have := w.2.2.1.2.2.1 r hr
            exact ⟨by show sw σ r < sP σ + 1; omega, this.2⟩
          · have hq' : q < sP σ + 1 := hq
            by_cases y : q = sP σ
            · rw [y]
              exact keep_len w s hs (by omega)
            · have e := pcRw_cg (σ := σ) (σ' := tSrc σ s) (r := 2 + q) (va_up_ne _ _ (by omega)) (fun i h1 h2 => cpF_o (by have := w.1.2 (2 + q) (by omega); omega))
              rw [e]
              exact w.2.2.1.2.2.2.1 q (by omega)
          · have hq' : q < sP σ + 1 := hq
            exact w.2.2.1.2.2.2.2.1 q (by omega)
theorem WF_undo (w : WF σ) : WF (tUndo σ) := by
  obtain ⟨w1, w2, ⟨c1, c2, c3, c4, c5, c6⟩, w4⟩ := w
  unfold tUndo
  split
  · exact ⟨w1, w2, ⟨c1, c2, c3, c4, c5, c6⟩, w4⟩
  · rename_i hR
    have q3 := c3 (sR σ - 1) (by omega)
    split
    · rename_i e0
      have last : sw σ (sR σ - 1) = sP σ - 1 := by
        by_cases y : sw σ (sR σ - 1) = sP σ - 1
        · exact y
        · have l1 := c5 (sP σ - 1) (by omega)
          have l2 := latN_w l1
          generalize latN (sw σ) (sP σ - 1) (sR σ) = t at *
          have t1 : t - 1 ≠ sR σ - 1 := fun z => by rw [z] at l2; exact y l2.1
          have l3 := c6 (t - 1) (by omega) (sw σ (sR σ - 1)) (by omega)
          have l4 := latN_w l3
          have := latN_pos (w := sw σ) (p := sw σ (sR σ - 1)) (t := sR σ - 1) (r := latN (sw σ) (sw σ (sR σ - 1)) (t - 1) - 1) (by omega) l4.1
          omega
      refine ⟨w1, w2, ⟨by show sP σ - 1 ≤ 20; omega, by show sR σ - 1 ≤ 40; omega, fun r hr => ?_, fun p hp => ?_, fun p hp => ?_, fun r hr p hp => ?_⟩, w4⟩
      · have hr' : r < sR σ - 1 := hr
        have := c3 r (by omega)
        refine ⟨?_, this.2⟩
        show sw σ r < sP σ - 1
        have n : sw σ r ≠ sP σ - 1 := fun z => by
          have := latN_pos (w := sw σ) (p := sw σ (sR σ - 1)) hr' (by rw [last]; exact z)
          omega
        omega
      · have hp' : p < sP σ - 1 := hp
        exact c4 p (by omega)
      · have hp' : p < sP σ - 1 := hp
        show 0 < latN (sw σ) p (sR σ - 1)
        have h := c5 p (by omega)
        rw [show sR σ = (sR σ - 1) + 1 by omega, latN_ne (by omega)] at h
        exact h
      · have hr' : r < sR σ - 1 := hr
        exact c6 r (by omega) p hp
    · rename_i e0
      refine ⟨w1, w2, ⟨c1, by show sR σ - 1 ≤ 40; omega, fun r hr => ?_, c4, fun p hp => ?_, fun r hr p hp => ?_⟩, w4⟩
      · have hr' : r < sR σ - 1 := hr
        exact c3 r (by omega)
      · show 0 < latN (sw σ) p (sR σ - 1)
        by_cases y : sw σ (sR σ - 1) = p
        · rw [← y]; omega
        · have h := c5 p hp
          rw [show sR σ = (sR σ - 1) + 1 by omega, latN_ne y] at h
          exact h
      · have hr' : r < sR σ - 1 := hr
        exact c6 r (by omega) p hp
end WFS
