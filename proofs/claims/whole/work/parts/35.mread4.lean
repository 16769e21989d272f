/-- the model's bytes are f -/
def MBy (h : HP) (f : Nat → Nat) : Prop := MSh h ∧ (∀ i, i < 37200 → gI h 339 i = nI (f i)) ∧ ∀ i, f i < 256
/-- what read(place, ..) has done -/
def RD (h h' : HP) (pl e : Nat) (L : List (Nat × Nat × Nat)) (cnt : Nat) : Prop :=
  h'.2 = h.2 ∧ (∀ a, a ≠ 338 → a ≠ 341 → a ≠ 342 → a ≠ 343 → a ≠ 344 → a ≠ 345 → gI h' a = gI h a) ∧ gI h' 338 = va_up (gI h 338) 8 (nI e) ∧ gI h' 344 = va_up (gI h 344) pl (nI cnt) ∧ gI h' 345 = va_up (gI h 345) pl (nI L.length) ∧
  (∀ i, (i < 600 * pl ∨ 600 * pl + L.length ≤ i) → gI h' 341 i = gI h 341 i ∧ gI h' 342 i = gI h 342 i ∧ gI h' 343 i = gI h 343 i) ∧
  ∀ (j : Nat) (x : Nat × Nat × Nat), L[j]? = some x → gI h' 341 (600 * pl + j) = nI x.1 ∧ gI h' 342 (600 * pl + j) = nI x.2.1 ∧ gI h' 343 (600 * pl + j) = nI x.2.2
theorem va_up_up {α : Type} (f : Nat → α) (k : Nat) (v w : α) : va_up (va_up f k v) k w = va_up f k w := bx_uu f k v w
theorem m_read {h : HP} {f : Nat → Nat} {pl bg mn pt : Nat} {bl : Bool} {K : HP → Prop} (B : MBy h f) (hpl : pl < 3) (hpt : pt < 256) (hb : bg + mn ≤ 37200) (hm : mn ≤ 600)
    (H : ∀ h', RD h h' pl (bg + mn) (pcs (atM f (bg + mn)) pt (bg + mn) bl 600 bg) (pct (atM f (bg + mn)) pt (bg + mn) 600 bg) → K h') : wq_M_read 338 (nI pl) (nI bg) (nI mn) (nI pt) (b2I bl) h K := by
  obtain ⟨hM, b2, b3⟩ := B
  unfold wq_M_read
  simp only [i0, add_I]
  refine ⟨MSh_o hM, fun h1 e1 => ?_⟩
  have M1 : MSh h1 := by rw [e1]; exact hM
  rw [mR_pieces M1]
  refine ⟨MSh_o M1, by decide, mA_pieces M1 hpl, fun h2 e2 => ?_⟩
  rw [nI_cl (by omega)] at e2
  have M2 : MSh h2 := by rw [e2]; exact M1
  have g8 : gI h2 338 = va_up (gI h 338) 8 (nI (bg + mn)) := by rw [e2, gI_stI_o _ _ _ _ (by decide), e1, gI_stI_s]
  have gO : ∀ a, a ≠ 338 → a ≠ 344 → gI h2 a = gI h a := fun a a1 a2 => by rw [e2, gI_stI_o _ _ _ _ a2, e1, gI_stI_o _ _ _ _ a1]
  have B2 : MB h2 f (bg + mn) := ⟨M2, fun i hi => by rw [gO 339 (by decide) (by decide)]; exact b2 i hi, b3, by rw [g8, va_up_self], hb⟩
  refine m_read_lp hpl hpt 600 bg 0 h2 B2 (by omega) (by omega) (by omega) (fun h' R => H _ ?_)
  obtain ⟨r1, r2, r3, r4, r5⟩ := R
  have s1 : (stI h' 345 pl (nI (0 + (pcs (atM f (bg + mn)) pt (bg + mn) bl 600 bg).length))).2 = h'.2 := rfl
  refine ⟨s1.trans (r1.trans (by rw [e2, e1]; rfl)), fun a a1 a2 a3 a4 a5 a6 => ?_, ?_, ?_, ?_, fun i hi => ?_, fun j x hj => ?_⟩
  · rw [gI_stI_o _ _ _ _ a6, r2 a a2 a3 a4 a5, gO a a1 a5]
  · rw [gI_stI_o _ _ _ _ (by decide), r2 338 (by decide) (by decide) (by decide) (by decide), g8]
  · rw [gI_stI_o _ _ _ _ (by decide), r3]
    have q : gI h2 344 = va_up (gI h 344) pl (nI 0) := by rw [e2, gI_stI_s, e1, gI_stI_o _ _ _ _ (by decide)]
    rw [q, va_up_self, va_up_up, add_I, Nat.zero_add]
  · rw [gI_stI_s, r2 345 (by decide) (by decide) (by decide) (by decide), gO 345 (by decide) (by decide), Nat.zero_add]
  · rw [gI_stI_o _ _ _ _ (by decide), gI_stI_o _ _ _ _ (by decide), gI_stI_o _ _ _ _ (by decide)]
    have := r4 i (by omega)
    rw [gO 341 (by decide) (by decide), gO 342 (by decide) (by decide), gO 343 (by decide) (by decide)] at this
    exact this
  · rw [gI_stI_o _ _ _ _ (by decide), gI_stI_o _ _ _ _ (by decide), gI_stI_o _ _ _ _ (by decide)]
    exact r5 j x hj
theorem m_pointOf {r : Nat} {h : HP} {K : Int32 → HP → Prop} (hr : r < 62) (H : K (nI (if 22 ≤ r ∨ r = 0 then 44 else 46)) h) : wq_M_pointOf (nI r) h K := by
  simp only [wq_M_pointOf, i0, nLit]
  simp (disch := omega) only [lt_I, le_I, eq_I]
  repeat' first
    | refine ⟨fun c => ?_, fun c => ?_⟩
    | fail
  all_goals first
    | (rwa [if_pos (by omega)] at H)
    | (rwa [if_neg (by omega)] at H)
