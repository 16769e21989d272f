/-- place pl of the model holds the pieces L -/
def PlR (h : HP) (pl : Nat) (L : List (Nat × Nat × Nat)) : Prop := gI h 345 pl = nI L.length ∧ L.length ≤ 600 ∧ ∀ (j : Nat) (x : Nat × Nat × Nat), L[j]? = some x → gI h 341 (600 * pl + j) = nI x.1 ∧ gI h 342 (600 * pl + j) = nI x.2.1 ∧ gI h 343 (600 * pl + j) = nI x.2.2
theorem pcs_len (g : Nat → Nat) (pt e : Nat) (bl : Bool) : ∀ (k p : Nat), (pcs g pt e bl k p).length ≤ k
  | 0, _ => Nat.le_refl 0
  | k + 1, p => by
    have ih := pcs_len g pt e bl k (nxM g pt e p)
    unfold pcs
    split
    · split
      · omega
      · rw [List.length_cons]; omega
    · exact Nat.zero_le _
theorem RD_pl {h h' : HP} {pl e cnt : Nat} {L : List (Nat × Nat × Nat)} (R : RD h h' pl e L cnt) (hl : L.length ≤ 600) : PlR h' pl L := ⟨by rw [R.2.2.2.2.1, va_up_self], hl, R.2.2.2.2.2.2⟩
theorem RD_other {h h' : HP} {pl q e cnt : Nat} {L L' : List (Nat × Nat × Nat)} (R : RD h h' pl e L cnt) (hl : L.length ≤ 600) (hq : q ≠ pl) (P : PlR h q L') : PlR h' q L' := by
  obtain ⟨p1, p2, p3⟩ := P
  refine ⟨by rw [R.2.2.2.2.1, va_up_ne _ _ hq]; exact p1, p2, fun j x hj => ?_⟩
  have hjl := (List.getElem?_eq_some_iff.mp hj).1
  have := R.2.2.2.2.2.1 (600 * q + j) (by rcases Nat.lt_or_gt_of_ne hq with z | z <;> omega)
  rw [this.1, this.2.1, this.2.2]
  exact p3 j x hj
theorem RD_MBy {h h' : HP} {f : Nat → Nat} {pl e cnt : Nat} {L : List (Nat × Nat × Nat)} (R : RD h h' pl e L cnt) (B : MBy h f) : MBy h' f := by
  obtain ⟨b1, b2, b3⟩ := B
  obtain ⟨r1, r2, -⟩ := R
  refine ⟨?_, fun i hi => by rw [r2 339 (by decide) (by decide) (by decide) (by decide) (by decide) (by decide)]; exact b2 i hi, b3⟩
  unfold MSh at *
  have e1 : gS h' = gS h := congrArg (fun x => x.2.2.2.2) r1
  have e2 : gK h' = gK h := congrArg (fun x => x.2.2.1) r1
  have e3 : gR h' = gR h := congrArg (fun x => x.2.1) r1
  have e4 : gL h' = gL h := congrArg (fun x => x.2.2.2.1) r1
  rw [e1, e2, e3, e4]
  exact b1
/-- how many WORDS -/
def wct : List (Nat × Nat × Nat) → Nat
  | [] => 0
  | x :: l => wct l + (if x.1 = 0 then 1 else 0)
theorem m_wordsOf_lp {h : HP} {pl : Nat} {L : List (Nat × Nat × Nat)} {K : Int32 → HP → Prop} (hM : MSh h) (hpl : pl < 3) (P : PlR h pl L) (hk : ∀ x ∈ L, x.1 ≤ 6) : ∀ (k j a : Nat), j + k = L.length → K (nI (a + wct (L.drop j))) h → Wp k_M_wordsOf 4 [some (.ref 338), some (.int (nI pl)), some (.int (nI a)), some (.int (nI j))] [] h (0, 0) (QI K)
  | 0, j, a, h1, H => wb_M_wordsOf_4_ok (by
      obtain ⟨p1, p2, p3⟩ := P
      unfold wb_M_wordsOf_4
      rw [mR_solid hM, nI_cl (by omega), p1]
      refine ⟨MSh_o hM, by decide, mL_solid hM hpl, fun _ => ?_, fun c => absurd ((le_I (by omega) (by omega)).mpr (by omega)) c⟩
      rw [List.drop_of_length_le (by omega)] at H
      exact H)
  | k + 1, j, a, h1, H => wb_M_wordsOf_4_ok (by
      have hj : j < L.length := by omega
      obtain ⟨p1, p2, p3⟩ := id P
      have hx := p3 j L[j] (List.getElem?_eq_getElem hj)
      have h6 := hk L[j] (List.getElem_mem hj)
      rw [List.drop_eq_getElem_cons hj] at H
      unfold wb_M_wordsOf_4
      simp only [i0, i1, nLit, mul_I, add_I]
      rw [mR_solid hM, mR_kind hM, nI_cl (by omega), nI_cl (by omega), p1, hx.1]
      refine ⟨MSh_o hM, by decide, mL_solid hM hpl, fun c => absurd ((le_I (by omega) (by omega)).mp c) (by omega), fun _ => ⟨MSh_o hM, by decide, mL_kind hM (by omega), fun c => ?_, fun c => ?_⟩⟩
      · rw [eq_I (by omega) (by omega)] at c
        refine m_wordsOf_lp hM hpl P hk k (j + 1) (a + 0) (by omega) ?_
        simpa [wct, c] using H
      · rw [eq_I (by omega) (by omega)] at c
        refine m_wordsOf_lp hM hpl P hk k (j + 1) (a + 1) (by omega) ?_
        simp only [wct, c, if_true] at H
        rw [show a + 1 + wct (L.drop (j + 1)) = a + (wct (L.drop (j + 1)) + 1) by omega]
        exact H)
theorem m_wordsOf {h : HP} {pl : Nat} {L : List (Nat × Nat × Nat)} {K : Int32 → HP → Prop} (hM : MSh h) (hpl : pl < 3) (P : PlR h pl L) (hk : ∀ x ∈ L, x.1 ≤ 6) (H : K (nI (wct L)) h) : wq_M_wordsOf 338 (nI pl) h K := m_wordsOf_lp hM hpl P hk L.length 0 0 (by omega) (by rw [Nat.zero_add]; exact H)
