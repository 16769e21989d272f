def liF (f : Nat → Nat) : List (Nat × Nat × Nat) → List (Nat × Nat × Nat) → Bool
  | x :: l, y :: m => lkP1 f x y && liF f l m
  | _, _ => true
def WfP (x : Nat × Nat × Nat) : Prop := x.1 ≤ 6 ∧ x.2.1 + x.2.2 ≤ 37200 ∧ x.2.1 < 37200
theorem PlR_PE {h : HP} {pl k : Nat} {L : List (Nat × Nat × Nat)} (P : PlR h pl L) (hpl : pl < 3) (hW : ∀ x ∈ L, WfP x) (hk : k < L.length) : PE h (600 * pl + k) L[k] := by
  have hw := hW L[k] (List.getElem_mem hk)
  have := P.2.1
  exact ⟨by omega, P.2.2 k L[k] (List.getElem?_eq_getElem hk), hw.1, hw.2.1⟩
section ML2
variable {h : HP} {f : Nat → Nat} {LA LB : List (Nat × Nat × Nat)} {K : Int32 → HP → Prop}
theorem m_like_lp (B : MBy h f) (PA : PlR h 0 LA) (PB : PlR h 1 LB) (WA : ∀ x ∈ LA, WfP x) (WB : ∀ x ∈ LB, WfP x) : ∀ (r k : Nat) (is : Bool), k + r = LA.length → (is = true → LA.length = LB.length) → K (b2I (is && liF f (LA.drop k) (LB.drop k))) h → Wp k_M_like 23 [some (.ref 338), some (.int (b2I is)), some (.int (nI k)), none, none] [] h (0, 0) (QI K)
  | 0, k, is, h1, hl, H => wb_M_like_23_ok (by
      have hM := B.1
      have pl := PA.2.1
      unfold wb_M_like_23
      simp only [i0, nLit]
      rw [mR_solid hM, nI_cl (n := 0) (by omega), PA.1]
      refine ⟨MSh_o hM, by decide, mL_solid hM (by omega), fun _ => ⟨b2I_01 is, ?_⟩, fun c => absurd ((le_I (by omega) (by omega)).mpr (by omega)) c⟩
      rw [List.drop_of_length_le (by omega : LA.length ≤ k)] at H
      simpa [liF] using H)
  | r + 1, k, is, h1, hl, H => wb_M_like_23_ok (by
      have hM := B.1
      have pl := PA.2.1
      have hk : k < LA.length := by omega
      unfold wb_M_like_23
      simp only [i0, i1, nLit, add_I]
      rw [mR_solid hM, mR_kind hM, nI_cl (n := 0) (by omega), nI_cl (n := 0 + k) (by omega), nI_cl (n := 600 + k) (by omega), PA.1]
      refine ⟨MSh_o hM, by decide, mL_solid hM (by omega), fun c => absurd ((le_I (by omega) (by omega)).mp c) (by omega), fun _ => ⟨fun c => ⟨b2I_01 is, ?_⟩, fun c => ?_⟩⟩
      · rw [b2I_0 c] at H ⊢
        exact H
      · have hi := b2I_1 c
        have hl2 := hl hi
        have hkB : k < LB.length := by omega
        have EA : PE h (0 + k) LA[k] := PlR_PE PA (by omega) WA hk
        have EB : PE h (600 + k) LB[k] := PlR_PE PB (by omega) WB hkB
        have wa := (WA LA[k] (List.getElem_mem hk))
        have wb := (WB LB[k] (List.getElem_mem hkB))
        rw [List.drop_eq_getElem_cons hk, List.drop_eq_getElem_cons hkB, hi] at H
        rw [EA.2.1.1, EB.2.1.1]
        have go : ∀ s : Bool, s = decide (LA[k].1 = LB[k].1) → wb_M_like_69 338 (nI k) (nI (0 + k)) (nI (600 + k)) (b2I s) h K := by
          intro s hs
          refine m_like_69 B EA EB wa.2.2 wb.2.2 (m_like_lp B PA PB WA WB r (k + 1) _ (by omega) (fun _ => hl2) ?_)
          have e : (s && wdP f LA[k] LB[k] && sgP f LA[k] LB[k]) = lkP1 f LA[k] LB[k] := by rw [hs]; rfl
          rw [e]
          exact H
        refine ⟨MSh_o hM, by decide, mL_kind hM (by omega), MSh_o hM, by decide, mL_kind hM (by omega), fun c2 => ?_, fun c2 => ?_⟩
        · rw [eq_I (by have := wa.1; omega) (by have := wb.1; omega)] at c2
          exact go false (by simp [c2])
        · rw [eq_I (by have := wa.1; omega) (by have := wb.1; omega)] at c2
          exact go true (by simp [c2]))
theorem m_like (B : MBy h f) (PA : PlR h 0 LA) (PB : PlR h 1 LB) (WA : ∀ x ∈ LA, WfP x) (WB : ∀ x ∈ LB, WfP x) (H : K (b2I (decide (LA.length = LB.length) && liF f LA LB)) h) : wq_M_like 338 h K := by
  have hM := B.1
  have pa := PA.2.1
  have pb := PB.2.1
  unfold wq_M_like
  simp only [i0, i1]
  rw [mR_solid hM, nI_cl (n := 0) (by omega), nI_cl (n := 1) (by omega), PA.1, PB.1]
  refine ⟨MSh_o hM, by decide, mL_solid hM (by omega), MSh_o hM, by decide, mL_solid hM (by omega), fun c => ?_, fun c => ?_⟩
  · rw [eq_I (by omega) (by omega)] at c
    exact m_like_lp B PA PB WA WB LA.length 0 false (by omega) (fun z => by cases z) (by simpa [c] using H)
  · rw [eq_I (by omega) (by omega)] at c
    exact m_like_lp B PA PB WA WB LA.length 0 true (by omega) (fun _ => c) (by simpa [c] using H)
end ML2
