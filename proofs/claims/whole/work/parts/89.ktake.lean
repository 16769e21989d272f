/-! the class: a text takes bytes of another one -/
section KTK
variable {h : HP} {t A u A2 o2 n2 b e : Nat} {f : Nat → Nat} {K : HP → Prop}
def YT (t a k : Nat) : Prop := a = t ∧ k = 0
/-- behind take: the row is A' -/
def TkO (h h' : HP) (t A A' : Nat) (g : Nat → Nat) (n : Nat) : Prop := ((A' = A ∧ n ≤ gL h A) ∨ (A' = gS h ∧ ¬ n ≤ gL h A)) ∧ AgY (fun a => a = t ∨ a = A) (YT t) h h' ∧ gR h' t 0 = A' ∧ (0 < A' ∧ A' < gS h' ∧ gK h' A' = 101) ∧ gI h' t 1 = nI n ∧ (n ≤ gL h' A' ∧ gL h' A' ≤ 1000) ∧ (A' = A → gL h' A' = gL h A) ∧ ∀ i, i < n → gI h' A' i = sgB (g i)
theorem k_take_50 {h0 : HP} {A' n bc bs : Nat} (ho : isO h t 7) (hr : gR h t 0 = A') (hA : 0 < A' ∧ A' < gS h ∧ gK h A' = 101) (hl : n ≤ gL h A' ∧ gL h A' ≤ 1000) (U : TxO h u A2 f o2 n2) (hb : b + n ≤ n2) (htA : t ≠ A') (H : ∀ h', h' = stI (stA h A' (va_cpy (gI h A2) (gI h A') b 0 n)) t 1 (nI n) → K h') : wb_Text_take_50 t u (nI b) (nI n) h bc bs K := by
  have un := tx_n U
  unfold wb_Text_take_50
  rw [U.2.1, hr, nI_cl (by omega), nI_cl (by omega)]
  have e0 : (0 : Int32).toNatClampNeg = 0 := by decide
  rw [e0]
  refine ⟨U.1, U.2.2.1.1, ho, hA.1, U.2.2.1, hA, ⟨nI_pos (by omega), by decide, nI_pos (by omega)⟩, ⟨by have := U.2.2.2.2.1.1; omega, by omega⟩, fun i hi => ?_, fun h20 e20 => ⟨by rw [e20]; exact ho, fun h21 e21 => H h21 (by rw [e21, e20])⟩⟩
  rw [U.2.2.2.2.2.1 (b + i) (by omega)]
  exact sgB_fit _
theorem k_take (ho : isO h t 7) (hr : gR h t 0 = A) (hA : 0 < A ∧ A < gS h ∧ gK h A = 101) (hl : gL h A ≤ 1000) (U : TxO h u A2 f o2 n2) (hb : b ≤ e) (he : e ≤ n2) (h6 : e - b ≤ 600) (htA : t ≠ A) (htu : t ≠ u) (htA2 : t ≠ A2) (H : ∀ h' A', TkO h h' t A A' (fun i => f (o2 + b + i)) (e - b) → K h') : wq_Text_take t u (nI b) (nI e) h K := by
  have un := tx_n U
  have e1 : 63 + (e - b) ≤ 663 := by omega
  have d1 : (e - b + 63) / 64 * 64 ≤ 640 ∧ e - b ≤ (e - b + 63) / 64 * 64 := by omega
  have e0 : ∀ n, va_cpy (gI h A2) (gI h n) b 0 (e - b) = fun i => if i < e - b then gI h A2 (b + i) else gI h n i := fun n => by
    funext i
    unfold va_cpy
    by_cases z : i < e - b
    · rw [if_pos ⟨Nat.zero_le _, by omega⟩, if_pos z, Nat.sub_zero]
    · rw [if_neg (by omega), if_neg z]
  unfold wq_Text_take
  simp only [nLit]
  rw [sub_I hb, hr, U.2.2.2.1, add_I, pk_div (by omega) (by omega) (by omega), mul_I, nI_cl (n := (e - b + 63) / 64 * 64) (by omega)]
  refine ⟨fun z => absurd z (nI_pos (by omega)), fun _ => ⟨fun z => absurd ((lt_I (by omega) (by omega)).mp z) (by omega), fun _ => ⟨U.1, fun _ => ⟨ho, hA.1, ⟨hA.2.1, by rw [hA.2.2]; decide, by rw [hA.2.2]; decide, fun z => by have := hA.1; omega⟩, fun c => ?_, fun c => ⟨by decide, nI_pos (by omega), by omega, Nat.le_refl 1, d1.1, fun h1 e1 => ?_⟩⟩, fun z => absurd ((le_I (by omega) (by omega)).mpr he) z⟩⟩⟩
  · have c' := (le_I (by omega) (by omega)).mp c
    refine k_take_50 (h0 := h) ho hr hA ⟨c', hl⟩ U (by omega) htA (fun h' e' => H h' A ⟨Or.inl ⟨rfl, c'⟩, ?_, ?_, ?_, ?_, ?_, ?_, fun i hi => ?_⟩)
    · rw [e']; exact AgY_stI (AgY_stA (AgY_rf _ _ h) (Or.inr rfl)) (Or.inl rfl)
    · rw [e']; exact hr
    · rw [e']; exact hA
    · rw [e', gI_stI, if_pos ⟨rfl, rfl⟩]
    · rw [e']; exact ⟨c', hl⟩
    · intro _; rw [e']; rfl
    · rw [e', gI_stI_o _ _ _ _ (Ne.symm htA)]
      show va_up (gI h) A _ A i = _
      rw [va_up_self, e0]
      show (if i < e - b then gI h A2 (b + i) else gI h A i) = sgB (f (o2 + b + i))
      rw [if_pos hi, U.2.2.2.2.2.1 (b + i) (by omega), Nat.add_assoc]
  · have c' : ¬ e - b ≤ gL h A := fun z => c ((le_I (by omega) (by omega)).mpr z)
    have Gn : AgY (fun a => a = t ∨ a = A) (YT t) h h1 := by rw [e1]; exact AgY_nw (AgY_rf _ _ h)
    have tlt := ho.2.1
    have o1 : isO h1 t 7 := isO_y Gn ho
    refine ⟨o1, by have := hA.1; have := hA.2.1; omega, fun h2 e2 => ?_⟩
    have G2 : AgY (fun a => a = t ∨ a = A) (YT t) h h2 := by rw [e2]; exact AgY_stR Gn ⟨rfl, rfl⟩
    have o2' : isO h2 t 7 := isO_y G2 ho
    have ne2 : A2 ≠ gS h := by have := U.2.2.1.2.1; omega
    have U2 : TxO h2 u A2 f o2 n2 := by
      have Gs : AgY (fun a => a = t) (YT t) h h2 := by rw [e2, e1]; exact AgY_stR (AgY_nw (AgY_rf _ _ h)) ⟨rfl, rfl⟩
      exact TxO_y Gs (Ne.symm htu) (Ne.symm htA2) (fun z => htu z.1.symm) U
    have r2 : gR h2 t 0 = gS h := by rw [e2, gR_stR, if_pos ⟨rfl, rfl⟩]
    have s2 : gS h2 = gS h + 1 := by rw [e2, e1]; rfl
    have k2 : gK h2 (gS h) = 101 := by rw [e2, e1]; exact va_up_self _ _ _
    have l2 : gL h2 (gS h) = (e - b + 63) / 64 * 64 := by rw [e2, e1]; exact va_up_self _ _ _
    have tne : t ≠ gS h := by omega
    refine k_take_50 (h0 := h) o2' r2 ⟨by omega, by omega, k2⟩ ⟨by rw [l2]; exact d1.2, by rw [l2]; omega⟩ U2 (by omega) tne (fun h' e' => H h' (gS h) ⟨Or.inr ⟨rfl, c'⟩, ?_, ?_, ?_, ?_, ?_, ?_, fun i hi => ?_⟩)
    · have : AgY (fun a => a = t ∨ a = A) (YT t) h (stA h2 (gS h) (va_cpy (gI h2 A2) (gI h2 (gS h)) b 0 (e - b))) := ⟨fun a ha hx => by
          have p := G2.1 a ha hx
          refine ⟨?_, p.2⟩
          show va_up (gI h2) (gS h) _ a = _
          rw [va_up_ne _ _ (by omega)]
          exact p.1, G2.2⟩
      rw [e']; exact AgY_stI this (Or.inl rfl)
    · rw [e']; exact r2
    · rw [e']; exact ⟨by omega, by show gS h < gS h2; omega, k2⟩
    · rw [e', gI_stI, if_pos ⟨rfl, rfl⟩]
    · rw [e']; exact ⟨by show _ ≤ gL h2 (gS h); rw [l2]; exact d1.2, by show gL h2 (gS h) ≤ _; rw [l2]; omega⟩
    · intro z; have := hA.2.1; omega
    · rw [e', gI_stI_o _ _ _ _ (Ne.symm tne)]
      show va_up (gI h2) (gS h) _ (gS h) i = _
      rw [va_up_self]
      unfold va_cpy
      rw [if_pos ⟨Nat.zero_le _, by omega⟩, Nat.sub_zero, U2.2.2.2.2.2.1 (b + i) (by omega)]
      show sgB (f (o2 + (b + i))) = sgB (f (o2 + b + i))
      rw [Nat.add_assoc]
theorem TkO_T {h' : HP} {A' : Nat} {g F : Nat → Nat} {n o : Nat} (T : TkO h h' t A A' g n) (ho : isO h t 7) (hF : ∀ i, F i < 256) (hg : ∀ i, i < n → F (o + i) = g i) : TxO h' t A' F o n := by
  obtain ⟨t1, t2, t3, t4, t5, t6, t7, t8⟩ := T
  exact ⟨isO_y t2 ho, t3, t4, t5, t6, fun i hi => by rw [hg i hi]; exact t8 i hi, hF⟩
end KTK
