/-- k bytes from a on, laid into row t -/
def cpF (f : Nat → Nat) (a t k : Nat) : Nat → Nat := fun i => if 600 * t ≤ i ∧ i < 600 * t + k then f (a + (i - 600 * t)) else f i
/-- what copy has done -/
def CP (h h' : HP) (f : Nat → Nat) (a n t : Nat) : Prop := h'.2 = h.2 ∧ (∀ q, q ≠ 339 → q ≠ 340 → gI h' q = gI h q) ∧ gI h' 340 = va_up (gI h 340) t (nI n) ∧ MBy h' (cpF f a t n)
theorem m_copy_lp {h0 : HP} {f : Nat → Nat} {a n t : Nat} {K : HP → Prop} (ht : t < 62) (hn : n ≤ 600) (ha : a + n ≤ 37200) (hd : a + n ≤ 600 * t ∨ 600 * t + 600 ≤ a) (H : ∀ h', CP h0 h' f a n t → K h') : ∀ (r k : Nat) (h : HP), k + r = n → MBy h (cpF f a t k) → h.2 = h0.2 → (∀ q, q ≠ 339 → gI h q = gI h0 q) → Wp k_M_copy 3 [some (.ref 338), some (.int (nI a)), some (.int (nI n)), some (.int (nI t)), some (.int (nI k))] [] h (0, 0) (QV K)
  | 0, k, h, h1, B, e2, eI => wb_M_copy_3_ok (by
      have hM := B.1
      have hk : k = n := by omega
      subst hk
      unfold wb_M_copy_3
      rw [mR_size hM, nI_cl (n := t) (by omega)]
      refine ⟨fun _ => ⟨MSh_o hM, by decide, mA_size hM ht, fun h9 e9 => H h9 ?_⟩, fun c => absurd ((le_I (by omega) (by omega)).mpr (by omega)) c⟩
      subst e9
      refine ⟨e2, fun q q1 q2 => by rw [gI_stI_o _ _ _ _ q2]; exact eI q q1, by rw [gI_stI_s, eI 340 (by decide)], B.1, fun i hi => by rw [gI_stI_o _ _ _ _ (by decide)]; exact B.2.1 i hi, B.2.2⟩)
  | r + 1, k, h, h1, B, e2, eI => wb_M_copy_3_ok (by
      have hM := B.1
      unfold wb_M_copy_3
      simp only [i1, nLit, mul_I, add_I]
      rw [mR_bytes hM, nI_cl (n := a + k) (by omega), nI_cl (n := 600 * t + k) (by omega)]
      refine ⟨fun c => absurd ((le_I (by omega) (by omega)).mp c) (by omega), fun _ => ⟨MSh_o hM, by decide, MSh_o hM, by decide, mL_bytes hM (by omega), mA_bytes hM (by omega), fun h9 e9 => ?_⟩⟩
      subst e9
      refine m_copy_lp ht hn ha hd H r (k + 1) _ (by omega) ⟨hM, fun i hi => ?_, fun i => ?_⟩ e2 (fun q q1 => by rw [gI_stI_o _ _ _ _ q1]; exact eI q q1)
      · rw [gI_stI]
        by_cases z : i = 600 * t + k
        · rw [if_pos ⟨rfl, z⟩, B.2.1 _ (by omega)]
          subst z
          have w1 : cpF f a t k (a + k) = f (a + k) := by unfold cpF; rw [if_neg (by omega)]
          have w2 : cpF f a t (k + 1) (600 * t + k) = f (a + k) := by unfold cpF; rw [if_pos (by omega), show 600 * t + k - 600 * t = k by omega]
          rw [w1, w2]
        · rw [if_neg (fun q => z q.2), B.2.1 i hi]
          have w3 : cpF f a t (k + 1) i = cpF f a t k i := by
            unfold cpF
            by_cases y : 600 * t ≤ i ∧ i < 600 * t + k
            · rw [if_pos y, if_pos (by omega)]
            · rw [if_neg y, if_neg (by omega)]
          rw [w3]
      · have b0 : ∀ i, f i < 256 ∨ True := fun _ => Or.inr trivial
        have bi := B.2.2
        unfold cpF at bi ⊢
        split
        · rename_i y
          have := bi (a + (i - 600 * t))
          rw [if_neg (by omega)] at this
          exact this
        · rename_i y
          have := bi i
          rw [if_neg (by omega)] at this
          exact this)
theorem m_copy {h : HP} {f : Nat → Nat} {a n t : Nat} {K : HP → Prop} (B : MBy h f) (ht : t < 62) (hn : n ≤ 600) (ha : a + n ≤ 37200) (hd : a + n ≤ 600 * t ∨ 600 * t + 600 ≤ a) (H : ∀ h', CP h h' f a n t → K h') : wq_M_copy 338 (nI a) (nI n) (nI t) h K := by
  unfold wq_M_copy
  rw [i0]
  have e : cpF f a t 0 = f := by funext i; unfold cpF; rw [if_neg (by omega)]
  exact m_copy_lp ht hn ha hd H n 0 h (by omega) (by rw [e]; exact B) rfl (fun _ _ => rfl)
