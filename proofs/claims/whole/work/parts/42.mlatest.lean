/-- the latest of the first t renderings that is of pair p, and 1; 0: none -/
def latN (w : Nat → Nat) (p : Nat) : Nat → Nat
  | 0 => 0
  | t + 1 => if w t = p then t + 1 else latN w p t
/-- t less 1 -/
def tI : Nat → Int32
  | 0 => -nI 1
  | t + 1 => nI t
def MPO (h : HP) (w : Nat → Nat) (n : Nat) : Prop := n ≤ 40 ∧ ∀ r, r < n → gI h 352 r = nI (w r) ∧ w r < 20
theorem m_latest_lp {h : HP} {w : Nat → Nat} {n p : Nat} {K : Int32 → HP → Prop} (hM : MSh h) (W0 : MPO h w n) (hp : p < 1000) : ∀ t : Nat, t ≤ n → K (tI (latN w p t)) h → Wp k_M_latest 4 [some (.ref 338), some (.int (nI p)), none, some (.int (tI t))] [] h (0, 0) (QI K)
  | 0, _, H => wb_M_latest_4_ok (by
      unfold wb_M_latest_4
      exact ⟨fun _ => H, fun c => absurd (by decide) c⟩)
  | t + 1, h1, H => wb_M_latest_4_ok (by
      obtain ⟨w1, w2⟩ := id W0
      have hw := w2 t (by omega)
      unfold wb_M_latest_4
      show (nI t < 0 → K (nI t) h) ∧ _
      simp only [tI]
      rw [mR_pairOf hM, nI_cl (n := t) (by omega), hw.1]
      refine ⟨fun c => absurd c (nI_pos (by omega)), fun _ => ⟨MSh_o hM, by decide, mL_pairOf hM (by omega), fun c => ?_, fun c => ?_⟩⟩
      · rw [eq_I (by omega) (by omega)] at c
        simpa [latN, c, tI] using H
      · rw [eq_I (by omega) (by omega)] at c
        have e : nI t + (-1 : Int32) = tI t := by
          cases t with
          | zero => rfl
          | succ t => exact pk_m1 t
        rw [e]
        exact m_latest_lp hM W0 hp t (by omega) (by simpa [latN, c] using H))
theorem m_latest {h : HP} {w : Nat → Nat} {n p t : Nat} {K : Int32 → HP → Prop} (hM : MSh h) (W0 : MPO h w n) (hp : p < 1000) (ht : t ≤ n) (H : K (tI (latN w p t)) h) : wq_M_latest 338 (nI p) (nI t) h K := by
  unfold wq_M_latest
  have e : nI t - (1 : Int32) = tI t := by
    cases t with
    | zero => rfl
    | succ t => exact nI_pred t
  rw [e]
  exact m_latest_lp hM W0 hp t ht H
