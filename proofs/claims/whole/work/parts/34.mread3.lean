theorem kdM_le (g : Nat → Nat) (p : Nat) : kdM g p ≤ 6 := by
  unfold kdM
  have h := mkM_cases g p
  repeat' split
  all_goals omega
section MRL
variable {f : Nat → Nat} {pl pt e : Nat} {bl : Bool} {K : HP → Prop}
theorem m_read_end {h : HP} {n p : Nat} {l4 l5 : Int32} (B : MB h f e) (hpl : pl < 3) (hp : e ≤ p) (hp2 : p < 1000000) (H : K (stI h 345 pl (nI n))) : wb_M_read_20 338 (nI pl) l4 l5 (nI n) (nI p) h K := by
  have hM := B.1
  have he := B.2.2.2.2
  unfold wb_M_read_20
  rw [B.2.2.2.1, mR_solid hM]
  refine ⟨MSh_o hM, fun _ => ⟨MSh_o hM, by decide, mA_solid hM hpl, fun h9 e9 => ?_⟩, fun c => absurd ((le_I (by omega) (by omega)).mpr hp) c⟩
  rw [e9, nI_cl (by omega)]
  exact H
theorem m_read_226 {h : HP} {n p kd nx : Nat} {l5 : Int32} (B : MB h f e) (hpl : pl < 3) (hn : n < 600) (hp : p ≤ nx) (hx : nx < 1000000) (H : Wp k_M_read 20 [some (.ref 338), some (.int (nI pl)), none, none, some (.int (nI pt)), some (.int l5), some (.int (nI (n + 1))), some (.int (nI nx)), none, none, none] [] (put3 h (600 * pl + n) (kd, p, nx - p)) (0, 0) (QV K)) : wb_M_read_226 338 (nI pl) (nI pt) l5 (nI n) (nI p) (nI kd) (nI nx) h K := by
  have hM := B.1
  unfold wb_M_read_226
  simp only [i1, nLit, add_I, mul_I, sub_I hp]
  rw [mR_kind hM]
  refine ⟨MSh_o hM, by decide, mA_kind hM (by omega), fun h1 e1 => ?_⟩
  rw [nI_cl (by omega)] at e1
  have M1 : MSh h1 := by rw [e1]; exact hM
  rw [mR_from M1]
  refine ⟨MSh_o M1, by decide, mA_from M1 (by omega), fun h2 e2 => ?_⟩
  rw [nI_cl (by omega)] at e2
  have M2 : MSh h2 := by rw [e2]; exact M1
  rw [mR_many M2]
  refine ⟨MSh_o M2, by decide, mA_many M2 (by omega), fun h3 e3 => ?_⟩
  rw [nI_cl (by omega)] at e3
  rw [e3, e2, e1]
  exact H
theorem m_read_lp (hpl : pl < 3) (hpt : pt < 256) : ∀ (k p n : Nat) (h : HP), MB h f e → e ≤ p + k → p < 100000 → n + (e - p) ≤ 600 → (∀ h', Rd h h' pl n (pcs (atM f e) pt e bl k p) (pct (atM f e) pt e k p) → K (stI h' 345 pl (nI (n + (pcs (atM f e) pt e bl k p).length)))) →
    Wp k_M_read 20 [some (.ref 338), some (.int (nI pl)), none, none, some (.int (nI pt)), some (.int (b2I bl)), some (.int (nI n)), some (.int (nI p)), none, none, none] [] h (0, 0) (QV K)
  | 0, p, n, h, B, h1, h2, h3, H => wb_M_read_20_ok (m_read_end B hpl (by omega) (by omega) (H h (Rd_nil h pl n)))
  | k + 1, p, n, h, B, h1, h2, h3, H => by
    by_cases hp : p < e
    · have he := B.2.2.2.2
      have hg := nxM_gt (atM f e) pt e p
      have hM := B.1
      have B1 : MB (stI h 344 pl (gI h 344 pl + nI 1)) f e := MB_put B (by decide) (by decide)
      refine wb_M_read_20_ok (m_read_20 B hp hpt ?_)
      have ep : pct (atM f e) pt e (k + 1) p = pct (atM f e) pt e k (nxM (atM f e) pt e p) + 1 := by
        show (if p < e then _ else _) = _
        rw [if_pos hp]
      have go : ¬ (kdM (atM f e) p = 6 ∧ bl = false) → wb_M_read_226 338 (nI pl) (nI pt) (b2I bl) (nI n) (nI p) (nI (kdM (atM f e) p)) (nI (nxM (atM f e) pt e p)) (stI h 344 pl (gI h 344 pl + nI 1)) K := by
        intro hc
        have el : pcs (atM f e) pt e bl (k + 1) p = (kdM (atM f e) p, p, nxM (atM f e) pt e p - p) :: pcs (atM f e) pt e bl k (nxM (atM f e) pt e p) := by
          show (if p < e then _ else _) = _
          rw [if_pos hp, if_neg hc]
        refine m_read_226 B1 hpl (by omega) (by omega) (by omega) ?_
        refine m_read_lp hpl hpt k _ (n + 1) _ (MB_put (MB_put (MB_put B1 (by decide) (by decide)) (by decide) (by decide)) (by decide) (by decide)) (by omega) (by omega) (by omega) (fun h' R' => ?_)
        have := H h' (by rw [el, ep]; exact Rd_cons R')
        rw [el, List.length_cons, show ∀ a : Nat, n + (a + 1) = n + 1 + a from fun a => by omega] at this
        exact this
      unfold wb_M_read_204
      rw [mR_pieces hM]
      simp only [i0, i1, nLit]
      refine ⟨MSh_o hM, by decide, mL_pieces hM hpl, mA_pieces hM hpl, fun h1' e1 => ?_⟩
      rw [nI_cl (by omega)] at e1
      subst e1
      have hk6 : (nI (kdM (atM f e) p) = nI 6) ↔ kdM (atM f e) p = 6 := eq_I (by have := kdM_le (atM f e) p; omega) (by decide)
      refine ⟨fun c => go (fun z => c (hk6.mpr z.1)), fun c => ⟨fun c2 => ?_, fun c2 => go (fun z => ?_)⟩⟩
      · have hb := b2I_0 c2
        have el : pcs (atM f e) pt e bl (k + 1) p = pcs (atM f e) pt e bl k (nxM (atM f e) pt e p) := by
          show (if p < e then _ else _) = _
          rw [if_pos hp, if_pos ⟨hk6.mp c, hb⟩]
        refine m_read_lp hpl hpt k _ n _ B1 (by omega) (by omega) (by omega) (fun h' R' => ?_)
        have := H h' (by rw [el, ep]; exact Rd_skip R')
        rw [el] at this
        exact this
      · rw [z.2] at c2
        exact c2 rfl
    · have e1 : pcs (atM f e) pt e bl (k + 1) p = [] := by
        show (if p < e then _ else _) = _
        rw [if_neg hp]
      have e2 : pct (atM f e) pt e (k + 1) p = 0 := by
        show (if p < e then _ else _) = _
        rw [if_neg hp]
      rw [e1, e2] at H
      exact wb_M_read_20_ok (m_read_end B hpl (by omega) (by omega) (H h (Rd_nil h pl n)))
end MRL
