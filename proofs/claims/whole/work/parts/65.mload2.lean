section ML3
variable {σ : St} {K : Int32 → HP → Prop}
/-- pieces, BLANKS too, of the tape as a book -/
def pcL (σ : St) : PcL := pcs (atM (sf σ) (sz σ 0)) 46 (sz σ 0) true 600 0
/-- where the segments of the tape end -/
def ctL (σ : St) : List Nat := ctZ (ctI (sf σ) (sc σ) (sl σ) (sE σ) (pcL σ) (pcL σ).length 0) (sz σ 0)
def okL (σ : St) : Bool := decide ((ctL σ).length ≤ 24) && okC (pcL σ) (ctL σ) 0
def aLoad (σ : St) : Int32 := if okL σ = true then nI (ctL σ).length else -nI 5
def tLoad (σ : St) : St := if okL σ = true then setS (setz (setf σ (cpF (sf σ) 0 1 (sz σ 0))) (va_up (va_up (sz σ) 1 (sz σ 0)) 0 0)) (ctL σ).length (bgF (ctL σ) (sb σ) (ctL σ).length) (szF (ctL σ) (sn σ) (ctL σ).length) else σ
theorem va_up_at {α : Type} (f : Nat → α) (k : Nat) (v : α) (j : Nat) : va_up f k v j = if j = k then v else f j := rfl
theorem m_load_245 {τ : St} {h0 : HP} {C : List Nat} (hC : C.length ≤ 24) (hm : ∀ i, i + 1 < C.length → C.getD i 0 ≤ C.getD (i + 1) 0) (hx : ∀ i, C.getD i 0 ≤ 600) (H : ∀ h', InvM (setS τ (sS τ) (bgF C (sb τ) C.length) (szF C (sn τ) C.length)) h' → Fo h0 h' → K (nI (sS τ)) h') : ∀ (r k : Nat) (h : HP), k + r = C.length → Fo h0 h → CtO h C → InvM (setS τ (sS τ) (bgF C (sb τ) k) (szF C (sn τ) k)) h → Wp k_M_load 245 [some (.ref 338), none, some (.int (nI C.length)), none, some (.int (nI k)), none] [] h (0, 0) (QI K)
  | 0, k, h, h1, F, O, I => wb_M_load_245_ok (by
      have hM := I.1
      have e15 : gI h 338 15 = nI (sS τ) := I.2.2.2.1.1
      unfold wb_M_load_245
      simp (disch := omega) only [i0, i1, nLit, mul_I, add_I, nI_cl, isO_stI, isA_stI, isL_stI, gR_stI, gJ_stI, gK_stI, gL_stI, gS_stI, true_and, and_true, forall_eq, implies_true, ps_339, MSh_o hM, e15, le_I]
      have ek : k = C.length := by omega
      subst ek
      exact ⟨fun _ => H h I F, fun z => absurd (by omega) z⟩)
  | r + 1, k, h, h1, F, O, I => wb_M_load_245_ok (by
      have hM := I.1
      have hk : k < C.length := by omega
      have ek := CtO_at O hk
      have hxk := hx k
      have b275 : ∀ v, v = (if k = 0 then 0 else C.getD (k - 1) 0) → wb_M_load_275 338 (nI C.length) (nI k) (nI v) (nI k) 349 h K := fun v hv => by
        have hvk : v ≤ C.getD k 0 := by
          rw [hv]
          split
          · omega
          · have := hm (k - 1) (by omega)
            rwa [show k - 1 + 1 = k by omega] at this
        unfold wb_M_load_275
        simp (disch := omega) only [i0, i1, nLit, mul_I, add_I, nI_cl, isO_stI, isA_stI, isL_stI, gR_stI, gJ_stI, gK_stI, gL_stI, gS_stI, true_and, and_true, forall_eq, implies_true, ps_339, MSh_o hM, mR_begins hM, mL_begins hM, mA_begins hM, mR_sizes hM, mL_sizes hM, mA_sizes hM, mR_cutAt hM, mL_cutAt hM, mA_cutAt hM, gI_stI_o, ek]
        have e9 : gI (stI h 349 k (nI v)) 349 k = nI v := by rw [gI_stI, if_pos ⟨rfl, rfl⟩]
        rw [e9, sub_I hvk]
        refine m_load_245 hC hm hx H r (k + 1) _ (by omega) (Fo_st (Fo_st F (by omega)) (by omega)) (fun i x hi => O i x hi) ?_
        have I2 := IM_n (r := k) (v := C.getD k 0 - v) (IM_b (r := k) (v := v) I)
        have e1 : va_up (bgF C (sb τ) k) k v = bgF C (sb τ) (k + 1) := by
          funext j
          rw [va_up_at]
          unfold bgF
          by_cases z : j = k
          · rw [if_pos z, if_pos (by omega), hv, z]
          · rw [if_neg z]
            by_cases y : j < k
            · rw [if_pos y, if_pos (show j < k + 1 by omega)]
            · rw [if_neg y, if_neg (show ¬ j < k + 1 by omega)]
        have e2 : va_up (szF C (sn τ) k) k (C.getD k 0 - v) = szF C (sn τ) (k + 1) := by
          funext j
          rw [va_up_at]
          unfold szF
          by_cases z : j = k
          · rw [if_pos z, if_pos (by omega), hv, z]
          · rw [if_neg z]
            by_cases y : j < k
            · rw [if_pos y, if_pos (show j < k + 1 by omega)]
            · rw [if_neg y, if_neg (show ¬ j < k + 1 by omega)]
        rw [← e1, ← e2]
        exact I2
      unfold wb_M_load_245
      simp (disch := omega) only [i0, i1, nLit, mul_I, add_I, nI_cl, isO_stI, isA_stI, isL_stI, gR_stI, gJ_stI, gK_stI, gL_stI, gS_stI, true_and, and_true, forall_eq, implies_true, ps_339, MSh_o hM, mR_begins hM, mL_begins hM, mA_begins hM, le_I, eq_I]
      refine ⟨fun z => absurd z (by omega), fun _ => ⟨fun c0 => ?_, fun c0 => b275 0 (by rw [if_pos c0])⟩⟩
      have e1 := CtO_at O (show k - 1 < C.length by omega)
      rw [sub_I (by omega)]
      simp (disch := omega) only [i0, i1, nLit, mul_I, add_I, nI_cl, isO_stI, isA_stI, isL_stI, gR_stI, gJ_stI, gK_stI, gL_stI, gS_stI, true_and, and_true, forall_eq, implies_true, ps_339, MSh_o hM, mR_cutAt hM, mL_cutAt hM, mA_cutAt hM, e1]
      exact b275 _ (by rw [if_neg c0]))
theorem m_load_145 {h1 h : HP} {L : PcL} {C : List Nat} (F01 : Fo h1 h) (I : InvM σ h) (w : WF σ) (P : PlR h 0 L) (WL : ∀ x ∈ L, WfP x) (O : CtO h C) (hC : C.length ≤ 24) (hm : ∀ i, i + 1 < C.length → C.getD i 0 ≤ C.getD (i + 1) 0) (hx : ∀ i, C.getD i 0 ≤ 600) (H0 : okC L C 0 = false → K (-nI 5) h) (H1 : okC L C 0 = true → ∀ h', InvM (setS (setz (setf σ (cpF (sf σ) 0 1 (sz σ 0))) (va_up (va_up (sz σ) 1 (sz σ 0)) 0 0)) C.length (bgF C (sb σ) C.length) (szF C (sn σ) C.length)) h' → Fo h1 h' → K (nI C.length) h') :
    ∀ (r s a : Nat), s + r = C.length → a ≤ L.length → okC L (C.drop s) a = okC L C 0 → Wp k_M_load 145 [some (.ref 338), some (.int (nI L.length)), some (.int (nI C.length)), some (.int (nI a)), some (.int (nI s)), none] [] h (0, 0) (QI K)
  | 0, s, a, e1, ha, e => wb_M_load_145_ok (by
      have hM := I.1
      have hz := w.1.2 0 (by omega)
      rw [List.drop_of_length_le (by omega), okC] at e
      unfold wb_M_load_145
      simp (disch := omega) only [i0, i1, nLit, mul_I, add_I, nI_cl, isO_stI, isA_stI, isL_stI, gR_stI, gJ_stI, gK_stI, gL_stI, gS_stI, true_and, and_true, forall_eq, implies_true, ps_339, MSh_o hM, mR_size hM, mL_size hM, mA_size hM, I.2.2.1, le_I]
      refine ⟨fun _ => m_copy (IM_B I w) (by omega) hz (by omega) (by omega) (fun h2 C2 => ?_), fun z => absurd (by omega) z⟩
      have I2 := IM_cp C2 I
      have M2 := I2.1
      simp (disch := omega) only [i0, i1, nLit, mul_I, add_I, nI_cl, isO_stI, isA_stI, isL_stI, gR_stI, gJ_stI, gK_stI, gL_stI, gS_stI, true_and, and_true, forall_eq, implies_true, ps_339, MSh_o M2, mR_size M2, mL_size M2, mA_size M2]
      have I3 := IM_S1 (v := C.length) (IM_z (r := 0) (v := 0) I2)
      have O3 : CtO (stI (stI h2 340 0 (nI 0)) 338 15 (nI C.length)) C := fun i x hi => by
        show gI h2 351 i = nI x
        rw [C2.2.1 351 (by decide) (by decide)]
        exact O i x hi
      have z1 : ∀ τ : St, bgF C (sb τ) 0 = sb τ := fun τ => by funext j; unfold bgF; rw [if_neg (by omega)]
      have z2 : ∀ τ : St, szF C (sn τ) 0 = sn τ := fun τ => by funext j; unfold szF; rw [if_neg (by omega)]
      refine m_load_245 (τ := setS (setz (setf σ (cpF (sf σ) 0 1 (sz σ 0))) (va_up (va_up (sz σ) 1 (sz σ 0)) 0 0)) C.length (sb σ) (sn σ)) hC hm hx (H1 e.symm) C.length 0 _ (by omega) (Fo_st (Fo_st (Fo_tr F01 (CP_o C2)) (by omega)) (by omega)) O3 ?_
      rw [z1, z2]
      exact I3)
  | r + 1, s, a, e1, ha, e => wb_M_load_145_ok (by
      have hM := I.1
      have len := P.2.1
      have hs : s < C.length := by omega
      have ec := CtO_at O hs
      have hxs := hx s
      have ed : C.drop s = C.getD s 0 :: C.drop (s + 1) := by
        rw [List.drop_eq_getElem_cons hs, List.getD_eq_getElem?_getD, List.getElem?_eq_getElem hs]
        rfl
      rw [ed, okC] at e
      unfold wb_M_load_145
      simp (disch := omega) only [i0, i1, nLit, mul_I, add_I, nI_cl, le_I]
      refine ⟨fun z => absurd z (by omega), fun _ => ?_⟩
      have hle := cnL_le L (C.getD s 0) (L.length - a) a 0
      refine m_load_154 hM P WL (by omega) ec (by omega) (fun c0 => H0 ?_) (fun c0 => m_load_145 F01 I w P WL O hC hm hx H0 H1 r (s + 1) _ (by omega) (by omega) ?_) (L.length - a) a 0 (by omega) (by omega) rfl
      · rw [if_neg c0] at e; exact e.symm
      · rw [if_pos c0] at e; exact e)
theorem m_load {h : HP} (I : InvM σ h) (w : WF σ) (hm : ∀ i, i + 1 < (ctL σ).length → (ctL σ).getD i 0 ≤ (ctL σ).getD (i + 1) 0) (hx : ∀ i, (ctL σ).getD i 0 ≤ 600) (H : ∀ h', InvM (tLoad σ) h' → Fo h h' → K (aLoad σ) h') : wq_M_load 338 h K := by
  have hM := I.1
  have hz := w.1.2 0 (by omega)
  unfold aLoad tLoad at H
  unfold wq_M_load
  simp (disch := omega) only [i0, i1, nLit, mul_I, add_I, nI_cl, isO_stI, isA_stI, isL_stI, gR_stI, gJ_stI, gK_stI, gL_stI, gS_stI, true_and, and_true, forall_eq, implies_true, ps_339, MSh_o hM, mR_size hM, mL_size hM, mA_size hM, I.2.2.1]
  refine m_read (bl := true) (IM_B I w) (by decide) (by decide) (by omega) hz (fun h1 R1 => ?_)
  rw [Nat.zero_add] at R1
  have F1 := RD_m R1
  have I1 := InvM_m F1 I
  have M1 := I1.1
  have len : (pcL σ).length ≤ 600 := pcs_len _ _ _ _ _ _
  have P1 : PlR h1 0 (pcL σ) := RD_pl R1 len
  have WL : ∀ x ∈ pcL σ, WfP x := pcs_Wf (by omega)
  have hc6 : ∀ x ∈ pcL σ, x.2.1 + x.2.2 ≤ 600 := fun x hx => by have := pcs_in (atM_z (sf σ) _) _ _ x hx; omega
  simp (disch := omega) only [i0, i1, nLit, mul_I, add_I, nI_cl, isO_stI, isA_stI, isL_stI, gR_stI, gJ_stI, gK_stI, gL_stI, gS_stI, true_and, and_true, forall_eq, implies_true, ps_339, MSh_o M1, mR_solid M1, mL_solid M1, mA_solid M1, P1.1]
  refine m_load_26 (IM_B I1 w) (IM_W I1 w) P1 WL w.2.2.2.1.1 I1.2.2.2.2.2.1.1 hz (I1.2.2.1 0 (by omega)) hc6 (fun h2 F2 O2 l2 => ?_) (pcL σ).length 0 [] h1 (by omega) (by simp) (fun x hx => absurd hx (by simp)) (FrX_rf _ h1) (fun i x hx => absurd hx (by simp)) rfl
  have F02 := Fm_tr F1 (FrX_m F2 (by decide))
  have I2 := InvM_m F02 I
  have P2 := FrX_PlR F2 (by decide) (by decide) (by decide) (by decide) P1
  rw [← ctL] at O2 l2 ⊢
  unfold wb_M_load_131
  simp (disch := omega) only [i0, i1, nLit, mul_I, add_I, nI_cl, le_I]
  refine ⟨fun c0 => ?_, fun c0 => ?_⟩
  · refine m_load_145 (Fm_o F02) I2 w P2 WL O2 c0 hm hx (fun e => ?_) (fun e h' I' F' => ?_) (ctL σ).length 0 0 (by omega) (by omega) rfl
    · have ok : okL σ = false := by unfold okL; rw [e, Bool.and_false]
      simp only [ok, Bool.false_eq_true, if_false] at H
      exact H h2 I2 (Fm_o F02)
    · have ok : okL σ = true := by unfold okL; rw [e, Bool.and_true]; exact decide_eq_true c0
      simp only [ok, if_true] at H
      exact H h' I' F'
  · have ok : okL σ = false := by unfold okL; rw [decide_eq_false c0, Bool.false_and]
    simp only [ok, Bool.false_eq_true, if_false] at H
    exact H h2 I2 (Fm_o F02)
end ML3
