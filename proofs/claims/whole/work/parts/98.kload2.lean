/-! the class: load -/
def RwK (h : HP) (a o : Nat) (L : PcL) (b e cnt wd : Nat) : Prop := RwO h a o L ∧ gI h a 4 = nI b ∧ gI h a 5 = nI e ∧ gI h a 6 = nI cnt ∧ gI h a 8 = nI wd
def bgC (C : List Nat) (s : Nat) : Nat := if s = 0 then 0 else C.getD (s - 1) 0
theorem bgC_s (C : List Nat) (s : Nat) : bgC C (s + 1) = C.getD s 0 := by unfold bgC; rw [if_neg (by omega), Nat.add_sub_cancel]
def pcC (F : Nat → Nat) (C : List Nat) (s : Nat) : PcL := pcs (atM F (600 + C.getD s 0)) 46 (600 + C.getD s 0) false 600 (600 + bgC C s)
def ptC (F : Nat → Nat) (C : List Nat) (s : Nat) : Nat := pct (atM F (600 + C.getD s 0)) 46 (600 + C.getD s 0) 600 (600 + bgC C s)
def RwC (h : HP) (F : Nat → Nat) (C : List Nat) (s : Nat) : Prop := RwK h (9 + 4 * s) 600 (pcC F C s) (bgC C s) (C.getD s 0) (ptC F C s) (wct (pcC F C s))
def XR (a : Nat) : Prop := 9 ≤ a ∧ a ≤ 104
section KLE
variable {B : Nat → Nat} {σ : St} {h0 : HP}
theorem RwK_y {X : Nat → Prop} {Y : Nat → Nat → Prop} {h h' : HP} {a o b e cnt wd : Nat} {L : PcL} (G : AgY X Y h h') (hs : a + 3 < gS h) (hx : ∀ b, a ≤ b → b ≤ a + 3 → ¬ X b) (R : RwK h a o L b e cnt wd) : RwK h' a o L b e cnt wd := by
  obtain ⟨r1, r2, r3, r4, r5⟩ := R
  have g := (G.1 a (by omega) (hx a (Nat.le_refl a) (by omega))).1
  exact ⟨RwO_y G hs (hx _ (by omega) (by omega)) (hx _ (by omega) (by omega)) (hx _ (by omega) (by omega)) (hx _ (by omega) (by omega)) r1, by rw [g]; exact r2, by rw [g]; exact r3, by rw [g]; exact r4, by rw [g]; exact r5⟩
theorem EnO_at {h : HP} {C : List Nat} {i : Nat} (O : EnO h C) (hi : i < C.length) : gI h 8 i = nI (C.getD i 0) := by
  rw [List.getD_eq_getElem?_getD, List.getElem?_eq_getElem hi]
  exact O i _ (List.getElem?_eq_getElem hi)
theorem k_become_lp {F : Nat → Nat} {C : List Nat} {A z bc bs : Nat} {K : Int32 → HP → Prop} (S0 : KSh h0) (T0 : TxO h0 5 A F 600 z) (hA : isTA A) (E0 : EnO h0 C) (hC : C.length ≤ 24) (hm : ∀ s, s < C.length → bgC C s ≤ C.getD s 0) (hx : ∀ s, C.getD s 0 ≤ z) (hz : z ≤ 600) (hN : ∀ s, s < C.length → (pcC F C s).length ≤ 20) (H : ∀ h', AgY XR YN h0 h' → (∀ s, s < C.length → RwC h' F C s) → K (nI C.length) (stI h' 4 3 (nI C.length))) : ∀ (r s : Nat) (h : HP), s + r = C.length → AgY XR YN h0 h → (∀ t, t < s → RwC h F C t) → Wp k_Book_become 32 [some (.ref 4), none, none, some (.int (nI C.length)), some (.int (nI (bgC C s))), some (.int (nI s))] [] h (bc, bs) (QI K)
  | 0, s, h, h1, G, Q => wb_Book_become_32_ok (by
      have S := KSh_y G (fun _ _ z => z.elim) S0
      unfold wb_Book_become_32
      simp (disch := omega) only [i0, i1, nLit, mul_I, add_I, nI_cl, isO_stI, isA_stI, isL_stI, gR_stI, gJ_stI, gK_stI, gL_stI, gS_stI, true_and, and_true, forall_eq, implies_true, ps_339, kO_4 S, le_I]
      exact ⟨fun _ => H h G (fun t ht => Q t (by omega)), fun z => absurd (by omega) z⟩)
  | r + 1, s, h, h1, G, Q => wb_Book_become_32_ok (by
      have S := KSh_y G (fun _ _ z => z.elim) S0
      have hA' := hA
      unfold isTA at hA'
      have T := TxO_y G (by unfold XR; omega) (by unfold XR; omega) (fun z => z) T0
      have k := S.2.2.2.2.1 s (by omega)
      have s1 := k.2.1
      have e8 : gI h 8 s = nI (C.getD s 0) := by
        rw [(G.1 8 (by have := S0.1; omega) (by unfold XR; omega)).1]
        exact EnO_at E0 (by omega)
      have hms := hm s (by omega)
      have hxs := hx s
      have nt : ¬ RwX (9 + 4 * s) 5 := fun z => by unfold RwX at z; omega
      have nA : ¬ RwX (9 + 4 * s) A := fun z => by unfold RwX at z; omega
      unfold wb_Book_become_32
      simp (disch := omega) only [i0, i1, nLit, mul_I, add_I, nI_cl, isO_stI, isA_stI, isL_stI, gR_stI, gJ_stI, gK_stI, gL_stI, gS_stI, true_and, and_true, forall_eq, implies_true, ps_339, true_or, or_true, true_imp_iff, not_true_eq_false, not_false_eq_true, false_imp_iff, kO_1 S, kR_1_1 S, kO_4 S, kR_4_1 S, kS_7 S, kK_7 S, kN_7 S, kq_7 S, kv_24, ps_9, kR_4_0 S, kR_4_2 S, kA_8 S, kL_8 S, rS_o s1, e8, le_I]
      refine ⟨fun z => absurd z (by omega), fun _ => ?_⟩
      refine k_read s1 T hxs hms (by omega) ⟨by decide, by decide⟩ (by omega) nt nA (hN s (by omega)) (fun h2 A2 g2 R2 => ?_)
      have G2 : AgY (RwX (9 + 4 * s)) YN h h2 := Ag_YN A2 g2 k.2.2
      have S2 := KSh_y G2 (fun _ _ z => z.elim) S
      have e82 : gI h2 8 s = nI (C.getD s 0) := by
        rw [(G2.1 8 (by have := S.1; omega) (by unfold RwX; omega)).1]
        exact e8
      simp (disch := omega) only [i0, i1, nLit, mul_I, add_I, nI_cl, isO_stI, isA_stI, isL_stI, gR_stI, gJ_stI, gK_stI, gL_stI, gS_stI, true_and, and_true, forall_eq, implies_true, ps_339, kO_4 S2, kR_4_2 S2, kA_8 S2, kL_8 S2, e82]
      have go := k_become_lp (bc := bc) (bs := bs) S0 T0 hA E0 hC hm hx hz hN H r (s + 1) h2 (by omega) (AgY_tr G (AgY_mono G2 (fun a y => by unfold RwX at y; unfold XR; omega) (fun _ _ y => y))) (fun t ht => by
        by_cases y : t = s
        · rw [y]
          exact ⟨R2.2.1, R2.2.2.1, R2.2.2.2.1, R2.2.2.2.2.1, R2.2.2.2.2.2⟩
        · exact RwK_y G2 (by have := S.1; omega) (fun b b1 b2 => by unfold RwX; omega) (Q t (by omega)))
      rw [bgC_s] at go
      exact go)
theorem kc_load {h : HP} {K : Int32 → HP → Prop} (I : InvK B σ h) (w : WF σ) (hF : feL (sf σ) (sc σ) (sl σ) (sE σ) 600 (pcL σ) none 0 [] = if okL σ = true then some (ctL σ) else none) (hN : okL σ = true → ∀ s, s < (ctL σ).length → (pcC (cpF (sf σ) 0 1 (sz σ 0)) (ctL σ) s).length ≤ 20) (hm : ∀ s, s < (ctL σ).length → bgC (ctL σ) s ≤ (ctL σ).getD s 0) (hx : ∀ s, (ctL σ).getD s 0 ≤ sz σ 0) (H : ∀ h', (∃ B, InvK B (tLoad σ) h') → Fc h h' → K (aLoad σ) h') : wq_K_load 1 h K := by
  have S := I.1
  have hz := w.1.2 0 (by decide)
  have hP := w.2.2.1.1
  unfold aLoad tLoad at H
  unfold wq_K_load
  simp only [i0, i1, nLit, mul_I, add_I, nI_cl, isO_stI, isA_stI, isL_stI, gR_stI, gJ_stI, gK_stI, gL_stI, gS_stI, true_and, and_true, forall_eq, implies_true, ps_339, kO_1 S, kR_1_1 S, kR_1_0 S, kR_1_8 S, kO_4 S]
  unfold wq_Book_become
  simp only [i0, i1, nLit, mul_I, add_I, nI_cl, isO_stI, isA_stI, isL_stI, gR_stI, gJ_stI, gK_stI, gL_stI, gS_stI, true_and, and_true, forall_eq, implies_true, ps_339, kO_4 S]
  unfold wq_Book_findEnds
  have c8 : ∀ h', AgY (fun b => b = 8) YN h h' → InvK B σ h' := fun h' A => InvK_q (AgY_mono A X8_q (fun _ _ z => z.elim)) (KnO_y A (by decide) S.1 I.2.2.2.2.2.1) I w
  refine k_find_lp I w _ (fun e h1 A => ?_) (fun C e h1 A O => ?_) 600 600 0 none 0 [] h (Nat.zero_le _) (by omega) (Nat.le_refl _) (by omega) (by simp) (AgY_rf _ _ h) (fun i x hx => absurd hx (by simp)) (fun x hx => by cases hx) rfl
  · have ok : okL σ = false := by
      have e' := hF.symm.trans e
      cases q : okL σ with
      | false => rfl
      | true => rw [q, if_pos rfl] at e'; cases e'
    rw [ok] at H
    have e5 : ¬ (0 : Int32) ≤ -nI 5 := by decide
    have e5' : -nI 5 < (0 : Int32) := by decide
    exact ⟨fun z => absurd z e5, fun _ => ⟨fun _ => H h1 ⟨B, c8 h1 A⟩ (AgY_mono A (fun a z => by rw [z]; omega) (fun _ _ z => z.elim)), fun z => absurd e5' z⟩⟩
  · have ok : okL σ = true ∧ C = ctL σ := by
      have e' := hF.symm.trans e
      cases q : okL σ with
      | false => rw [q, if_neg (by decide)] at e'; cases e'
      | true => rw [q, if_pos rfl] at e'; injection e' with e'; exact ⟨rfl, e'.symm⟩
    obtain ⟨ok, eC⟩ := ok
    rw [if_pos ok, if_pos ok] at H
    have hN' := hN ok
    have hC24 : (ctL σ).length ≤ 24 := by
      unfold okL at ok
      rw [Bool.and_eq_true] at ok
      exact of_decide_eq_true ok.1
    rw [← eC] at H hN' hm hx hC24
    have I1 := c8 h1 A
    have S1 := I1.1
    have T1 := IK_1 I1
    have T0 := IK_0 I1
    have ta := I1.2.1.2.2.2.1
    have t0' := ta 0 (by decide)
    have t1' := ta 1 (by decide)
    have t1'' := t1'
    unfold isTA at t0' t1''
    have n0 : (0 : Int32) ≤ nI C.length := (le_I (a := 0) (by omega) (by omega)).mpr (Nat.zero_le _)
    have n0' : ¬ nI C.length < (0 : Int32) := fun z => absurd ((lt_I (b := 0) (by omega) (by omega)).mp z) (by omega)
    refine ⟨fun _ => ?_, fun z => absurd n0 z⟩
    simp (disch := omega) only [i0, i1, nLit, mul_I, add_I, nI_cl, isO_stI, isA_stI, isL_stI, gR_stI, gJ_stI, gK_stI, gL_stI, gS_stI, true_and, and_true, forall_eq, implies_true, ps_339, kO_4 S1, kR_4_0 S1, tx_o T0, tx_o T1, T0.2.2.2.1]
    refine k_take (b := 0) T1.1 T1.2.1 T1.2.2.1 T1.2.2.2.2.1.2 T0 (Nat.zero_le _) (Nat.le_refl _) (by omega) (by omega) (by decide) (by omega) (fun h2 A' Tk => ?_)
    have Tk' : TkO h1 h2 (txA 1) (B 1) A' (fun i => sf σ (0 + 0 + i)) (sz σ 0) := Tk
    have yd : ∀ a k, YT 5 a k → Ydy a k := fun a k z => Or.inr ⟨by rw [z.1]; decide, z.2⟩
    have S2 := KSh_y Tk.2.1 yd S1
    have hg1 := S1.1
    have hg2 := S2.1
    have hcp : ∀ i, i < sz σ 0 → cpF (sf σ) 0 1 (sz σ 0) (600 * 1 + i) = sf σ (0 + 0 + i) := fun i hi => by rw [cpF_i hi, Nat.zero_add]
    have t2 := KTx_up (σ := σ) (F := cpF (sf σ) 0 1 (sz σ 0)) Tk' (by decide) (by decide) (cpF_lt w.1.1) (fun i hi => cpF_o (by omega)) hcp S1.1 w.1.2 I1.2.1
    have T2 : TxO h2 5 A' (cpF (sf σ) 0 1 (sz σ 0)) 600 (sz σ 0) := TkO_T Tk T1.1 (cpF_lt w.1.1) hcp
    have hA' : isTA A' := by
      rcases Tk.1 with q | q
      · rw [q.1]; exact t1'
      · unfold isTA; omega
    have O2 : EnO h2 C := fun i x hx => by
      rw [(Tk.2.1.1 8 (by omega) (fun z => by rcases z with z | z <;> omega)).1]
      exact O i x hx
    refine k_become_lp S2 T2 hA' O2 hC24 hm hx hz hN' (fun h3 G3 R3 => ?_) C.length 0 h2 (by omega) (AgY_rf _ _ h2) (fun t ht => absurd ht (by omega))
    refine ⟨fun z => absurd z n0', fun _ => ?_⟩
    have S3 := KSh_y G3 (fun _ _ z => z.elim) S2
    have hg3 := S3.1
    have G3' : AgY (fun a => a = 4 ∨ XR a) YN h2 (stI h3 4 3 (nI C.length)) := AgY_stI (AgY_mono G3 (fun a z => Or.inr z) (fun _ _ z => z)) (Or.inl rfl)
    have xr3 : ∀ a, (a = 4 ∨ XR a) → isTxt a = false ∧ ¬ isTA a := fun a z => by
      unfold XR at z
      refine ⟨isTxt_f (by omega) (by omega) (by omega) (by omega) (by omega), ?_⟩
      unfold isTA
      omega
    have t3 := KTx_y (σ' := setz (setf σ (cpF (sf σ) 0 1 (sz σ 0))) (va_up (sz σ) 1 (sz σ 0))) G3' xr3 (fun _ z => z.elim) rfl rfl t2
    have t4 := KTx_emp t3
    have T3 := t3.1 0 (by decide)
    have To : isO (stI h3 4 3 (nI C.length)) 2 7 := T3.1
    simp (disch := omega) only [i0, i1, nLit, mul_I, add_I, nI_cl, isO_stI, isA_stI, isL_stI, gR_stI, gJ_stI, gK_stI, gL_stI, gS_stI, true_and, and_true, forall_eq, implies_true, ps_339, kO_1 S3, kR_1_0 S3, kR_1_3 S3, kO_317 S3] at To ⊢
    refine ⟨To, ?_⟩
    unfold wq_Near_forgetAll
    simp (disch := omega) only [i0, i1, nLit, mul_I, add_I, nI_cl, isO_stI, isA_stI, isL_stI, gR_stI, gJ_stI, gK_stI, gL_stI, gS_stI, true_and, and_true, forall_eq, implies_true, ps_339, kO_317 S3, kR_317_0 S3]
    have m1 : (-1 : Int32) = -nI 1 := by decide
    rw [show (0 : Int32) = nI 0 from rfl] at *
    refine k_fill (N := 480) ⟨by decide, kS_318 S3, kK_318 S3, kN_318 S3⟩ (by decide) (fun h5 f1 f2 f3 => ?_)
    have G5 : AgY (fun a => a = 318) YN (stI (stI h3 4 3 (nI C.length)) 2 1 (nI 0)) h5 := h2_y f1 f2
    have S5 := KSh_y G5 (fun _ _ z => z.elim) S3
    have g4 : AgY (fun a => a = 2 ∨ a = 4 ∨ a = 318 ∨ XR a) YN h2 h5 := AgY_tr (AgY_mono (AgY_stI (X := fun a => a = 2 ∨ a = 4 ∨ XR a) (AgY_mono G3' (fun a z => Or.inr z) (fun _ _ z => z)) (Or.inl rfl)) (fun a z => by rcases z with z | z | z; exact Or.inl z; exact Or.inr (Or.inl z); exact Or.inr (Or.inr (Or.inr z))) (fun _ _ z => z)) (AgY_mono G5 (fun a z => Or.inr (Or.inr (Or.inl z))) (fun _ _ z => z))
    -- cells that stay from h1
    have xx : ∀ a, a < 362 → a ≠ 2 → a ≠ 4 → a ≠ 5 → a ≠ 318 → ¬ XR a → ¬ isTA a → gI h5 a = gI h1 a ∧ gJ h5 a = gJ h1 a := fun a ha a2 a4 a5 a3 ar at' => by
      have b1 := Tk.2.1.1 a (by omega) (fun z => by rcases z with z | z; exact a5 z; exact at' (by rw [z]; exact t1'))
      have b2 := g4.1 a (by omega) (fun z => by rcases z with z | z | z | z; exact a2 z; exact a4 z; exact a3 z; exact ar z)
      exact ⟨b2.1.trans b1.1, b2.2.trans b1.2⟩
    have GA : AgY (fun a => a = 2 ∨ a = 4 ∨ a = 5 ∨ a = B 1 ∨ a = 318 ∨ XR a) (YT 5) h1 h5 := AgY_tr (AgY_mono Tk.2.1 (fun a z => by rcases z with z | z; exact Or.inr (Or.inr (Or.inl z)); exact Or.inr (Or.inr (Or.inr (Or.inl z)))) (fun _ _ z => z)) (AgY_mono g4 (fun a z => by rcases z with z | z | z | z; exact Or.inl z; exact Or.inr (Or.inl z); exact Or.inr (Or.inr (Or.inr (Or.inr (Or.inl z)))); exact Or.inr (Or.inr (Or.inr (Or.inr (Or.inr z))))) (fun _ _ z => z.elim))
    have nx : ∀ a, a ≠ 2 → a ≠ 4 → a ≠ 5 → a ≠ 318 → ¬ XR a → ¬ isTA a → ¬ (a = 2 ∨ a = 4 ∨ a = 5 ∨ a = B 1 ∨ a = 318 ∨ XR a) := fun a a2 a4 a5 a3 ar at' z => by
      rcases z with z | z | z | z | z | z
      · exact a2 z
      · exact a4 z
      · exact a5 z
      · exact at' (by rw [z]; exact t1')
      · exact a3 z
      · exact ar z
    have nI' : ∀ a, 105 ≤ a → a ≤ 111 → ¬ XR a ∧ ¬ isTA a := fun a h1 h2 => ⟨by unfold XR; omega, by unfold isTA; omega⟩
    refine H h5 ⟨va_up B 1 A', S5, ?_, ?_, ?_, ?_, ?_, ?_⟩ ?_
    · exact KTx_y (σ' := setS (setz (setf σ (cpF (sf σ) 0 1 (sz σ 0))) (va_up (va_up (sz σ) 1 (sz σ 0)) 0 0)) C.length (bgF C (sb σ) C.length) (szF C (sn σ) C.length)) G5 (fun a z => by rw [z]; exact ⟨by decide, by unfold isTA; omega⟩) (fun _ z => z.elim) rfl rfl t4
    · refine ⟨?_, fun s hs => ?_⟩
      · rw [f2 4 (by decide), gI_stI_o _ _ _ _ (by decide), gI_stI, if_pos ⟨rfl, rfl⟩]
        rfl
      · have hs' : s < C.length := hs
        have eb : sb (setS (setz (setf σ (cpF (sf σ) 0 1 (sz σ 0))) (va_up (va_up (sz σ) 1 (sz σ 0)) 0 0)) C.length (bgF C (sb σ) C.length) (szF C (sn σ) C.length)) s = bgC C s := by
          show bgF C (sb σ) C.length s = _
          unfold bgF bgC
          rw [if_pos hs']
        have en : sn (setS (setz (setf σ (cpF (sf σ) 0 1 (sz σ 0))) (va_up (va_up (sz σ) 1 (sz σ 0)) 0 0)) C.length (bgF C (sb σ) C.length) (szF C (sn σ) C.length)) s = C.getD s 0 - bgC C s := by
          show szF C (sn σ) C.length s = _
          unfold szF bgC
          rw [if_pos hs']
        have hms := hm s hs'
        have hxs := hx s
        have R5 : RwC h5 (cpF (sf σ) 0 1 (sz σ 0)) C s := by
          have R3' := R3 s hs'
          have GG : AgY (fun a => a = 2 ∨ a = 4 ∨ a = 318) YN h3 h5 := AgY_tr (AgY_stI (AgY_stI (AgY_rf _ _ h3) (Or.inr (Or.inl rfl))) (Or.inl rfl)) (AgY_mono G5 (fun a z => Or.inr (Or.inr z)) (fun _ _ z => z))
          exact RwK_y GG (by omega) (fun b b1 b2 => by omega) R3'
        unfold pcB ctB
        rw [eb, en, show 600 + bgC C s + (C.getD s 0 - bgC C s) = 600 + C.getD s 0 by omega, show bgC C s + (C.getD s 0 - bgC C s) = C.getD s 0 by omega]
        refine ⟨⟨R5.1, R5.2.1, R5.2.2.1, R5.2.2.2.1, R5.2.2.2.2⟩, ?_⟩
        show C.getD s 0 ≤ va_up (va_up (sz σ) 1 (sz σ 0)) 0 0 1
        rw [va_up_ne _ _ (by decide), va_up_self]
        exact hxs
    · obtain ⟨m1, m2, m3, m4, m5⟩ := I1.2.2.2.1
      have q : ∀ a, 105 ≤ a → a ≤ 111 → gI h5 a = gI h1 a := fun a p1 p2 => (xx a (by omega) (by omega) (by omega) (by omega) (by omega) (nI' a p1 p2).1 (nI' a p1 p2).2).1
      unfold MeO
      rw [q 105 (by decide) (by decide), q 110 (by decide) (by decide), q 111 (by decide) (by decide), q 108 (by decide) (by decide)]
      refine ⟨m1, m2, m3, m4, fun p hp => ?_⟩
      have hp' : p < sP σ := hp
      have e : pcRw (setS (setz (setf σ (cpF (sf σ) 0 1 (sz σ 0))) (va_up (va_up (sz σ) 1 (sz σ 0)) 0 0)) C.length (bgF C (sb σ) C.length) (szF C (sn σ) C.length)) (2 + p) = pcRw σ (2 + p) := by
        refine pcRw_cg ?_ (fun i h1 h2 => ?_)
        · show va_up (va_up (sz σ) 1 (sz σ 0)) 0 0 (2 + p) = _
          rw [va_up_ne _ _ (by omega), va_up_ne _ _ (by omega)]
        · show cpF (sf σ) 0 1 (sz σ 0) i = _
          exact cpF_o (by omega)
      rw [e]
      have ni : ∀ b, 114 + 6 * p ≤ b → b ≤ 114 + 6 * p + 3 → ¬ XR b ∧ ¬ isTA b := fun b b1 b2 => ⟨by unfold XR; omega, by unfold isTA; omega⟩
      have nn : ∀ b, 114 + 6 * p ≤ b → b ≤ 114 + 6 * p + 3 → ¬ (b = 2 ∨ b = 4 ∨ b = 5 ∨ b = B 1 ∨ b = 318 ∨ XR b) := fun b b1 b2 => nx b (by omega) (by omega) (by omega) (by omega) (ni b b1 b2).1 (ni b b1 b2).2
      exact RwO_y GA (by omega) (nn _ (by omega) (by omega)) (nn _ (by omega) (by omega)) (nn _ (by omega) (by omega)) (nn _ (by omega) (by omega)) (m5 p hp')
    · exact KWd_y GA (fun a a1 a2 => nx a (by omega) (by omega) (by omega) (by omega) (by unfold XR; omega) (by unfold isTA; omega)) (fun a a1 a2 z => by have := z.1; omega) rfl I1.2.2.2.2.1
    · intro p hp s hs
      have hp' : p < sP σ := hp
      have hs' : s < C.length := hs
      left
      rw [f3 _ (by omega)]
    · exact KSt_y GA S1.1 (fun a a1 a2 => nx a (by omega) (by omega) (by omega) (by omega) (by unfold XR; omega) (by unfold isTA; omega)) I1.2.2.2.2.2.2
    · refine AgY_tr (AgY_mono A (fun a z => by rw [z]; omega) (fun _ _ z => z.elim)) (AgY_mono GA (fun a z => ?_) (fun a k z => yd a k z))
      unfold XR at z
      rcases z with z | z | z | z | z | z
      · omega
      · omega
      · omega
      · rw [z]; omega
      · omega
      · omega
end KLE
