/-! the model's patch -/
def ptL (f g : Nat → Nat) (LA LB : PcL) : PcL → List Nat → (Nat → Bool) → Option (List Nat × (Nat → Bool))
  | [], o, sv => some (o, sv)
  | c :: l, o, sv => match pt1 f g LA LB c o sv with
    | none => none
    | some q => ptL f g LA LB l q.1 q.2
/-- all numbers served -/
def alS (sv : Nat → Bool) : PcL → Nat → Bool
  | [], _ => true
  | x :: l, k => (decide (¬ x.1 = 1) || sv k) && alS sv l (k + 1)
theorem nmB_len (f : Nat → Nat) (a : Nat) : ∀ r k, (nmB f a r k).length = r
  | 0, _ => rfl
  | r + 1, k => by rw [nmB, List.length_cons, nmB_len f a r]
theorem mkB_len {f g : Nat → Nat} {c : Nat × Nat × Nat} : ∀ {r k : Nat} {l : List Nat}, mkB f g c r k = some l → l.length = r
  | 0, _, l, h => by rw [mkB] at h; cases h; rfl
  | r + 1, k, l, h => by
    rw [mkB] at h
    split at h
    · split at h
      · cases h
      · cases e : mkB f g c r (k + 1) with
        | none => rw [e] at h; cases h
        | some m => rw [e, Option.map_some] at h; injection h with h; rw [← h, List.length_cons, mkB_len e]
    · cases e : mkB f g c r (k + 1) with
      | none => rw [e] at h; cases h
      | some m => rw [e, Option.map_some] at h; injection h with h; rw [← h, List.length_cons, mkB_len e]
theorem srv_lt {f : Nat → Nat} {LA : PcL} {sv : Nat → Bool} {c : Nat × Nat × Nat} : ∀ {r a b : Nat}, srv f LA sv c r a = some b → a ≤ b ∧ b < a + r
  | 0, a, b, h => by rw [srv] at h; cases h
  | r + 1, a, b, h => by
    rw [srv] at h
    split at h
    · injection h with h; omega
    · have := srv_lt h; omega
theorem pt1_len {f g : Nat → Nat} {LA LB : PcL} {c : Nat × Nat × Nat} {o : List Nat} {sv : Nat → Bool} {q : List Nat × (Nat → Bool)} (h : pt1 f g LA LB c o sv = some q) (hl : LA.length = LB.length) (hc : c.2.2 ≤ 600) (hB : ∀ y ∈ LB, y.2.2 ≤ 600) : q.1.length ≤ o.length + 600 := by
  unfold pt1 at h
  split at h
  · split at h
    · cases h
    · rename_i a ha
      have := srv_lt ha
      have hb : a < LB.length := by omega
      injection h with h
      rw [← h, getD_at hb]
      show (o ++ _).length ≤ _
      rw [List.length_append, nmB_len]
      have := hB _ (List.getElem_mem hb)
      omega
  · split at h
    · cases h
    · rename_i l hm
      injection h with h
      rw [← h]
      show (o ++ l).length ≤ _
      rw [List.length_append, mkB_len hm]
      omega
section MP4
variable {h0 : HP} {f g : Nat → Nat} {LA LB LC : PcL} {K : Int32 → HP → Prop}
theorem m_patch_81 (B0 : MBy h0 f) (PA : PlR h0 0 LA) (hA : LA.length ≤ 20) (H : ∀ h', Pst h0 h' LA.length [] (fun _ => false) → Wp k_M_patch 109 [some (.ref 338), none, none, none, some (.int (nI 0))] [] h' (0, 0) (QI K)) : ∀ (r k : Nat) (h : HP), k + r = LA.length → Pst h0 h k [] (fun _ => false) → Wp k_M_patch 81 [some (.ref 338), none, none, none, some (.int (nI k))] [] h (0, 0) (QI K)
  | 0, k, h, h1, S => wb_M_patch_81_ok (by
      have hM := (Pst_B S B0).1
      have PA' := Pst_P S PA
      unfold wb_M_patch_81
      simp (disch := omega) only [i0, i1, nLit, mul_I, add_I, nI_cl, isO_stI, isA_stI, isL_stI, gR_stI, gJ_stI, gK_stI, gL_stI, gS_stI, true_and, and_true, forall_eq, implies_true, ps_339, MSh_o hM, mR_solid hM, mL_solid hM, mA_solid hM, PA'.1, le_I]
      exact ⟨fun _ => H h (by rw [← h1]; exact S), fun z => absurd (by omega) z⟩)
  | r + 1, k, h, h1, S => wb_M_patch_81_ok (by
      have hM := (Pst_B S B0).1
      have PA' := Pst_P S PA
      unfold wb_M_patch_81
      simp (disch := omega) only [i0, i1, nLit, mul_I, add_I, nI_cl, isO_stI, isA_stI, isL_stI, gR_stI, gJ_stI, gK_stI, gL_stI, gS_stI, true_and, and_true, forall_eq, implies_true, ps_339, MSh_o hM, mR_solid hM, mL_solid hM, mA_solid hM, mR_served hM, mL_served hM, mA_served hM, PA'.1, le_I]
      refine ⟨fun z => absurd z (by omega), fun _ => m_patch_81 B0 PA hA H r (k + 1) _ (by omega) ?_⟩
      obtain ⟨s1, s2, s3, s4, s6⟩ := S
      refine ⟨s1, fun q a1 a2 a3 => by rw [gI_stI_o _ _ _ _ a2]; exact s2 q a1 a2 a3, s3, s4, fun i hi => ?_⟩
      rw [gI_stI_s]
      unfold va_up
      split
      · rfl
      · exact s6 i (by omega))
theorem m_patch_109 (B0 : MBy h0 f) (G0 : GtO h0 g) (PA : PlR h0 0 LA) (PB : PlR h0 1 LB) (PC : PlR h0 2 LC) (WA : ∀ x ∈ LA, WfP x) (WB : ∀ x ∈ LB, WfP x) (WC : ∀ x ∈ LC, WfP x) (DC : ∀ x ∈ LC, DgP f x) (L6 : ∀ x ∈ LC, x.2.2 ≤ 600) (L6b : ∀ x ∈ LB, x.2.2 ≤ 600) (hl : LA.length = LB.length) (hA : LA.length ≤ 20) (G : Option (List Nat × (Nat → Bool))) (H0 : G = none → ∀ h' o' sv', Pst h0 h' LA.length o' sv' → K (-nI 4) h')
    (H1 : ∀ q, G = some q → q.1.length < 700000 → ∀ h', Pst h0 h' LA.length q.1 q.2 → Wp k_M_patch 145 [some (.ref 338), none, none, none, some (.int (nI 0))] [] h' (0, 0) (QI K)) : ∀ (r k : Nat) (o : List Nat) (sv : Nat → Bool) (h : HP), k + r = LC.length → o.length ≤ 600 * k → Pst h0 h LA.length o sv → ptL f g LA LB (LC.drop k) o sv = G → Wp k_M_patch 109 [some (.ref 338), none, none, none, some (.int (nI k))] [] h (0, 0) (QI K)
  | 0, k, o, sv, h, h1, ho, S, e => wb_M_patch_109_ok (by
      have hM := (Pst_B S B0).1
      have PC' := Pst_P S PC
      have lc := PC.2.1
      rw [List.drop_of_length_le (by omega), ptL] at e
      unfold wb_M_patch_109
      simp (disch := omega) only [i0, i1, nLit, mul_I, add_I, nI_cl, isO_stI, isA_stI, isL_stI, gR_stI, gJ_stI, gK_stI, gL_stI, gS_stI, true_and, and_true, forall_eq, implies_true, ps_339, MSh_o hM, mR_solid hM, mL_solid hM, mA_solid hM, PC'.1, le_I]
      exact ⟨fun _ => H1 (o, sv) e.symm (by show o.length < 700000; omega) h S, fun z => absurd (by omega) z⟩)
  | r + 1, k, o, sv, h, h1, ho, S, e => wb_M_patch_109_ok (by
      have hM := (Pst_B S B0).1
      have PC' := Pst_P S PC
      have lc := PC.2.1
      have hk : k < LC.length := by omega
      have EC : PE h0 (1200 + k) LC[k] := PlR_PE PC (by decide) WC hk
      have l6 := L6 _ (List.getElem_mem hk)
      rw [List.drop_eq_getElem_cons hk, ptL] at e
      unfold wb_M_patch_109
      simp (disch := omega) only [i0, i1, nLit, mul_I, add_I, nI_cl, isO_stI, isA_stI, isL_stI, gR_stI, gJ_stI, gK_stI, gL_stI, gS_stI, true_and, and_true, forall_eq, implies_true, ps_339, MSh_o hM, mR_solid hM, mL_solid hM, mA_solid hM, PC'.1, le_I]
      refine ⟨fun z => absurd z (by omega), fun _ => m_patches B0 G0 PA PB EC (DC _ (List.getElem_mem hk)) l6 WA WB hl hA (by omega) S (fun e1 h' o' S' => ?_) (fun q e1 h' S' => ?_)⟩
      · refine ⟨fun z => absurd (by first | trivial | rfl) z, fun _ => H0 ?_ h' o' sv S'⟩
        rw [e1] at e
        exact e.symm
      · refine ⟨fun _ => m_patch_109 B0 G0 PA PB PC WA WB WC DC L6 L6b hl hA G H0 H1 r (k + 1) q.1 q.2 h' (by omega) ?_ S' ?_, fun z => absurd z (by decide)⟩
        · have := pt1_len e1 hl l6 L6b
          omega
        · rw [e1] at e
          exact e)
theorem m_patch_145 {o : List Nat} {sv : Nat → Bool} {h : HP} (B0 : MBy h0 f) (PA : PlR h0 0 LA) (WA : ∀ x ∈ LA, WfP x) (hA : LA.length ≤ 20) (ho : o.length < 700000) (S : Pst h0 h LA.length o sv) (H0 : alS sv LA 0 = false → K (-nI 4) h) (H1 : alS sv LA 0 = true → ¬ o.length ≤ 600 → K (-nI 5) h) (H2 : alS sv LA 0 = true → o.length ≤ 600 → Wp k_M_patch 204 [some (.ref 338), none, none, none, some (.int (nI 0))] [] h (0, 0) (QI K)) : ∀ (r k : Nat), k + r = LA.length → alS sv (LA.drop k) k = alS sv LA 0 → Wp k_M_patch 145 [some (.ref 338), none, none, none, some (.int (nI k))] [] h (0, 0) (QI K)
  | 0, k, h1, e => wb_M_patch_145_ok (by
      have hM := (Pst_B S B0).1
      have PA' := Pst_P S PA
      rw [List.drop_of_length_le (by omega), alS] at e
      unfold wb_M_patch_145
      simp (disch := omega) only [i0, i1, nLit, mul_I, add_I, nI_cl, isO_stI, isA_stI, isL_stI, gR_stI, gJ_stI, gK_stI, gL_stI, gS_stI, true_and, and_true, forall_eq, implies_true, ps_339, MSh_o hM, mR_solid hM, mL_solid hM, mA_solid hM, PA'.1, le_I, S.2.2.2.1.1]
      exact ⟨fun _ => ⟨fun c => H2 e.symm c, fun c => H1 e.symm c⟩, fun z => absurd (by omega) z⟩)
  | r + 1, k, h1, e => wb_M_patch_145_ok (by
      have hM := (Pst_B S B0).1
      have PA' := Pst_P S PA
      have hk : k < LA.length := by omega
      have EA : PE h (0 + k) LA[k] := PlR_PE PA' (by decide) WA hk
      obtain ⟨p1, ⟨p2, p3, p4⟩, p5, p6⟩ := EA
      rw [List.drop_eq_getElem_cons hk, alS] at e
      have go := m_patch_145 B0 PA WA hA ho S H0 H1 H2 r (k + 1) (by omega)
      unfold wb_M_patch_145
      simp (disch := omega) only [i0, i1, nLit, mul_I, add_I, nI_cl, isO_stI, isA_stI, isL_stI, gR_stI, gJ_stI, gK_stI, gL_stI, gS_stI, true_and, and_true, forall_eq, implies_true, ps_339, MSh_o hM, mR_solid hM, mL_solid hM, mA_solid hM, mR_kind hM, mL_kind hM, mA_kind hM, mR_served hM, mL_served hM, mA_served hM, PA'.1, le_I, p2, eq_I, S.2.2.2.2 k hk, b2I_eq0, Bool.not_eq_false]
      refine ⟨fun z => absurd z (by omega), fun _ => ⟨fun c => go ?_, fun c => ⟨fun c2 => go ?_, fun c2 => H0 ?_⟩⟩⟩
      · rw [← e]; simp [c]
      · rw [← e]; simp [c2]
      · rw [← e]; simp [c, c2])
end MP4
def laO (f : Nat → Nat) (o : List Nat) (k : Nat) : Nat → Nat := fun i => if i < k then o.getD i 0 else f i
section MP5
variable {σ : St} {K : Int32 → HP → Prop}
theorem OutO_lt {f : Nat → Nat} {o : List Nat} (ho : ∀ x ∈ o, x < 256) (hf : ∀ i, f i < 256) (k : Nat) : ∀ i, laO f o k i < 256 := fun i => by
  unfold laO
  split
  · rw [List.getD_eq_getElem?_getD]
    cases e : o[i]? with
    | none => exact (by decide : 0 < 256)
    | some x => exact ho x (List.mem_of_getElem? e)
  · exact hf i
theorem m_patch_204 {h0 : HP} {o : List Nat} (hol : o.length ≤ 600) (H : ∀ h', InvM (setz (setf σ (laO (sf σ) o o.length)) (va_up (sz σ) 0 o.length)) h' → Fo h0 h' → K (nI o.length) h') : ∀ (r k : Nat) (h : HP), k + r = o.length → Fo h0 h → OutO h o → InvM (setf σ (laO (sf σ) o k)) h → Wp k_M_patch 204 [some (.ref 338), none, none, none, some (.int (nI k))] [] h (0, 0) (QI K)
  | 0, k, h, h1, F, O, I => wb_M_patch_204_ok (by
      have hM := I.1
      have e32 := O.1
      unfold wb_M_patch_204
      simp (disch := omega) only [i0, i1, nLit, mul_I, add_I, nI_cl, isO_stI, isA_stI, isL_stI, gR_stI, gJ_stI, gK_stI, gL_stI, gS_stI, true_and, and_true, forall_eq, implies_true, ps_339, MSh_o hM, mR_size hM, mL_size hM, mA_size hM, e32, le_I]
      refine ⟨fun _ => ?_, fun z => absurd (by omega) z⟩
      rw [gI_stI_o _ _ _ _ (by decide), e32]
      have ek : k = o.length := by omega
      subst ek
      exact H _ (IM_z I) (Fo_st F (by omega)))
  | r + 1, k, h, h1, F, O, I => wb_M_patch_204_ok (by
      have hM := I.1
      have e32 := O.1
      have hk : k < o.length := by omega
      have ek := O.2 k o[k] (by omega) (List.getElem?_eq_getElem hk)
      unfold wb_M_patch_204
      simp (disch := omega) only [i0, i1, nLit, mul_I, add_I, nI_cl, isO_stI, isA_stI, isL_stI, gR_stI, gJ_stI, gK_stI, gL_stI, gS_stI, true_and, and_true, forall_eq, implies_true, ps_339, MSh_o hM, mR_out hM, mL_out hM, mA_out hM, mR_bytes hM, mL_bytes hM, mA_bytes hM, e32, ek, le_I]
      refine ⟨fun z => absurd z (by omega), fun _ => m_patch_204 hol H r (k + 1) _ (by omega) (Fo_st F (by omega)) ⟨O.1, O.2⟩ ?_⟩
      have I2 := IM_f (r := k) (v := o[k]) I
      have e : va_up (laO (sf σ) o k) k o[k] = laO (sf σ) o (k + 1) := by
        funext i
        unfold va_up laO
        by_cases z : i = k
        · rw [if_pos z, if_pos (by omega), z, List.getD_eq_getElem?_getD, List.getElem?_eq_getElem hk]
          rfl
        · rw [if_neg z]
          by_cases y : i < k
          · rw [if_pos y, if_pos (by omega)]
          · rw [if_neg y, if_neg (by omega)]
      have e2 : setf (setf σ (laO (sf σ) o k)) (va_up (sf (setf σ (laO (sf σ) o k))) k o[k]) = setf σ (laO (sf σ) o (k + 1)) := by rw [← e]; rfl
      rw [e2] at I2
      exact I2)
/-- pieces, BLANKS too, of a row of renderings -/
def pcA (σ : St) (r : Nat) : PcL := pcs (atM (sf σ) (600 * r + sz σ r)) 44 (600 * r + sz σ r) true 600 (600 * r)
/-- PATCHED: none if it FAILS -/
def patR (σ : St) (s q : Nat) : Option (List Nat) := if lkSP σ s q = true then (match mpF (sf σ) (pcRw σ (2 + q)) (pcB σ s) (fun _ => 0) with
  | none => none
  | some g => match ptL (sf σ) g (pcRw σ (2 + q)) (pcB σ s) (pcA σ (22 + ltR σ q)) [] (fun _ => false) with
    | none => none
    | some r => if alS r.2 (pcRw σ (2 + q)) 0 = true then some r.1 else none) else none
def aPatch (σ : St) (v p : Int32) : Int32 := match ixI v (sS σ) with
  | none => -nI 1
  | some s => match ixI p (sP σ) with
    | none => -nI 1
    | some q => match patR σ s q with
      | none => -nI 4
      | some o => if o.length ≤ 600 then nI o.length else -nI 5
def tPatch (σ : St) (v p : Int32) : St := match ixI v (sS σ) with
  | none => σ
  | some s => match ixI p (sP σ) with
    | none => σ
    | some q => match patR σ s q with
      | none => σ
      | some o => if o.length ≤ 600 then setz (setf σ (laO (sf σ) o o.length)) (va_up (sz σ) 0 o.length) else σ
theorem pcB_l6 (w : WF σ) {s : Nat} (hs : s < sS σ) : ∀ x ∈ pcB σ s, x.2.2 ≤ 600 := fun x hx => by
  have := pcs_in (atM_z (sf σ) _) _ _ x hx
  have := w.2.1.2.1 s hs
  omega
theorem pcA_l6 (w : WF σ) {r : Nat} (hr : r < 62) : ∀ x ∈ pcA σ r, x.2.2 ≤ 600 := fun x hx => by
  have := pcs_in (atM_z (sf σ) _) _ _ x hx
  have := w.1.2 r hr
  omega
theorem m_patch {h : HP} {v p : Int32} (I : InvM σ h) (w : WF σ) (H : ∀ h', InvM (tPatch σ v p) h' → Fo h h' → K (aPatch σ v p) h') : wq_M_patch 338 v p h K := by
  have hM := I.1
  have hS := w.2.1.1
  have hP := w.2.2.1.1
  have hR := w.2.2.1.2.1
  unfold aPatch tPatch at H
  unfold wq_M_patch
  refine ⟨MSh_o hM, m_isSegment I w ?_⟩
  simp only [i0, i1, nLit, mul_I, add_I, nI_cl, b2I_s]
  rcases ixI_c v (n := sS σ) (by omega) with ⟨e, c⟩ | ⟨s, hs, e, e2⟩
  · simp only [e] at H ⊢
    exact ⟨fun _ => H h I (Fo_rf h), fun z => absurd (by first | trivial | rfl) z⟩
  · simp only [e2] at H ⊢
    subst e
    refine ⟨fun z => absurd z (by simp), fun _ => ⟨MSh_o hM, m_isPair I w ?_⟩⟩
    simp only [b2I_s]
    rcases ixI_c p (n := sP σ) (by omega) with ⟨e, c⟩ | ⟨q, hq, e, e2⟩
    · simp only [e] at H ⊢
      exact ⟨fun z => absurd (by first | trivial | rfl) z, fun _ => H h I (Fo_rf h)⟩
    · simp only [e2] at H ⊢
      subst e
      have hlt := ltR_lt w hq
      have la := w.2.2.1.2.2.2.1 q hq
      have hz := w.1.2 (22 + ltR σ q) (by omega)
      refine ⟨fun _ => ⟨MSh_o hM, m_readBoth I w hs hq (fun h1 F1 _ PA PB => ?_)⟩, fun z => absurd z (by simp)⟩
      have I1 := InvM_m F1 I
      have hM1 := I1.1
      refine ⟨MSh_o hM1, MSh_o hM1, ?_⟩
      rw [I1.2.2.2.2.1.2.1]
      refine m_latest hM1 (IM_P I1 w) (by omega) (Nat.le_refl _) ?_
      rw [hlt.2]
      simp (disch := omega) only [tI, i0, i1, nLit, mul_I, add_I, nI_cl, isO_stI, isA_stI, isL_stI, gR_stI, gJ_stI, gK_stI, gL_stI, gS_stI, true_and, and_true, forall_eq, implies_true, ps_339, MSh_o hM1, mR_size hM1, mL_size hM1, mA_size hM1, I1.2.2.1]
      refine m_read (bl := true) (IM_B I1 w) (by decide) (by decide) (by omega) hz (fun h2 R2 => ?_)
      have F2 := Fm_tr F1 (RD_m R2)
      have I2 := InvM_m F2 I
      have lenC : (pcA σ (22 + ltR σ q)).length ≤ 600 := pcs_len _ _ _ _ _ _
      have PC2 : PlR h2 2 (pcA σ (22 + ltR σ q)) := RD_pl R2 lenC
      have PA2 : PlR h2 0 (pcRw σ (2 + q)) := RD_other R2 lenC (by decide) PA
      have PB2 : PlR h2 1 (pcB σ s) := RD_other R2 lenC (by decide) PB
      have WA := pcRw_Wf w (show 2 + q < 62 by omega)
      have WB := pcB_Wf w hs
      have WC : ∀ x ∈ pcA σ (22 + ltR σ q), WfP x := pcs_Wf (by omega)
      have no : patR σ s q = none → ∀ h', Fm h h' → K (-nI 4) h' := fun e h' F' => by
        simp only [e] at H
        exact H h' (InvM_m F' I) (Fm_o F')
      refine ⟨MSh_o I2.1, m_like (IM_B I2 w) PA2 PB2 WA WB ⟨fun c => ?_, fun c => ⟨MSh_o I2.1, ?_⟩⟩⟩
      · have c' : lkSP σ s q = false := b2I_0 c
        exact no (by simp [patR, c']) h2 F2
      have c' : lkSP σ s q = true := b2I_1 c
      have lk := c'
      unfold lkSP lkL at lk
      rw [Bool.and_eq_true] at lk
      have hl := of_decide_eq_true lk.1
      have DA : ∀ x ∈ pcRw σ (2 + q), DgP (sf σ) x := pcs_Dg _ _
      have DB : ∀ x ∈ pcB σ s, DgP (sf σ) x := pcs_Dg _ _
      refine m_maps_2 (IM_B I2 w) (fun h3 F3 G3 => ?_) 10 0 h2 (by omega) (FrX_rf _ h2) (fun d hd => absurd hd (by omega))
      refine m_maps_23 (IM_B I2 w) PA2 PB2 WA WB DA hl (lkL_k lk.2) DB _ (fun h4 F4 G4 => ?_) (pcRw σ (2 + q)).length 0 (fun _ => 0) h3 (by omega) F3 G3 rfl
      have F04 := Fm_tr F2 (FrX_m F4 (by decide))
      have I4 := InvM_m F04 I
      simp only [List.drop_zero] at G4 ⊢
      cases eg : mpF (sf σ) (pcRw σ (2 + q)) (pcB σ s) (fun _ => 0) with
      | none =>
        refine ⟨fun z => absurd (by first | trivial | rfl) z, fun _ => no ?_ h4 F04⟩
        simp [patR, c', eg]
      | some g =>
        refine ⟨fun _ => ⟨MSh_o I4.1, ?_⟩, fun z => absurd (show (nI 1 : Int32) = nI 0 from z) (by decide)⟩
        generalize e5 : stI h4 338 32 (nI 0) = h5
        have e5 := e5.symm
        have Gg := G4 g (by rw [eg])
        have F05 : Fm h h5 := by rw [e5]; exact Fm_s8 F04 (Or.inr rfl)
        have I5 := InvM_m F05 I
        have pl5 : ∀ {pl L}, PlR h2 pl L → PlR h5 pl L := fun P => by rw [e5]; exact (show PlR h4 _ _ from FrX_PlR F4 (by decide) (by decide) (by decide) (by decide) P)
        have G5 : GtO h5 g := by rw [e5]; exact Gg
        have S5 : Pst h5 h5 0 [] (fun _ => false) := ⟨rfl, fun _ _ _ _ => rfl, fun _ _ => rfl, ⟨by rw [e5]; rfl, fun i x _ hx => absurd hx (by simp)⟩, fun i hi => absurd hi (by omega)⟩
        have B5 := IM_B I5 w
        refine m_patch_81 B5 (pl5 PA2) la (fun h6 S6 => ?_) (pcRw σ (2 + q)).length 0 h5 (by omega) S5
        refine m_patch_109 B5 G5 (pl5 PA2) (pl5 PB2) (pl5 PC2) WA WB WC (pcs_Dg _ _) (pcA_l6 w (by omega)) (pcB_l6 w hs) hl la _ (fun eG h7 o7 sv7 S7 => ?_) (fun r eG hrl h7 S7 => ?_) (pcA σ (22 + ltR σ q)).length 0 [] _ h6 (by omega) (by simp) S6 rfl
        · simp only [List.drop_zero] at eG
          exact no (by simp [patR, c', eg, eG]) h7 (Fm_tr F05 (Pst_m S7))
        · simp only [List.drop_zero] at eG
          have F07 := Fm_tr F05 (Pst_m S7)
          have I7 := InvM_m F07 I
          have ys : alS r.2 (pcRw σ (2 + q)) 0 = true → patR σ s q = some r.1 := fun ha => by simp [patR, c', eg, eG, ha]
          refine m_patch_145 B5 (pl5 PA2) WA la hrl S7 (fun ha => no (by simp [patR, c', eg, eG, ha]) h7 F07) (fun ha hn => ?_) (fun ha hn => ?_) (pcRw σ (2 + q)).length 0 (by omega) rfl
          · simp only [ys ha, if_neg hn] at H
            exact H h7 I7 (Fm_o F07)
          · simp only [ys ha, if_pos hn] at H
            refine m_patch_204 hn H r.1.length 0 h7 (by omega) (Fm_o F07) S7.2.2.2.1 ?_
            have : laO (sf σ) r.1 0 = sf σ := by funext i; unfold laO; rw [if_neg (by omega)]
            rw [this]
            exact I7
end MP5
