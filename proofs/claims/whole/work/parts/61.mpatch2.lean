/-- what is laid so far -/
def OutO (h : HP) (o : List Nat) : Prop := gI h 338 32 = nI o.length ∧ ∀ (i x : Nat), i < 600 → o[i]? = some x → gI h 361 i = nI x
/-- the patching so far: laid o, served sv -/
def Pst (h0 h : HP) (n : Nat) (o : List Nat) (sv : Nat → Bool) : Prop := h.2 = h0.2 ∧ (∀ a, a ≠ 338 → a ≠ 360 → a ≠ 361 → gI h a = gI h0 a) ∧ (∀ k, k ≠ 32 → gI h 338 k = gI h0 338 k) ∧ OutO h o ∧ ∀ i, i < n → gI h 360 i = b2I (sv i)
section PST
variable {h0 h : HP} {n : Nat} {o : List Nat} {sv : Nat → Bool} {f : Nat → Nat}
theorem Pst_B (S : Pst h0 h n o sv) (B : MBy h0 f) : MBy h f := ⟨MSh_2 S.1 B.1, fun i hi => by rw [S.2.1 339 (by decide) (by decide) (by decide)]; exact B.2.1 i hi, B.2.2⟩
theorem Pst_P {pl : Nat} {L : PcL} (S : Pst h0 h n o sv) (P : PlR h0 pl L) : PlR h pl L := by
  have g := S.2.1
  unfold PlR at *
  rw [g 345 (by decide) (by decide) (by decide), g 341 (by decide) (by decide) (by decide), g 342 (by decide) (by decide) (by decide), g 343 (by decide) (by decide) (by decide)]
  exact P
theorem Pst_G {g : Nat → Nat} (S : Pst h0 h n o sv) (G : GtO h0 g) : GtO h g := fun d hd => by
  rw [S.2.1 359 (by decide) (by decide) (by decide)]
  exact G d hd
theorem Pst_m (S : Pst h0 h n o sv) : Fm h0 h := ⟨S.1, fun a ha hb => S.2.1 a hb (fun z => by rw [z] at ha; exact absurd ha (by decide)) (fun z => by rw [z] at ha; exact absurd ha (by decide)), fun k _ hk => S.2.2.1 k hk⟩
theorem m_lay {c : Nat} {K : HP → Prop} (hM0 : MSh h0) (S : Pst h0 h n o sv) (ho : o.length < 1000000) (H : ∀ h', Pst h0 h' n (o ++ [c]) sv → K h') : wq_M_lay 338 (nI c) h K := by
  obtain ⟨s1, s2, s3, ⟨s4, s5⟩, s6⟩ := S
  have hM := MSh_2 s1 hM0
  unfold wq_M_lay
  simp (disch := omega) only [i0, i1, nLit, mul_I, add_I, nI_cl, isO_stI, isA_stI, isL_stI, gR_stI, gJ_stI, gK_stI, gL_stI, gS_stI, true_and, and_true, forall_eq, implies_true, ps_339, MSh_o hM, mR_out hM, mL_out hM, mA_out hM, s4, le_I]
  refine ⟨fun q => ?_, fun q => ?_⟩
  · refine H _ ⟨s1, fun a a1 a2 a3 => by rw [gI_stI_o _ _ _ _ a1]; exact s2 a a1 a2 a3, fun k hk => by rw [gI_stI, if_neg (by omega)]; exact s3 k hk, ⟨by rw [gI_stI, if_pos ⟨rfl, rfl⟩, List.length_append]; rfl, fun i x hi hx => ?_⟩, fun i hi => by rw [gI_stI_o _ _ _ _ (by decide)]; exact s6 i hi⟩
    rw [gI_stI_o _ _ _ _ (by decide)]
    rw [List.getElem?_append_left (by omega)] at hx
    exact s5 i x hi hx
  · refine ⟨mA_out hM (by omega), ?_⟩
    rw [gI_stI_o _ _ _ _ (by decide), s4, add_I]
    refine H _ ⟨s1, fun a a1 a2 a3 => by rw [gI_stI_o _ _ _ _ a1, gI_stI_o _ _ _ _ a3]; exact s2 a a1 a2 a3, fun k hk => by rw [gI_stI, if_neg (by omega), gI_stI_o _ _ _ _ (by decide)]; exact s3 k hk, ⟨by rw [gI_stI, if_pos ⟨rfl, rfl⟩, List.length_append]; rfl, fun i x hi hx => ?_⟩, fun i hi => by rw [gI_stI_o _ _ _ _ (by decide), gI_stI_o _ _ _ _ (by decide)]; exact s6 i hi⟩
    rw [gI_stI_o _ _ _ _ (by decide), gI_stI]
    by_cases z : i = o.length
    · rw [if_pos ⟨rfl, z⟩]
      rw [z, List.getElem?_append_right (Nat.le_refl _), Nat.sub_self] at hx
      cases hx
      rfl
    · rw [if_neg (fun y => z y.2)]
      have hl := (List.getElem?_eq_some_iff.mp hx).1
      rw [List.length_append, List.length_singleton] at hl
      rw [List.getElem?_append_left (by omega)] at hx
      exact s5 i x hi hx
end PST
/-- bytes of a number, in the other tongue -/
def nmB (f : Nat → Nat) (a : Nat) : Nat → Nat → List Nat
  | 0, _ => []
  | r + 1, k => ptB (f (a + k)) :: nmB f a r (k + 1)
/-- bytes of another piece, its digit going where it goes -/
def mkB (f g : Nat → Nat) (c : Nat × Nat × Nat) : Nat → Nat → Option (List Nat)
  | 0, _ => some []
  | r + 1, k => if isMk c = true ∧ c.2.1 + k = dgA c then (if g (f (dgA c) - 48) = 0 then none else (mkB f g c r (k + 1)).map (fun o => g (f (dgA c) - 48) :: o)) else (mkB f g c r (k + 1)).map (fun o => f (c.2.1 + k) :: o)
/-- the first number from a on, r of them, that serves -/
def srv (f : Nat → Nat) (LA : PcL) (sv : Nat → Bool) (c : Nat × Nat × Nat) : Nat → Nat → Option Nat
  | 0, _ => none
  | r + 1, a => if sv a = false ∧ rdN f (LA.getD a (0, 0, 0)) c = true then some a else srv f LA sv c r (a + 1)
def pt1 (f g : Nat → Nat) (LA LB : PcL) (c : Nat × Nat × Nat) (o : List Nat) (sv : Nat → Bool) : Option (List Nat × (Nat → Bool)) :=
  if c.1 = 1 then (match srv f LA sv c LA.length 0 with
    | none => none
    | some a => some (o ++ nmB f (LB.getD a (0, 0, 0)).2.1 (LB.getD a (0, 0, 0)).2.2 0, va_up sv a true))
  else (match mkB f g c c.2.2 0 with
    | none => none
    | some l => some (o ++ l, sv))
section MP2
variable {h0 : HP} {f g : Nat → Nat} {LA LB : PcL} {K : Int32 → HP → Prop}
theorem m_patches_69 {n a : Nat} {o0 : List Nat} {sv : Nat → Bool} {y : Nat × Nat × Nat} (B0 : MBy h0 f) (R0 : PE h0 (600 + a) y) (ho : o0.length + y.2.2 < 900000) (H : ∀ h', Pst h0 h' n (o0 ++ nmB f y.2.1 y.2.2 0) sv → K (nI 1) h') : ∀ (r k : Nat) (o : List Nat) (h : HP), k + r = y.2.2 → o.length + r < 900000 → Pst h0 h n o sv → o ++ nmB f y.2.1 r k = o0 ++ nmB f y.2.1 y.2.2 0 → Wp k_M_patches 69 [some (.ref 338), none, some (.int (nI a)), some (.int (nI k)), none] [] h (0, 0) (QI K)
  | 0, k, o, h, h1, hl, S, e => wb_M_patches_69_ok (by
      have hM := (Pst_B S B0).1
      obtain ⟨r1, ⟨r2, r3, r4⟩, r5, r6⟩ := R0
      have s43 : gI h 343 = gI h0 343 := S.2.1 343 (by decide) (by decide) (by decide)
      unfold wb_M_patches_69
      simp (disch := omega) only [i0, i1, nLit, mul_I, add_I, nI_cl, isO_stI, isA_stI, isL_stI, gR_stI, gJ_stI, gK_stI, gL_stI, gS_stI, true_and, and_true, forall_eq, implies_true, ps_339, MSh_o hM, mR_many hM, mL_many hM, mA_many hM, s43, r4, le_I]
      refine ⟨fun _ => H h ?_, fun z => absurd (by omega) z⟩
      rw [← e, nmB, List.append_nil]
      exact S)
  | r + 1, k, o, h, h1, hl, S, e => wb_M_patches_69_ok (by
      have B := Pst_B S B0
      have hM := B.1
      obtain ⟨r1, ⟨r2, r3, r4⟩, r5, r6⟩ := id R0
      have s43 : gI h 343 = gI h0 343 := S.2.1 343 (by decide) (by decide) (by decide)
      have s42 : gI h 342 = gI h0 342 := S.2.1 342 (by decide) (by decide) (by decide)
      have b1 := B.2.2 (y.2.1 + k)
      have go : ∀ c, c = ptB (f (y.2.1 + k)) → wq_M_lay 338 (nI c) h (fun h55 => Wp k_M_patches 69 [some (.ref 338), none, some (.int (nI a)), some (.int (nI (k + 1))), none] [] h55 (0, 0) (QI K)) := fun c hc => by
        refine m_lay B0.1 S (by omega) (fun h' S' => m_patches_69 B0 R0 ho H r (k + 1) _ h' (by omega) (by rw [List.length_append, List.length_singleton]; omega) S' ?_)
        rw [← e, hc, List.append_assoc]
        rfl
      unfold wb_M_patches_69
      simp (disch := omega) only [i0, i1, nLit, mul_I, add_I, nI_cl, isO_stI, isA_stI, isL_stI, gR_stI, gJ_stI, gK_stI, gL_stI, gS_stI, true_and, and_true, forall_eq, implies_true, ps_339, MSh_o hM, mR_many hM, mL_many hM, mA_many hM, mR_from hM, mL_from hM, mA_from hM, mR_bytes hM, mL_bytes hM, mA_bytes hM, s43, s42, r4, r3, B.2.1, le_I, eq_I]
      exact ⟨fun z => absurd z (by omega), fun _ => ⟨fun c => go _ (by rw [ptB, if_neg c]), fun c => go _ (by rw [ptB, if_pos c])⟩⟩)
theorem m_patches_48 {n a : Nat} {o : List Nat} {sv : Nat → Bool} {h : HP} (B0 : MBy h0 f) (PA : PlR h0 0 LA) (PB : PlR h0 1 LB) (WB : ∀ x ∈ LB, WfP x) (hl : LA.length = LB.length) (ha : a < LA.length) (hA : LA.length ≤ 20) (ho : o.length < 800000) (S : Pst h0 h LA.length o sv) (H : ∀ h', Pst h0 h' LA.length (o ++ nmB f (LB.getD a (0, 0, 0)).2.1 (LB.getD a (0, 0, 0)).2.2 0) (va_up sv a true) → K (nI 1) h') : wb_M_patches_48 338 (nI a) h K := by
  have hM := (Pst_B S B0).1
  have PA' := Pst_P S PA
  have hb : a < LB.length := by omega
  rw [getD_at hb] at H
  have wb := WB _ (List.getElem_mem hb)
  unfold wb_M_patches_48
  simp (disch := omega) only [i0, i1, nLit, mul_I, add_I, nI_cl, isO_stI, isA_stI, isL_stI, gR_stI, gJ_stI, gK_stI, gL_stI, gS_stI, true_and, and_true, forall_eq, implies_true, ps_339, MSh_o hM, mR_solid hM, mL_solid hM, mA_solid hM, mR_served hM, mL_served hM, mA_served hM, PA'.1, eq_I]
  refine ⟨fun _ => ?_, fun z => absurd z (by omega)⟩
  obtain ⟨s1, s2, s3, s4, s6⟩ := S
  have S' : Pst h0 (stI h 360 a (narB 102 (nI 1))) LA.length o (va_up sv a true) := ⟨s1, fun q a1 a2 a3 => by rw [gI_stI_o _ _ _ _ a2]; exact s2 q a1 a2 a3, s3, s4, fun i hi => by
    rw [gI_stI_s]
    unfold va_up
    split
    · rfl
    · exact s6 i hi⟩
  exact m_patches_69 B0 (by have := PlR_PE PB (by decide) WB hb; rwa [Nat.mul_one] at this) (by have := wb.2.1; omega) H _ 0 o _ (Nat.zero_add _) (by have := wb.2.1; omega) S' rfl
theorem m_patches_12 {j : Nat} {c : Nat × Nat × Nat} {o : List Nat} {sv : Nat → Bool} {h : HP} (B0 : MBy h0 f) (PA : PlR h0 0 LA) (PB : PlR h0 1 LB) (RC : PE h0 j c) (WA : ∀ x ∈ LA, WfP x) (WB : ∀ x ∈ LB, WfP x) (hl : LA.length = LB.length) (hA : LA.length ≤ 20) (ho : o.length < 800000) (S : Pst h0 h LA.length o sv)
    (H0 : srv f LA sv c LA.length 0 = none → K (nI 0) h) (H1 : ∀ a, srv f LA sv c LA.length 0 = some a → ∀ h', Pst h0 h' LA.length (o ++ nmB f (LB.getD a (0, 0, 0)).2.1 (LB.getD a (0, 0, 0)).2.2 0) (va_up sv a true) → K (nI 1) h') : ∀ (r a : Nat), a + r = LA.length → srv f LA sv c r a = srv f LA sv c LA.length 0 → Wp k_M_patches 12 [some (.ref 338), some (.int (nI j)), some (.int (nI a)), none, none] [] h (0, 0) (QI K)
  | 0, a, h1, e => wb_M_patches_12_ok (by
      have hM := (Pst_B S B0).1
      have PA' := Pst_P S PA
      have ea : a = LA.length := by omega
      unfold wb_M_patches_12 wb_M_patches_48
      simp (disch := omega) only [i0, i1, nLit, mul_I, add_I, nI_cl, isO_stI, isA_stI, isL_stI, gR_stI, gJ_stI, gK_stI, gL_stI, gS_stI, true_and, and_true, forall_eq, implies_true, ps_339, MSh_o hM, mR_solid hM, mL_solid hM, mA_solid hM, PA'.1, le_I, eq_I]
      exact ⟨fun _ => ⟨fun z => absurd ea z, fun _ => H0 e.symm⟩, fun z => absurd (by omega) z⟩)
  | r + 1, a, h1, e => wb_M_patches_12_ok (by
      have B := Pst_B S B0
      have hM := B.1
      have PA' := Pst_P S PA
      have ha : a < LA.length := by omega
      have EA : PE h (0 + a) (LA.getD a (0, 0, 0)) := by rw [getD_at ha]; exact PlR_PE PA' (by decide) WA ha
      have s41 : gI h 341 = gI h0 341 := S.2.1 341 (by decide) (by decide) (by decide)
      have s42 : gI h 342 = gI h0 342 := S.2.1 342 (by decide) (by decide) (by decide)
      have s43 : gI h 343 = gI h0 343 := S.2.1 343 (by decide) (by decide) (by decide)
      have EC : PE h j c := by unfold PE at *; rw [s41, s42, s43]; exact RC
      have nxt : ¬ (sv a = false ∧ rdN f (LA.getD a (0, 0, 0)) c = true) → Wp k_M_patches 12 [some (.ref 338), some (.int (nI j)), some (.int (nI (a + 1))), none, none] [] h (0, 0) (QI K) := fun hn => by
        refine m_patches_12 B0 PA PB RC WA WB hl hA ho S H0 H1 r (a + 1) (by omega) ?_
        rw [← e]
        show _ = if _ then _ else _
        rw [if_neg hn]
      unfold wb_M_patches_12
      simp (disch := omega) only [i0, i1, nLit, mul_I, add_I, nI_cl, isO_stI, isA_stI, isL_stI, gR_stI, gJ_stI, gK_stI, gL_stI, gS_stI, true_and, and_true, forall_eq, implies_true, ps_339, MSh_o hM, mR_solid hM, mL_solid hM, mA_solid hM, mR_served hM, mL_served hM, mA_served hM, PA'.1, le_I, S.2.2.2.2 a ha, b2I_eq0, Bool.not_eq_false]
      refine ⟨fun z => absurd z (by omega), fun _ => ⟨fun c1 => nxt (fun z => by rw [c1] at z; exact absurd z.1 (by decide)), fun c1 => m_reads B EA EC ⟨fun c2 => ?_, fun c2 => nxt (fun z => ?_)⟩⟩⟩
      · have c3 := b2I_1 c2
        refine m_patches_48 (n := 0) B0 PA PB WB hl ha hA ho S (H1 a ?_)
        rw [← e]
        show (if _ then _ else _) = _
        rw [if_pos ⟨c1, c3⟩]
      · have c3 := b2I_0 c2
        rw [c3] at z
        exact absurd z.2 (by decide))
end MP2
