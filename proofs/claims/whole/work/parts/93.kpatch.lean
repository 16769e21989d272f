/-! the class: patching -/
def bB (f : Nat → Nat) : Nat → Nat → List Nat
  | 0, _ => []
  | r + 1, a => f a :: bB f r (a + 1)
theorem bB_app (f : Nat → Nat) : ∀ (r s a : Nat), bB f r a ++ bB f s (a + r) = bB f (r + s) a
  | 0, s, a => by rw [bB, List.nil_append, Nat.add_zero, Nat.zero_add]
  | r + 1, s, a => by
    rw [bB, List.cons_append, show a + (r + 1) = a + 1 + r by omega, bB_app f r s (a + 1), show r + 1 + s = (r + s) + 1 by omega, bB]
theorem bB_snoc (f : Nat → Nat) (r a : Nat) : bB f (r + 1) a = bB f r a ++ [f (a + r)] := by rw [← bB_app f r 1 a]; rfl
theorem mkB_pl {f g : Nat → Nat} {c : Nat × Nat × Nat} : ∀ {r k : Nat}, (∀ j, k ≤ j → j < k + r → ¬ (isMk c = true ∧ c.2.1 + j = dgA c)) → mkB f g c r k = some (bB f r (c.2.1 + k))
  | 0, _, _ => rfl
  | r + 1, k, h => by
    rw [mkB, if_neg (h k (Nat.le_refl k) (by omega)), mkB_pl (fun j h1 h2 => h j (by omega) (by omega))]
    rfl
theorem mkB_mk {f g : Nat → Nat} {c : Nat × Nat × Nat} (hm : isMk c = true) : ∀ {r k : Nat}, c.2.1 + k ≤ dgA c → dgA c < c.2.1 + k + r → mkB f g c r k = if g (f (dgA c) - 48) = 0 then none else some (bB f (dgA c - (c.2.1 + k)) (c.2.1 + k) ++ g (f (dgA c) - 48) :: bB f (c.2.1 + k + r - (dgA c + 1)) (dgA c + 1))
  | 0, k, h1, h2 => absurd h2 (by omega)
  | r + 1, k, h1, h2 => by
    rw [mkB]
    by_cases z : c.2.1 + k = dgA c
    · rw [if_pos ⟨hm, z⟩, mkB_pl (fun j p q y => by have := y.2; omega)]
      by_cases y : g (f (dgA c) - 48) = 0
      · rw [if_pos y, if_pos y]
      · rw [if_neg y, if_neg y, Option.map_some, show dgA c - (c.2.1 + k) = 0 by omega, bB, List.nil_append, show c.2.1 + (k + 1) = dgA c + 1 by omega, show c.2.1 + k + (r + 1) - (dgA c + 1) = r by omega]
    · rw [if_neg (fun y => z y.2), mkB_mk hm (r := r) (k := k + 1) (by omega) (by omega)]
      by_cases y : g (f (dgA c) - 48) = 0
      · rw [if_pos y, if_pos y]; rfl
      · rw [if_neg y, if_neg y, Option.map_some, show dgA c - (c.2.1 + k) = (dgA c - (c.2.1 + (k + 1))) + 1 by omega, bB, show c.2.1 + k + 1 = c.2.1 + (k + 1) by omega, show c.2.1 + (k + 1) + r = c.2.1 + k + (r + 1) by omega]
        rfl
def OutK (h : HP) (A : Nat) (o : List Nat) : Prop := gI h 320 1 = nI (min o.length 880) ∧ (∀ i x : Nat, i < 880 → o[i]? = some x → gI h A i = sgB x) ∧ ∀ x ∈ o, x < 256
def dI (n : Nat) : Int32 := if n = 0 then -nI 1 else nI (n - 48)
def XPt (A a : Nat) : Prop := a = 320 ∨ a = A ∨ a = 322 ∨ a = 323
/-- the patcher at work: laid o, served sv, digits g -/
def PtK (h0 h : HP) (A : Nat) (o : List Nat) (sv : Nat → Bool) (g : Nat → Nat) : Prop := h.2 = h0.2 ∧ (∀ a, ¬ XPt A a → gI h a = gI h0 a) ∧ OutK h A o ∧ (∀ i, i < 20 → gI h 323 i = b2I (sv i)) ∧ ∀ d, d < 10 → gI h 322 d = dI (g d) ∧ (g d = 0 ∨ (48 ≤ g d ∧ g d ≤ 57))
/-- a row lies apart from the patcher's cells -/
def PtF (A a t A' : Nat) : Prop := ∀ b, XPt A b → b ≠ a ∧ b ≠ a + 1 ∧ b ≠ a + 2 ∧ b ≠ a + 3 ∧ b ≠ t ∧ b ≠ A'
section KPT
variable {h0 h : HP} {A : Nat} {o : List Nat} {sv : Nat → Bool} {g f : Nat → Nat}
theorem PtK_y (P : PtK h0 h A o sv g) : AgY (XPt A) YN h0 h := h2_y P.1 P.2.1
theorem PtF_R {a N t A' o' n : Nat} {L : PcL} {h' : HP} (F : PtF A a t A') (G : AgY (XPt A) YN h h') (R : RwT h a N t A' f o' n L) : RwT h' a N t A' f o' n L :=
  RwT_y G (fun z => (F _ z).1 rfl) (fun z => (F _ z).2.1 rfl) (fun z => (F _ z).2.2.1 rfl) (fun z => (F _ z).2.2.2.1 rfl) (fun z => (F _ z).2.2.2.2.1 rfl) (fun z => (F _ z).2.2.2.2.2 rfl) (fun _ _ z => z) (fun z => z) R
/-- the out text's shape -/
def OuS (h : HP) (A : Nat) : Prop := isO h 320 7 ∧ gR h 320 0 = A ∧ (0 < A ∧ A < gS h ∧ gK h A = 101) ∧ gL h A = 880 ∧ A ≠ 320 ∧ A ≠ 322 ∧ A ≠ 323
theorem OuS_2 (e : h.2 = h0.2) (S : OuS h0 A) : OuS h A := by
  have e1 : gS h = gS h0 := congrArg (fun x => x.2.2.2.2) e
  have e2 : gK h = gK h0 := congrArg (fun x => x.2.2.1) e
  have e3 : gR h = gR h0 := congrArg (fun x => x.2.1) e
  have e4 : gL h = gL h0 := congrArg (fun x => x.2.2.2.1) e
  unfold OuS isO at *
  rw [e1, e2, e3, e4]
  exact S
theorem k_putO {b : Nat} {v : Int32} {K : HP → Prop} (S0 : OuS h0 A) (P : PtK h0 h A o sv g) (hb : b < 256) (hv : narB 101 v.toInt8.toInt32 = sgB b) (H : ∀ h', PtK h0 h' A (o ++ [b]) sv g → K h') : wq_Text_put 320 v h K := by
  obtain ⟨p1, p2, ⟨p3, p4, p5⟩, p6, p7⟩ := P
  obtain ⟨s1, s2, s3, s4, s5, s6, s7⟩ := OuS_2 p1 S0
  have ob : ∀ x ∈ o ++ [b], x < 256 := fun x hx => by
    rcases List.mem_append.mp hx with q | q
    · exact p5 x q
    · rw [List.mem_singleton.mp q]; exact hb
  unfold wq_Text_put
  rw [s2, s4, p3, hv, nI_cl (by omega), s3.2.2]
  refine ⟨s1, s1, s3.1, ⟨s3.2.1, by decide, by decide, fun z => by have := s3.1; omega⟩, fun c => ?_, fun c => ⟨s1, s3.1, s1, ⟨s3.1, s3.2.1, s3.2.2, ?_⟩, fun h1 e1 => ⟨by rw [e1]; exact s1, by rw [e1]; exact s1, fun h2 e2 => ?_⟩⟩⟩
  · have c' := (le_I (by omega) (by omega)).mp c
    refine H h ⟨p1, p2, ⟨?_, fun i x hi hx => ?_, ob⟩, p6, p7⟩
    · rw [p3, List.length_append, List.length_singleton, show min (o.length + 1) 880 = min o.length 880 by omega]
    · rw [List.getElem?_append_left (by omega)] at hx
      exact p4 i x hi hx
  · have c' : ¬ 880 ≤ min o.length 880 := fun z => c ((le_I (by omega) (by omega)).mpr z)
    rw [s4]
    exact nI_in' (by omega) (by decide)
  · have c' : ¬ 880 ≤ min o.length 880 := fun z => c ((le_I (by omega) (by omega)).mpr z)
    have em : min o.length 880 = o.length := by omega
    rw [em] at e1 p3
    have e3 : gI h1 320 1 = nI o.length := by rw [e1, gI_stI_o _ _ _ _ (Ne.symm s5)]; exact p3
    rw [e3, i1, add_I] at e2
    subst e2
    subst e1
    refine H _ ⟨p1, fun a ha => ?_, ⟨?_, fun i x hi hx => ?_, ob⟩, fun i hi => ?_, fun d hd => ?_⟩
    · rw [gI_stI_o _ _ _ _ (fun z => ha (Or.inl z)), gI_stI_o _ _ _ _ (fun z => ha (Or.inr (Or.inl z)))]
      exact p2 a ha
    · rw [gI_stI, if_pos ⟨rfl, rfl⟩, List.length_append, List.length_singleton, show min (o.length + 1) 880 = o.length + 1 by omega]
    · rw [gI_stI_o _ _ _ _ s5, gI_stI]
      by_cases z : i = o.length
      · rw [if_pos ⟨rfl, z⟩]
        rw [z, List.getElem?_append_right (Nat.le_refl _), Nat.sub_self] at hx
        cases hx
        rfl
      · rw [if_neg (fun y => z y.2)]
        have hl := (List.getElem?_eq_some_iff.mp hx).1
        rw [List.length_append, List.length_singleton] at hl
        rw [List.getElem?_append_left (by omega)] at hx
        exact p4 i x hi hx
    · rw [gI_stI_o _ _ _ _ (by decide), gI_stI_o _ _ _ _ (Ne.symm s7)]
      exact p6 i hi
    · rw [gI_stI_o _ _ _ _ (by decide), gI_stI_o _ _ _ _ (Ne.symm s6)]
      exact p7 d hd
theorem k_copyO {K : HP → Prop} {t A' o' n e : Nat} (KS0 : KSh h0) (S0 : OuS h0 A) (T0 : TxO h0 t A' f o' n) (Ft : ∀ b, XPt A b → b ≠ t ∧ b ≠ A') (he : e ≤ n) : ∀ (r i : Nat) (o : List Nat) (h : HP), i + r = e ∨ (r = 0 ∧ e ≤ i ∧ i ≤ 2000) → PtK h0 h A o sv g → (∀ h', PtK h0 h' A (o ++ bB f r (o' + i)) sv g → K h') → Wp k_Patch_copy 3 [some (.ref 319), some (.ref t), none, some (.int (nI e)), some (.int (nI i))] [] h (0, 0) (QV K)
  | 0, i, o, h, h1, P, H => wb_Patch_copy_3_ok (by
      have tn := tx_n T0
      unfold wb_Patch_copy_3
      simp (disch := omega) only [le_I]
      refine ⟨fun _ => H h ?_, fun z => absurd (by omega) z⟩
      rw [bB, List.append_nil]
      exact P)
  | r + 1, i, o, h, h1, P, H => wb_Patch_copy_3_ok (by
      have tn := tx_n T0
      have G := PtK_y P
      have KS := KSh_y G (fun _ _ z => z.elim) KS0
      have T := TxO_y G (fun z => (Ft _ z).1 rfl) (fun z => (Ft _ z).2 rfl) (fun z => z) T0
      unfold wb_Patch_copy_3
      simp (disch := omega) only [i0, i1, nLit, mul_I, add_I, nI_cl, isO_stI, isA_stI, isL_stI, gR_stI, gJ_stI, gK_stI, gL_stI, gS_stI, true_and, and_true, forall_eq, implies_true, ps_339, kO_319 KS, kR_319_0 KS, tx_o T, le_I]
      refine ⟨fun z => absurd z (by omega), fun _ => k_atN T (by omega) ⟨(OuS_2 P.1 S0).1, k_putO S0 P (T.2.2.2.2.2.2 _) (sgB_nar _) (fun h2 P2 => k_copyO KS0 S0 T0 Ft he r (i + 1) _ h2 (by omega) P2 (fun h' P' => H h' ?_))⟩⟩
      rw [bB]
      rw [List.append_assoc] at P'
      exact P')
end KPT
