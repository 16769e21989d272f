/-! the class: its static shape -/
def AgY (X : Nat → Prop) (Y : Nat → Nat → Prop) (h h' : HP) : Prop := (∀ a, a < gS h → ¬ X a → gI h' a = gI h a ∧ gJ h' a = gJ h a) ∧ (∀ a k, a < gS h → ¬ Y a k → gR h' a k = gR h a k) ∧ (∀ a, a < gS h → gK h' a = gK h a ∧ gL h' a = gL h a) ∧ gS h ≤ gS h'
def kObj : List (Nat × Nat) := [(1, 9), (4, 0), (105, 2), (312, 1), (317, 3), (319, 5), (324, 4)]
def kRef : List (Nat × Nat × Nat) := [(1, 0, 2), (1, 1, 4), (1, 2, 105), (1, 3, 317), (1, 4, 312), (1, 5, 319), (1, 6, 324), (1, 7, 326), (1, 8, 330), (1, 9, 332), (1, 10, 334), (1, 11, 336), (4, 0, 5), (4, 1, 7), (4, 2, 8), (105, 0, 106), (105, 1, 107), (105, 2, 108), (105, 3, 109), (105, 4, 110), (105, 5, 111), (312, 0, 313), (312, 1, 314), (312, 2, 315), (312, 3, 316), (317, 0, 318), (317, 1, 312), (319, 0, 320), (319, 1, 322), (319, 2, 323), (324, 0, 325)]
def kArr : List (Nat × Nat × Nat) := [(7, 104, 24), (8, 100, 24), (106, 105, 20), (107, 104, 20), (108, 100, 20), (109, 105, 40), (110, 100, 40), (111, 100, 40), (313, 100, 441), (314, 100, 40), (315, 100, 40), (316, 100, 40), (318, 100, 480), (322, 100, 10), (323, 102, 20), (325, 100, 200)]
def isTxt (a : Nat) : Bool := decide (a = 2) || decide (a = 5) || (decide (112 ≤ a) && decide (a < 232) && decide ((a - 112) % 6 = 0)) || (decide (232 ≤ a) && decide (a < 312) && decide (a % 2 = 0)) || decide (a = 320)
def Ydy (a k : Nat) : Prop := (a = 326 ∧ k = 3) ∨ (isTxt a = true ∧ k = 0)
def KSh (h : HP) : Prop := 362 ≤ gS h ∧ (∀ q ∈ kObj, gK h q.1 = q.2) ∧ (∀ q ∈ kRef, gR h q.1 q.2.1 = q.2.2) ∧ (∀ q ∈ kArr, gK h q.1 = q.2.1 ∧ gL h q.1 = q.2.2) ∧
  (∀ s, s < 24 → gR h 7 s = 9 + 4 * s ∧ RwS h (9 + 4 * s) 20 ∧ gR h (9 + 4 * s) 3 = 5) ∧ (∀ p, p < 20 → gR h 106 p = 112 + 6 * p ∧ gR h 107 p = 114 + 6 * p ∧ RwS h (114 + 6 * p) 20 ∧ gR h (114 + 6 * p) 3 = 112 + 6 * p) ∧ (∀ r, r < 40 → gR h 109 r = 232 + 2 * r) ∧ RwS h 326 600
section AGY
variable {X X2 : Nat → Prop} {Y Y2 : Nat → Nat → Prop} {h h' h2 : HP}
theorem AgY_rf (X : Nat → Prop) (Y : Nat → Nat → Prop) (h : HP) : AgY X Y h h := ⟨fun _ _ _ => ⟨rfl, rfl⟩, fun _ _ _ _ => rfl, fun _ _ => ⟨rfl, rfl⟩, Nat.le_refl _⟩
theorem AgY_tr (A : AgY X Y h h') (B : AgY X Y h' h2) : AgY X Y h h2 := ⟨fun a ha hx => by
    have p := A.1 a ha hx
    have q := B.1 a (Nat.lt_of_lt_of_le ha A.2.2.2) hx
    exact ⟨q.1.trans p.1, q.2.trans p.2⟩, fun a k ha hy => (B.2.1 a k (Nat.lt_of_lt_of_le ha A.2.2.2) hy).trans (A.2.1 a k ha hy), fun a ha => by
    have p := A.2.2.1 a ha
    have q := B.2.2.1 a (Nat.lt_of_lt_of_le ha A.2.2.2)
    exact ⟨q.1.trans p.1, q.2.trans p.2⟩, Nat.le_trans A.2.2.2 B.2.2.2⟩
theorem AgY_mono (A : AgY X Y h h') (s : ∀ a, X a → X2 a) (u : ∀ a k, Y a k → Y2 a k) : AgY X2 Y2 h h' := ⟨fun a ha hy => A.1 a ha (fun z => hy (s a z)), fun a k ha hy => A.2.1 a k ha (fun z => hy (u a k z)), A.2.2⟩
theorem AgY_stI {a k : Nat} {v : Int32} (A : AgY X Y h h') (ha : X a) : AgY X Y h (stI h' a k v) := ⟨fun b hb hx => by
    have p := A.1 b hb hx
    exact ⟨by rw [gI_stI_o _ _ _ _ (fun z => hx (by rw [z]; exact ha))]; exact p.1, p.2⟩, A.2⟩
theorem AgY_stA {a : Nat} {g : Nat → Int32} (A : AgY X Y h h') (ha : X a) : AgY X Y h (stA h' a g) := ⟨fun b hb hx => by
    have p := A.1 b hb hx
    refine ⟨?_, p.2⟩
    show va_up (gI h') a g b = _
    rw [va_up_ne _ _ (fun z => hx (by rw [z]; exact ha))]
    exact p.1, A.2⟩
theorem AgY_stJ {a k : Nat} {v : Int64} (A : AgY X Y h h') (ha : X a) : AgY X Y h (stJ h' a k v) := ⟨fun b hb hx => by
    have p := A.1 b hb hx
    refine ⟨p.1, ?_⟩
    show va_up (gJ h') a _ b = _
    rw [va_up_ne _ _ (fun z => hx (by rw [z]; exact ha))]
    exact p.2, A.2⟩
theorem AgY_stR {a k v : Nat} (A : AgY X Y h h') (ha : Y a k) : AgY X Y h (stR h' a k v) := ⟨A.1, fun b j hb hy => by
    rw [gR_stR, if_neg (fun z => hy (by rw [z.1, z.2]; exact ha))]
    exact A.2.1 b j hb hy, A.2.2⟩
theorem AgY_nw {kd n : Nat} (A : AgY X Y h h') : AgY X Y h (nwC h' kd n) := by
  have q : ∀ b, b < gS h → b ≠ gS h' := fun b hb => by have := A.2.2.2; omega
  refine ⟨fun b hb hx => ?_, fun b k hb hy => ?_, fun b hb => ?_, by have := A.2.2.2; show gS h ≤ gS h' + 1; omega⟩
  · have p := A.1 b hb hx
    exact ⟨(va_up_ne _ _ (q b hb)).trans p.1, (va_up_ne _ _ (q b hb)).trans p.2⟩
  · have p := A.2.1 b k hb hy
    have e : gR (nwC h' kd n) b = gR h' b := va_up_ne _ _ (q b hb)
    rw [e]; exact p
  · have p := A.2.2.1 b hb
    exact ⟨(va_up_ne _ _ (q b hb)).trans p.1, (va_up_ne _ _ (q b hb)).trans p.2⟩
theorem isO_y {a c : Nat} (A : AgY X Y h h') (H : isO h a c) : isO h' a c := ⟨H.1, Nat.lt_of_lt_of_le H.2.1 A.2.2.2, (A.2.2.1 a H.2.1).1.trans H.2.2⟩
theorem TxO_y {t A0 o n : Nat} {f : Nat → Nat} (A : AgY X Y h h') (ht : ¬ X t) (hA : ¬ X A0) (hy : ¬ Y t 0) (T : TxO h t A0 f o n) : TxO h' t A0 f o n := by
  obtain ⟨t1, t2, t3, t4, t5, t6, t7⟩ := T
  have pt := A.1 t t1.2.1 ht
  have pa := A.1 A0 t3.2.1 hA
  have ka := A.2.2.1 A0 t3.2.1
  exact ⟨isO_y A t1, by rw [A.2.1 t 0 t1.2.1 hy]; exact t2, ⟨t3.1, Nat.lt_of_lt_of_le t3.2.1 A.2.2.2, ka.1.trans t3.2.2⟩, by rw [pt.1]; exact t4, by rw [ka.2]; exact t5, fun i hi => by rw [pa.1]; exact t6 i hi, t7⟩
theorem RwS_y {a N : Nat} (A : AgY X Y h h') (hy : ∀ k, k < 3 → ¬ Y a k) (S : RwS h a N) : RwS h' a N := by
  obtain ⟨s1, s2, s3, s4, s5, s6⟩ := S
  have k := A.2.2.1
  have r := A.2.1
  exact ⟨isO_y A s1, by rw [r a 0 (by omega) (hy 0 (by omega)), r a 1 (by omega) (hy 1 (by omega)), r a 2 (by omega) (hy 2 (by omega))]; exact s2, Nat.lt_of_lt_of_le s3 A.2.2.2, by rw [(k _ (by omega)).1, (k (a + 2) (by omega)).1, (k (a + 3) (by omega)).1]; exact s4, by rw [(k _ (by omega)).2, (k (a + 2) (by omega)).2, (k (a + 3) (by omega)).2]; exact s5, s6⟩
theorem Ydy_n {a k : Nat} (h1 : ¬ (a = 326 ∧ k = 3)) (h2 : isTxt a = false ∨ k ≠ 0) : ¬ Ydy a k := by
  rintro (z | z)
  · exact h1 z
  · rcases h2 with y | y
    · rw [y] at z; exact absurd z.1 (by decide)
    · exact y z.2
theorem isTxt_f {a : Nat} (h1 : a ≠ 2) (h2 : a ≠ 5) (h3 : ¬ (112 ≤ a ∧ a < 232 ∧ (a - 112) % 6 = 0)) (h4 : ¬ (232 ≤ a ∧ a < 312 ∧ a % 2 = 0)) (h5 : a ≠ 320) : isTxt a = false := by
  unfold isTxt
  simp [h1, h2, h5]
  constructor
  · intro p q r; exact h3 ⟨p, q, r⟩
  · intro p q
    by_cases z : a % 2 = 0
    · exact absurd ⟨p, q, z⟩ h4
    · omega
theorem KSh_y (A : AgY X Y h h') (hY : ∀ a k, Y a k → Ydy a k) (S : KSh h) : KSh h' := by
  obtain ⟨s1, s2, s3, s4, s5, s6, s7, s8⟩ := S
  have kk := A.2.2.1
  have rr : ∀ a k, a < 362 → ¬ (a = 326 ∧ k = 3) → isTxt a = false ∨ k ≠ 0 → gR h' a k = gR h a k := fun a k ha p q => A.2.1 a k (by omega) (fun z => Ydy_n p q (hY a k z))
  have hk : ∀ a k, ¬ (a = 326 ∧ k = 3) → isTxt a = false ∨ k ≠ 0 → ¬ Y a k := fun a k p q z => Ydy_n p q (hY a k z)
  refine ⟨Nat.le_trans s1 A.2.2.2, fun q hq => ?_, fun q hq => ?_, fun q hq => ?_, fun s hs => ?_, fun p hp => ?_, fun r hr => ?_, ?_⟩
  · have : q.1 < 362 := (by decide : ∀ q ∈ kObj, q.1 < 362) q hq
    rw [(kk q.1 (by omega)).1]; exact s2 q hq
  · have : q.1 < 362 ∧ isTxt q.1 = false ∧ ¬ q.1 = 326 := (by decide : ∀ q ∈ kRef, q.1 < 362 ∧ isTxt q.1 = false ∧ ¬ q.1 = 326) q hq
    rw [rr q.1 q.2.1 this.1 (fun z => this.2.2 z.1) (Or.inl this.2.1)]; exact s3 q hq
  · have : q.1 < 362 := (by decide : ∀ q ∈ kArr, q.1 < 362) q hq
    rw [(kk q.1 (by omega)).1, (kk q.1 (by omega)).2]; exact s4 q hq
  · have p := s5 s hs
    have it : isTxt (9 + 4 * s) = false := isTxt_f (by omega) (by omega) (by omega) (by omega) (by omega)
    exact ⟨by rw [rr 7 s (by omega) (by omega) (Or.inl (by decide))]; exact p.1, RwS_y A (fun k _ => hk _ k (by omega) (Or.inl it)) p.2.1, by rw [rr (9 + 4 * s) 3 (by omega) (by omega) (Or.inl it)]; exact p.2.2⟩
  · have q := s6 p hp
    have it : isTxt (114 + 6 * p) = false := isTxt_f (by omega) (by omega) (by omega) (by omega) (by omega)
    exact ⟨by rw [rr 106 p (by omega) (by omega) (Or.inl (by decide))]; exact q.1, by rw [rr 107 p (by omega) (by omega) (Or.inl (by decide))]; exact q.2.1, RwS_y A (fun k _ => hk _ k (by omega) (Or.inl it)) q.2.2.1, by rw [rr (114 + 6 * p) 3 (by omega) (by omega) (Or.inl it)]; exact q.2.2.2⟩
  · rw [rr 109 r (by omega) (by omega) (Or.inl (by decide))]; exact s7 r hr
  · exact RwS_y A (fun k hk3 => hk 326 k (by omega) (Or.inl (by decide))) s8
theorem Ag_Y {a t : Nat} (A : Ag X h h') (g : gR h' = gR (stR h a 3 t)) : AgY X (fun b k => b = a ∧ k = 3) h h' := ⟨fun b hb hx => ⟨(A.1 b hb hx).1, (A.1 b hb hx).2.2⟩, fun b k hb hy => by rw [g, gR_stR, if_neg hy], A.2.1, A.2.2⟩
end AGY
section KSA
variable {h : HP}
theorem kO_1 (S : KSh h) : isO h 1 9 := ⟨by decide, by have := S.1; omega, S.2.1 (1, 9) (by decide)⟩
theorem kO_4 (S : KSh h) : isO h 4 0 := ⟨by decide, by have := S.1; omega, S.2.1 (4, 0) (by decide)⟩
theorem kO_105 (S : KSh h) : isO h 105 2 := ⟨by decide, by have := S.1; omega, S.2.1 (105, 2) (by decide)⟩
theorem kO_312 (S : KSh h) : isO h 312 1 := ⟨by decide, by have := S.1; omega, S.2.1 (312, 1) (by decide)⟩
theorem kO_317 (S : KSh h) : isO h 317 3 := ⟨by decide, by have := S.1; omega, S.2.1 (317, 3) (by decide)⟩
theorem kO_319 (S : KSh h) : isO h 319 5 := ⟨by decide, by have := S.1; omega, S.2.1 (319, 5) (by decide)⟩
theorem kO_324 (S : KSh h) : isO h 324 4 := ⟨by decide, by have := S.1; omega, S.2.1 (324, 4) (by decide)⟩
theorem kR_1_0 (S : KSh h) : gR h 1 0 = 2 := S.2.2.1 (1, 0, 2) (by decide)
theorem kR_1_1 (S : KSh h) : gR h 1 1 = 4 := S.2.2.1 (1, 1, 4) (by decide)
theorem kR_1_2 (S : KSh h) : gR h 1 2 = 105 := S.2.2.1 (1, 2, 105) (by decide)
theorem kR_1_3 (S : KSh h) : gR h 1 3 = 317 := S.2.2.1 (1, 3, 317) (by decide)
theorem kR_1_4 (S : KSh h) : gR h 1 4 = 312 := S.2.2.1 (1, 4, 312) (by decide)
theorem kR_1_5 (S : KSh h) : gR h 1 5 = 319 := S.2.2.1 (1, 5, 319) (by decide)
theorem kR_1_6 (S : KSh h) : gR h 1 6 = 324 := S.2.2.1 (1, 6, 324) (by decide)
theorem kR_1_7 (S : KSh h) : gR h 1 7 = 326 := S.2.2.1 (1, 7, 326) (by decide)
theorem kR_1_8 (S : KSh h) : gR h 1 8 = 330 := S.2.2.1 (1, 8, 330) (by decide)
theorem kR_1_9 (S : KSh h) : gR h 1 9 = 332 := S.2.2.1 (1, 9, 332) (by decide)
theorem kR_1_10 (S : KSh h) : gR h 1 10 = 334 := S.2.2.1 (1, 10, 334) (by decide)
theorem kR_1_11 (S : KSh h) : gR h 1 11 = 336 := S.2.2.1 (1, 11, 336) (by decide)
theorem kR_4_0 (S : KSh h) : gR h 4 0 = 5 := S.2.2.1 (4, 0, 5) (by decide)
theorem kR_4_1 (S : KSh h) : gR h 4 1 = 7 := S.2.2.1 (4, 1, 7) (by decide)
theorem kR_4_2 (S : KSh h) : gR h 4 2 = 8 := S.2.2.1 (4, 2, 8) (by decide)
theorem kR_105_0 (S : KSh h) : gR h 105 0 = 106 := S.2.2.1 (105, 0, 106) (by decide)
theorem kR_105_1 (S : KSh h) : gR h 105 1 = 107 := S.2.2.1 (105, 1, 107) (by decide)
theorem kR_105_2 (S : KSh h) : gR h 105 2 = 108 := S.2.2.1 (105, 2, 108) (by decide)
theorem kR_105_3 (S : KSh h) : gR h 105 3 = 109 := S.2.2.1 (105, 3, 109) (by decide)
theorem kR_105_4 (S : KSh h) : gR h 105 4 = 110 := S.2.2.1 (105, 4, 110) (by decide)
theorem kR_105_5 (S : KSh h) : gR h 105 5 = 111 := S.2.2.1 (105, 5, 111) (by decide)
theorem kR_312_0 (S : KSh h) : gR h 312 0 = 313 := S.2.2.1 (312, 0, 313) (by decide)
theorem kR_312_1 (S : KSh h) : gR h 312 1 = 314 := S.2.2.1 (312, 1, 314) (by decide)
theorem kR_312_2 (S : KSh h) : gR h 312 2 = 315 := S.2.2.1 (312, 2, 315) (by decide)
theorem kR_312_3 (S : KSh h) : gR h 312 3 = 316 := S.2.2.1 (312, 3, 316) (by decide)
theorem kR_317_0 (S : KSh h) : gR h 317 0 = 318 := S.2.2.1 (317, 0, 318) (by decide)
theorem kR_317_1 (S : KSh h) : gR h 317 1 = 312 := S.2.2.1 (317, 1, 312) (by decide)
theorem kR_319_0 (S : KSh h) : gR h 319 0 = 320 := S.2.2.1 (319, 0, 320) (by decide)
theorem kR_319_1 (S : KSh h) : gR h 319 1 = 322 := S.2.2.1 (319, 1, 322) (by decide)
theorem kR_319_2 (S : KSh h) : gR h 319 2 = 323 := S.2.2.1 (319, 2, 323) (by decide)
theorem kR_324_0 (S : KSh h) : gR h 324 0 = 325 := S.2.2.1 (324, 0, 325) (by decide)
theorem kK_7 (S : KSh h) : gK h 7 = 104 := (S.2.2.2.1 (7, 104, 24) (by decide)).1
theorem kN_7 (S : KSh h) : gL h 7 = 24 := (S.2.2.2.1 (7, 104, 24) (by decide)).2
theorem kS_7 (S : KSh h) : 7 < gS h := by have := S.1; omega
theorem kV_7 (S : KSh h) {n : Nat} (hn : n < 24) : vp_in (nI n) 24 := nI_in' hn (by decide)
theorem kK_8 (S : KSh h) : gK h 8 = 100 := (S.2.2.2.1 (8, 100, 24) (by decide)).1
theorem kN_8 (S : KSh h) : gL h 8 = 24 := (S.2.2.2.1 (8, 100, 24) (by decide)).2
theorem kS_8 (S : KSh h) : 8 < gS h := by have := S.1; omega
theorem kV_8 (S : KSh h) {n : Nat} (hn : n < 24) : vp_in (nI n) 24 := nI_in' hn (by decide)
theorem kA_8 (S : KSh h) {n : Nat} (hn : n < 24) : isA h 8 100 (nI n) := ⟨by decide, kS_8 S, kK_8 S, by rw [kN_8 S]; exact nI_in' hn (by decide)⟩
theorem kL_8 (S : KSh h) {n : Nat} (hn : n < 24) : isL h 8 100 (nI n) := (kA_8 S hn).2
theorem kK_106 (S : KSh h) : gK h 106 = 105 := (S.2.2.2.1 (106, 105, 20) (by decide)).1
theorem kN_106 (S : KSh h) : gL h 106 = 20 := (S.2.2.2.1 (106, 105, 20) (by decide)).2
theorem kS_106 (S : KSh h) : 106 < gS h := by have := S.1; omega
theorem kV_106 (S : KSh h) {n : Nat} (hn : n < 20) : vp_in (nI n) 20 := nI_in' hn (by decide)
theorem kK_107 (S : KSh h) : gK h 107 = 104 := (S.2.2.2.1 (107, 104, 20) (by decide)).1
theorem kN_107 (S : KSh h) : gL h 107 = 20 := (S.2.2.2.1 (107, 104, 20) (by decide)).2
theorem kS_107 (S : KSh h) : 107 < gS h := by have := S.1; omega
theorem kV_107 (S : KSh h) {n : Nat} (hn : n < 20) : vp_in (nI n) 20 := nI_in' hn (by decide)
theorem kK_108 (S : KSh h) : gK h 108 = 100 := (S.2.2.2.1 (108, 100, 20) (by decide)).1
theorem kN_108 (S : KSh h) : gL h 108 = 20 := (S.2.2.2.1 (108, 100, 20) (by decide)).2
theorem kS_108 (S : KSh h) : 108 < gS h := by have := S.1; omega
theorem kV_108 (S : KSh h) {n : Nat} (hn : n < 20) : vp_in (nI n) 20 := nI_in' hn (by decide)
theorem kA_108 (S : KSh h) {n : Nat} (hn : n < 20) : isA h 108 100 (nI n) := ⟨by decide, kS_108 S, kK_108 S, by rw [kN_108 S]; exact nI_in' hn (by decide)⟩
theorem kL_108 (S : KSh h) {n : Nat} (hn : n < 20) : isL h 108 100 (nI n) := (kA_108 S hn).2
theorem kK_109 (S : KSh h) : gK h 109 = 105 := (S.2.2.2.1 (109, 105, 40) (by decide)).1
theorem kN_109 (S : KSh h) : gL h 109 = 40 := (S.2.2.2.1 (109, 105, 40) (by decide)).2
theorem kS_109 (S : KSh h) : 109 < gS h := by have := S.1; omega
theorem kV_109 (S : KSh h) {n : Nat} (hn : n < 40) : vp_in (nI n) 40 := nI_in' hn (by decide)
theorem kK_110 (S : KSh h) : gK h 110 = 100 := (S.2.2.2.1 (110, 100, 40) (by decide)).1
theorem kN_110 (S : KSh h) : gL h 110 = 40 := (S.2.2.2.1 (110, 100, 40) (by decide)).2
theorem kS_110 (S : KSh h) : 110 < gS h := by have := S.1; omega
theorem kV_110 (S : KSh h) {n : Nat} (hn : n < 40) : vp_in (nI n) 40 := nI_in' hn (by decide)
theorem kA_110 (S : KSh h) {n : Nat} (hn : n < 40) : isA h 110 100 (nI n) := ⟨by decide, kS_110 S, kK_110 S, by rw [kN_110 S]; exact nI_in' hn (by decide)⟩
theorem kL_110 (S : KSh h) {n : Nat} (hn : n < 40) : isL h 110 100 (nI n) := (kA_110 S hn).2
theorem kK_111 (S : KSh h) : gK h 111 = 100 := (S.2.2.2.1 (111, 100, 40) (by decide)).1
theorem kN_111 (S : KSh h) : gL h 111 = 40 := (S.2.2.2.1 (111, 100, 40) (by decide)).2
theorem kS_111 (S : KSh h) : 111 < gS h := by have := S.1; omega
theorem kV_111 (S : KSh h) {n : Nat} (hn : n < 40) : vp_in (nI n) 40 := nI_in' hn (by decide)
theorem kA_111 (S : KSh h) {n : Nat} (hn : n < 40) : isA h 111 100 (nI n) := ⟨by decide, kS_111 S, kK_111 S, by rw [kN_111 S]; exact nI_in' hn (by decide)⟩
theorem kL_111 (S : KSh h) {n : Nat} (hn : n < 40) : isL h 111 100 (nI n) := (kA_111 S hn).2
theorem kK_313 (S : KSh h) : gK h 313 = 100 := (S.2.2.2.1 (313, 100, 441) (by decide)).1
theorem kN_313 (S : KSh h) : gL h 313 = 441 := (S.2.2.2.1 (313, 100, 441) (by decide)).2
theorem kS_313 (S : KSh h) : 313 < gS h := by have := S.1; omega
theorem kV_313 (S : KSh h) {n : Nat} (hn : n < 441) : vp_in (nI n) 441 := nI_in' hn (by decide)
theorem kA_313 (S : KSh h) {n : Nat} (hn : n < 441) : isA h 313 100 (nI n) := ⟨by decide, kS_313 S, kK_313 S, by rw [kN_313 S]; exact nI_in' hn (by decide)⟩
theorem kL_313 (S : KSh h) {n : Nat} (hn : n < 441) : isL h 313 100 (nI n) := (kA_313 S hn).2
theorem kK_314 (S : KSh h) : gK h 314 = 100 := (S.2.2.2.1 (314, 100, 40) (by decide)).1
theorem kN_314 (S : KSh h) : gL h 314 = 40 := (S.2.2.2.1 (314, 100, 40) (by decide)).2
theorem kS_314 (S : KSh h) : 314 < gS h := by have := S.1; omega
theorem kV_314 (S : KSh h) {n : Nat} (hn : n < 40) : vp_in (nI n) 40 := nI_in' hn (by decide)
theorem kA_314 (S : KSh h) {n : Nat} (hn : n < 40) : isA h 314 100 (nI n) := ⟨by decide, kS_314 S, kK_314 S, by rw [kN_314 S]; exact nI_in' hn (by decide)⟩
theorem kL_314 (S : KSh h) {n : Nat} (hn : n < 40) : isL h 314 100 (nI n) := (kA_314 S hn).2
theorem kK_315 (S : KSh h) : gK h 315 = 100 := (S.2.2.2.1 (315, 100, 40) (by decide)).1
theorem kN_315 (S : KSh h) : gL h 315 = 40 := (S.2.2.2.1 (315, 100, 40) (by decide)).2
theorem kS_315 (S : KSh h) : 315 < gS h := by have := S.1; omega
theorem kV_315 (S : KSh h) {n : Nat} (hn : n < 40) : vp_in (nI n) 40 := nI_in' hn (by decide)
theorem kA_315 (S : KSh h) {n : Nat} (hn : n < 40) : isA h 315 100 (nI n) := ⟨by decide, kS_315 S, kK_315 S, by rw [kN_315 S]; exact nI_in' hn (by decide)⟩
theorem kL_315 (S : KSh h) {n : Nat} (hn : n < 40) : isL h 315 100 (nI n) := (kA_315 S hn).2
theorem kK_316 (S : KSh h) : gK h 316 = 100 := (S.2.2.2.1 (316, 100, 40) (by decide)).1
theorem kN_316 (S : KSh h) : gL h 316 = 40 := (S.2.2.2.1 (316, 100, 40) (by decide)).2
theorem kS_316 (S : KSh h) : 316 < gS h := by have := S.1; omega
theorem kV_316 (S : KSh h) {n : Nat} (hn : n < 40) : vp_in (nI n) 40 := nI_in' hn (by decide)
theorem kA_316 (S : KSh h) {n : Nat} (hn : n < 40) : isA h 316 100 (nI n) := ⟨by decide, kS_316 S, kK_316 S, by rw [kN_316 S]; exact nI_in' hn (by decide)⟩
theorem kL_316 (S : KSh h) {n : Nat} (hn : n < 40) : isL h 316 100 (nI n) := (kA_316 S hn).2
theorem kK_318 (S : KSh h) : gK h 318 = 100 := (S.2.2.2.1 (318, 100, 480) (by decide)).1
theorem kN_318 (S : KSh h) : gL h 318 = 480 := (S.2.2.2.1 (318, 100, 480) (by decide)).2
theorem kS_318 (S : KSh h) : 318 < gS h := by have := S.1; omega
theorem kV_318 (S : KSh h) {n : Nat} (hn : n < 480) : vp_in (nI n) 480 := nI_in' hn (by decide)
theorem kA_318 (S : KSh h) {n : Nat} (hn : n < 480) : isA h 318 100 (nI n) := ⟨by decide, kS_318 S, kK_318 S, by rw [kN_318 S]; exact nI_in' hn (by decide)⟩
theorem kL_318 (S : KSh h) {n : Nat} (hn : n < 480) : isL h 318 100 (nI n) := (kA_318 S hn).2
theorem kK_322 (S : KSh h) : gK h 322 = 100 := (S.2.2.2.1 (322, 100, 10) (by decide)).1
theorem kN_322 (S : KSh h) : gL h 322 = 10 := (S.2.2.2.1 (322, 100, 10) (by decide)).2
theorem kS_322 (S : KSh h) : 322 < gS h := by have := S.1; omega
theorem kV_322 (S : KSh h) {n : Nat} (hn : n < 10) : vp_in (nI n) 10 := nI_in' hn (by decide)
theorem kA_322 (S : KSh h) {n : Nat} (hn : n < 10) : isA h 322 100 (nI n) := ⟨by decide, kS_322 S, kK_322 S, by rw [kN_322 S]; exact nI_in' hn (by decide)⟩
theorem kL_322 (S : KSh h) {n : Nat} (hn : n < 10) : isL h 322 100 (nI n) := (kA_322 S hn).2
theorem kK_323 (S : KSh h) : gK h 323 = 102 := (S.2.2.2.1 (323, 102, 20) (by decide)).1
theorem kN_323 (S : KSh h) : gL h 323 = 20 := (S.2.2.2.1 (323, 102, 20) (by decide)).2
theorem kS_323 (S : KSh h) : 323 < gS h := by have := S.1; omega
theorem kV_323 (S : KSh h) {n : Nat} (hn : n < 20) : vp_in (nI n) 20 := nI_in' hn (by decide)
theorem kA_323 (S : KSh h) {n : Nat} (hn : n < 20) : isA h 323 102 (nI n) := ⟨by decide, kS_323 S, kK_323 S, by rw [kN_323 S]; exact nI_in' hn (by decide)⟩
theorem kL_323 (S : KSh h) {n : Nat} (hn : n < 20) : isL h 323 102 (nI n) := (kA_323 S hn).2
theorem kK_325 (S : KSh h) : gK h 325 = 100 := (S.2.2.2.1 (325, 100, 200) (by decide)).1
theorem kN_325 (S : KSh h) : gL h 325 = 200 := (S.2.2.2.1 (325, 100, 200) (by decide)).2
theorem kS_325 (S : KSh h) : 325 < gS h := by have := S.1; omega
theorem kV_325 (S : KSh h) {n : Nat} (hn : n < 200) : vp_in (nI n) 200 := nI_in' hn (by decide)
theorem kA_325 (S : KSh h) {n : Nat} (hn : n < 200) : isA h 325 100 (nI n) := ⟨by decide, kS_325 S, kK_325 S, by rw [kN_325 S]; exact nI_in' hn (by decide)⟩
theorem kL_325 (S : KSh h) {n : Nat} (hn : n < 200) : isL h 325 100 (nI n) := (kA_325 S hn).2
end KSA
