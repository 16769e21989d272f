/-! the class: ends of segments -/
def blk : PcL → Bool
  | [] => true
  | b :: _ => decide (b.1 = 6)
def exP (f c l : Nat → Nat) (E : Nat) : Option (Nat × Nat × Nat) → Bool
  | none => false
  | some w => exN f c l w E 0
/-- a segment ends behind x, ahead of which stands pv, behind which m -/
def enB (f c l : Nat → Nat) (E : Nat) (pv : Option (Nat × Nat × Nat)) (x : Nat × Nat × Nat) (m : PcL) : Bool :=
  decide (x.1 = 5) && stopC (f x.2.1) && blk m && !(decide (f x.2.1 = 46) && exP f c l E pv)
def sc1 (x : Nat × Nat × Nat) (n : Nat) : Nat := if x.1 = 6 then n else n + 1
/-- the class's way over the pieces; none: FULL -/
def feL (f c l : Nat → Nat) (E : Nat) : Nat → PcL → Option (Nat × Nat × Nat) → Nat → List Nat → Option (List Nat)
  | 0, _, _, _, C => some C
  | _ + 1, [], _, _, C => some C
  | k + 1, x :: m, pv, n, C => if sc1 x n ≤ 20 then (if enB f c l E pv x m = true then (if C.length < 24 then (match m with
      | [] => some (C ++ [x.2.1 + x.2.2])
      | b :: m' => feL f c l E k m' (some b) 0 (C ++ [b.2.1 + b.2.2])) else none)
    else (match m with
      | [] => if C.length < 24 then some (C ++ [x.2.1 + x.2.2]) else none
      | _ :: _ => feL f c l E k m (some x) (sc1 x n) C)) else none
theorem feL_n {f c l : Nat → Nat} {E k n : Nat} {x : Nat × Nat × Nat} {pv : Option (Nat × Nat × Nat)} {C : List Nat} : feL f c l E (k + 1) [x] pv n C = if sc1 x n ≤ 20 then (if C.length < 24 then some (C ++ [x.2.1 + x.2.2]) else none) else none := by
  show (if sc1 x n ≤ 20 then (if enB f c l E pv x [] = true then (if C.length < 24 then some (C ++ [x.2.1 + x.2.2]) else none) else (if C.length < 24 then some (C ++ [x.2.1 + x.2.2]) else none)) else none) = _
  rw [ite_self]
theorem feL_cc {f c l : Nat → Nat} {E k n : Nat} {x b : Nat × Nat × Nat} {m : PcL} {pv : Option (Nat × Nat × Nat)} {C : List Nat} : feL f c l E (k + 1) (x :: b :: m) pv n C = if sc1 x n ≤ 20 then (if enB f c l E pv x (b :: m) = true then (if C.length < 24 then feL f c l E k m (some b) 0 (C ++ [b.2.1 + b.2.2]) else none) else feL f c l E k (b :: m) (some x) (sc1 x n) C) else none := rfl
theorem feL_0 {f c l : Nat → Nat} {E k n : Nat} {x : Nat × Nat × Nat} {m : PcL} {pv : Option (Nat × Nat × Nat)} {C : List Nat} (h : ¬ sc1 x n ≤ 20) : feL f c l E (k + 1) (x :: m) pv n C = none := by
  cases m with
  | nil => rw [feL_n, if_neg h]
  | cons b m => rw [feL_cc, if_neg h]
def ahV (f : Nat → Nat) : Option (Nat × Nat × Nat) → Nat
  | none => 0
  | some w => if w.1 = 0 then pkI f w.2.1 w.2.2 else 0
theorem ahV_s (f : Nat → Nat) (w : Nat × Nat × Nat) : ahV f (some w) = if w.1 = 0 then pkI f w.2.1 w.2.2 else 0 := rfl
theorem ahV_63 (f : Nat → Nat) : ∀ pv, ahV f pv < 2 ^ 63
  | none => (by decide : 0 < 2 ^ 63)
  | some w => by
    rw [ahV_s]
    split
    · exact pkI_63 _ _ _
    · decide
theorem exN_iff {f c l : Nat → Nat} {w : Nat × Nat × Nat} : ∀ {r e : Nat}, (exN f c l w r e = true) ↔ ∃ j, e ≤ j ∧ j < e + r ∧ ttM f c l w j = true
  | 0, e => ⟨fun h => absurd h (by simp [exN]), fun ⟨j, h1, h2, _⟩ => by omega⟩
  | r + 1, e => by
    rw [exN, Bool.or_eq_true, exN_iff]
    constructor
    · rintro (h | ⟨j, h1, h2, h3⟩)
      · exact ⟨e, Nat.le_refl e, by omega, h⟩
      · exact ⟨j, by omega, by omega, h3⟩
    · rintro ⟨j, h1, h2, h3⟩
      by_cases z : j = e
      · rw [z] at h3; exact Or.inl h3
      · exact Or.inr ⟨j, by omega, by omega, h3⟩
theorem stop_kd {g : Nat → Nat} {p : Nat} (h : stopC (g p) = true) : kdM g p = 5 := by
  unfold stopC at h
  simp at h
  have em : mkM g p = 9 := by unfold mkM; rw [if_neg (by omega)]
  unfold kdM
  rcases h with (h | h) | h <;> simp [h, isLt, isD, em]
def EnO (h : HP) (C : List Nat) : Prop := ∀ i x : Nat, C[i]? = some x → gI h 8 i = nI x
theorem EnO_push {h : HP} {C : List Nat} {v : Nat} (H : EnO h C) : EnO (stI h 8 C.length (nI v)) (C ++ [v]) := fun i x hx => by
  rw [gI_stI]
  by_cases z : i = C.length
  · rw [if_pos ⟨rfl, z⟩]
    rw [z, List.getElem?_append_right (Nat.le_refl _), Nat.sub_self] at hx
    cases hx
    rfl
  · rw [if_neg (fun y => z y.2)]
    have hl := (List.getElem?_eq_some_iff.mp hx).1
    rw [List.length_append, List.length_singleton] at hl
    rw [List.getElem?_append_left (by omega)] at hx
    exact H i x hx
section KLD
variable {B : Nat → Nat} {σ : St} {h0 : HP} {K : Int32 → HP → Prop}
theorem X8_q : ∀ a, (fun b => b = 8) a → Xq B a := fun a z => Or.inl z
theorem k_isStop {b : Nat} {h : HP} (hb : b < 256) (H : K (b2I (stopC b)) h) : wq_Book_isStop (nI b) h K := by
  unfold wq_Book_isStop
  simp (disch := omega) only [i0, i1, nLit, mul_I, add_I, nI_cl, eq_I]
  refine ⟨fun c => b2_1 (by simp [stopC, c]) H, fun c => ⟨fun c2 => b2_1 (by simp [stopC, c2]) H, fun c2 => ⟨fun c3 => b2_0 (by simp [stopC, c, c2, c3]) H, fun c3 => b2_1 (by simp [stopC, c3]) H⟩⟩⟩
theorem k_find_lp (I0 : InvK B σ h0) (w : WF σ) (G : Option (List Nat)) (H0 : G = none → ∀ h', AgY (fun b => b = 8) YN h0 h' → K (-nI 5) h') (H1 : ∀ C, G = some C → ∀ h', AgY (fun b => b = 8) YN h0 h' → EnO h' C → K (nI C.length) h') :
    ∀ (k j p : Nat) (pv : Option (Nat × Nat × Nat)) (n : Nat) (C : List Nat) (h : HP), p ≤ sz σ 0 → sz σ 0 ≤ p + k → k ≤ j → n ≤ 20 → C.length ≤ 24 → AgY (fun b => b = 8) YN h0 h → EnO h C → (∀ x, pv = some x → x.1 = 0 → ∀ i, i < x.2.2 → isLt (sf σ (x.2.1 + i)) = true) → feL (sf σ) (sc σ) (sl σ) (sE σ) j (pcs (atM (sf σ) (sz σ 0)) 46 (sz σ 0) true k p) pv n C = G → Wp k_Book_findEnds 11 [some (.ref 4), some (.ref 2), some (.ref 330), some (.int (nI C.length)), some (.int (nI n)), some (.long (lN (ahV (sf σ) pv))), none, some (.int (nI p)), none, none, none, none] [] h (0, 0) (QI K) := by
  intro k
  induction k using Nat.strongRecOn with
  | _ k ih =>
    intro j p pv n C h hp hk hkj hn hC A O hpv e
    have S := KSh_y A (fun _ _ z => z.elim) I0.1
    have t0 := I0.2.1.2.2.2.1 0 (by decide)
    have t0' := t0
    unfold isTA at t0'
    have T := TxO_y A (by decide) (by omega) (fun z => z) (IK_0 I0)
    have tn := tx_n T
    have W := WdO_y A (by decide) (by decide) (fun z => z) I0.2.2.2.2.1.1
    have hz := w.1.2 0 (by decide)
    have hf := T.2.2.2.2.2.2
    refine wb_Book_findEnds_11_ok ?_
    unfold wb_Book_findEnds_11
    rw [T.2.2.2.1]
    refine ⟨T.1, fun c => ?_, fun c => ⟨T.1, ?_⟩⟩
    · have c' := (le_I (by omega) (by omega)).mp c
      have el : pcs (atM (sf σ) (sz σ 0)) 46 (sz σ 0) true k p = [] := by
        cases k with
        | zero => rfl
        | succ k => rw [pcs, if_neg (by omega)]
      rw [el] at e
      have eG : G = some C := by
        rw [← e]
        cases j <;> rfl
      exact H1 C eG h A O
    · have c' : p < sz σ 0 := by
        have : ¬ sz σ 0 ≤ p := fun z => c ((le_I (by omega) (by omega)).mpr z)
        omega
      obtain ⟨k1, rfl⟩ : ∃ k1, k = k1 + 1 := ⟨k - 1, by omega⟩
      obtain ⟨j1, rfl⟩ : ∃ j1, j = j1 + 1 := ⟨j - 1, by omega⟩
      have ea : ∀ i, atM (sf σ) (0 + sz σ 0) i = atM (sf σ) (sz σ 0) i := fun i => by rw [Nat.zero_add]
      have hg := nxM_gt (atM (sf σ) (sz σ 0)) 46 (sz σ 0) p
      have hin := nxM_in (atM_z (sf σ) (sz σ 0)) (pt := 46) c'
      have h6 := kdM_le (atM (sf σ) (sz σ 0)) p
      rw [pcs, if_pos c', if_neg (fun z => absurd z.2 (by decide))] at e
      have eap : atM (sf σ) (sz σ 0) p = sf σ p := by unfold atM; rw [if_pos c']
      generalize hx : (kdM (atM (sf σ) (sz σ 0)) p, p, nxM (atM (sf σ) (sz σ 0)) 46 (sz σ 0) p - p) = x at *
      have x1 : x.1 = kdM (atM (sf σ) (sz σ 0)) p := by rw [← hx]
      have x2 : x.2.1 = p := by rw [← hx]
      have x3 : x.2.1 + x.2.2 = nxM (atM (sf σ) (sz σ 0)) 46 (sz σ 0) p := by rw [← hx]; show p + (_ - p) = _; omega
      have xg : x.1 = 0 → ∀ i, i < x.2.2 → isLt (sf σ (x.2.1 + i)) = true := by
        rw [← hx]
        exact (pc_Gd (f := sf σ) (pt := 46) (e := sz σ 0) (p := p)).1
      generalize hnx : nxM (atM (sf σ) (sz σ 0)) 46 (sz σ 0) p = nx at *
      generalize hm : pcs (atM (sf σ) (sz σ 0)) 46 (sz σ 0) true k1 nx = m at *
      -- what the rest looks like
      have mhd : (nx = sz σ 0 ∧ m = []) ∨ (nx < sz σ 0 ∧ ∃ b m', m = b :: m' ∧ b.1 = kdM (atM (sf σ) (sz σ 0)) nx ∧ b.2.1 + b.2.2 = nxM (atM (sf σ) (sz σ 0)) 46 (sz σ 0) nx ∧ ∃ k2, k2 + 1 = k1 ∧ m' = pcs (atM (sf σ) (sz σ 0)) 46 (sz σ 0) true k2 (nxM (atM (sf σ) (sz σ 0)) 46 (sz σ 0) nx)) := by
        by_cases q : nx < sz σ 0
        · right
          obtain ⟨k2, rfl⟩ : ∃ k2, k1 = k2 + 1 := ⟨k1 - 1, by omega⟩
          have hg2 := nxM_gt (atM (sf σ) (sz σ 0)) 46 (sz σ 0) nx
          rw [pcs, if_pos q, if_neg (fun z => absurd z.2 (by decide))] at hm
          refine ⟨q, _, _, hm.symm, rfl, ?_, k2, rfl, rfl⟩
          show nx + (_ - nx) = _
          omega
        · left
          refine ⟨by omega, ?_⟩
          rw [← hm]
          cases k1 with
          | zero => rfl
          | succ k1 => rw [pcs, if_neg q]
      have stepN : ∀ (h' : HP) (n' : Nat) (C' : List Nat), n' ≤ 20 → C'.length ≤ 24 → AgY (fun b => b = 8) YN h0 h' → EnO h' C' → nx ≤ sz σ 0 → feL (sf σ) (sc σ) (sl σ) (sE σ) j1 m (some x) n' C' = G → wb_Book_findEnds_189 4 2 330 (nI C'.length) (nI n') (nI p) (nI x.1) (nI nx) h' K := fun h' n' C' hn' hC' A' O' hq e' => by
        have T' := TxO_y A' (by decide) (by omega) (fun z => z) (IK_0 I0)
        unfold wb_Book_findEnds_189
        have go := ih k1 (by omega) j1 nx (some x) n' C' h' hq (by omega) (by omega) hn' hC' A' O' (fun y hy h0 => by injection hy with hy; rw [← hy] at h0 ⊢; exact xg h0) (by rw [hm]; exact e')
        have e0 : (nI x.1 = 0) = (x.1 = 0) := propext (eq_I (by omega) (by decide))
        rw [e0]
        refine ⟨fun c0 => ?_, fun c0 => k_packed T' (by omega) (by omega) ?_⟩
        · have : ahV (sf σ) (some x) = 0 := by rw [ahV_s, if_neg c0]
          rw [this] at go
          exact go
        · have : ahV (sf σ) (some x) = pkI (sf σ) x.2.1 x.2.2 := by rw [ahV_s, if_pos c0]
          rw [this, x2, show x.2.2 = nx - p by omega] at go
          rw [Nat.zero_add]
          exact go
      -- a segment ends at q; what is behind it is m2
      have close : ∀ (q : Nat) (m2 : PcL) (b : Nat × Nat × Nat), x.1 ≠ 0 → b.1 ≠ 0 → q ≤ sz σ 0 → (∃ k2, k2 ≤ k1 ∧ sz σ 0 ≤ q + k2 ∧ m2 = pcs (atM (sf σ) (sz σ 0)) 46 (sz σ 0) true k2 q) → (if C.length < 24 then feL (sf σ) (sc σ) (sl σ) (sE σ) j1 m2 (some b) 0 (C ++ [q]) else none) = G → wb_Book_findEnds_166 4 2 330 (nI C.length) (nI p) (nI x.1) (nI q) h K := fun q m2 b hx0 hb0 hq ⟨k2, hk2, hk3, em2⟩ e' => by
        unfold wb_Book_findEnds_166
        simp (disch := omega) only [i0, i1, nLit, mul_I, add_I, nI_cl, isO_stI, isA_stI, isL_stI, gR_stI, gJ_stI, gK_stI, gL_stI, gS_stI, true_and, and_true, forall_eq, implies_true, ps_339, kO_4 S, kR_4_2 S, kA_8 S, kL_8 S, lt_I]
        refine ⟨fun c24 => ⟨kA_8 S (by omega), ?_⟩, fun c24 => ?_⟩
        · rw [if_pos c24] at e'
          unfold wb_Book_findEnds_189
          have e0 : (nI x.1 = 0) = (x.1 = 0) := propext (eq_I (by omega) (by decide))
          rw [e0]
          refine ⟨fun _ => ?_, fun z => absurd z hx0⟩
          have go := ih k2 (by omega) j1 q (some b) 0 (C ++ [q]) (stI h 8 C.length (nI q)) hq hk3 (by omega) (by omega) (by rw [List.length_append, List.length_singleton]; omega) (AgY_stI A rfl) (EnO_push O) (fun y hy h0 => by injection hy with hy; rw [← hy] at h0; exact absurd h0 hb0) (by rw [← em2]; exact e')
          have : ahV (sf σ) (some b) = 0 := by rw [ahV_s, if_neg hb0]
          rw [this, List.length_append, List.length_singleton] at go
          exact go
        · rw [if_neg c24] at e'
          exact H0 e'.symm h A
      -- the last piece
      have last : nx = sz σ 0 → m = [] → (if C.length < 24 then some (C ++ [nx]) else none) = G → wb_Book_findEnds_166 4 2 330 (nI C.length) (nI p) (nI x.1) (nI nx) h K := fun hq em e' => by
        have T' := T
        unfold wb_Book_findEnds_166
        simp (disch := omega) only [i0, i1, nLit, mul_I, add_I, nI_cl, isO_stI, isA_stI, isL_stI, gR_stI, gJ_stI, gK_stI, gL_stI, gS_stI, true_and, and_true, forall_eq, implies_true, ps_339, kO_4 S, kR_4_2 S, kA_8 S, kL_8 S, lt_I]
        refine ⟨fun c24 => ⟨kA_8 S (by omega), ?_⟩, fun c24 => ?_⟩
        · rw [if_pos c24] at e'
          have A2 := AgY_stI (k := C.length) (v := nI nx) A (show (fun b => b = 8) 8 from rfl)
          have := stepN (stI h 8 C.length (nI nx)) 0 (C ++ [nx]) (by omega) (by rw [List.length_append, List.length_singleton]; omega) A2 (EnO_push O) hin (by rw [em, ← e']; cases j1 <;> rfl)
          rw [List.length_append, List.length_singleton] at this
          exact this
        · rw [if_neg c24] at e'
          exact H0 e'.symm h A
      -- does a segment end here
      have b133 : ∀ n', n' = sc1 x n → n' ≤ 20 → ∀ bb : Bool, bb = enB (sf σ) (sc σ) (sl σ) (sE σ) pv x m → wb_Book_findEnds_133 4 2 330 (nI C.length) (nI n') (nI p) (nI x.1) (nI nx) (b2I bb) h K := fun n' hn' hn20 bb hbb => by
        unfold wb_Book_findEnds_133
        rw [T.2.2.2.1]
        cases bb with
        | false =>
          refine ⟨fun _ => ⟨fun z => absurd rfl z, fun _ => ⟨T.1, fun c1 => ?_, fun c1 => ?_⟩⟩, fun z => absurd rfl z⟩
          · have c1' := (lt_I (by omega) (by omega)).mp c1
            rcases mhd with q | ⟨q, b, m', em, -⟩
            · omega
            · rw [em] at hbb
              rw [em, feL_cc, ← hn', if_pos hn20, ← hbb, if_neg (by decide)] at e
              refine stepN h n' C hn20 hC A O hin ?_
              rw [em]
              exact e
          · have c1' : ¬ nx < sz σ 0 := fun z => c1 ((lt_I (by omega) (by omega)).mpr z)
            rcases mhd with ⟨q, em⟩ | ⟨q, -⟩
            · rw [em, feL_n, ← hn', if_pos hn20, x3] at e
              exact last q em e
            · omega
        | true =>
          have en := hbb.symm
          unfold enB at en
          rw [Bool.and_eq_true, Bool.and_eq_true, Bool.and_eq_true] at en
          have k5 := of_decide_eq_true en.1.1.1
          refine ⟨fun z => absurd z (by decide), fun _ => ⟨T.1, ?_⟩⟩
          refine k_blanksEnd_lp T (Nat.le_refl _) (sz σ 0 - nx) nx (by omega) (fun q hq => ⟨fun _ => ?_, fun z => absurd z (by decide)⟩)
          rw [Nat.zero_add, Nat.zero_add, Nat.zero_add] at hq
          rcases mhd with ⟨qe, em⟩ | ⟨ql, b, m', em, b1, b2, k2, hk2, em'⟩
          · rw [qe, Nat.sub_self, blE] at hq
            rw [em, feL_n, ← hn', if_pos hn20, x3] at e
            have := last qe em e
            rw [hq, ← qe]
            exact this
          · rw [em] at en hbb
            rw [em, feL_cc, ← hn', if_pos hn20, ← hbb, if_pos rfl] at e
            have b6 := of_decide_eq_true en.1.2
            rw [b6] at b1
            have bq : q = b.2.1 + b.2.2 := by
              rw [b2, hq]
              have e32 : atM (sf σ) (sz σ 0) nx = 32 := by
                unfold kdM at b1
                have := mkM_cases (atM (sf σ) (sz σ 0)) nx
                repeat' split at b1
                all_goals first | assumption | omega
              unfold nxM
              rw [e32, if_neg (by decide), if_neg (by decide), if_pos rfl, show sz σ 0 - nx = (sz σ 0 - nx - 1) + 1 by omega, blE, if_pos e32]
              exact blE_fu (atM_z (sf σ) (sz σ 0)) _ _ _ (by omega) (by omega)
            have hq2 := nxM_in (atM_z (sf σ) (sz σ 0)) (pt := 46) ql
            have hg2 := nxM_gt (atM (sf σ) (sz σ 0)) 46 (sz σ 0) nx
            refine close q m' b (by omega) (by omega) (by omega) ⟨k2, by omega, by omega, by rw [em', bq, b2]⟩ ?_
            rw [bq]
            exact e
      have b100 : ∀ n', n' = sc1 x n → n' ≤ 20 → ∀ be : Bool, be = (decide (sf σ p = 46) && exP (sf σ) (sc σ) (sl σ) (sE σ) pv) → wb_Book_findEnds_100 4 2 330 (nI C.length) (nI n') (nI p) (nI x.1) (nI nx) (b2I be) h K := fun n' hn' hn20 be hbe => by
        unfold wb_Book_findEnds_100
        have en : enB (sf σ) (sc σ) (sl σ) (sE σ) pv x m = (decide (x.1 = 5) && stopC (sf σ p) && blk m && !be) := by unfold enB; rw [hbe, x2]
        refine ⟨fun c1 => b133 n' hn' hn20 false ?_, fun c1 => ⟨T.1, k_atN T c' ?_⟩⟩
        · have := b2I_1 c1
          rw [en, this]
          simp
        have hb0 := b2I_0 c1
        rw [hb0] at en
        rw [Nat.zero_add]
        refine k_isStop (hf p) ⟨fun c2 => b133 n' hn' hn20 false ?_, fun c2 => ?_⟩
        · have := b2I_0 c2
          rw [en, this]
          simp
        have hst := b2I_1 c2
        have k5 : x.1 = 5 := by rw [x1]; exact stop_kd (by rw [eap]; exact hst)
        rw [hst, decide_eq_true k5] at en
        unfold wq_Book_isBlankOrEnd
        rw [T.2.2.2.1]
        refine ⟨T.1, fun c3 => ⟨fun z => absurd z (by decide), fun _ => b133 n' hn' hn20 true ?_⟩, fun c3 => ⟨T.1, ?_⟩⟩
        · have := (le_I (by omega) (by omega)).mp c3
          rcases mhd with ⟨q, em⟩ | ⟨q, -⟩
          · rw [en, em]; rfl
          · omega
        · have c3' : nx < sz σ 0 := by
            have : ¬ sz σ 0 ≤ nx := fun z => c3 ((le_I (by omega) (by omega)).mpr z)
            omega
          refine k_atN T c3' ?_
          rw [Nat.zero_add]
          rcases mhd with ⟨q, em⟩ | ⟨q, b, m', em, b1, b2, k2, hk2, em'⟩
          · omega
          have ean : atM (sf σ) (sz σ 0) nx = sf σ nx := by unfold atM; rw [if_pos q]
          have e32 : (nI (sf σ nx) = (32 : Int32)) = (sf σ nx = 32) := propext (eq_I (by have := hf nx; omega) (by decide))
          rw [e32]
          refine ⟨fun c4 => ⟨fun _ => b133 n' hn' hn20 false ?_, fun z => absurd rfl z⟩, fun c4 => ⟨fun z => absurd z (by decide), fun _ => b133 n' hn' hn20 true ?_⟩⟩
          · have nb : ¬ b.1 = 6 := fun z => by
              rw [b1] at z
              unfold kdM at z
              have := mkM_cases (atM (sf σ) (sz σ 0)) nx
              rw [ean] at z
              repeat' split at z
              all_goals first | (exact c4 (by assumption)) | omega
            rw [en, em]
            simp [blk, nb]
          · have yb : b.1 = 6 := by rw [b1]; unfold kdM; rw [ean, c4]; rfl
            rw [en, em]
            simp [blk, yb]
      have b65 : ∀ n', n' = sc1 x n → wb_Book_findEnds_65 4 2 330 (nI C.length) (nI n') (lN (ahV (sf σ) pv)) (nI p) (nI x.1) (nI nx) h K := fun n' hn' => by
        have hn21 : n' ≤ 21 := by rw [hn']; unfold sc1; split <;> omega
        unfold wb_Book_findEnds_65
        simp (disch := omega) only [i0, i1, nLit, mul_I, add_I, nI_cl, le_I]
        refine ⟨fun c20 => ⟨T.1, k_atN T c' ?_⟩, fun c20 => ?_⟩
        · rw [Nat.zero_add]
          have e46 : (nI (sf σ p) = nI 46) = (sf σ p = 46) := propext (eq_I (by have := hf p; omega) (by decide))
          rw [e46]
          refine ⟨fun c46 => b100 n' hn' c20 false (by rw [decide_eq_false c46, Bool.false_and]), fun c46 => ⟨W.1, ?_⟩⟩
          have hah : ahV (sf σ) pv < 2 ^ 63 := ahV_63 _ _
          refine k_has (b := exP (sf σ) (sc σ) (sl σ) (sE σ) pv) W hah (sE σ) 0 (by omega) ?_ ⟨fun c1 => ?_, fun c1 => ?_⟩
          · cases pv with
            | none =>
              refine ⟨fun ⟨i, _, hi, e1⟩ => ?_, fun z => absurd z (by simp [exP])⟩
              have wi := W.2.2.2.2.2.2.2.2 i hi
              have := pkV_pos wi.2.1.1 wi.2.2
              rw [e1] at this
              exact absurd this (by simp [ahV])
            | some v =>
              show _ ↔ exN (sf σ) (sc σ) (sl σ) v (sE σ) 0 = true
              rw [exN_iff]
              constructor
              · rintro ⟨i, _, hi, e1⟩
                have wi := W.2.2.2.2.2.2.2.2 i hi
                have hpos := pkV_pos wi.2.1.1 wi.2.2
                rw [Nat.zero_add] at wi hpos e1
                rw [e1] at hpos
                rw [ahV_s] at hpos e1
                by_cases v0 : v.1 = 0
                · rw [if_pos v0] at e1
                  exact ⟨i, Nat.zero_le _, by omega, (pk_tt v0 (hpv v rfl v0) wi.2.1 wi.2.2).mp e1.symm⟩
                · rw [if_neg v0] at hpos
                  omega
              · rintro ⟨i, _, hi, e1⟩
                have hi' : i < sE σ := by omega
                have wi := W.2.2.2.2.2.2.2.2 i hi'
                rw [Nat.zero_add] at wi
                have v0 : v.1 = 0 := by
                  unfold ttM at e1
                  rw [Bool.and_eq_true, Bool.and_eq_true] at e1
                  exact of_decide_eq_true e1.1.1
                refine ⟨i, Nat.zero_le _, hi', ?_⟩
                rw [Nat.zero_add]
                rw [ahV_s, if_pos v0]
                exact ((pk_tt v0 (hpv v rfl v0) wi.2.1 wi.2.2).mpr e1).symm
          · have := b2I_0 c1
            exact b100 n' hn' c20 false (by rw [decide_eq_true c46, Bool.true_and]; exact this.symm)
          · have := b2I_1 c1
            exact b100 n' hn' c20 true (by rw [decide_eq_true c46, Bool.true_and]; exact this.symm)
        · rw [feL_0 (by rw [← hn']; exact c20)] at e
          exact H0 e.symm h A
      refine k_kindAt T (Nat.le_refl _) c' ⟨T.1, ?_⟩
      rw [Nat.zero_add, Nat.zero_add, T.2.2.2.1]
      simp only [i0, i1, nLit, mul_I, add_I, nI_cl]
      have ke := fun KK HH => k_endOf (h := h) (K := KK) (pt := 46) T (Nat.le_refl _) c' ⟨by decide, by decide⟩ HH
      simp only [Nat.zero_add] at ke
      refine ke _ (fun q hq => ?_)
      rw [hnx] at hq
      subst hq
      have emx : ∀ inst : Decidable (nI (p + 1) < nI q), @ite Int32 (nI (p + 1) < nI q) inst (nI q) (nI (p + 1)) = nI q := fun inst => by
        rw [max_I (by omega) (by omega), show max (p + 1) q = q by omega]
      rw [emx, ← x1]
      have e6 : (nI x.1 = nI 6) = (x.1 = 6) := propext (eq_I (by omega) (by decide))
      rw [e6]
      refine ⟨fun c6 => b65 n (by unfold sc1; rw [if_pos c6]), fun c6 => b65 (n + 1) (by unfold sc1; rw [if_neg c6])⟩
end KLD
