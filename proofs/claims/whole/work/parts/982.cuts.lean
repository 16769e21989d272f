/-! load: the class's ends are the model's cuts -/
section CUT
variable {f c l : Nat → Nat} {E : Nat}
def cu (f c l : Nat → Nat) (E : Nat) : PcL → Option (Nat × Nat × Nat) → List Nat
  | [], _ => []
  | [x], _ => [x.2.1 + x.2.2]
  | x :: b :: m, pv => if enB f c l E pv x (b :: m) = true then (b.2.1 + b.2.2) :: cu f c l E m (some b) else cu f c l E (b :: m) (some x)
def okN (f c l : Nat → Nat) (E : Nat) : PcL → Option (Nat × Nat × Nat) → Nat → Bool
  | [], _, _ => true
  | [x], _, n => decide (sc1 x n ≤ 20)
  | x :: b :: m, pv, n => decide (sc1 x n ≤ 20) && (if enB f c l E pv x (b :: m) = true then okN f c l E m (some b) 0 else okN f c l E (b :: m) (some x) (sc1 x n))
theorem cu_n {x : Nat × Nat × Nat} {pv : Option (Nat × Nat × Nat)} : cu f c l E [x] pv = [x.2.1 + x.2.2] := rfl
theorem cu_cc {x b : Nat × Nat × Nat} {m : PcL} {pv : Option (Nat × Nat × Nat)} : cu f c l E (x :: b :: m) pv = if enB f c l E pv x (b :: m) = true then (b.2.1 + b.2.2) :: cu f c l E m (some b) else cu f c l E (b :: m) (some x) := rfl
theorem okN_n {x : Nat × Nat × Nat} {pv : Option (Nat × Nat × Nat)} {n : Nat} : okN f c l E [x] pv n = decide (sc1 x n ≤ 20) := rfl
theorem okN_cc {x b : Nat × Nat × Nat} {m : PcL} {pv : Option (Nat × Nat × Nat)} {n : Nat} : okN f c l E (x :: b :: m) pv n = (decide (sc1 x n ≤ 20) && (if enB f c l E pv x (b :: m) = true then okN f c l E m (some b) 0 else okN f c l E (b :: m) (some x) (sc1 x n))) := rfl
theorem feL_cu : ∀ (k : Nat) (L : PcL) (pv : Option (Nat × Nat × Nat)) (n : Nat) (C : List Nat), L.length ≤ k → C.length ≤ 24 → feL f c l E k L pv n C = if C.length + (cu f c l E L pv).length ≤ 24 ∧ okN f c l E L pv n = true then some (C ++ cu f c l E L pv) else none := by
  intro k
  induction k with
  | zero =>
    intro L pv n C h1 h2
    cases L with
    | nil => rw [if_pos ⟨h2, rfl⟩]; show some C = some (C ++ []); rw [List.append_nil]
    | cons x m => rw [List.length_cons] at h1; omega
  | succ k ih =>
    intro L pv n C h1 h2
    match L with
    | [] => rw [if_pos ⟨h2, rfl⟩]; show some C = some (C ++ []); rw [List.append_nil]
    | [x] =>
      rw [feL_n, cu_n, okN_n, List.length_singleton]
      by_cases c20 : sc1 x n ≤ 20
      · rw [if_pos c20]
        by_cases c24 : C.length < 24
        · rw [if_pos c24, if_pos ⟨by omega, decide_eq_true c20⟩]
        · rw [if_neg c24, if_neg (fun z => by have := z.1; omega)]
      · rw [if_neg c20, if_neg (fun z => c20 (of_decide_eq_true z.2))]
    | x :: b :: m =>
      rw [List.length_cons, List.length_cons] at h1
      rw [feL_cc, cu_cc, okN_cc]
      by_cases c20 : sc1 x n ≤ 20
      · rw [if_pos c20, decide_eq_true c20, Bool.true_and]
        by_cases en : enB f c l E pv x (b :: m) = true
        · rw [if_pos en, if_pos en, if_pos en]
          by_cases c24 : C.length < 24
          · rw [if_pos c24, ih m (some b) 0 (C ++ [b.2.1 + b.2.2]) (by omega) (by rw [List.length_append, List.length_singleton]; omega), List.length_append, List.length_singleton, List.length_cons, List.append_assoc, List.singleton_append, show C.length + 1 + (cu f c l E m (some b)).length = C.length + ((cu f c l E m (some b)).length + 1) by omega]
          · rw [if_neg c24, if_neg (fun z => by have := z.1; rw [List.length_cons] at this; omega)]
        · rw [if_neg en, if_neg en, if_neg en]
          exact ih (b :: m) (some x) (sc1 x n) C (by rw [List.length_cons]; omega) h2
      · rw [if_neg c20, decide_eq_false c20, Bool.false_and, if_neg (fun z => absurd z.2 (by decide))]
def enE (x : Nat × Nat × Nat) : PcL → Nat
  | [] => x.2.1 + x.2.2
  | b :: _ => b.2.1 + b.2.2
def ctR (f c l : Nat → Nat) (E : Nat) : PcL → Option (Nat × Nat × Nat) → List Nat
  | [], _ => []
  | x :: m, pv => if enB f c l E pv x m = true then enE x m :: ctR f c l E m (some x) else ctR f c l E m (some x)
theorem ctI_R {L : PcL} : ∀ (r k : Nat) (pv : Option (Nat × Nat × Nat)), k + r = L.length → pv = (if k = 0 then none else some (L.getD (k - 1) (0, 0, 0))) → ctI f c l E L r k = ctR f c l E (L.drop k) pv
  | 0, k, pv, h1, _ => by rw [List.drop_of_length_le (by omega)]; rfl
  | r + 1, k, pv, h1, hp => by
    have hk : k < L.length := by omega
    have ih := ctI_R (L := L) r (k + 1) (some (L.getD k (0, 0, 0))) (by omega) (by rw [if_neg (by omega), Nat.add_sub_cancel])
    have ex : L.getD k (0, 0, 0) = L[k] := getD_at hk
    have e1 : blk (L.drop (k + 1)) = (decide (L.length ≤ k + 1) || decide ((L.getD (k + 1) (0, 0, 0)).1 = 6)) := by
      by_cases q : L.length ≤ k + 1
      · rw [List.drop_of_length_le q, decide_eq_true q]
        rfl
      · rw [decide_eq_false q, Bool.false_or, List.drop_eq_getElem_cons (by omega), getD_at (by omega)]
        rfl
    have e2 : exP f c l E pv = (decide (0 < k) && exN f c l (L.getD (k - 1) (0, 0, 0)) E 0) := by
      rw [hp]
      by_cases q : k = 0
      · rw [if_pos q, decide_eq_false (by omega), Bool.false_and]
        rfl
      · rw [if_neg q, decide_eq_true (by omega), Bool.true_and]
        rfl
    have e3 : enI f c l E L k = enB f c l E pv (L.getD k (0, 0, 0)) (L.drop (k + 1)) := by
      unfold enI enB
      rw [e1, e2, Bool.and_assoc (decide (f _ = 46))]
    have e4 : (L.getD (if L.length ≤ k + 1 then k else k + 1) (0, 0, 0)).2.1 + (L.getD (if L.length ≤ k + 1 then k else k + 1) (0, 0, 0)).2.2 = enE (L.getD k (0, 0, 0)) (L.drop (k + 1)) := by
      by_cases q : L.length ≤ k + 1
      · rw [if_pos q, List.drop_of_length_le q]
        rfl
      · rw [if_neg q, List.drop_eq_getElem_cons (by omega), getD_at (by omega)]
        rfl
    rw [ctI, e3, e4, ih, List.drop_eq_getElem_cons hk, ctR, ex]
/-- pieces that tile p .. z -/
def TL (z : Nat) : PcL → Nat → Prop
  | [], p => p = z
  | x :: m, p => x.2.1 = p ∧ p < x.2.1 + x.2.2 ∧ TL z m (x.2.1 + x.2.2)
theorem TL_le {z : Nat} : ∀ (L : PcL) (p : Nat), TL z L p → p ≤ z
  | [], p, h => Nat.le_of_eq h
  | x :: m, p, h => by have := TL_le m _ h.2.2; have := h.2.1; omega
theorem pcs_TL {z : Nat} : ∀ (k p : Nat), p ≤ z → z ≤ p + k → TL z (pcs (atM f z) 46 z true k p) p
  | 0, p, h1, h2 => by show p = z; omega
  | k + 1, p, h1, h2 => by
    have a := nxM_gt (atM f z) 46 z p
    rw [pcs]
    by_cases q : p < z
    · have b := nxM_in (atM_z f z) (pt := 46) q
      rw [if_pos q, if_neg (fun y => absurd y.2 (by decide))]
      have e : p + (nxM (atM f z) 46 z p - p) = nxM (atM f z) 46 z p := by omega
      refine ⟨rfl, ?_, ?_⟩
      · show p < p + (nxM (atM f z) 46 z p - p)
        omega
      · show TL z _ (p + (nxM (atM f z) 46 z p - p))
        rw [e]
        exact pcs_TL k _ b (by omega)
    · rw [if_neg q]
      show p = z
      omega
def lst (C : List Nat) : Nat := C.getD (C.length - 1) 0
theorem lst_app (C : List Nat) (q : Nat) : lst (C ++ [q]) = q := by
  unfold lst
  rw [List.length_append, List.length_singleton, Nat.add_sub_cancel, List.getD_eq_getElem?_getD, List.getElem?_append_right (Nat.le_refl _), Nat.sub_self]
  rfl
theorem ctZ_keep {C : List Nat} {z : Nat} (h : C ≠ []) (e : lst C = z) : ctZ C z = C := by
  have hl : ¬ C.length = 0 := fun y => h (List.length_eq_zero_iff.mp y)
  unfold lst at e
  unfold ctZ
  rw [e]
  split
  · rfl
  · rw [if_neg (by omega)]
theorem ctZ_add {C : List Nat} {z : Nat} (h : C = [] ∨ lst C < z) (h0 : 0 < z) : ctZ C z = C ++ [z] := by
  unfold lst at h
  unfold ctZ
  rw [if_neg (by omega), if_pos]
  rcases h with h | h
  · left; rw [h]; rfl
  · right; exact h
theorem enB_6 {pv : Option (Nat × Nat × Nat)} {x b : Nat × Nat × Nat} {m : PcL} (h : enB f c l E pv x (b :: m) = true) : x.1 = 5 ∧ b.1 = 6 := by
  unfold enB at h
  rw [Bool.and_eq_true, Bool.and_eq_true, Bool.and_eq_true] at h
  exact ⟨of_decide_eq_true h.1.1.1, of_decide_eq_true h.1.2⟩
theorem enB_n {pv : Option (Nat × Nat × Nat)} {x : Nat × Nat × Nat} {m : PcL} (h : x.1 = 6) : enB f c l E pv x m = false := by
  unfold enB
  rw [decide_eq_false (by omega), Bool.false_and, Bool.false_and, Bool.false_and]
theorem ctZ_cu {z : Nat} (h0 : 0 < z) : ∀ (L : PcL) (pv : Option (Nat × Nat × Nat)) (p : Nat) (C0 : List Nat), TL z L p → (p = z → C0 ≠ [] ∧ lst C0 = z) → (p < z → C0 = [] ∨ lst C0 < z) → ctZ (C0 ++ ctR f c l E L pv) z = C0 ++ cu f c l E L pv
  | [], pv, p, C0, t, h1, h2 => by
    show ctZ (C0 ++ []) z = C0 ++ []
    rw [List.append_nil]
    exact ctZ_keep (h1 t).1 (h1 t).2
  | [x], pv, p, C0, t, h1, h2 => by
    obtain ⟨t1, t2, t3⟩ := t
    have t3' : x.2.1 + x.2.2 = z := t3
    rw [cu_n, ctR, t3']
    by_cases en : enB f c l E pv x [] = true
    · rw [if_pos en]
      have e : enE x [] :: ctR f c l E [] (some x) = [z] := by show [x.2.1 + x.2.2] = [z]; rw [t3']
      rw [e]
      exact ctZ_keep (by simp) (lst_app _ _)
    · rw [if_neg en]
      show ctZ (C0 ++ []) z = _
      rw [List.append_nil]
      exact ctZ_add (h2 (by omega)) h0
  | x :: b :: m, pv, p, C0, t, h1, h2 => by
    obtain ⟨t1, t2, t3⟩ := t
    have t3' := t3
    obtain ⟨u1, u2, u3⟩ := t3'
    have le := TL_le _ _ u3
    rw [cu_cc, ctR]
    by_cases en : enB f c l E pv x (b :: m) = true
    · rw [if_pos en, if_pos en, ctR, enB_n (enB_6 en).2, if_neg (by decide)]
      show ctZ (C0 ++ (b.2.1 + b.2.2) :: ctR f c l E m (some b)) z = _
      have e : ∀ M : List Nat, C0 ++ (b.2.1 + b.2.2) :: M = (C0 ++ [b.2.1 + b.2.2]) ++ M := fun M => by rw [List.append_assoc, List.singleton_append]
      rw [e (ctR f c l E m (some b)), e (cu f c l E m (some b))]
      exact ctZ_cu h0 m (some b) (b.2.1 + b.2.2) (C0 ++ [b.2.1 + b.2.2]) u3 (fun q => ⟨by simp, by rw [lst_app]; exact q⟩) (fun q => Or.inr (by rw [lst_app]; exact q))
    · rw [if_neg en, if_neg en]
      exact ctZ_cu h0 (b :: m) (some x) (x.2.1 + x.2.2) C0 t3 (fun q => by omega) (fun _ => h2 (by omega))
def Inc (z : Nat) : List Nat → Nat → Prop
  | [], _ => True
  | d :: C, p => p < d ∧ d ≤ z ∧ Inc z C d
theorem Inc_w {z : Nat} : ∀ {C : List Nat} {p q : Nat}, p ≤ q → Inc z C q → Inc z C p
  | [], _, _, _, _ => trivial
  | _ :: _, _, _, h, i => ⟨Nat.lt_of_le_of_lt h i.1, i.2⟩
theorem cu_Inc {z : Nat} : ∀ (L : PcL) (pv : Option (Nat × Nat × Nat)) (p : Nat), TL z L p → Inc z (cu f c l E L pv) p
  | [], pv, p, t => trivial
  | [x], pv, p, t => by
    obtain ⟨t1, t2, t3⟩ := t
    exact ⟨t2, Nat.le_of_eq t3, trivial⟩
  | x :: b :: m, pv, p, t => by
    obtain ⟨t1, t2, t3⟩ := t
    have t3' := t3
    obtain ⟨u1, u2, u3⟩ := t3'
    have le := TL_le _ _ u3
    rw [cu_cc]
    split
    · exact ⟨by omega, le, cu_Inc m (some b) _ u3⟩
    · exact Inc_w (by omega) (cu_Inc (b :: m) (some x) _ t3)
theorem cu_c (x : Nat × Nat × Nat) (m : PcL) (pv : Option (Nat × Nat × Nat)) : ∃ d C, cu f c l E (x :: m) pv = d :: C := by
  induction m generalizing x pv with
  | nil => exact ⟨_, _, rfl⟩
  | cons b m ih =>
    rw [cu_cc]
    split
    · exact ⟨_, _, rfl⟩
    · exact ih b (some x)
theorem Inc_at {z : Nat} : ∀ {C : List Nat} {p s : Nat}, Inc z C p → s < C.length → (if s = 0 then p else C.getD (s - 1) 0) ≤ C.getD s 0 ∧ C.getD s 0 ≤ z
  | [], p, s, _, hs => absurd hs (by simp)
  | d :: C, p, 0, i, _ => ⟨Nat.le_of_lt i.1, i.2.1⟩
  | d :: C, p, s + 1, i, hs => by
    have := Inc_at (s := s) i.2.2 (by rw [List.length_cons] at hs; omega)
    rw [if_neg (by omega), Nat.add_sub_cancel, List.getD_cons_succ]
    refine ⟨?_, this.2⟩
    have h := this.1
    cases s with
    | zero => exact h
    | succ s => rw [if_neg (by omega), Nat.add_sub_cancel] at h; rw [List.getD_cons_succ]; exact h
end CUT
