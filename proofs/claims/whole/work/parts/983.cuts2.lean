/-! load: counts of the segments, and their readings -/
section CU2
variable {f c l : Nat → Nat} {E : Nat} {L : PcL}
def okH (L : PcL) (a n : Nat) : List Nat → Bool
  | [] => true
  | cut :: C => if (cnL L cut (L.length - a) a n).2 ≤ 20 then okC L C (cnL L cut (L.length - a) a n).1 else false
theorem okC_H (C : List Nat) (a : Nat) : okC L C a = okH L a 0 C := by cases C <;> rfl
theorem drop_c {a : Nat} {x : Nat × Nat × Nat} {m : PcL} (h : L.drop a = x :: m) : a < L.length ∧ L.getD a (0, 0, 0) = x ∧ L.drop (a + 1) = m := by
  have hl : a < L.length := by
    have := congrArg List.length h
    rw [List.length_drop, List.length_cons] at this
    omega
  rw [List.drop_eq_getElem_cons hl] at h
  injection h with h1 h2
  exact ⟨hl, by rw [getD_at hl]; exact h1, h2⟩
theorem cnL_s {a n cut : Nat} {x : Nat × Nat × Nat} {m : PcL} (h : L.drop a = x :: m) (hx : x.2.1 < cut) : cnL L cut (L.length - a) a n = cnL L cut (L.length - (a + 1)) (a + 1) (sc1 x n) := by
  obtain ⟨h1, h2, h3⟩ := drop_c h
  rw [show L.length - a = (L.length - (a + 1)) + 1 by omega, cnL, h2, if_pos hx]
  congr 1
  unfold sc1
  split <;> rfl
theorem cnL_e {a n cut : Nat} (h : L.length ≤ a ∨ ¬ (L.getD a (0, 0, 0)).2.1 < cut) : cnL L cut (L.length - a) a n = (a, n) := by
  rcases h with h | h
  · rw [show L.length - a = 0 by omega, cnL]
  · cases q : L.length - a with
    | zero => rw [cnL]
    | succ r => rw [cnL, if_neg h]
theorem cnL_ge (cut : Nat) : ∀ (r a n : Nat), n ≤ (cnL L cut r a n).2
  | 0, a, n => Nat.le_refl n
  | r + 1, a, n => by
    have := cnL_ge cut r (a + 1) (n + if (L.getD a (0, 0, 0)).1 = 6 then 0 else 1)
    unfold cnL
    split
    · exact Nat.le_trans (Nat.le_add_right _ _) this
    · exact Nat.le_refl n
theorem okN_ok {z : Nat} : ∀ (M : PcL) (pv : Option (Nat × Nat × Nat)) (n a p : Nat), L.drop a = M → TL z M p → okN f c l E M pv n = okH L a n (cu f c l E M pv)
  | [], pv, n, a, p, hd, t => rfl
  | [x], pv, n, a, p, hd, t => by
    obtain ⟨h1, h2, h3⟩ := drop_c hd
    obtain ⟨t1, t2, t3⟩ := t
    have hl : L.length ≤ a + 1 := by
      have := congrArg List.length h3
      rw [List.length_drop, List.length_nil] at this
      omega
    rw [cu_n, okN_n, okH, cnL_s hd (by omega), cnL_e (Or.inl hl)]
    show decide (sc1 x n ≤ 20) = if sc1 x n ≤ 20 then true else false
    by_cases q : sc1 x n ≤ 20
    · rw [if_pos q, decide_eq_true q]
    · rw [if_neg q, decide_eq_false q]
  | x :: b :: m, pv, n, a, p, hd, t => by
    obtain ⟨h1, h2, h3⟩ := drop_c hd
    obtain ⟨k1, k2, k3⟩ := drop_c h3
    obtain ⟨t1, t2, t3⟩ := t
    have t3' := t3
    obtain ⟨u1, u2, u3⟩ := t3'
    rw [cu_cc, okN_cc]
    by_cases en : enB f c l E pv x (b :: m) = true
    · rw [if_pos en, if_pos en]
      have e6 := (enB_6 en).2
      have eb : sc1 b (sc1 x n) = sc1 x n := by
        show (if b.1 = 6 then sc1 x n else sc1 x n + 1) = _
        rw [if_pos e6]
      have ee : cnL L (b.2.1 + b.2.2) (L.length - a) a n = (a + 2, sc1 x n) := by
        rw [cnL_s hd (by omega), cnL_s h3 (by omega), eb]
        refine cnL_e ?_
        cases m with
        | nil =>
          left
          have := congrArg List.length k3
          rw [List.length_drop, List.length_nil] at this
          omega
        | cons y m' =>
          right
          rw [(drop_c k3).2.1, u3.1]
          omega
      have ih := okN_ok m (some b) 0 (a + 2) _ k3 u3
      rw [okH, ee, ih, okC_H]
      show _ = if sc1 x n ≤ 20 then okH L (a + 2) 0 (cu f c l E m (some b)) else false
      by_cases q : sc1 x n ≤ 20
      · rw [if_pos q, decide_eq_true q, Bool.true_and]
      · rw [if_neg q, decide_eq_false q, Bool.false_and]
    · rw [if_neg en, if_neg en]
      have ih := okN_ok (b :: m) (some x) (sc1 x n) (a + 1) _ h3 t3
      have ic := cu_Inc (f := f) (c := c) (l := l) (E := E) (b :: m) (some x) _ t3
      obtain ⟨d, C, ed⟩ := cu_c (f := f) (c := c) (l := l) (E := E) b m (some x)
      rw [ih]
      rw [ed] at ic ⊢
      have id1 := ic.1
      rw [okH, okH, cnL_s hd (by omega)]
      by_cases q : sc1 x n ≤ 20
      · rw [decide_eq_true q, Bool.true_and]
      · have := cnL_ge (L := L) d (L.length - (a + 1)) (a + 1) (sc1 x n)
        rw [decide_eq_false q, Bool.false_and, if_neg (by omega)]
/-- the segments' readings are short -/
def Sg (f : Nat → Nat) : List Nat → Nat → Prop
  | [], _ => True
  | d :: C, p => (pcs (atM f d) 46 d false 600 p).length ≤ 20 ∧ Sg f C d
def CuO (f : Nat → Nat) (z d : Nat) : Prop := d = z ∨ (atM f z (d - 1) = 32 ∧ atM f z d ≠ 32)
theorem rd_st {z d p : Nat} (o : CuO f z d) (hp : p < d) (hd : d ≤ z) : kdM (atM f d) p = kdM (atM f z) p ∧ nxM (atM f d) 46 d p = nxM (atM f z) 46 z p := by
  rcases o with o | ⟨o1, o2⟩
  · rw [o]
    exact ⟨rfl, rfl⟩
  · have h : ∀ i, p ≤ i → i < d → atM f d i = atM f z i := fun i _ hi => by unfold atM; rw [if_pos hi, if_pos (by omega)]
    have he : atM f d d ≠ 32 := by rw [atM_z f d d (Nat.le_refl d)]; decide
    exact ⟨kdM_tr o1 hp h, nxM_tr o1 o2 he (by decide) hp hd h⟩
theorem rd_len {z d p : Nat} (o : CuO f z d) (hp : p < d) (hd : d ≤ z) (hz : z ≤ 600) : (pcs (atM f d) 46 d false 600 p).length = (if kdM (atM f z) p = 6 then 0 else 1) + (pcs (atM f d) 46 d false 600 (nxM (atM f z) 46 z p)).length := by
  have s := rd_st o hp hd
  have a := nxM_gt (atM f z) 46 z p
  have e : pcs (atM f d) 46 d false 600 p = pcs (atM f d) 46 d false (599 + 1) p := rfl
  rw [e, pcs, if_pos hp, s.1, s.2, pcs_fu 599 600 (nxM (atM f z) 46 z p) (by omega) (by omega)]
  by_cases q : kdM (atM f z) p = 6
  · rw [if_pos ⟨q, rfl⟩, if_pos q, Nat.zero_add]
  · rw [if_neg (fun y => q y.1), if_neg q, List.length_cons, Nat.add_comm]
theorem rd_0 {d p : Nat} (h : d ≤ p) : (pcs (atM f d) 46 d false 600 p).length = 0 := by
  have e : pcs (atM f d) 46 d false 600 p = pcs (atM f d) 46 d false (599 + 1) p := rfl
  rw [e, pcs, if_neg (by omega)]
  rfl
theorem bl_end {g : Nat → Nat} {z : Nat} (hz : ∀ q, z ≤ q → g q = 0) : ∀ (n q : Nat), z ≤ q + n → g (q - 1) = 32 → 1 ≤ q → g (blE g q n - 1) = 32 ∧ g (blE g q n) ≠ 32
  | 0, q, h1, h2, h3 => ⟨h2, by rw [blE, hz q (by omega)]; decide⟩
  | n + 1, q, h1, h2, h3 => by
    rw [blE]
    by_cases y : g q = 32
    · rw [if_pos y]
      exact bl_end hz n (q + 1) (by omega) (by rw [Nat.add_sub_cancel]; exact y) (by omega)
    · rw [if_neg y]
      exact ⟨h2, y⟩
theorem kd6 {g : Nat → Nat} {p : Nat} (h : kdM g p = 6) : g p = 32 := by
  unfold kdM at h
  have := mkM_cases g p
  repeat' split at h
  all_goals first | assumption | omega
theorem seg_all {z : Nat} (hz : z ≤ 600) : ∀ (k p : Nat) (pv : Option (Nat × Nat × Nat)) (n : Nat), p ≤ z → z ≤ p + k → okN f c l E (pcs (atM f z) 46 z true k p) pv n = true → ∀ d C, cu f c l E (pcs (atM f z) 46 z true k p) pv = d :: C → (p < d ∧ d ≤ z ∧ CuO f z d) ∧ n + (pcs (atM f d) 46 d false 600 p).length ≤ 20 ∧ Sg f C d := by
  intro k
  induction k using Nat.strongRecOn with
  | _ k ih =>
    intro p pv n h1 h2 ok d C e
    have en0 : ∀ q, z ≤ q → ∀ k, pcs (atM f z) 46 z true k q = [] := fun q hq k => by
      cases k with
      | zero => rfl
      | succ k => rw [pcs, if_neg (by omega)]
    by_cases hp : p < z
    · obtain ⟨k1, rfl⟩ : ∃ k1, k = k1 + 1 := ⟨k - 1, by omega⟩
      have hg := nxM_gt (atM f z) 46 z p
      have hin := nxM_in (atM_z f z) (pt := 46) hp
      rw [pcs, if_pos hp, if_neg (fun y => absurd y.2 (by decide))] at ok e
      generalize hnx : nxM (atM f z) 46 z p = nx at *
      by_cases hn : nx < z
      · obtain ⟨k2, rfl⟩ : ∃ k2, k1 = k2 + 1 := ⟨k1 - 1, by omega⟩
        have hg2 := nxM_gt (atM f z) 46 z nx
        have hin2 := nxM_in (atM_z f z) (pt := 46) hn
        have em : pcs (atM f z) 46 z true (k2 + 1) nx = (kdM (atM f z) nx, nx, nxM (atM f z) 46 z nx - nx) :: pcs (atM f z) 46 z true k2 (nxM (atM f z) 46 z nx) := by rw [pcs, if_pos hn, if_neg (fun y => absurd y.2 (by decide))]
        rw [em] at ok e
        rw [okN_cc, Bool.and_eq_true] at ok
        obtain ⟨o20, ok⟩ := ok
        have o20 := of_decide_eq_true o20
        rw [cu_cc] at e
        by_cases en : enB f c l E pv (kdM (atM f z) p, p, nx - p) ((kdM (atM f z) nx, nx, nxM (atM f z) 46 z nx - nx) :: pcs (atM f z) 46 z true k2 (nxM (atM f z) 46 z nx)) = true
        · rw [if_pos en] at ok e
          have e56 := enB_6 en
          have e5 : kdM (atM f z) p = 5 := e56.1
          have e6 : kdM (atM f z) nx = 6 := e56.2
          injection e with ed eC
          have ed' : d = nxM (atM f z) 46 z nx := by rw [← ed]; show nx + (_ - nx) = _; omega
          have s1 : sc1 (kdM (atM f z) p, p, nx - p) n = n + 1 := by unfold sc1; rw [if_neg (by show ¬ kdM (atM f z) p = 6; omega)]
          have g32 := kd6 e6
          have en2 : nxM (atM f z) 46 z nx = blE (atM f z) (nx + 1) z := by
            unfold nxM
            rw [g32, if_neg (by decide), if_neg (by decide), if_pos rfl]
          have be := bl_end (atM_z f z) z (nx + 1) (by omega) (by rw [Nat.add_sub_cancel]; exact g32) (by omega)
          rw [← en2, ← ed'] at be
          have o : CuO f z d := Or.inr be
          refine ⟨⟨by omega, by omega, o⟩, ?_, ?_⟩
          · rw [rd_len o (by omega) (by omega) hz, hnx, rd_len o (show nx < d by omega) (by omega) hz, if_neg (by omega), if_pos e6, rd_0 (by omega)]
            omega
          · rw [← eC, ← ed']
            rw [← ed'] at ok
            cases hc : cu f c l E (pcs (atM f z) 46 z true k2 d) (some (kdM (atM f z) nx, nx, d - nx)) with
            | nil => exact trivial
            | cons d2 C2 =>
              have := ih k2 (by omega) d (some (kdM (atM f z) nx, nx, d - nx)) 0 (by omega) (by omega) ok d2 C2 hc
              exact ⟨by have := this.2.1; omega, this.2.2⟩
        · rw [if_neg en, ← em] at ok e
          have := ih (k2 + 1) (by omega) nx (some (kdM (atM f z) p, p, nx - p)) (sc1 (kdM (atM f z) p, p, nx - p) n) (by omega) (by omega) ok d C e
          obtain ⟨⟨q1, q2, q3⟩, q4, q5⟩ := this
          refine ⟨⟨by omega, q2, q3⟩, ?_, q5⟩
          rw [rd_len q3 (by omega) q2 hz, hnx]
          unfold sc1 at q4
          split at q4
          · rename_i y
            have y' : kdM (atM f z) p = 6 := y
            rw [if_pos y']
            omega
          · rename_i y
            have y' : ¬ kdM (atM f z) p = 6 := y
            rw [if_neg y']
            omega
      · rw [en0 nx (by omega)] at ok e
        rw [okN_n] at ok
        have ok := of_decide_eq_true ok
        rw [cu_n] at e
        injection e with ed eC
        have ed' : d = z := by rw [← ed]; show p + (nx - p) = z; omega
        have o : CuO f z d := Or.inl ed'
        rw [← eC]
        refine ⟨⟨by omega, by omega, o⟩, ?_, trivial⟩
        rw [rd_len o (by omega) (by omega) hz, hnx, rd_0 (by omega)]
        unfold sc1 at ok
        split at ok
        · rename_i y
          have y' : kdM (atM f z) p = 6 := y
          rw [if_pos y']
          omega
        · rename_i y
          have y' : ¬ kdM (atM f z) p = 6 := y
          rw [if_neg y']
          omega
    · rw [en0 p (by omega)] at e
      cases e
theorem Sg_at : ∀ {C : List Nat} {p s : Nat}, Sg f C p → s < C.length → (pcs (atM f (C.getD s 0)) 46 (C.getD s 0) false 600 (if s = 0 then p else C.getD (s - 1) 0)).length ≤ 20
  | [], p, s, _, hs => absurd hs (by simp)
  | d :: C, p, 0, i, _ => i.1
  | d :: C, p, s + 1, i, hs => by
    have := Sg_at (s := s) i.2 (by rw [List.length_cons] at hs; omega)
    rw [if_neg (by omega), Nat.add_sub_cancel, List.getD_cons_succ]
    cases s with
    | zero => exact this
    | succ s => rw [if_neg (by omega), Nat.add_sub_cancel] at this; rw [List.getD_cons_succ]; exact this
end CU2
section LDE
variable {σ : St}
theorem pcL_TL (w : WF σ) : TL (sz σ 0) (pcL σ) 0 := pcs_TL 600 0 (Nat.zero_le _) (by have := w.1.2 0 (by decide); omega)
theorem ctL_cu (w : WF σ) : ctL σ = cu (sf σ) (sc σ) (sl σ) (sE σ) (pcL σ) none := by
  have t := pcL_TL w
  unfold ctL
  rw [ctI_R (pcL σ).length 0 none (by omega) rfl, List.drop_zero]
  by_cases h : sz σ 0 = 0
  · have e : pcL σ = [] := by
      unfold pcL
      rw [h]
      rfl
    rw [e, h]
    rfl
  · exact ctZ_cu (by omega) (pcL σ) none 0 [] t (fun y => by omega) (fun _ => Or.inl rfl)
theorem okL_N (w : WF σ) : okL σ = (decide ((ctL σ).length ≤ 24) && okN (sf σ) (sc σ) (sl σ) (sE σ) (pcL σ) none 0) := by
  unfold okL
  rw [okC_H, okN_ok (L := pcL σ) (pcL σ) none 0 0 0 rfl (pcL_TL w), ← ctL_cu w]
theorem load_F (w : WF σ) : feL (sf σ) (sc σ) (sl σ) (sE σ) 600 (pcL σ) none 0 [] = if okL σ = true then some (ctL σ) else none := by
  rw [feL_cu 600 (pcL σ) none 0 [] (pcs_len _ _ _ _ _ _) (by simp), ← ctL_cu w, okL_N w, List.length_nil, Nat.zero_add, List.nil_append]
  by_cases y : (ctL σ).length ≤ 24 ∧ okN (sf σ) (sc σ) (sl σ) (sE σ) (pcL σ) none 0 = true
  · rw [if_pos y, if_pos (by rw [Bool.and_eq_true]; exact ⟨decide_eq_true y.1, y.2⟩)]
  · rw [if_neg y, if_neg (fun z => y (by rw [Bool.and_eq_true] at z; exact ⟨of_decide_eq_true z.1, z.2⟩))]
theorem load_I (w : WF σ) : Inc (sz σ 0) (ctL σ) 0 := by
  rw [ctL_cu w]
  exact cu_Inc _ _ _ (pcL_TL w)
theorem load_m (w : WF σ) : ∀ s, s < (ctL σ).length → bgC (ctL σ) s ≤ (ctL σ).getD s 0 := fun s hs => (Inc_at (load_I w) hs).1
theorem load_x (w : WF σ) : ∀ s, (ctL σ).getD s 0 ≤ sz σ 0 := fun s => by
  by_cases hs : s < (ctL σ).length
  · exact (Inc_at (load_I w) hs).2
  · rw [List.getD_eq_getElem?_getD, List.getElem?_eq_none (by omega)]
    exact Nat.zero_le _
theorem load_N (w : WF σ) (ok : okL σ = true) : ∀ s, s < (ctL σ).length → (pcC (cpF (sf σ) 0 1 (sz σ 0)) (ctL σ) s).length ≤ 20 := fun s hs => by
  have hz := w.1.2 0 (by decide)
  have hx := load_x w s
  have hm := load_m w s hs
  rw [okL_N w, Bool.and_eq_true] at ok
  have g : Sg (sf σ) (ctL σ) 0 := by
    cases e : ctL σ with
    | nil => exact trivial
    | cons d C =>
      have := seg_all hz 600 0 none 0 (Nat.zero_le _) (by omega) ok.2 d C (by rw [← e]; exact (ctL_cu w).symm)
      exact ⟨by have := this.2.1; omega, this.2.2⟩
  have r := Sg_at g hs
  unfold pcC
  have e := pcs_sh (g := atM (sf σ) ((ctL σ).getD s 0)) (g' := atM (cpF (sf σ) 0 1 (sz σ 0)) (600 + (ctL σ).getD s 0)) (d := 600) (pt := 46) (bl := false) (atM_z (sf σ) ((ctL σ).getD s 0)) 600 (bgC (ctL σ) s) (fun i hi => by
    unfold atM
    by_cases q : i < (ctL σ).getD s 0
    · rw [if_pos q, if_pos (by omega), Nat.add_comm i 600]
      have := cpF_i (f := sf σ) (a := 0) (t := 1) (k := sz σ 0) (j := i) (by omega)
      rw [Nat.zero_add] at this
      exact this
    · rw [if_neg q, if_neg (by omega)])
  rw [Nat.add_comm 600 ((ctL σ).getD s 0), Nat.add_comm 600 (bgC (ctL σ) s)]
  rw [Nat.add_comm 600 ((ctL σ).getD s 0)] at e
  rw [e]
  exact r
theorem keep_len (w : WF σ) : ∀ s, s < sS σ → sP σ < 20 → (pcRw (tMid σ s) (2 + sP σ)).length ≤ 20 := fun s hs hP => by
  have bn := w.2.1.2.1 s hs
  have q := w.2.1.2.2 s hs
  unfold pcB at q
  have ez : sz (tMid σ s) (2 + sP σ) = sn σ s := va_up_self _ _ _
  unfold pcRw
  rw [ez, if_neg (by omega)]
  have e := pcs_sh (g := atM (sf σ) (600 + sb σ s + sn σ s)) (g' := atM (sf (tMid σ s)) (600 * (2 + sP σ) + sn σ s)) (d := 600 * (2 + sP σ) - (600 + sb σ s)) (pt := 46) (bl := false) (atM_z _ _) 600 (600 + sb σ s) (fun i hi => by
    unfold atM
    by_cases y : i < 600 + sb σ s + sn σ s
    · rw [if_pos y, if_pos (by omega)]
      have := cpF_i (f := sf σ) (a := 600 + sb σ s) (t := 2 + sP σ) (k := sn σ s) (j := i - (600 + sb σ s)) (by omega)
      rw [show 600 + sb σ s + (i - (600 + sb σ s)) = i by omega] at this
      rw [show i + (600 * (2 + sP σ) - (600 + sb σ s)) = 600 * (2 + sP σ) + (i - (600 + sb σ s)) by omega]
      exact this
    · rw [if_neg y, if_neg (by omega)])
  rw [show 600 + sb σ s + sn σ s + (600 * (2 + sP σ) - (600 + sb σ s)) = 600 * (2 + sP σ) + sn σ s by omega, show 600 + sb σ s + (600 * (2 + sP σ) - (600 + sb σ s)) = 600 * (2 + sP σ) by omega] at e
  rw [e]
  exact q
end LDE
