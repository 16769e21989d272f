/-! the picture and the machine's heap -/
def ad (base b a : Nat) : Nat := if a = 0 then b else base + (a - 1)
theorem ad_pos {base b a : Nat} (h : 0 < a) : ad base b a = base + (a - 1) := by simp [ad, Nat.ne_of_gt h]
theorem ad_0 {base b : Nat} : ad base b 0 = b := by simp [ad]
def rq (base r : Nat) : Option Nat := if r = 0 then none else some (base + (r - 1))
theorem rq_pos {base r : Nat} (h : 0 < r) : rq base r = some (base + (r - 1)) := by simp [rq, Nat.ne_of_gt h]
def rv (base b : Nat) (v : Value) : Value := match v with
  | .ref a => .ref (ad base b a)
  | v => v
theorem rv_cat (base b : Nat) (v : Value) : (rv base b v).category = v.category := by cases v <;> rfl
def fV (base : Nat) (h : HP) (a ci k : Nat) : Value := if isRf ci k = true then va_rf (rq base (gR h a k)) else .int (gI h a k)
def aV (base : Nat) (h : HP) (a kd j : Nat) : Value := if kd < 103 then .int (gI h a j) else if kd = 103 then .long (gJ h a j) else va_rf (rq base (gR h a j))
/-- a cell of the picture is there -/
def CeR (D : va_G) (dA : Nat → ClassId) (base : Nat) (h : HP) (a : Nat) (H : Heap) : Prop :=
  (gK h a < 11 ∧ t_OB (base + (a - 1)) (D.1 (gK h a)) (nF (gK h a)) (D.2 (gK h a)) H (fV base h a (gK h a))) ∨
  (100 ≤ gK h a ∧ gK h a ≤ 105 ∧ H[base + (a - 1)]? = some (arrV (dA (gK h a)) (gL h a) (aV base h a (gK h a))))
def Rel (D : va_G) (dA : Nat → ClassId) (base b : Nat) (h : HP) (s : State) (H : Heap) : Prop :=
  (∀ a, 0 < a → a < gS h → CeR D dA base h a H) ∧ H.size + 1 = base + gS h ∧ 1 ≤ gS h ∧ b < base ∧ (gK h 0 = 100 → va_X b (gL h 0) (gI h 0) s H)
theorem Rel.moved {D : va_G} {dA : Nat → ClassId} {base b : Nat} {h : HP} {s u : State} {H : Heap} (hvm : s.vm.Alike u.vm) (R : Rel D dA base b h s H) : Rel D dA base b h u H := ⟨R.1, R.2.1, R.2.2.1, R.2.2.2.1, fun q => (R.2.2.2.2 q).moved hvm⟩
theorem CeR.kept {D : va_G} {dA : Nat → ClassId} {base : Nat} {h h' : HP} {a : Nat} {H H' : Heap} (hK : gK h' a = gK h a) (hL : gL h' a = gL h a) (hI : gI h' a = gI h a) (hJ : gJ h' a = gJ h a) (hR : gR h' a = gR h a) (hH : H'[base + (a - 1)]? = H[base + (a - 1)]?) (c : CeR D dA base h a H) : CeR D dA base h' a H' := by
  unfold CeR at *
  have e1 : fV base h' a (gK h a) = fV base h a (gK h a) := by funext k; simp only [fV, hI, hR]
  have e2 : aV base h' a (gK h a) = aV base h a (gK h a) := by funext k; simp only [aV, hI, hR, hJ]
  rw [hK, hL, e1, e2]
  rcases c with ⟨c1, c2⟩ | ⟨c1, c2, c3⟩
  · exact Or.inl ⟨c1, c2.kept hH⟩
  · exact Or.inr ⟨c1, c2, hH.trans c3⟩
/-- one cell has changed -/
theorem Rel.upd {D : va_G} {dA : Nat → ClassId} {base b : Nat} {h h' : HP} {s : State} {H H' : Heap} {a : Nat} (R : Rel D dA base b h s H) (h0 : 0 < a) (hS : gS h' = gS h) (hK : gK h' = gK h) (hL : gL h' = gL h) (hI : ∀ q, q ≠ a → gI h' q = gI h q) (hJ : ∀ q, q ≠ a → gJ h' q = gJ h q) (hR : ∀ q, q ≠ a → gR h' q = gR h q)
    (hz : H'.size = H.size) (ho : ∀ q, q ≠ base + (a - 1) → H'[q]? = H[q]?) (hc : CeR D dA base h' a H') : Rel D dA base b h' s H' := by
  obtain ⟨r1, r2, r3, r4, r5⟩ := R
  refine ⟨fun x x0 xS => ?_, by rw [hz, hS]; exact r2, by rw [hS]; exact r3, r4, fun q => ?_⟩
  · by_cases e : x = a
    · rw [e]; exact hc
    · rw [hS] at xS
      exact (r1 x x0 xS).kept (by rw [hK]) (by rw [hL]) (hI x e) (hJ x e) (hR x e) (ho _ (by omega))
  · rw [hK] at q
    rw [hL, hI 0 (by omega)]
    exact (r5 q).kept (ho b (by omega))
/-- a cell has come -/
theorem Rel.new {D : va_G} {dA : Nat → ClassId} {base b : Nat} {h : HP} {s : State} {H H' : Heap} {kd n : Nat} (R : Rel D dA base b h s H) (hz : H'.size = H.size + 1) (ho : ∀ q, q < H.size → H'[q]? = H[q]?) (hc : CeR D dA base (nwC h kd n) (gS h) H') : Rel D dA base b (nwC h kd n) s H' := by
  obtain ⟨r1, r2, r3, r4, r5⟩ := R
  have ne : ∀ x, x < gS h → x ≠ gS h := fun x q => Nat.ne_of_lt q
  refine ⟨fun x x0 xS => ?_, by show H'.size + 1 = base + (gS h + 1); omega, by show 1 ≤ gS h + 1; omega, r4, fun q => ?_⟩
  · by_cases e : x = gS h
    · rw [e]; exact hc
    · have xS' : x < gS h := by
        have : x < gS h + 1 := xS
        omega
      exact (r1 x x0 xS').kept (va_up_ne _ _ e) (va_up_ne _ _ e) (va_up_ne _ _ e) (va_up_ne _ _ e) (va_up_ne _ _ e) (ho _ (by omega))
  · have z : (0 : Nat) ≠ gS h := by omega
    have e1 : gK (nwC h kd n) 0 = gK h 0 := va_up_ne _ _ z
    have e2 : gL (nwC h kd n) 0 = gL h 0 := va_up_ne _ _ z
    have e3 : gI (nwC h kd n) 0 = gI h 0 := va_up_ne _ _ z
    rw [e1] at q
    rw [e2, e3]
    exact (r5 q).kept (ho b (by omega))
/-- locals -/
def LV (base b : Nat) (ls : Array Slot) (nL : Nat) (lo : LO) : Prop := ls.size = nL ∧ lv_wf ls ∧ ∀ i v, nth lo i = some v → ls[i]? = some (.val (rv base b v))
def lvO (base b : Nat) (lo : LO) : List (Nat × Value) := (List.range lo.length).filterMap (fun i => (nth lo i).map (fun v => (i, rv base b v)))
theorem nth_lt : ∀ {lo : LO} {i : Nat} {v : Value}, nth lo i = some v → i < lo.length
  | [], _, _, h => by simp [nth] at h
  | _ :: _, 0, _, _ => by simp
  | _ :: l, i + 1, _, h => by
    have := nth_lt (lo := l) h
    simp; omega
theorem lvO_mem {base b : Nat} {lo : LO} {i : Nat} {v : Value} (h : nth lo i = some v) : (i, rv base b v) ∈ lvO base b lo :=
  List.mem_filterMap.mpr ⟨i, List.mem_range.mpr (nth_lt h), by rw [h]; rfl⟩
theorem LV_has {base b : Nat} {ls : Array Slot} {nL : Nat} {lo : LO} (h : LV base b ls nL lo) : lv_has ls nL (lvO base b lo) := by
  refine ⟨h.1, h.2.1, fun q hq => ?_⟩
  obtain ⟨i, -, hi⟩ := List.mem_filterMap.mp hq
  cases e : nth lo i with
  | none => rw [e] at hi; cases hi
  | some v =>
    rw [e] at hi
    cases hi
    exact h.2.2 i v e
theorem nth_sto_ne : ∀ {lo : LO} {i j : Nat} {v : Option Value}, j ≠ i → nth (sto lo i v) j = nth lo j
  | [], _, _, _, _ => rfl
  | _ :: _, 0, 0, _, h => absurd rfl h
  | _ :: _, 0, _ + 1, _, _ => rfl
  | _ :: _, _ + 1, 0, _, _ => rfl
  | _ :: l, i + 1, j + 1, _, h => nth_sto_ne (lo := l) (fun q => h (by rw [q]))
theorem nth_sto_self : ∀ {lo : LO} {i : Nat} {v : Option Value} {w : Value}, nth (sto lo i v) i = some w → v = some w
  | [], _, _, _, h => by simp [sto, nth] at h
  | _ :: _, 0, _, _, h => h
  | _ :: l, i + 1, _, _, h => nth_sto_self (lo := l) h
theorem LV_kil {base b : Nat} {ls : Array Slot} {nL : Nat} : ∀ (ks : List Nat) {lo : LO}, LV base b ls nL lo → LV base b ls nL (kil ks lo)
  | [], _, h => h
  | k :: ks, lo, h => by
    show LV base b ls nL (kil ks (sto lo k none))
    refine LV_kil ks ⟨h.1, h.2.1, fun i v q => ?_⟩
    by_cases e : i = k
    · subst e
      exact absurd (nth_sto_self q) (by simp)
    · rw [nth_sto_ne e] at q
      exact h.2.2 i v q
theorem lgb_ne {lo : LO} {i j : Nat} {v : Value} (h : lgb lo i = true) (e : j + 1 = i) (hv : nth lo j = some v) : ¬ v.category = 2 := by
  subst e
  simp only [lgb, hv] at h
  intro q
  rw [q] at h
  cases h
theorem LV_store1 {base b : Nat} {ls' : Array Slot} {nL i : Nat} {lo : LO} {v : Value} (hl : lgb lo i = true) (h : lv_has ls' nL ((i, rv base b v) :: (lvO base b lo).filter (fun q => !(q.1 == i) && !(q.1 + 1 == i && q.2.category == 2)))) : LV base b ls' nL (sto lo i (some v)) := by
  refine ⟨h.1, h.2.1, fun j w q => ?_⟩
  by_cases e : j = i
  · subst e
    cases nth_sto_self q
    exact h.2.2 (j, rv base b v) List.mem_cons_self
  · rw [nth_sto_ne e] at q
    refine h.2.2 (j, rv base b w) (List.mem_cons_of_mem _ (List.mem_filter.mpr ⟨lvO_mem q, ?_⟩))
    have e1 : (j == i) = false := by simpa using e
    simp only [e1, Bool.not_false, Bool.true_and, Bool.not_eq_true']
    by_cases e2 : j + 1 = i
    · have := lgb_ne hl e2 q
      rw [rv_cat]
      simp [e2, this]
    · simp [e2]
theorem LV_store2 {base b : Nat} {ls' : Array Slot} {nL i : Nat} {lo : LO} {v : Value} (hl : lgb lo i = true) (h : lv_has ls' nL ((i, rv base b v) :: (lvO base b lo).filter (fun q => !(q.1 == i) && (!(q.1 == i + 1) && !(q.1 + 1 == i && q.2.category == 2))))) : LV base b ls' nL (sto (sto lo i (some v)) (i + 1) none) := by
  refine ⟨h.1, h.2.1, fun j w q => ?_⟩
  by_cases e0 : j = i + 1
  · subst e0
    exact absurd (nth_sto_self q) (by simp)
  rw [nth_sto_ne e0] at q
  by_cases e : j = i
  · subst e
    cases nth_sto_self q
    exact h.2.2 (j, rv base b v) List.mem_cons_self
  · rw [nth_sto_ne e] at q
    refine h.2.2 (j, rv base b w) (List.mem_cons_of_mem _ (List.mem_filter.mpr ⟨lvO_mem q, ?_⟩))
    have e1 : (j == i) = false := by simpa using e
    have e3 : (j == i + 1) = false := by simpa using e0
    simp only [e1, e3, Bool.not_false, Bool.true_and, Bool.not_eq_true']
    by_cases e2 : j + 1 = i
    · have := lgb_ne hl e2 q
      rw [rv_cat]
      simp [e2, this]
    · simp [e2]
