/-! THE CLAIM OUT OF ONE WALK OF THE LAW'S BODY. Your part is whole_start (and what it stands on); all else here is the same for every law, but numbers. -/
def R_law : String := "KeptSentencesLaw"
def lw_P (b : Addr) (xs : List Int32) (args : Array Value) (s : State) : Prop := args = #[.ref b] ∧ s.IntsAt b xs ∧ xs.length ≤ 2048 ∧ (Jvm.Cond.and given_1 narrow_1).before args s = true
def lw_Q (_ : Array Value) (s : State) (o : Outcome) (t : State) : Prop := o = .returned (some (.int 1)) ∧ Framed s o t [] 600000 7302250
def lw_Z (below : List Frame) (a : Array Value) (s : State) : State → Prop := fun t => ∃ o, t.status = .running ∧ Ended t below o ∧ lw_Q a s o t
/-- the law's own end, with 1 on the stack, nothing written that was there before, its room as the claim has it -/
theorem lw_ret {p : Program} {l : Launch} {e : Env} {s : State} {m : MethodId} {below : List Frame} {meth : Method} {c : Code} {b : Nat} (hx : p.tables.exec = Jvm.exec) (hb : c.code = code) (hr : meth.sig.returnType = ret) (hlocks : meth.locks = false) {pc : Nat} {H : Heap} {ls : Array Slot} (hdg : decode code pc = .ok (.ireturn, 1)) : W p l e room_1 s m #[Value.ref b] below meth c H [] 600000 7302250 (lw_Z below #[Value.ref b] s) (F0 m pc ls [.int 1]) := by
  intro T hT X
  obtain ⟨fs, hret, hrun, hended, hW, hframe⟩ := X.leave (v := some (.int 1)) (hlocks := hlocks) (fun h => by rw [hr] at h; cases h)
  have hmeth' : T.vm.method? m = some meth := X.method'
  refine ⟨T.setFrames fs, ?_, .returned (some (.int 1)), hrun, hended, rfl, ⟨_, rfl⟩, hW, hframe⟩
  jvm_step X.here [X.here.top, hx, hb, hdg, hmeth', hr, ret, narrow_b1]
  (try refine ⟨rfl, ?_⟩); (try refine ⟨rfl, ?_⟩)
  first | (intro acts; rw [hret _ acts rfl rfl rfl]) | rw [hret _ _ rfl rfl rfl]
  exact Steps.refl _
/-- what holds at the law's entry: the machine, the code, the tables' words (any of lw_tbl by 'hts w (by decide +kernel)'), the script of L ints xs at the cell b, what the Statement gives of the start (any of its parts by flat_of_before) -/
def lw_At (p : Program) (s : State) (m : MethodId) (meth : Method) (c : Code) (b L : Nat) (xs : Nat → Int32) : Prop :=
  p.tables.exec = Jvm.exec ∧ c.code = code ∧ meth.sig.returnType = ret ∧ c.maxLocals = 4 ∧ s.vm.findClass R_law = some m.cls ∧ (∀ w ∈ lw_tbl, w.before #[Value.ref b] s = true) ∧ va_X b L xs s s.heap ∧ b < s.heap.size ∧ meth.locks = false ∧ (Jvm.Cond.and given_1 narrow_1).before #[Value.ref b] s = true
/-- the picture at the law's entry -/
def hp0 (L : Nat) (xs : Nat → Int32) : HP := (fun a i => if a = 0 then xs i else 0, fun _ _ => 0, fun _ _ => 0, fun a => if a = 0 then 100 else 0, fun a => if a = 0 then L else 0, 1)
def LawWp : Prop := ∀ (L : Nat) (xs : Nat → Int32), L ≤ 2048 → Wp k_Law_law 0 [some (.ref 0), none, none, none] [] (hp0 L xs) (600000, 7302250) (fun v _ => v = some (.int 1))
theorem arr_of {s : State} {args : Array Value} {t : FieldType} (h : (Cond.arrayClass t).before args s = true) (ht : isRefTy t = false) : ∃ cA : ClassId, ArrOfT s cA t ∧ va_RA s cA t := by
  obtain ⟨cA, kA, comp, h1, h2, h3⟩ := Cond.arrayClass_spec h
  refine ⟨cA, fun n z => ⟨fun k q => (by cases q), kA, h2, comp, h3⟩, ?_⟩
  cases t <;> first | exact h1 | (cases ht; done)
theorem arr_over {s : State} {C : String} (h : va_AO C s) : ∃ cA : ClassId, ArrOfT s cA (.object C) ∧ va_RA s cA (.object C) := by
  obtain ⟨comp, cA, kA, h1, h2, h3, h4, h5⟩ := Cond.arrayOver_spec h
  exact ⟨cA, fun n z => ⟨fun k q => (by cases q), kA, h3, comp, h4⟩, kA, comp, h3, h4, h1, h5⟩
theorem cls_kn {s : State} {args : Array Value} (hts : ∀ w ∈ gtbl, w.before args s = true) : ∀ a : Nat, ∃ (cC : ClassId) (iS : Nat → Nat), ∀ q : vw_C, classes[a]? = some q → u_Kn s q.1 q.2.1 q.2.2 cC iS := by
  intro a
  by_cases ha : a < 11
  · obtain ⟨C, T, N, ty, c1, c2, c3, c4, c5, c6, c7, -⟩ := cls_ok a ha
    obtain ⟨cC, iS, hk⟩ := u_known (C := C) (T := T) (N := N) (n := N) hts c5 (hts _ c6)
    exact ⟨cC, iS, fun q hq => by rw [c1] at hq; cases hq; exact hk⟩
  · refine ⟨0, fun _ => 0, fun q hq => ?_⟩
    have := (List.getElem?_eq_some_iff.mp hq).1
    exact absurd this ha
theorem KK_start {s : State} {args : Array Value} (hts : ∀ w ∈ lw_tbl, w.before args s = true) : ∃ (D : va_G) (dA : Nat → ClassId), KK D dA s := by
  have htg : ∀ w ∈ gtbl, w.before args s = true := fun w hw => hts w (List.mem_filter.mp hw).1
  have hk := cls_kn htg
  obtain ⟨a0, x0⟩ := arr_of (htg _ arrC_I) rfl
  obtain ⟨a1, x1⟩ := arr_of (htg _ arrC_B) rfl
  obtain ⟨a2, x2⟩ := arr_of (htg _ arrC_Z) rfl
  obtain ⟨a3, x3⟩ := arr_of (htg _ arrC_J) rfl
  have o1 : va_AO "KeptSentences$Row" s := va_AO.of (hts (.arrayOver (.object "KeptSentences$Row")) (by decide +kernel))
  have o2 : va_AO "KeptSentences$Text" s := va_AO.of (hts (.arrayOver (.object "KeptSentences$Text")) (by decide +kernel))
  obtain ⟨a4, x4⟩ := arr_over o1
  obtain ⟨a5, x5⟩ := arr_over o2
  refine ⟨(fun a => Classical.choose (hk a), fun a => Classical.choose (Classical.choose_spec (hk a))), fun k => if k = 100 then a0 else if k = 101 then a1 else if k = 102 then a2 else if k = 103 then a3 else if k = 104 then a4 else a5, ⟨fun c q hq => Classical.choose_spec (Classical.choose_spec (hk c)) q hq, fun k q hq => ?_⟩, o1, o2, va_Nw.of rfl (hts nst1 (by decide +kernel)), va_Nw.of rfl (hts nst2 (by decide +kernel)), va_Nw.of rfl (hts nst3 (by decide +kernel))⟩
  match k, hq with
  | 0, hq => cases hq; exact x0
  | 1, hq => cases hq; exact x1
  | 2, hq => cases hq; exact x2
  | 3, hq => cases hq; exact x3
  | 4, hq => cases hq; exact x4
  | 5, hq => cases hq; exact x5
  | k + 6, hq => simp [tyL] at hq
set_option maxHeartbeats 4000000 in
theorem whole_of (HL : LawWp) {p : Program} {e : Env} {s : State} {m : MethodId} {below : List Frame} {meth : Method} {c : Code} (l : Launch) {b L : Nat} {xs : Nat → Int32} (hL : L ≤ 2048) (C0 : lw_At p s m meth c b L xs) : W p l e room_1 s m #[Value.ref b] below meth c s.heap [] 0 0 (lw_Z below #[Value.ref b] s) (entryFrame m ([Value.ref b] : List Value).toArray 4) := by
  obtain ⟨hx, hb, hr, hml, hown, hts, hX, hbl, hlocks, hgv⟩ := id C0
  obtain ⟨D, dA, hKK⟩ := KK_start hts
  have P := PS_of_Wp (l := l) (D := D) (dA := dA) (base := s.heap.size) (b := b) (HL L xs hL)
  rw [lg_entry_eq]
  have hlv := lv_entry ([Value.ref b]) (n := 4) (Nat.le_of_ble_eq_true rfl)
  refine P p e s m #[Value.ref b] below meth c s.heap [] 0 0 (lw_Z below #[Value.ref b] s) _ ⟨hx, hb, hr, hml, hown, fun w hw => hts w (List.mem_filter.mp hw).1, hlocks, fun q => ?_, hKK, Nat.le_refl _⟩ ⟨fun a h1 h2 => ?_, rfl, Nat.le_refl 1, hbl, fun _ => ?_⟩ va_S.rf ⟨hlv.1, hlv.2.1, fun i v q => ?_⟩ (show 0 + 600000 ≤ 600000 by omega) (show 0 + 7302250 ≤ 7302250 by omega) ?_
  · exact absurd q (by decide +kernel)
  · have : a < 1 := h2
    omega
  · have e1 : gI (hp0 L xs) 0 = xs := funext fun i => by simp [gI, hp0]
    have e2 : gL (hp0 L xs) 0 = L := by simp [gL, hp0]
    rw [e1, e2]
    exact hX
  · match i, q with
    | 0, q =>
      cases q
      exact hlv.2.2 (0, .ref b) (List.mem_cons_self)
    | 1, q => cases q
    | 2, q => cases q
    | 3, q => cases q
    | i + 4, q => cases q
  · intro v h' H' locs' cells' slots' pc' ls' R' S' hc' hs' hQ hret
    subst hQ
    rcases hret with ⟨r0, -⟩ | ⟨r0, -⟩ | ⟨r0, -, hd⟩ | ⟨r0, -⟩
    · exact absurd r0 (by decide +kernel)
    · exact absurd r0 (by decide +kernel)
    · refine W.widen (show cells' ≤ 600000 from hc') (show slots' ≤ 7302250 from hs') ?_
      refine va_forget (fun q hq => S'.2.2 q hq) ?_
      exact lw_ret hx hb hr hlocks hd
    · exact absurd r0 (by decide +kernel)
