def wsM (a : Nat) : List Cond := Cond.code (yM a) (cod a) (mxl a) (rtyK (rk a)) :: gtbl
def VOK (a : Nat) (v : Option Value) : Prop := (rk a = 0 ∧ v = none) ∨ (rk a = 2 ∧ ∃ x : Int64, v = some (.long x)) ∨ ((rk a = 1 ∨ rk a = 3) ∧ ∃ x : Int32, v = some (.int x))
def Pcx (D : va_G) (dA : Nat → ClassId) (base b : Nat) (vs : List Value) (h : HP) : Array Value → State → Prop := va_Pc (vs.map (rv base b)) (fun U => Rel D dA base b h U U.heap ∧ KK D dA U ∧ base ≤ U.heap.size)
def Qcx (D : va_G) (dA : Nat → ClassId) (base b a : Nat) (Q' : QT) : Array Value → State → Outcome → State → Prop := fun _ st oc t => ∃ (v : Option Value) (h' : HP), oc = .returned (v.map (rv base b)) ∧ Rel D dA base b h' t t.heap ∧ Q' v h' ∧ VOK a v ∧ va_F (fun q => base ≤ q) st t
theorem aft_at {a : Nat} {K Q' : QT} {v : Option Value} {h' : HP} (H : aft (rk a) K Q') (hv : VOK a v) (hq : Q' v h') : K v h' := by
  unfold aft at H
  rcases hv with ⟨r, rfl⟩ | ⟨r, x, rfl⟩ | ⟨r | r, x, rfl⟩
  · rw [r] at H; exact H h' hq
  · rw [r] at H; exact H x h' hq
  · rw [r] at H; exact H x h' hq
  · rw [r] at H; exact H x h' hq
theorem nth_nil (i : Nat) : nth [] i = none := by cases i <;> rfl
theorem nth_rep : ∀ (n i : Nat), nth (List.replicate n none) i = none
  | 0, i => nth_nil i
  | n + 1, 0 => rfl
  | n + 1, i + 1 => nth_rep n i
theorem ent_mem (base b n : Nat) : ∀ (vs : List Value) (k i : Nat) (v : Value), nth (ent vs ++ List.replicate n none) i = some v → (k + i, rv base b v) ∈ lv_args k (vs.map (rv base b))
  | [], k, i, v, h => by
    have h2 : nth (List.replicate n none) i = some v := h
    rw [nth_rep] at h2
    cases h2
  | w :: vs, k, i, v, h => by
    rw [List.map_cons]
    unfold lv_args
    rw [rv_cat]
    rcases lv_cat w with hw | hw
    · have e : ent (w :: vs) = some w :: ent vs := by simp [ent, hw]
      rw [e] at h
      rw [if_neg (by omega)]
      cases i with
      | zero =>
        have h2 : some w = some v := h
        cases h2
        exact List.mem_cons_self
      | succ i =>
        have := ent_mem base b n vs (k + 1) i v h
        rw [show k + 1 + i = k + (i + 1) by omega] at this
        exact List.mem_cons_of_mem _ this
    · have e : ent (w :: vs) = some w :: none :: ent vs := by simp [ent, hw]
      rw [e] at h
      rw [if_pos hw]
      match i, h with
      | 0, h =>
        have h2 : some w = some v := h
        cases h2
        exact List.mem_cons_self
      | 1, h =>
        have h2 : (none : Option Value) = some v := h
        cases h2
      | i + 2, h =>
        have := ent_mem base b n vs (k + 2) i v h
        rw [show k + 2 + i = k + (i + 2) by omega] at this
        exact List.mem_cons_of_mem _ this
theorem ent_len (base b : Nat) : ∀ vs : List Value, (lg_sl (vs.map (rv base b))).length = (ent vs).length
  | [] => rfl
  | w :: vs => by
    have ih := ent_len base b vs
    unfold lg_sl at ih ⊢
    rw [List.map_cons, List.flatMap_cons, List.length_append, ih, rv_cat]
    rcases lv_cat w with hw | hw
    · have e : ent (w :: vs) = some w :: ent vs := by simp [ent, hw]
      rw [e, hw]; simp; omega
    · have e : ent (w :: vs) = some w :: none :: ent vs := by simp [ent, hw]
      rw [e, hw]; simp; omega
section PSC
variable {l : Launch} {D : va_G} {dA : Nat → ClassId} {base b : Nat}
theorem LV_entry {a : Nat} {vs : List Value} (hlen : (ent vs).length ≤ mxl a) : LV base b ((lg_sl (vs.map (rv base b)) ++ List.replicate (mxl a - (lg_sl (vs.map (rv base b))).length) Slot.unset).toArray) (mxl a) (entM a vs) := by
  have h := lv_entry (vs.map (rv base b)) (n := mxl a) (by rw [ent_len]; exact hlen)
  refine ⟨h.1, h.2.1, fun i v q => ?_⟩
  have := ent_mem base b _ vs 0 i v q
  rw [Nat.zero_add] at this
  exact h.2.2 _ this
theorem met_of {a : Nat} {vs : List Value} {h : HP} {Q' : QT} (hpl : plainName (yM a).cls = true) (hcl : (yM a).cls = cN (ownC a)) (hlen : (ent vs).length ≤ mxl a) (K : PS l D dA base b a 0 (entM a vs) [] h (mcM a, msM a) Q') :
    Met l (yM a) (wsM a) (rmM a) (Pcx D dA base b vs h) (Qcx D dA base b a Q') (mcM a) (msM a) (fun q => base ≤ q) := by
  refine Met.ofW (cc := cod a) (maxL := mxl a) (ret := rtyK (rk a)) hpl rfl ?_
  intro p e s m args below meth c s₁ B hml hv
  obtain ⟨rfl, hR, hKK, hbs⟩ := hv
  have hts := atoms_spec (ws := wsM a) B.pre
  rw [lg_entry_eq]
  refine K p e s m _ below meth c s.heap [] 0 0 _ _ ⟨B.exec, B.bytes, B.returns, hml, by rw [← hcl]; exact findClass_of_methodNamed B.named, fun w hw => hts w (List.mem_cons_of_mem _ hw), B.notSynchronized, fun q => (name_of_methodNamed B.named B.method).1.trans q, hKK, hbs⟩ hR va_S.rf (LV_entry hlen) (show 0 + mcM a ≤ mcM a by omega) (show 0 + msM a ≤ msM a by omega) ?_
  intro v h' H' locs' cells' slots' pc' ls' R' S' hc' hs' hQ hret
  have hlk := B.notSynchronized
  refine W.widen hc' hs' ?_
  have hRt : ∀ t : State, t.heap = H' → s.WarmedH t.vm → Rel D dA base b h' t t.heap := fun t ht hW => by rw [ht]; exact R'.moved hW.alike
  rcases hret with ⟨r0, rfl, hd⟩ | ⟨r0, ⟨x, rfl⟩, hd⟩ | ⟨r0, ⟨x, rfl, hx⟩, hd⟩ | ⟨r0, ⟨x, rfl⟩, hd⟩
  · exact W.vret B.exec B.bytes (by rw [B.returns, r0]; rfl) (fun t ht hW => ⟨none, h', rfl, hRt t ht hW, hQ, Or.inl ⟨r0, rfl⟩, S'.F ht⟩) S'.2.2 hd
  · exact W.iret B.exec B.bytes (by rw [B.returns, r0]; rfl) (fun t ht hW => ⟨some (.int x), h', rfl, hRt t ht hW, hQ, Or.inr (Or.inr ⟨Or.inl r0, x, rfl⟩), S'.F ht⟩) S'.2.2 hd
  · exact W.zret (ty := .boolean) B.exec B.bytes (by rw [B.returns, r0]; rfl) (by rcases hx with rfl | rfl <;> decide) (fun t ht hW => ⟨some (.int x), h', rfl, hRt t ht hW, hQ, Or.inr (Or.inr ⟨Or.inr r0, x, rfl⟩), S'.F ht⟩) S'.2.2 hd
  · exact W.lret B.exec B.bytes (by rw [B.returns, r0]; rfl) (fun t ht hW => ⟨some (.long x), h', rfl, hRt t ht hW, hQ, Or.inr (Or.inl ⟨r0, x, rfl⟩), S'.F ht⟩) S'.2.2 hd
theorem run_W {p : Program} {e : Env} {R : Room} {s : State} {m : MethodId} {args : Array Value} {below : List Frame} {meth : Method} {c : Code} {H : Heap} {locs : List Loc} {cells slots mc ms pc : Nat} {ls : Array Slot} {st0 rest : List Value} {Qa : State → Outcome → State → Prop} {free : Addr → Prop} {QQ : State → Prop}
    (hr : va_Run p l e R s m args below meth c H locs cells slots mc ms (F0 m pc ls st0) rest Qa free) (kk : ∀ (v : Option Value) (st₀ t : State) (H1 : Heap) (L : List Loc), st₀.heap = H → t.heap = H1 → s.vm.Alike t.vm → Qa st₀ (.returned v) t → (∀ q ∈ L, free q.base) → W p l e R s m args below meth c H1 (locs ++ L) (cells + mc) (slots + ms) QQ (F0 m (pc + 3) ls (v.toList ++ rest))) :
    W p l e R s m args below meth c H locs cells slots QQ (F0 m pc ls st0) := by
  intro T hT XX
  obtain ⟨v, st₀, t, T', L, h0, X', hL, e1, e2, hq, st⟩ := hr T hT XX
  obtain ⟨t2, a1, b1⟩ := kk v st₀ t T'.heap L h0 e1.symm (by rw [← e2]; exact X'.warmed.alike) hq hL T' rfl X'
  exact ⟨t2, st t2 a1, b1⟩
theorem good_gtbl {a : Nat} (hc : Cond.code (yM a) (cod a) (mxl a) (rtyK (rk a)) ∈ gtbl) : GoodIn gtbl (wsM a) := by
  intro w hw
  have hg : w ∈ gtbl := by
    rcases List.mem_cons.mp hw with rfl | h
    · exact hc
    · exact h
  exact ⟨hg, good_of_word (List.mem_filter.mp hg).2⟩
theorem popN_spec : ∀ (n : Nat) (acc st : List Value) {as rest : List Value}, popN n acc st = some (as, rest) → ∃ xs, as = xs ++ acc ∧ st = xs.reverse ++ rest ∧ xs.length = n
  | 0, acc, st, as, rest, h => by
    cases h
    exact ⟨[], rfl, rfl, rfl⟩
  | n + 1, acc, v :: st, as, rest, h => by
    obtain ⟨xs, h1, h2, h3⟩ := popN_spec n (v :: acc) st h
    exact ⟨xs ++ [v], by rw [h1]; simp, by rw [h2]; simp, by simp [h3]⟩
  | n + 1, acc, [], as, rest, h => by cases h
theorem moB_spec {a n : Nat} (h : moB a n = true) : (yM a).cls = cN (ownC a) ∧ (yM a).cls ≠ "java/lang/invoke/MethodHandle" ∧ (yM a).cls ≠ "java/lang/invoke/VarHandle" ∧ (parseMethodDescriptor (yM a).desc).map (fun d => d.parameters.length) = some n ∧ plainName (yM a).cls = true ∧ mxl a ≤ 19 := by
  simp only [moB, Bool.and_eq_true, decide_eq_true_eq] at h
  exact ⟨h.1.1.1.1.1, h.1.1.1.1.2, h.1.1.1.2, h.1.1.2, h.1.2, h.2⟩
variable {X pc : Nat} {lo : LO} {st : List Value} {h : HP} {bd : Nat × Nat} {Q : QT} {s : State} {H : Heap} (kn : List Nat)
theorem blind_Pcx {vs : List Value} : FrameBlind (Pcx D dA base b vs h) := by
  intro a U g mk q
  obtain ⟨q0, qR, qK, qb⟩ := q
  exact ⟨q0, qR.moved (u := U.calling g mk a) (Vm.Alike.refl U.vm), KK_same (u := U.calling g mk a) rfl qK, qb⟩
theorem pre_Pcx {vs : List Value} {A : Nat → Prop} {H0 : Heap} {locs : List Loc} (R : Rel D dA base b h s H) (hKK : KK D dA s) (hbs : base ≤ H0.size) (S : va_S A H0 H locs) : ∀ U : State, U.heap = H → s.WarmedH U.vm → Pcx D dA base b vs h (vs.map (rv base b)).toArray U := fun U hU hW => ⟨rfl, by rw [hU]; exact R.moved hW.alike, KK_warm hW hKK, by rw [hU]; exact Nat.le_trans hbs S.1⟩
/-- behind a call -/
theorem after_call {p : Program} {e : Env} {m : MethodId} {args : Array Value} {below : List Frame} {meth : Method} {c : Code} {locs : List Loc} {cells slots a : Nat} {ls : Array Slot} {rest st0 : List Value} {QQ : State → Prop} {Q' : QT} {vs : Array Value}
    (C : Ctx p X s m args meth c D dA base) (S : va_S (fun q => base ≤ q) s.heap H locs) (V : LV base b ls (mxl X) lo) (hc : cells + bd.1 ≤ mcM X) (hs : slots + bd.2 ≤ msM X)
    (E : ∀ (v : Option Value) (h' : HP) (H' : Heap) (locs' : List Loc) (cells' slots' pc' : Nat) (ls' : Array Slot), Rel D dA base b h' s H' → va_S (fun q => base ≤ q) s.heap H' locs' → cells' ≤ mcM X → slots' ≤ msM X → Q v h' → RetOK X v pc' → W p l e (rmM X) s m args below meth c H' locs' cells' slots' QQ (F0 m pc' ls' ((v.map (rv base b)).toList)))
    (b1 : mcM a ≤ bd.1) (b2 : msM a ≤ bd.2) (K2 : aft (rk a) (fun v h' => PS l D dA base b X (pc + 3) (kil kn lo) (v.toList ++ rest) h' (bd.1 - mcM a, bd.2 - msM a) Q) Q')
    (hr : va_Run p l e (rmM X) s m args below meth c H locs cells slots (mcM a) (msM a) (F0 m pc ls st0) (rest.map (rv base b)) (Qcx D dA base b a Q' vs) (fun q => base ≤ q)) :
    W p l e (rmM X) s m args below meth c H locs cells slots QQ (F0 m pc ls st0) := by
  refine run_W hr fun v st₀ t H1 L h0 e1 hvm hq hL => ?_
  obtain ⟨w, h', ev, R', hQ', hV, F'⟩ := hq
  have ev : v = w.map (rv base b) := Outcome.returned.inj ev
  subst ev
  rw [e1] at R'
  have KW := aft_at K2 hV hQ' p e s m args below meth c H1 (locs ++ L) (cells + mcM a) (slots + msM a) QQ ls C (R'.moved hvm.symm) ⟨Nat.le_trans S.1 (by have := F'.1; rw [h0, e1] at this; exact this), fun q g1 g2 => by
      have h3 := F'.2 q (by rw [h0]; exact Nat.lt_of_lt_of_le g1 S.1) g2
      rw [h0, e1] at h3
      rw [h3]
      exact S.2.1 q g1 g2, fun q hq => by
      rcases List.mem_append.mp hq with h | h
      · exact S.2.2 q h
      · exact hL q h⟩ (LV_kil kn V) (show cells + mcM a + (bd.1 - mcM a) ≤ mcM X by omega) (show slots + msM a + (bd.2 - msM a) ≤ msM X by omega) E
  rw [List.map_append] at KW
  have e2 : (w.toList.map (rv base b)) = (w.map (rv base b)).toList := by cases w <;> rfl
  rw [e2] at KW
  exact KW
theorem ps_virt {idx a n r : Nat} {as rest : List Value} (hl : lkAtP (1, ownC X, idx, a, n)) (hdp : dep a + 1 ≤ dep X) (hp : popN n [] st = some (as, .ref r :: rest)) (ho : isO h r (ownC a)) (hd : decode (cod X) pc = .ok (.invokevirtual idx, 3)) (K : Fcall (PS l D dA base b) X (pc + 3) a (.ref r :: as) rest (kil kn lo) h bd Q) : PS l D dA base b X pc lo st h bd Q := by
  intro p e s m args below meth c H locs cells slots QQ ls C R S V hc hs E
  obtain ⟨k1, b1, b2, hlen, Q', K1, K2⟩ := K
  obtain ⟨hB, hC⟩ := hl
  have hB2 : moB a n = true ∧ ownC a < 11 := by simpa [lkB] using hB
  obtain ⟨m1, m2, m3, m4, m5, m6⟩ := moB_spec hB2.1
  obtain ⟨hx, hb, hr, hml, hown, hts, hlk, hnm, hKK, hbs⟩ := id C
  obtain ⟨xs, x1, x2, x3⟩ := popN_spec n [] st hp
  rw [List.append_nil] at x1
  subst x1
  subst x2
  have hM := met_of m5 m1 hlen K1
  have hcode : Cond.code (yM a) (cod a) (mxl a) (rtyK (rk a)) ∈ gtbl := hC _ (List.mem_of_getElem? (i := 3) rfl)
  have hini := hts _ (hC _ (List.mem_of_getElem? (i := 4) rfl))
  obtain ⟨CC, T, N, ty, c1, c2, c3, c4, -⟩ := cls_ok (ownC a) hB2.2
  obtain ⟨cell, q1, q2, q3, q4⟩ := ce_obj R ho hB2.2
  have hfc : s.vm.findClass (cN (ownC a)) = some cell.cls := by rw [q2, c4]; exact (hKK.1.1 _ _ c1).2.1
  have cw : CallW (rmM X) s args (cN (ownC X)) (cN (ownC a)) idx (yM a) (cod a) (mxl a) (rtyK (rk a)) (wsM a) (rmM a) (mcM a) (msM a) n :=
    ⟨callB_of (own := cN (ownC X)) (index := idx) (ws' := gtbl) n hts (good_gtbl hcode) rfl rfl rfl hini (hts _ (hC _ (List.mem_of_getElem? (i := 0) rfl))) ⟨m2, m3, m4⟩ ⟨hdp, by show 8 + (mxl a + 11) + 38 * dep a ≤ 38 * dep X; omega⟩, hts _ (hC _ (List.mem_of_getElem? (i := 1) rfl)), hts _ (hC _ (List.mem_of_getElem? (i := 2) rfl))⟩
  refine after_call kn C S V hc hs E b1 b2 K2 (vs := (Value.ref (base + (r - 1)) :: as.map (rv base b)).toArray) ?_
  have hpre := pre_Pcx (vs := .ref r :: as) R hKK hbs S
  rw [List.map_cons, rv_pos ho.1] at hpre
  exact va_runV (As := as.map (rv base b)) (rest := rest.map (rv base b)) ⟨hx, hb, hml, hown, hts⟩ hM cw ⟨blind_Pcx, ⟨cell, q1, by rw [q3]; rfl, hfc⟩, hpre⟩ rfl (by rw [List.length_map]; exact x3) V.1 (by rw [List.map_append, List.map_reverse, List.map_cons, rv_pos ho.1]) (lv_room (by rw [cat_map]; exact k1)) hd ⟨show cells + mcM a ≤ mcM X by omega, show slots + msM a ≤ msM X by omega⟩
theorem ps_stat {idx a n : Nat} {as rest : List Value} (hl : lkAtP (2, ownC X, idx, a, n)) (hdp : dep a + 1 ≤ dep X) (hp : popN n [] st = some (as, rest)) (hd : decode (cod X) pc = .ok (.invokestatic idx, 3)) (K : Fcall (PS l D dA base b) X (pc + 3) a as rest (kil kn lo) h bd Q) : PS l D dA base b X pc lo st h bd Q := by
  intro p e s m args below meth c H locs cells slots QQ ls C R S V hc hs E
  obtain ⟨k1, b1, b2, hlen, Q', K1, K2⟩ := K
  obtain ⟨hB, hC⟩ := hl
  have hB2 : moB a n = true := by simpa [lkB] using hB
  obtain ⟨m1, m2, m3, m4, m5, m6⟩ := moB_spec hB2
  obtain ⟨hx, hb, hr, hml, hown, hts, hlk, hnm, hKK, hbs⟩ := id C
  obtain ⟨xs, x1, x2, x3⟩ := popN_spec n [] st hp
  rw [List.append_nil] at x1
  subst x1
  subst x2
  have hM := met_of m5 m1 hlen K1
  have hcode : Cond.code (yM a) (cod a) (mxl a) (rtyK (rk a)) ∈ gtbl := hC _ (List.mem_of_getElem? (i := 2) rfl)
  have hini := hts _ (hC _ (List.mem_of_getElem? (i := 3) rfl))
  have cb : CallB (rmM X) s args (cN (ownC X)) idx (yM a) (cod a) (mxl a) (rtyK (rk a)) (wsM a) (rmM a) (mcM a) (msM a) n :=
    callB_of (own := cN (ownC X)) (index := idx) (ws' := gtbl) n hts (good_gtbl hcode) rfl rfl rfl hini (hts _ (hC _ (List.mem_of_getElem? (i := 0) rfl))) ⟨m2, m3, m4⟩ ⟨hdp, by show 8 + (mxl a + 11) + 38 * dep a ≤ 38 * dep X; omega⟩
  refine after_call kn C S V hc hs E b1 b2 K2 (vs := (as.map (rv base b)).toArray) ?_
  exact va_runS (As := as.map (rv base b)) (rest := rest.map (rv base b)) ⟨hx, hb, hml, hown, hts⟩ hM ⟨cb, hts _ (hC _ (List.mem_of_getElem? (i := 1) rfl))⟩ ⟨blind_Pcx, pre_Pcx R hKK hbs S⟩ rfl (by rw [List.length_map]; exact x3) V.1 (by rw [List.map_append, List.map_reverse]) (lv_room (by rw [cat_map]; exact k1)) hd ⟨show cells + mcM a ≤ mcM X by omega, show slots + msM a ≤ msM X by omega⟩
theorem ps_spec {idx a n r : Nat} {as rest : List Value} (hl : lkAtP (3, ownC X, idx, a, n) ∨ lkAtP (10, ownC X, idx, a, n)) (hdp : dep a + 1 ≤ dep X) (hp : popN n [] st = some (as, .ref r :: rest)) (hd : decode (cod X) pc = .ok (.invokespecial idx, 3)) (K : Fcall (PS l D dA base b) X (pc + 3) a (.ref r :: as) rest (kil kn lo) h bd Q) : PS l D dA base b X pc lo st h bd Q := by
  intro p e s m args below meth c H locs cells slots QQ ls C R S V hc hs E
  obtain ⟨k1, b1, b2, hlen, Q', K1, K2⟩ := K
  obtain ⟨hx, hb, hr, hml, hown, hts, hlk, hnm, hKK, hbs⟩ := id C
  obtain ⟨xs, x1, x2, x3⟩ := popN_spec n [] st hp
  rw [List.append_nil] at x1
  subst x1
  subst x2
  have hpre := pre_Pcx (vs := .ref r :: as) R hKK hbs S
  rw [List.map_cons] at hpre
  have er : rv base b (.ref r) = .ref (ad base b r) := rfl
  rw [er] at hpre
  refine after_call kn C S V hc hs E b1 b2 K2 (vs := (Value.ref (ad base b r) :: as.map (rv base b)).toArray) ?_
  rcases hl with ⟨hB, hC⟩ | ⟨hB, hC⟩
  · have hB2 : (moB a n = true ∧ (yM a).name = "<init>") ∧ rk a = 0 := by simpa [lkB] using hB
    obtain ⟨m1, m2, m3, m4, m5, m6⟩ := moB_spec hB2.1.1
    have hM := met_of m5 m1 hlen K1
    have hcode : Cond.code (yM a) (cod a) (mxl a) (rtyK (rk a)) ∈ gtbl := hC _ (List.mem_of_getElem? (i := 2) rfl)
    have hini := hts _ (hC _ (List.mem_of_getElem? (i := 3) rfl))
    have cb : CallB (rmM X) s args (cN (ownC X)) idx (yM a) (cod a) (mxl a) (rtyK (rk a)) (wsM a) (rmM a) (mcM a) (msM a) n :=
      callB_of (own := cN (ownC X)) (index := idx) (ws' := gtbl) n hts (good_gtbl hcode) rfl rfl rfl hini (hts _ (hC _ (List.mem_of_getElem? (i := 0) rfl))) ⟨m2, m3, m4⟩ ⟨hdp, by show 8 + (mxl a + 11) + 38 * dep a ≤ 38 * dep X; omega⟩
    rw [show rtyK (rk a) = none by rw [hB2.2]; rfl] at cb
    exact va_runI (As := as.map (rv base b)) (rest := rest.map (rv base b)) ⟨hx, hb, hml, hown, hts⟩ hM ⟨cb, hB2.1.2, hts _ (hC _ (List.mem_of_getElem? (i := 1) rfl))⟩ ⟨blind_Pcx, hpre⟩ rfl (by rw [List.length_map]; exact x3) V.1 (by rw [List.map_append, List.map_reverse, List.map_cons, er]) (lv_room (by rw [cat_map]; exact k1)) hd ⟨show cells + mcM a ≤ mcM X by omega, show slots + msM a ≤ msM X by omega⟩
  · have hB2 : ((moB a n = true ∧ (yM a).name = "<init>") ∧ rk a = 0) ∧ ((ownC X, idx, a) = (9, 34, 1) ∨ (ownC X, idx, a) = (9, 50, 56) ∨ (ownC X, idx, a) = (9, 57, 6)) := by
      simp only [lkB, Bool.and_eq_true, decide_eq_true_eq] at hB
      exact hB
    obtain ⟨m1, m2, m3, m4, m5, m6⟩ := moB_spec hB2.1.1.1
    have hM := met_of m5 m1 hlen K1
    have hcode : Cond.code (yM a) (cod a) (mxl a) (rtyK (rk a)) ∈ gtbl := hC _ (List.mem_of_getElem? (i := 1) rfl)
    have hini := hts _ (hC _ (List.mem_of_getElem? (i := 2) rfl))
    have hnst : va_Nw (.methodLinkNest (cN (ownC X)) idx (yM a) "KeptSentences") s := by
      rcases hB2.2 with q | q | q
      · simp only [Prod.mk.injEq] at q
        rw [q.1, q.2.1, q.2.2]; exact hKK.2.2.2.1
      · simp only [Prod.mk.injEq] at q
        rw [q.1, q.2.1, q.2.2]; exact hKK.2.2.2.2.1
      · simp only [Prod.mk.injEq] at q
        rw [q.1, q.2.1, q.2.2]; exact hKK.2.2.2.2.2
    have cw : va_CN (rmM X) s args (cN (ownC X)) idx (yM a) "KeptSentences" (cod a) (mxl a) (rtyK (rk a)) (wsM a) (rmM a) (mcM a) (msM a) n :=
      va_cnB (ws' := gtbl) n hts (good_gtbl hcode) rfl rfl rfl hnst hini ⟨m2, m3, m4⟩ ⟨hdp, by show 8 + (mxl a + 11) + 38 * dep a ≤ 38 * dep X; omega⟩
    rw [show rtyK (rk a) = none by rw [hB2.1.2]; rfl] at cw
    exact va_runIN (As := as.map (rv base b)) (rest := rest.map (rv base b)) ⟨hx, hb, hml, hown, hts⟩ hM ⟨cw, hB2.1.1.2, hts _ (hC _ (List.mem_of_getElem? (i := 0) rfl))⟩ ⟨blind_Pcx, hpre⟩ rfl (by rw [List.length_map]; exact x3) V.1 (by rw [List.map_append, List.map_reverse, List.map_cons, er]) (lv_room (by rw [cat_map]; exact k1)) hd ⟨show cells + mcM a ≤ mcM X by omega, show slots + msM a ≤ msM X by omega⟩
end PSC
