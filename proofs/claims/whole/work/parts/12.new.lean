section PSN
variable {l : Launch} {D : va_G} {dA : Nat → ClassId} {base b : Nat} {X pc : Nat} {lo : LO} {st : List Value} {h : HP} {bd : Nat × Nat} {Q : QT} {s : State} {H : Heap}
theorem cat_map (base b : Nat) (st : List Value) : ((st.map (rv base b)).map fun v => v.category).sum = catS st := by
  rw [List.map_map]
  unfold catS
  congr 1
  exact List.map_congr_left (fun v _ => rv_cat base b v)
theorem S_new {A : Nat → Prop} {H0 H H1 : Heap} {locs : List Loc} (S : va_S A H0 H locs) (z : H1.size = H.size + 1) (o : ∀ q, q < H.size → H1[q]? = H[q]?) : va_S A H0 H1 locs :=
  ⟨Nat.le_trans S.1 (by omega), fun q h1 h2 => (o q (Nat.lt_of_lt_of_le h1 S.1)).trans (S.2.1 q h1 h2), S.2.2⟩
theorem nw_K {kd n : Nat} : gK (nwC h kd n) (gS h) = kd := va_up_self _ _ _
theorem nw_L {kd n : Nat} : gL (nwC h kd n) (gS h) = n := va_up_self _ _ _
theorem nw_I {kd n : Nat} : gI (nwC h kd n) (gS h) = fun _ => 0 := va_up_self _ _ _
theorem nw_J {kd n : Nat} : gJ (nwC h kd n) (gS h) = fun _ => 0 := va_up_self _ _ _
theorem nw_R {kd n : Nat} : gR (nwC h kd n) (gS h) = fun _ => 0 := va_up_self _ _ _
variable (kn : List Nat)
theorem ps_new {idx a : Nat} (hl : lkAtP (4, ownC X, idx, a, nF a)) (b1 : 1 ≤ bd.1) (b2 : nF a ≤ bd.2) (hd : decode (cod X) pc = .ok (.new idx, 3)) (K : PS l D dA base b X (pc + 3) (kil kn lo) (.ref (gS h) :: st) (nwC h a 0) (bd.1 - 1, bd.2 - nF a) Q) : PS l D dA base b X pc lo st h bd Q := by
  intro p e s m args below meth c H locs cells slots QQ ls C R S V hc hs E
  obtain ⟨hB, hC⟩ := hl
  have hab : a < 11 := by
    have : a < 11 ∧ nF a = nF a := by simpa [lkB] using hB
    exact this.1
  obtain ⟨CC, T, N, ty, c1, c2, c3, c4, c5, c6, c7, c8, c9, c10, c11⟩ := cls_ok a hab
  obtain ⟨hx, hb, hr, hml, hown, hts, hlk, hnm, hKK, hbs⟩ := id C
  have hKn := hKK.1.1 a _ c1
  have hcl : (Cond.classLink (cN (ownC X)) idx CC).before args s = true := hts _ (hC _ (by rw [← c4]; exact List.mem_singleton.mpr rfl))
  have hsz : H.size = base + (gS h - 1) := by have := R.2.1; have := R.2.2.1; omega
  have g0 : 0 < gS h := R.2.2.1
  subst c2
  refine W.newcK hx hb hown hcl (hts _ c6) (hts _ c7) rfl hd (show cells + 1 ≤ mcM X by omega) (show slots + nF a ≤ msM X by omega) hKn.2.1 rfl fun H1 kC hkC e1 z1 o1 => ?_
  have KW := K p e s m args below meth c H1 locs (cells + 1) (slots + nF a) QQ ls C (R.new z1 o1 ?_) (S_new S z1 o1) (LV_kil kn V) (show cells + 1 + (bd.1 - 1) ≤ mcM X by omega) (show slots + nF a + (bd.2 - nF a) ≤ msM X by omega) E
  · rw [List.map_cons, rv_pos g0, ← hsz] at KW
    exact KW
  · unfold CeR
    rw [nw_K, ← hsz]
    refine Or.inl ⟨hab, (u_born ty hts c5 hKn hkC e1 c9).to (fun k hk => ?_)⟩
    unfold fV
    rw [nw_R, nw_I]
    obtain ⟨t1, t2⟩ := c10 k hk
    cases hrf : isRf a k
    · rw [t2 hrf]; rfl
    · rw [hrf] at t1
      revert t1
      generalize ty k = z
      cases z <;> simp [isRefTy, defaultValue, rq, va_rf]
theorem ps_newa {t : ArrayType} {kd : Nat} {n : Int32} (hty : t = .int ∧ kd = 100 ∨ t = .byte ∧ kd = 101 ∨ t = .boolean ∧ kd = 102 ∨ t = .long ∧ kd = 103) (h1 : ¬ n < 0) (h2 : n.toNatClampNeg ≤ 60000000) (b1 : 1 ≤ bd.1) (b2 : n.toNatClampNeg ≤ bd.2) (hd : decode (cod X) pc = .ok (.newarray t, 2)) (K : PS l D dA base b X (pc + 2) (kil kn lo) (.ref (gS h) :: st) (nwC h kd n.toNatClampNeg) (bd.1 - 1, bd.2 - n.toNatClampNeg) Q) : PS l D dA base b X pc lo (.int n :: st) h bd Q := by
  intro p e s m args below meth c H locs cells slots QQ ls C R S V hc hs E
  obtain ⟨hx, hb, hr, hml, hown, hts, hlk, hnm, hKK, hbs⟩ := id C
  have hsz : H.size = base + (gS h - 1) := by have := R.2.1; have := R.2.2.1; omega
  have g0 : 0 < gS h := R.2.2.1
  have key : (Cond.arrayClass (newarray.typeOf t)).before args s = true ∧ n.toNatClampNeg * componentBytes (newarray.typeOf t) ≤ 536870912 ∧ (100 ≤ kd ∧ kd ≤ 105) ∧ s.vm.findClass ("[" ++ (newarray.typeOf t).toString) = some (dA kd) ∧ ∀ j, defaultValue (newarray.typeOf t) = aV base (nwC h kd n.toNatClampNeg) (gS h) kd j := by
    rcases hty with ⟨rfl, rfl⟩ | ⟨rfl, rfl⟩ | ⟨rfl, rfl⟩ | ⟨rfl, rfl⟩
    · exact ⟨hts _ arrC_I, by show _ * 4 ≤ _; omega, by omega, (hKK.1.2 0 _ rfl).2, fun j => by rw [aV_i (by omega), nw_I]; rfl⟩
    · exact ⟨hts _ arrC_B, by show _ * 1 ≤ _; omega, by omega, (hKK.1.2 1 _ rfl).2, fun j => by rw [aV_i (by omega), nw_I]; rfl⟩
    · exact ⟨hts _ arrC_Z, by show _ * 1 ≤ _; omega, by omega, (hKK.1.2 2 _ rfl).2, fun j => by rw [aV_i (by omega), nw_I]; rfl⟩
    · exact ⟨hts _ arrC_J, by show _ * 8 ≤ _; omega, by omega, (hKK.1.2 3 _ rfl).2, fun j => by rw [aV_j, nw_J]; rfl⟩
  obtain ⟨k1, k2, k3, k4, k5⟩ := key
  rw [List.map_cons]
  refine va_newaK hx hb k1 rfl hd rfl h1 rfl k2 (show cells + 1 ≤ mcM X by omega) (show slots + n.toNatClampNeg ≤ msM X by omega) rfl fun H1 cA e1 z1 o1 hAr hNm => ?_
  have hcA : cA = dA kd := Option.some.inj (hNm.symm.trans k4)
  subst hcA
  have KW := K p e s m args below meth c H1 locs (cells + 1) (slots + n.toNatClampNeg) QQ ls C (R.new z1 o1 ?_) (S_new S z1 o1) (LV_kil kn V) (show cells + 1 + (bd.1 - 1) ≤ mcM X by omega) (show slots + n.toNatClampNeg + (bd.2 - n.toNatClampNeg) ≤ msM X by omega) E
  · rw [List.map_cons, rv_pos g0, ← hsz] at KW
    exact KW
  · unfold CeR
    rw [nw_K, nw_L, ← hsz]
    refine Or.inr ⟨k3.1, k3.2, ?_⟩
    rw [e1, show (fun _ => defaultValue (newarray.typeOf t)) = aV base (nwC h kd n.toNatClampNeg) (gS h) kd from funext k5]
theorem ps_anew {idx a kd : Nat} {n : Int32} (hl : lkAtP (5, ownC X, idx, a, kd)) (h1 : ¬ n < 0) (h2 : n.toNatClampNeg ≤ 60000000) (b1 : 1 ≤ bd.1) (b2 : n.toNatClampNeg ≤ bd.2) (hd : decode (cod X) pc = .ok (.anewarray idx, 3)) (K : PS l D dA base b X (pc + 3) (kil kn lo) (.ref (gS h) :: st) (nwC h kd n.toNatClampNeg) (bd.1 - 1, bd.2 - n.toNatClampNeg) Q) : PS l D dA base b X pc lo (.int n :: st) h bd Q := by
  intro p e s m args below meth c H locs cells slots QQ ls C R S V hc hs E
  obtain ⟨hB, hC⟩ := hl
  have hab : a = 6 ∧ kd = 104 ∨ a = 7 ∧ kd = 105 := by simpa [lkB] using hB
  obtain ⟨hx, hb, hr, hml, hown, hts, hlk, hnm, hKK, hbs⟩ := id C
  have hsz : H.size = base + (gS h - 1) := by have := R.2.1; have := R.2.2.1; omega
  have g0 : 0 < gS h := R.2.2.1
  have hcl0 : (Cond.classLink (cN (ownC X)) idx (cN a)).before args s = true := hts _ (hC _ (List.mem_singleton.mpr rfl))
  obtain ⟨CC, hcl, hov, hnmA, k3⟩ : ∃ CC : String, (Cond.classLink (cN (ownC X)) idx CC).before args s = true ∧ va_AO CC s ∧ s.vm.findClass ("[" ++ (FieldType.object CC).toString) = some (dA kd) ∧ (103 < kd ∧ kd ≤ 105) := by
    rcases hab with ⟨rfl, rfl⟩ | ⟨rfl, rfl⟩
    · obtain ⟨kA, comp, q1, q2, q3, q4⟩ := (hKK.1.2 4 _ rfl).2
      exact ⟨"KeptSentences$Row", hcl0, hKK.2.1, q4, by omega⟩
    · obtain ⟨kA, comp, q1, q2, q3, q4⟩ := (hKK.1.2 5 _ rfl).2
      exact ⟨"KeptSentences$Text", hcl0, hKK.2.2.1, q4, by omega⟩
  rw [List.map_cons]
  refine W.anew hx hb hown hcl (va_AO.use hov) rfl hd rfl h1 (by omega) (show cells + 1 ≤ mcM X by omega) (show slots + n.toNatClampNeg ≤ msM X by omega) fun cA kA comp f1 f2 f3 f4 => ?_
  have hcA : cA = dA kd := Option.some.inj (f1.symm.trans hnmA)
  subst hcA
  generalize hH1 : H.push ({ cls := dA kd, slots := Array.replicate n.toNatClampNeg .null, vm := .none } : Cell) = H1
  have z1 : H1.size = H.size + 1 := by rw [← hH1, Array.size_push]
  have e1 : H1[H.size]? = some (arrV (dA kd) n.toNatClampNeg (fun _ => .null)) := by rw [← hH1, Array.getElem?_push_size, ← arrV_new]
  have o1 : ∀ q : Nat, q < H.size → H1[q]? = H[q]? := fun q hq => by rw [← hH1, Array.getElem?_push, if_neg (Nat.ne_of_lt hq)]
  have KW := K p e s m args below meth c H1 locs (cells + 1) (slots + n.toNatClampNeg) QQ ls C (R.new z1 o1 ?_) (S_new S z1 o1) (LV_kil kn V) (show cells + 1 + (bd.1 - 1) ≤ mcM X by omega) (show slots + n.toNatClampNeg + (bd.2 - n.toNatClampNeg) ≤ msM X by omega) E
  · rw [List.map_cons, rv_pos g0, ← hsz] at KW
    exact KW
  · unfold CeR
    rw [nw_K, nw_L, ← hsz]
    refine Or.inr ⟨by omega, k3.2, ?_⟩
    rw [e1]
    congr 2
    funext j
    rw [aV_r k3.1, nw_R]
    rfl
theorem ps_max {idx : Nat} {x y : Int32} (hl : lkAtP (11, ownC X, idx, 0, 0)) (hdp : 1 ≤ dep X) (hst : catS st ≤ 8) (hd : decode (cod X) pc = .ok (.invokestatic idx, 3)) (K : PS l D dA base b X (pc + 3) (kil kn lo) (.int (if x < y then y else x) :: st) h bd Q) : PS l D dA base b X pc lo (.int y :: .int x :: st) h bd Q := by
  intro p e s m args below meth c H locs cells slots QQ ls C R S V hc hs E
  obtain ⟨hx, hb, hr, hml, hown, hts, hlk, hnm, hKK, hbs⟩ := id C
  exact va_mmax hx hb (hml.trans V.1.symm) hown (hts _ (hl.2 _ (List.mem_of_getElem? (i := 0) rfl))) (hts _ (hl.2 _ (List.mem_of_getElem? (i := 1) rfl))) (hts _ (hl.2 _ (List.mem_of_getElem? (i := 2) rfl))) (hts _ (hl.2 _ (List.mem_of_getElem? (i := 3) rfl))) hdp (by rw [cat_map]; show _ ≤ 38 * dep X; omega) (show cells ≤ mcM X by omega) (show slots ≤ msM X by omega) hd (K p e s m args below meth c H locs cells slots QQ ls C R S (LV_kil kn V) hc hs E)
theorem ps_min {idx : Nat} {x y : Int32} (hl : lkAtP (12, ownC X, idx, 0, 0)) (hdp : 1 ≤ dep X) (hst : catS st ≤ 8) (hd : decode (cod X) pc = .ok (.invokestatic idx, 3)) (K : PS l D dA base b X (pc + 3) (kil kn lo) (.int (if y < x then y else x) :: st) h bd Q) : PS l D dA base b X pc lo (.int y :: .int x :: st) h bd Q := by
  intro p e s m args below meth c H locs cells slots QQ ls C R S V hc hs E
  obtain ⟨hx, hb, hr, hml, hown, hts, hlk, hnm, hKK, hbs⟩ := id C
  exact va_mmin hx hb (hml.trans V.1.symm) hown (hts _ (hl.2 _ (List.mem_of_getElem? (i := 0) rfl))) (hts _ (hl.2 _ (List.mem_of_getElem? (i := 1) rfl))) (hts _ (hl.2 _ (List.mem_of_getElem? (i := 2) rfl))) (hts _ (hl.2 _ (List.mem_of_getElem? (i := 3) rfl))) hdp (by rw [cat_map]; show _ ≤ 38 * dep X; omega) (show cells ≤ mcM X by omega) (show slots ≤ msM X by omega) hd (K p e s m args below meth c H locs cells slots QQ ls C R S (LV_kil kn V) hc hs E)
theorem ps_objI {idx r : Nat} (hl : lkAtP (8, ownC X, idx, 0, 0)) (hdp : 1 ≤ dep X) (hst : catS st ≤ 8) (hd : decode (cod X) pc = .ok (.invokespecial idx, 3)) (K : PS l D dA base b X (pc + 3) (kil kn lo) st h bd Q) : PS l D dA base b X pc lo (.ref r :: st) h bd Q := by
  intro p e s m args below meth c H locs cells slots QQ ls C R S V hc hs E
  obtain ⟨hx, hb, hr, hml, hown, hts, hlk, hnm, hKK, hbs⟩ := id C
  have KW := K p e s m args below meth c H locs cells slots QQ ls C R S (LV_kil kn V) hc hs E
  rw [List.map_cons]
  exact W.objInit hx hb hown (hts _ (hl.2 _ (List.mem_of_getElem? (i := 0) rfl))) (hts _ (hl.2 _ (List.mem_of_getElem? (i := 1) rfl))) (hts _ (hl.2 _ (List.mem_of_getElem? (i := 2) rfl))) rfl (by rw [hml]; exact V.1) rfl hd hdp (by rw [cat_map]; show 2 * 0 + _ + 12 ≤ 38 * dep X; omega) KW
theorem nat_words : nativeFrameWords "java/lang/System" "arraycopy" 5 + 11 ≤ 30 := by decide +kernel
theorem nn_toInt {z : Int32} (hz : ¬ z < 0) : z.toInt = (z.toNatClampNeg : Int) := by
  have h0 : (0 : Int) ≤ z.toInt := by
    have := Int32.not_lt.mp hz
    simpa using Int32.le_iff_toInt_le.mp this
  show z.toInt = ((z.toInt.toNat : Nat) : Int)
  omega
theorem ps_copy {idx src dst : Nat} {sp dp n : Int32} (hl : lkAtP (9, ownC X, idx, 0, 0)) (hdp : 1 ≤ dep X) (s0 : 0 < src) (s1 : src < gS h) (s2 : gK h src = 101) (d0 : 0 < dst) (d1 : dst < gS h) (d2 : gK h dst = 101) (n1 : ¬ sp < 0) (n2 : ¬ dp < 0) (n3 : ¬ n < 0) (z1 : sp.toNatClampNeg + n.toNatClampNeg ≤ gL h src) (z2 : dp.toNatClampNeg + n.toNatClampNeg ≤ gL h dst) (hf : ∀ i, i < n.toNatClampNeg → fits .byte (.int (gI h src (sp.toNatClampNeg + i))) = true) (hst : catS st ≤ 8)
    (hd : decode (cod X) pc = .ok (.invokestatic idx, 3)) (K : PS l D dA base b X (pc + 3) (kil kn lo) st (stA h dst (va_cpy (gI h src) (gI h dst) sp.toNatClampNeg dp.toNatClampNeg n.toNatClampNeg)) bd Q) : PS l D dA base b X pc lo (.int n :: .int dp :: .ref dst :: .int sp :: .ref src :: st) h bd Q := by
  intro p e s m args below meth c H locs cells slots QQ ls C R S V hc hs E
  obtain ⟨hx, hb, hr, hml, hown, hts, hlk, hnm, hKK, hbs⟩ := id C
  have f0 : aV base h src 101 = fun j => .int (gI h src j) := funext fun j => aV_i (by omega)
  have f1 : aV base h dst 101 = fun j => .int (gI h dst j) := funext fun j => aV_i (by omega)
  have c0 := ce_arr R s0 s1 s2 (by omega)
  have c1 := ce_arr R d0 d1 d2 (by omega)
  rw [f0] at c0
  rw [f1] at c1
  have A1 := (KK_arr hKK).2.1
  obtain ⟨-, k0, hk0, cm0, hkk0⟩ := A1 (gL h src) (fun j => .int (gI h src j))
  obtain ⟨-, k1, hk1, cm1, hkk1⟩ := A1 (gL h dst) (fun j => .int (gI h dst j))
  simp only [List.map_cons]
  rw [rv_pos d0, rv_pos s0]
  intro T hT XX
  obtain ⟨vm', X', step⟩ := XX.arraycopy hx hown (hts _ (hl.2 _ (List.mem_of_getElem? (i := 0) rfl))) (hts _ (hl.2 _ (List.mem_of_getElem? (i := 1) rfl))) (hts _ (hl.2 _ (List.mem_of_getElem? (i := 2) rfl))) (hts _ (hl.2 _ (List.mem_of_getElem? (i := 3) rfl))) (src := base + (src - 1)) (dst := base + (dst - 1)) (srcPos := sp) (destPos := dp) (n := n) (by rw [hT]; exact c0) (by rw [hT]; exact c1)
    (fun _ h => by cases h) (fun _ h => by cases h) (fun h => by cases h) (fun h => by cases h) hk0 hk1 hkk0 hkk1 (by rfl) n1 n2 n3 (by rw [nn_toInt n1, nn_toInt n3, arrV_size]; omega) (by rw [nn_toInt n2, nn_toInt n3, arrV_size]; omega)
    (fun vm₁ _ i hi => by
      have e : (arrV (dA 101) (gL h src) (fun j => Value.int (gI h src j))).slots.getD (sp.toNatClampNeg + i) .null = .int (gI h src (sp.toNatClampNeg + i)) := by
        rw [Array.getD_eq_getD_getElem?, arrV_read _ _ (by omega)]
        rfl
      rw [e]
      exact ⟨hf i hi, trivial⟩)
    (g := F0 m pc ls (.int n :: .int dp :: .ref (base + (dst - 1)) :: .int sp :: .ref (base + (src - 1)) :: st.map (rv base b))) rfl (V.1.trans hml.symm) (rest := st.map (rv base b)) rfl (by rw [hb]; exact hd) hdp (by rw [cat_map]; show 2 * 0 + _ + _ ≤ 38 * dep X; have hnw := nat_words; omega)
  have e1 : copied (arrV (dA 101) (gL h src) (fun j => Value.int (gI h src j))) (arrV (dA 101) (gL h dst) (fun j => Value.int (gI h dst j))) sp dp n = arrV (dA 101) (gL h dst) (fun j => Value.int (va_cpy (gI h src) (gI h dst) sp.toNatClampNeg dp.toNatClampNeg n.toNatClampNeg j)) := va_copied (fun z => .int z) _ _ _ _ z1
  rw [e1] at X' step
  have hlt : base + (dst - 1) < H.size := (Array.getElem?_eq_some_iff.mp c1).1
  generalize hce : arrV (dA 101) (gL h dst) (fun j => Value.int (va_cpy (gI h src) (gI h dst) sp.toNatClampNeg dp.toNatClampNeg n.toNatClampNeg j)) = ce at X' step
  have hheap : ((T.setVm vm').setCell (base + (dst - 1)) ce).heap = H.setIfInBounds (base + (dst - 1)) ce := by rw [← hT]; rfl
  have oq : ∀ q : Nat, q ≠ base + (dst - 1) → (H.setIfInBounds (base + (dst - 1)) ce)[q]? = H[q]? := fun q hq => by simp [Array.getElem?_setIfInBounds, Ne.symm hq]
  have gi : gI (stA h dst (va_cpy (gI h src) (gI h dst) sp.toNatClampNeg dp.toNatClampNeg n.toNatClampNeg)) dst = va_cpy (gI h src) (gI h dst) sp.toNatClampNeg dp.toNatClampNeg n.toNatClampNeg := va_up_self _ _ _
  have R' : Rel D dA base b (stA h dst (va_cpy (gI h src) (gI h dst) sp.toNatClampNeg dp.toNatClampNeg n.toNatClampNeg)) s (H.setIfInBounds (base + (dst - 1)) ce) := by
    refine R.upd d0 rfl rfl rfl (fun q hq => va_up_ne _ _ hq) (fun _ _ => rfl) (fun _ _ => rfl) (by simp) oq ?_
    unfold CeR
    have gk : gK (stA h dst (va_cpy (gI h src) (gI h dst) sp.toNatClampNeg dp.toNatClampNeg n.toNatClampNeg)) dst = 101 := d2
    rw [gk]
    refine Or.inr ⟨by omega, by omega, ?_⟩
    rw [show (H.setIfInBounds (base + (dst - 1)) ce)[base + (dst - 1)]? = some ce by simp [Array.getElem?_setIfInBounds, hlt], ← hce]
    congr 2
    funext j
    rw [aV_i (by omega), gi]
  obtain ⟨t, a1, b1⟩ := K p e s m args below meth c _ _ cells slots QQ ls C R' ⟨by simp; exact S.1, fun q g1 g2 => by
      rw [oq q (fun e => g2 (by rw [e]; exact Nat.le_add_right _ _))]
      exact S.2.1 q g1 g2, fun q hq => by
      rcases List.mem_append.mp hq with h | h
      · exact S.2.2 q h
      · obtain ⟨z, -, hz⟩ := List.mem_map.mp h
        rw [← hz]
        exact Nat.le_add_right _ _⟩ (LV_kil kn V) hc hs E _ hheap X'
  exact ⟨t, step t a1, b1⟩
end PSN
