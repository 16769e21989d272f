/-! classes and their fields -/
def isRefTy : FieldType → Bool
  | .object _ => true
  | .array _ => true
  | _ => false
def ClsF (a : Nat) (C : String) (T : u_T) (N : Nat) (ty : Nat → FieldType) : Prop := classes[a]? = some (C, T, N) ∧ nF a = N ∧ clT a = T ∧ cN a = C ∧ (∀ w ∈ u_ws C T N, w ∈ gtbl) ∧ Cond.instantiable C N ∈ gtbl ∧ Cond.initialized C ∈ gtbl ∧ (∀ x, x < N → ∀ y, y < N → x ≠ y → (T x).2.1 ≠ (T y).2.1) ∧ (∀ k, k < N → parseFieldDescriptor (T k).2.2.1 = some (ty k)) ∧ (∀ k, k < N → isRf a k = isRefTy (ty k) ∧ (isRf a k = false → ty k = .int)) ∧ (∀ k, k < N → (T k).1 = C)
theorem cls_0 : ClsF 0 RX0 TX0 4 tyX0 := ⟨rfl, rfl, rfl, rfl, fun w hw => mem_gtbl (List.all_eq_true.mp (by decide +kernel : (u_ws RX0 TX0 4).all (fun w => decide (w ∈ lw_tbl) && goodWord w) = true) w hw), mem_gtbl (by decide +kernel), mem_gtbl (by decide +kernel), nmX0, tyX0_ok, by decide +kernel, by decide +kernel⟩
theorem cls_1 : ClsF 1 RX1 TX1 5 tyX1 := ⟨rfl, rfl, rfl, rfl, fun w hw => mem_gtbl (List.all_eq_true.mp (by decide +kernel : (u_ws RX1 TX1 5).all (fun w => decide (w ∈ lw_tbl) && goodWord w) = true) w hw), mem_gtbl (by decide +kernel), mem_gtbl (by decide +kernel), nmX1, tyX1_ok, by decide +kernel, by decide +kernel⟩
theorem cls_2 : ClsF 2 RX2 TX2 8 tyX2 := ⟨rfl, rfl, rfl, rfl, fun w hw => mem_gtbl (List.all_eq_true.mp (by decide +kernel : (u_ws RX2 TX2 8).all (fun w => decide (w ∈ lw_tbl) && goodWord w) = true) w hw), mem_gtbl (by decide +kernel), mem_gtbl (by decide +kernel), nmX2, tyX2_ok, by decide +kernel, by decide +kernel⟩
theorem cls_3 : ClsF 3 RX3 TX3 2 tyX3 := ⟨rfl, rfl, rfl, rfl, fun w hw => mem_gtbl (List.all_eq_true.mp (by decide +kernel : (u_ws RX3 TX3 2).all (fun w => decide (w ∈ lw_tbl) && goodWord w) = true) w hw), mem_gtbl (by decide +kernel), mem_gtbl (by decide +kernel), nmX3, tyX3_ok, by decide +kernel, by decide +kernel⟩
theorem cls_4 : ClsF 4 RX4 TX4 1 tyX4 := ⟨rfl, rfl, rfl, rfl, fun w hw => mem_gtbl (List.all_eq_true.mp (by decide +kernel : (u_ws RX4 TX4 1).all (fun w => decide (w ∈ lw_tbl) && goodWord w) = true) w hw), mem_gtbl (by decide +kernel), mem_gtbl (by decide +kernel), nmX4, tyX4_ok, by decide +kernel, by decide +kernel⟩
theorem cls_5 : ClsF 5 RX5 TX5 3 tyX5 := ⟨rfl, rfl, rfl, rfl, fun w hw => mem_gtbl (List.all_eq_true.mp (by decide +kernel : (u_ws RX5 TX5 3).all (fun w => decide (w ∈ lw_tbl) && goodWord w) = true) w hw), mem_gtbl (by decide +kernel), mem_gtbl (by decide +kernel), nmX5, tyX5_ok, by decide +kernel, by decide +kernel⟩
theorem cls_6 : ClsF 6 RX6 TX6 9 tyX6 := ⟨rfl, rfl, rfl, rfl, fun w hw => mem_gtbl (List.all_eq_true.mp (by decide +kernel : (u_ws RX6 TX6 9).all (fun w => decide (w ∈ lw_tbl) && goodWord w) = true) w hw), mem_gtbl (by decide +kernel), mem_gtbl (by decide +kernel), nmX6, tyX6_ok, by decide +kernel, by decide +kernel⟩
theorem cls_7 : ClsF 7 RX8 TX8 2 tyX8 := ⟨rfl, rfl, rfl, rfl, fun w hw => mem_gtbl (List.all_eq_true.mp (by decide +kernel : (u_ws RX8 TX8 2).all (fun w => decide (w ∈ lw_tbl) && goodWord w) = true) w hw), mem_gtbl (by decide +kernel), mem_gtbl (by decide +kernel), nmX8, tyX8_ok, by decide +kernel, by decide +kernel⟩
theorem cls_8 : ClsF 8 RX9 TX9 2 tyX9 := ⟨rfl, rfl, rfl, rfl, fun w hw => mem_gtbl (List.all_eq_true.mp (by decide +kernel : (u_ws RX9 TX9 2).all (fun w => decide (w ∈ lw_tbl) && goodWord w) = true) w hw), mem_gtbl (by decide +kernel), mem_gtbl (by decide +kernel), nmX9, tyX9_ok, by decide +kernel, by decide +kernel⟩
theorem cls_9 : ClsF 9 RX10 TX10 12 tyX10 := ⟨rfl, rfl, rfl, rfl, fun w hw => mem_gtbl (List.all_eq_true.mp (by decide +kernel : (u_ws RX10 TX10 12).all (fun w => decide (w ∈ lw_tbl) && goodWord w) = true) w hw), mem_gtbl (by decide +kernel), mem_gtbl (by decide +kernel), nmX10, tyX10_ok, by decide +kernel, by decide +kernel⟩
theorem cls_10 : ClsF 10 RX11 TX11 33 tyX11 := ⟨rfl, rfl, rfl, rfl, fun w hw => mem_gtbl (List.all_eq_true.mp (by decide +kernel : (u_ws RX11 TX11 33).all (fun w => decide (w ∈ lw_tbl) && goodWord w) = true) w hw), mem_gtbl (by decide +kernel), mem_gtbl (by decide +kernel), nmX11, tyX11_ok, by decide +kernel, by decide +kernel⟩
theorem cls_ok : ∀ a : Nat, a < 11 → ∃ (C : String) (T : u_T) (N : Nat) (ty : Nat → FieldType), ClsF a C T N ty
  | 0, _ => ⟨_, _, _, _, cls_0⟩
  | 1, _ => ⟨_, _, _, _, cls_1⟩
  | 2, _ => ⟨_, _, _, _, cls_2⟩
  | 3, _ => ⟨_, _, _, _, cls_3⟩
  | 4, _ => ⟨_, _, _, _, cls_4⟩
  | 5, _ => ⟨_, _, _, _, cls_5⟩
  | 6, _ => ⟨_, _, _, _, cls_6⟩
  | 7, _ => ⟨_, _, _, _, cls_7⟩
  | 8, _ => ⟨_, _, _, _, cls_8⟩
  | 9, _ => ⟨_, _, _, _, cls_9⟩
  | 10, _ => ⟨_, _, _, _, cls_10⟩
  | n + 11, h => by omega
theorem arrC_I : Cond.arrayClass .int ∈ gtbl := mem_gtbl (by decide +kernel)
theorem arrC_B : Cond.arrayClass .byte ∈ gtbl := mem_gtbl (by decide +kernel)
theorem arrC_Z : Cond.arrayClass .boolean ∈ gtbl := mem_gtbl (by decide +kernel)
theorem arrC_J : Cond.arrayClass .long ∈ gtbl := mem_gtbl (by decide +kernel)
/-! heap instructions -/
section PSH
variable {l : Launch} {D : va_G} {dA : Nat → ClassId} {base b : Nat} {X pc : Nat} {lo : LO} {st : List Value} {h : HP} {bd : Nat × Nat} {Q : QT} {s : State} {H : Heap}
theorem ce_obj {a r : Nat} (R : Rel D dA base b h s H) (ho : isO h r a) (ha : a < 11) : t_OB (base + (r - 1)) (D.1 a) (nF a) (D.2 a) H (fV base h r a) := by
  have c := R.1 r ho.1 ho.2.1
  unfold CeR at c
  rw [ho.2.2] at c
  rcases c with ⟨_, c⟩ | ⟨c, _⟩
  · exact c
  · omega
theorem ce_arr {kd r : Nat} (R : Rel D dA base b h s H) (h0 : 0 < r) (hr : r < gS h) (hk : gK h r = kd) (hkd : 100 ≤ kd) : H[base + (r - 1)]? = some (arrV (dA kd) (gL h r) (aV base h r kd)) := by
  have c := R.1 r h0 hr
  unfold CeR at c
  rw [hk] at c
  rcases c with ⟨c, _⟩ | ⟨_, _, c⟩
  · omega
  · exact c
theorem rv_pos {r : Nat} (h0 : 0 < r) : rv base b (.ref r) = .ref (base + (r - 1)) := by simp [rv, ad_pos h0]
variable (kn : List Nat)
theorem ps_get {idx a k r : Nat} {v : Value} (hl : lkAtP (0, ownC X, idx, a, k)) (ho : isO h r a) (hv : fV base h r a k = rv base b v) (hd : decode (cod X) pc = .ok (.getfield idx, 3)) (K : PS l D dA base b X (pc + 3) (kil kn lo) (v :: st) h bd Q) : PS l D dA base b X pc lo (.ref r :: st) h bd Q := by
  intro p e s m args below meth c H locs cells slots QQ ls C R S V hc hs E
  obtain ⟨hB, hC⟩ := hl
  have hab : a < 11 ∧ k < nF a := by simpa [lkB] using hB
  obtain ⟨CC, T, N, ty, c1, c2, c3, c4, c5, c6, c7, c8, c9, c10, c11⟩ := cls_ok a hab.1
  obtain ⟨cell, q1, q2, q3, q4⟩ := ce_obj R ho hab.1
  obtain ⟨hx, hb, hr, hml, hown, hts, hlk, hnm, hKK, hbs⟩ := id C
  obtain ⟨hS, hfc, kC, hkC, hkind⟩ := hKK.1.1 a _ c1
  have hk : k < N := c2 ▸ hab.2
  obtain ⟨cf, kf, fi, f, hi, hsl⟩ := hS k hk
  have hlink : (Cond.fieldLink (cN (ownC X)) idx (T k).1 (T k).2.1 (T k).2.2.1).before args s = true := hts _ (hC _ (by rw [← c3]; exact List.mem_singleton.mpr rfl))
  rw [List.map_cons, rv_pos ho.1]
  refine W.getf hx hb hown hlink hi (u_facts hfc hkC (u_lays hts c5 hk) hi).1 q1 (by rw [q3]; exact fun h => by cases h) (v := rv base b v) ?_ rfl rfl hd (K p e s m args below meth c H locs cells slots QQ ls C R S (LV_kil kn V) hc hs E)
  rw [hsl, q4 k hab.2, hv]
theorem ps_put {idx a k r : Nat} {v : Value} {h' : HP} (hl : lkAtP (0, ownC X, idx, a, k)) (hfin : (clT a k).2.2.2 = true → (yM X).name = "<init>" ∧ ownC X = a) (ho : isO h r a)
    (hty : ∀ ty : FieldType, isRf a k = isRefTy ty → (isRf a k = false → ty = .int) → narrow ty (rv base b v) = rv base b v ∧ fits ty (rv base b v) = true)
    (hfv : ∀ j, j < nF a → updV (fV base h r a) k (rv base b v) j = fV base h' r a j) (gs : gS h' = gS h) (gk : gK h' = gK h) (gl : gL h' = gL h) (gi : ∀ q, q ≠ r → gI h' q = gI h q) (gj : ∀ q, q ≠ r → gJ h' q = gJ h q) (gr : ∀ q, q ≠ r → gR h' q = gR h q)
    (hd : decode (cod X) pc = .ok (.putfield idx, 3)) (K : PS l D dA base b X (pc + 3) (kil kn lo) st h' bd Q) : PS l D dA base b X pc lo (v :: .ref r :: st) h bd Q := by
  intro p e s m args below meth c H locs cells slots QQ ls C R S V hc hs E
  obtain ⟨hB, hC⟩ := hl
  have hab : a < 11 ∧ k < nF a := by simpa [lkB] using hB
  obtain ⟨CC, T, N, ty, c1, c2, c3, c4, c5, c6, c7, c8, c9, c10, c11⟩ := cls_ok a hab.1
  obtain ⟨cell, q1, q2, q3, q4⟩ := ce_obj R ho hab.1
  obtain ⟨hx, hb, hr, hml, hown, hts, hlk, hnm, hKK, hbs⟩ := id C
  have hap := va_apart (own := cN (ownC X)) hts c5 ty c9 c8 hKK.1 c1
  obtain ⟨hS, hfc, kC, hkC, hkind⟩ := hKK.1.1 a _ c1
  have hk : k < N := c2 ▸ hab.2
  obtain ⟨cf, kf, fi, f, hi, hsl⟩ := hS k hk
  have hlink : (Cond.fieldLink (cN (ownC X)) idx (T k).1 (T k).2.1 (T k).2.2.1).before args s = true := hts _ (hC _ (by rw [← c3]; exact List.mem_singleton.mpr rfl))
  obtain ⟨n1, n2⟩ := hty (ty k) (c10 k hk).1 (c10 k hk).2
  have hst := (u_facts hfc hkC (u_lays hts c5 hk) hi).1
  rw [List.map_cons, List.map_cons, rv_pos ho.1]
  have hbk : ∀ (H' : Heap) (L : List Loc), H'[base + (r - 1)]? = some (cell.setSlot (D.2 a k) (rv base b v)) → H'.size = H.size → (∀ q, q ≠ base + (r - 1) → H'[q]? = H[q]?) → va_S (fun q => base ≤ q) s.heap H' L → W p l e (rmM X) s m args below meth c H' L cells slots QQ (F0 m (pc + 3) ls (st.map (rv base b))) := by
    intro H' L e1 e2 e3 S'
    refine K p e s m args below meth c H' L cells slots QQ ls C (R.upd ho.1 gs gk gl gi gj gr e2 e3 ?_) S' (LV_kil kn V) hc hs E
    unfold CeR
    rw [gk, ho.2.2]
    refine Or.inl ⟨hab.1, cell.setSlot (D.2 a k) (rv base b v), e1, q2, q3, fun j hj => ?_⟩
    rw [← hfv j hj]
    exact t_set q4 (fun x y hx hy => hap x y (c2 ▸ hx) (c2 ▸ hy)) hab.2 _ j hj
  cases hfn : (T k).2.2.2
  · have hlay := hts _ (c5 _ (u_in_lay hk))
    unfold u_lay at hlay
    rw [if_neg (by rw [hfn]; decide)] at hlay
    have h6 := u_store hfc hkC hkind hlay hi (c9 k hk) n1 n2
    refine W.putK hx hb (f := f) ⟨hown, hlink, ⟨_, _, _, hi⟩, hst⟩ (by rw [q2]; exact h6) q1 q3 (by rw [hsl]; exact k2_hasslot (q4 k hab.2)) rfl rfl hd fun H' e1 e2 e3 => ?_
    rw [hsl] at e1 ⊢
    exact hbk H' _ e1 e2 e3 (S.put e2 e3 (Nat.le_add_right _ _))
  · obtain ⟨f1, f2⟩ := hfin (by rw [c3]; exact hfn)
    have hlay := hts _ (c5 _ (u_in_lay hk))
    unfold u_lay at hlay
    rw [if_pos hfn] at hlay
    have hdecl : s.vm.findClass (T k).1 = some m.cls := by rw [c11 k hk, ← c4, ← f2]; exact hown
    have hcf : m.cls = cf := by
      obtain ⟨_, _, c', _, _, _, -, -, hf', -, -, -, hown2, -⟩ := Cond.laysFinal_spec hlay
      have e1 : c' = cf := by have := hi.symm.trans hf'; simp at this; exact this.1.symm
      rw [← e1]; exact Option.some.inj (hdecl.symm.trans hown2)
    have h6 := u_fits hfc hkC hkind (Or.inr hlay) hi (c9 k hk) n1 n2
    refine W.putFinK hx hb hown hlink hi hst hcf (hnm f1) (by rw [q2]; exact h6) q1 q3 (by rw [hsl]; exact k2_hasslot (q4 k hab.2)) rfl rfl hd fun H' e1 e2 e3 => ?_
    rw [hsl] at e1 ⊢
    exact hbk H' _ e1 e2 e3 (S.put e2 e3 (Nat.le_add_right _ _))
end PSH
