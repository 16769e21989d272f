section PSA
variable {l : Launch} {D : va_G} {dA : Nat → ClassId} {base b : Nat} {X pc : Nat} {lo : LO} {st : List Value} {h : HP} {bd : Nat × Nat} {Q : QT} {s : State} {H : Heap}
theorem aV_i {r kd j : Nat} (hk : kd < 103) : aV base h r kd j = .int (gI h r j) := by simp [aV, hk]
theorem aV_j {r j : Nat} : aV base h r 103 j = .long (gJ h r j) := by simp [aV]
theorem aV_r {r kd j : Nat} (hk : 103 < kd) : aV base h r kd j = va_rf (rq base (gR h r j)) := by
  have h1 : ¬ kd < 103 := by omega
  have h2 : ¬ kd = 103 := by omega
  simp [aV, h1, h2]
theorem KK_arr (hK : KK D dA s) : ArrOfT s (dA 100) .int ∧ ArrOfT s (dA 101) .byte ∧ ArrOfT s (dA 102) .boolean ∧ ArrOfT s (dA 103) .long ∧ ArrOfT s (dA 104) (.object "KeptSentences$Row") ∧ ArrOfT s (dA 105) (.object "KeptSentences$Text") :=
  ⟨(hK.1.2 0 _ rfl).1, (hK.1.2 1 _ rfl).1, (hK.1.2 2 _ rfl).1, (hK.1.2 3 _ rfl).1, (hK.1.2 4 _ rfl).1, (hK.1.2 5 _ rfl).1⟩
theorem KK_arrT {kd : Nat} (hK : KK D dA s) (h1 : 100 ≤ kd) (h2 : kd ≤ 105) : ∃ ty, ArrOfT s (dA kd) ty := by
  obtain ⟨a0, a1, a2, a3, a4, a5⟩ := KK_arr hK
  rcases (show kd = 100 ∨ kd = 101 ∨ kd = 102 ∨ kd = 103 ∨ kd = 104 ∨ kd = 105 by omega) with rfl | rfl | rfl | rfl | rfl | rfl
  · exact ⟨_, a0⟩
  · exact ⟨_, a1⟩
  · exact ⟨_, a2⟩
  · exact ⟨_, a3⟩
  · exact ⟨_, a4⟩
  · exact ⟨_, a5⟩
theorem in_arr {cA : ClassId} {n : Nat} {f : Nat → Value} {i : Int32} (hin : vp_in i n) : ¬ (i < 0 ∨ (arrV cA n f).slots.size ≤ i.toNatClampNeg) := by rw [arrV_size]; exact hin
theorem in_lt {n : Nat} {i : Int32} (hin : vp_in i n) : i.toNatClampNeg < n := Nat.not_le.mp fun q => hin (Or.inr q)
variable (kn : List Nat)
theorem ps_iald {r : Nat} {i : Int32} (hi : isL h r 100 i) (hd : decode (cod X) pc = .ok (.iaload, 1)) (K : PS l D dA base b X (pc + 1) (kil kn lo) (.int (gI h r i.toNatClampNeg) :: st) h bd Q) : PS l D dA base b X pc lo (.int i :: .ref r :: st) h bd Q := by
  intro p e s m args below meth c H locs cells slots QQ ls C R S V hc hs E
  obtain ⟨hx, hb, hr, hml, hown, hts, hlk, hnm, hKK, hbs⟩ := id C
  obtain ⟨h1, h2, h3⟩ := hi
  have KW := K p e s m args below meth c H locs cells slots QQ ls C R S (LV_kil kn V) hc hs E
  rcases Nat.eq_zero_or_pos r with rfl | h0
  · obtain ⟨scr, g1, g2, g3, g4, g5⟩ := R.2.2.2.2 h2
    have e0 : rv base b (.ref 0) = .ref b := by simp [rv, ad_0]
    rw [List.map_cons, List.map_cons, e0]
    exact W.iald hx hb g1 g2 g3 (by rw [g4]; exact h3) (g5 _ (in_lt h3)) rfl rfl hd KW
  · rw [List.map_cons, List.map_cons, rv_pos h0]
    exact W.iald hx hb (ce_arr R h0 h1 h2 (by omega)) ((KK_arr hKK).1 _ _) (fun q => by cases q) (in_arr h3) (by rw [arrV_read _ _ (in_lt h3), aV_i (by omega)]; rfl) rfl rfl hd KW
theorem ps_bald {r k : Nat} {i : Int32} (hk : k = 101 ∨ k = 102) (hi : isA h r k i) (hd : decode (cod X) pc = .ok (.baload, 1)) (K : PS l D dA base b X (pc + 1) (kil kn lo) (.int (gI h r i.toNatClampNeg) :: st) h bd Q) : PS l D dA base b X pc lo (.int i :: .ref r :: st) h bd Q := by
  intro p e s m args below meth c H locs cells slots QQ ls C R S V hc hs E
  obtain ⟨hx, hb, hr, hml, hown, hts, hlk, hnm, hKK, hbs⟩ := id C
  obtain ⟨h0, h1, h2, h3⟩ := hi
  have KW := K p e s m args below meth c H locs cells slots QQ ls C R S (LV_kil kn V) hc hs E
  rw [List.map_cons, List.map_cons, rv_pos h0]
  rcases hk with rfl | rfl
  · exact W.bald hx hb (ce_arr R h0 h1 h2 (by omega)) ((KK_arr hKK).2.1 _ _) (fun q => by cases q) (in_arr h3) (by rw [arrV_read _ _ (in_lt h3), aV_i (by omega)]; rfl) rfl rfl hd KW
  · exact W.zald hx hb (ce_arr R h0 h1 h2 (by omega)) ((KK_arr hKK).2.2.1 _ _) (fun q => by cases q) (in_arr h3) (by rw [arrV_read _ _ (in_lt h3), aV_i (by omega)]; rfl) rfl rfl hd KW
theorem ps_lald {r : Nat} {i : Int32} (hi : isA h r 103 i) (hd : decode (cod X) pc = .ok (.laload, 1)) (K : PS l D dA base b X (pc + 1) (kil kn lo) (.long (gJ h r i.toNatClampNeg) :: st) h bd Q) : PS l D dA base b X pc lo (.int i :: .ref r :: st) h bd Q := by
  intro p e s m args below meth c H locs cells slots QQ ls C R S V hc hs E
  obtain ⟨hx, hb, hr, hml, hown, hts, hlk, hnm, hKK, hbs⟩ := id C
  obtain ⟨h0, h1, h2, h3⟩ := hi
  have KW := K p e s m args below meth c H locs cells slots QQ ls C R S (LV_kil kn V) hc hs E
  rw [List.map_cons, List.map_cons, rv_pos h0]
  exact W.lald hx hb (ce_arr R h0 h1 h2 (by omega)) ((KK_arr hKK).2.2.2.1 _ _) (fun q => by cases q) (in_arr h3) (by rw [arrV_read _ _ (in_lt h3), aV_j]; rfl) rfl rfl hd KW
theorem ps_aald {r : Nat} {i : Int32} (h0 : 0 < r) (h1 : r < gS h) (h2 : gK h r = 104 ∨ gK h r = 105) (h3 : vp_in i (gL h r)) (h4 : 0 < gR h r i.toNatClampNeg) (hd : decode (cod X) pc = .ok (.aaload, 1)) (K : PS l D dA base b X (pc + 1) (kil kn lo) (.ref (gR h r i.toNatClampNeg) :: st) h bd Q) : PS l D dA base b X pc lo (.int i :: .ref r :: st) h bd Q := by
  intro p e s m args below meth c H locs cells slots QQ ls C R S V hc hs E
  obtain ⟨hx, hb, hr, hml, hown, hts, hlk, hnm, hKK, hbs⟩ := id C
  have KW := K p e s m args below meth c H locs cells slots QQ ls C R S (LV_kil kn V) hc hs E
  rw [List.map_cons, rv_pos h4] at KW
  rw [List.map_cons, List.map_cons, rv_pos h0]
  rcases h2 with h2 | h2
  · exact W.aald hx hb (ce_arr R h0 h1 h2 (by omega)) ((KK_arr hKK).2.2.2.2.1 _ _) rfl (fun q => by cases q) (in_arr h3) (by rw [arrV_read _ _ (in_lt h3), aV_r (by omega), rq_pos h4]; rfl) rfl rfl hd KW
  · exact W.aald hx hb (ce_arr R h0 h1 h2 (by omega)) ((KK_arr hKK).2.2.2.2.2 _ _) rfl (fun q => by cases q) (in_arr h3) (by rw [arrV_read _ _ (in_lt h3), aV_r (by omega), rq_pos h4]; rfl) rfl rfl hd KW
theorem ps_alen {r : Nat} (h1 : r < gS h) (h2 : 100 ≤ gK h r) (h3 : gK h r ≤ 105) (h4 : r = 0 → gK h r = 100) (hd : decode (cod X) pc = .ok (.arraylength, 1)) (K : PS l D dA base b X (pc + 1) (kil kn lo) (.int (nI (gL h r)) :: st) h bd Q) : PS l D dA base b X pc lo (.ref r :: st) h bd Q := by
  intro p e s m args below meth c H locs cells slots QQ ls C R S V hc hs E
  obtain ⟨hx, hb, hr, hml, hown, hts, hlk, hnm, hKK, hbs⟩ := id C
  have KW := K p e s m args below meth c H locs cells slots QQ ls C R S (LV_kil kn V) hc hs E
  rcases Nat.eq_zero_or_pos r with rfl | h0
  · obtain ⟨scr, g1, g2, g3, g4, g5⟩ := R.2.2.2.2 (h4 rfl)
    have e0 : rv base b (.ref 0) = .ref b := by simp [rv, ad_0]
    rw [List.map_cons, e0]
    exact W.alen (n := nI (gL h 0)) hx hb g1 g2 (by rw [g4]; rfl) rfl rfl hd KW
  · obtain ⟨ty, ht⟩ := KK_arrT (kd := gK h r) hKK h2 h3
    rw [List.map_cons, rv_pos h0]
    exact W.alen (n := nI (gL h r)) hx hb (ce_arr R h0 h1 rfl h2) (ht _ _) (by rw [arrV_size]; rfl) rfl rfl hd KW
/-- what lies behind a store into an array -/
theorem rel_arr {h' : HP} {kd r k : Nat} {x : Value} {H' : Heap} (R : Rel D dA base b h s H) (h0 : 0 < r) (h2 : gK h r = kd) (h3 : 100 ≤ kd) (h4 : kd ≤ 105) (gs : gS h' = gS h) (gk : gK h' = gK h) (gl : gL h' = gL h) (gi : ∀ q, q ≠ r → gI h' q = gI h q) (gj : ∀ q, q ≠ r → gJ h' q = gJ h q) (gr : ∀ q, q ≠ r → gR h' q = gR h q)
    (hv : ∀ j, updV (aV base h r kd) k x j = aV base h' r kd j) (e1 : H'[base + (r - 1)]? = some ((arrV (dA kd) (gL h r) (aV base h r kd)).setSlot k x)) (e2 : H'.size = H.size) (e3 : ∀ q, q ≠ base + (r - 1) → H'[q]? = H[q]?) : Rel D dA base b h' s H' := by
  refine R.upd h0 gs gk gl gi gj gr e2 e3 ?_
  unfold CeR
  rw [gk, gl, h2]
  refine Or.inr ⟨h3, h4, ?_⟩
  rw [e1, arrV_store, show updV (aV base h r kd) k x = aV base h' r kd from funext hv]
theorem up_i {r k kd : Nat} {v : Int32} (hk : kd < 103) (j : Nat) : updV (aV base h r kd) k (.int v) j = aV base (stI h r k v) r kd j := by
  rw [aV_i hk]
  have e : gI (stI h r k v) r = va_up (gI h r) k v := va_up_self _ _ _
  rw [e]
  unfold updV va_up
  split
  · rfl
  · rw [aV_i hk]
theorem ps_iast {r : Nat} {i v : Int32} (hi : isA h r 100 i) (hd : decode (cod X) pc = .ok (.iastore, 1)) (K : PS l D dA base b X (pc + 1) (kil kn lo) st (stI h r i.toNatClampNeg v) bd Q) : PS l D dA base b X pc lo (.int v :: .int i :: .ref r :: st) h bd Q := by
  intro p e s m args below meth c H locs cells slots QQ ls C R S V hc hs E
  obtain ⟨hx, hb, hr, hml, hown, hts, hlk, hnm, hKK, hbs⟩ := id C
  obtain ⟨h0, h1, h2, h3⟩ := hi
  rw [List.map_cons, List.map_cons, List.map_cons, rv_pos h0]
  refine W.iast hx hb (ce_arr R h0 h1 h2 (by omega)) ((KK_arr hKK).1 _ _) (fun q => by cases q) (in_arr h3) rfl rfl hd fun H' e1 e2 e3 => ?_
  exact K p e s m args below meth c H' _ cells slots QQ ls C (rel_arr R h0 h2 (by omega) (by omega) rfl rfl rfl (fun q hq => va_up_ne _ _ hq) (fun _ _ => rfl) (fun _ _ => rfl) (up_i (by omega)) e1 e2 e3) (S.put e2 e3 (Nat.le_add_right _ _)) (LV_kil kn V) hc hs E
theorem ps_bast {r k : Nat} {i v : Int32} (hk : k = 101 ∨ k = 102) (hi : isA h r k i) (hd : decode (cod X) pc = .ok (.bastore, 1)) (K : PS l D dA base b X (pc + 1) (kil kn lo) st (stI h r i.toNatClampNeg (narB k v)) bd Q) : PS l D dA base b X pc lo (.int v :: .int i :: .ref r :: st) h bd Q := by
  intro p e s m args below meth c H locs cells slots QQ ls C R S V hc hs E
  obtain ⟨hx, hb, hr, hml, hown, hts, hlk, hnm, hKK, hbs⟩ := id C
  obtain ⟨h0, h1, h2, h3⟩ := hi
  rw [List.map_cons, List.map_cons, List.map_cons, rv_pos h0]
  rcases hk with rfl | rfl
  · refine W.bast hx hb (ce_arr R h0 h1 h2 (by omega)) ((KK_arr hKK).2.1 _ _) (fun q => by cases q) (in_arr h3) rfl rfl hd fun H' e1 e2 e3 => ?_
    exact K p e s m args below meth c H' _ cells slots QQ ls C (rel_arr R h0 h2 (by omega) (by omega) rfl rfl rfl (fun q hq => va_up_ne _ _ hq) (fun _ _ => rfl) (fun _ _ => rfl) (up_i (by omega)) e1 e2 e3) (S.put e2 e3 (Nat.le_add_right _ _)) (LV_kil kn V) hc hs E
  · refine W.zast hx hb (ce_arr R h0 h1 h2 (by omega)) ((KK_arr hKK).2.2.1 _ _) (fun q => by cases q) (in_arr h3) rfl rfl hd fun H' e1 e2 e3 => ?_
    exact K p e s m args below meth c H' _ cells slots QQ ls C (rel_arr R h0 h2 (by omega) (by omega) rfl rfl rfl (fun q hq => va_up_ne _ _ hq) (fun _ _ => rfl) (fun _ _ => rfl) (up_i (by omega)) e1 e2 e3) (S.put e2 e3 (Nat.le_add_right _ _)) (LV_kil kn V) hc hs E
theorem ps_last {r : Nat} {i : Int32} {v : Int64} (hi : isA h r 103 i) (hd : decode (cod X) pc = .ok (.lastore, 1)) (K : PS l D dA base b X (pc + 1) (kil kn lo) st (stJ h r i.toNatClampNeg v) bd Q) : PS l D dA base b X pc lo (.long v :: .int i :: .ref r :: st) h bd Q := by
  intro p e s m args below meth c H locs cells slots QQ ls C R S V hc hs E
  obtain ⟨hx, hb, hr, hml, hown, hts, hlk, hnm, hKK, hbs⟩ := id C
  obtain ⟨h0, h1, h2, h3⟩ := hi
  rw [List.map_cons, List.map_cons, List.map_cons, rv_pos h0]
  refine W.last hx hb (ce_arr R h0 h1 h2 (by omega)) ((KK_arr hKK).2.2.2.1 _ _) (fun q => by cases q) (in_arr h3) rfl rfl hd fun H' e1 e2 e3 => ?_
  refine K p e s m args below meth c H' _ cells slots QQ ls C (rel_arr R h0 h2 (by omega) (by omega) rfl rfl rfl (fun _ _ => rfl) (fun q hq => va_up_ne _ _ hq) (fun _ _ => rfl) (fun j => ?_) e1 e2 e3) (S.put e2 e3 (Nat.le_add_right _ _)) (LV_kil kn V) hc hs E
  rw [aV_j]
  have e : gJ (stJ h r i.toNatClampNeg v) r = va_up (gJ h r) i.toNatClampNeg v := va_up_self _ _ _
  rw [e]
  unfold updV va_up
  split
  · rfl
  · rw [aV_j]
theorem ps_aast {r v : Nat} {i : Int32} (hk : (gK h r = 104 ∧ isO h v 6) ∨ (gK h r = 105 ∧ isO h v 7)) (h0 : 0 < r) (h1 : r < gS h) (h3 : vp_in i (gL h r)) (hd : decode (cod X) pc = .ok (.aastore, 1)) (K : PS l D dA base b X (pc + 1) (kil kn lo) st (stR h r i.toNatClampNeg v) bd Q) : PS l D dA base b X pc lo (.ref v :: .int i :: .ref r :: st) h bd Q := by
  intro p e s m args below meth c H locs cells slots QQ ls C R S V hc hs E
  obtain ⟨hx, hb, hr, hml, hown, hts, hlk, hnm, hKK, hbs⟩ := id C
  have h30 : ¬ i < 0 := fun q => h3 (Or.inl q)
  have up : ∀ kd, 103 < kd → 0 < v → ∀ j, updV (aV base h r kd) i.toNatClampNeg (.ref (base + (v - 1))) j = aV base (stR h r i.toNatClampNeg v) r kd j := by
    intro kd hkd hv j
    rw [aV_r hkd]
    have e : gR (stR h r i.toNatClampNeg v) r = va_up (gR h r) i.toNatClampNeg v := va_up_self _ _ _
    rw [e]
    unfold updV va_up
    split
    · rw [rq_pos hv]; rfl
    · rw [aV_r hkd]
  rcases hk with ⟨h2, hv⟩ | ⟨h2, hv⟩
  · rw [List.map_cons, List.map_cons, List.map_cons, rv_pos h0, rv_pos hv.1]
    obtain ⟨cv, g1, g2, g3, -⟩ := ce_obj R hv (by omega)
    have hcl := (hKK.1.1 6 _ rfl).2
    obtain ⟨kA, comp, k1, k2, k3, -⟩ := (hKK.1.2 4 _ rfl).2
    have hcomp : comp = D.1 6 := Option.some.inj (k3.symm.trans hcl.1)
    subst hcomp
    have hcl2 := hcl
    obtain ⟨-, kC, hkC, -⟩ := hcl2
    refine W.aast hx hb (ce_arr R h0 h1 h2 (by omega)) (fun q h => by cases h) (fun h => by cases h) k1 k2 rfl hkC ⟨h30, by rw [arrV_size]; exact in_lt h3⟩ g1 (fun q h => by rw [g3] at h; cases h) (by rw [g2]; exact hkC) (by rw [g2]; exact va_assign hcl) rfl rfl hd fun H' e1 e2 e3 => ?_
    exact K p e s m args below meth c H' _ cells slots QQ ls C (rel_arr R h0 h2 (by omega) (by omega) rfl rfl rfl (fun _ _ => rfl) (fun _ _ => rfl) (fun q hq => va_up_ne _ _ hq) (up 104 (by omega) hv.1) e1 e2 e3) (S.put e2 e3 (Nat.le_add_right _ _)) (LV_kil kn V) hc hs E
  · rw [List.map_cons, List.map_cons, List.map_cons, rv_pos h0, rv_pos hv.1]
    obtain ⟨cv, g1, g2, g3, -⟩ := ce_obj R hv (by omega)
    have hcl := (hKK.1.1 7 _ rfl).2
    obtain ⟨kA, comp, k1, k2, k3, -⟩ := (hKK.1.2 5 _ rfl).2
    have hcomp : comp = D.1 7 := Option.some.inj (k3.symm.trans hcl.1)
    subst hcomp
    have hcl2 := hcl
    obtain ⟨-, kC, hkC, -⟩ := hcl2
    refine W.aast hx hb (ce_arr R h0 h1 h2 (by omega)) (fun q h => by cases h) (fun h => by cases h) k1 k2 rfl hkC ⟨h30, by rw [arrV_size]; exact in_lt h3⟩ g1 (fun q h => by rw [g3] at h; cases h) (by rw [g2]; exact hkC) (by rw [g2]; exact va_assign hcl) rfl rfl hd fun H' e1 e2 e3 => ?_
    exact K p e s m args below meth c H' _ cells slots QQ ls C (rel_arr R h0 h2 (by omega) (by omega) rfl rfl rfl (fun _ _ => rfl) (fun _ _ => rfl) (fun q hq => va_up_ne _ _ hq) (up 105 (by omega) hv.1) e1 e2 e3) (S.put e2 e3 (Nat.le_add_right _ _)) (LV_kil kn V) hc hs E
end PSA
