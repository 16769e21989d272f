/-! the law's loop -/
def ScO (L : Nat) (h : HP) : Prop := 0 < gS h ∧ gK h 0 = 100 ∧ gL h 0 = L
section LOOP
variable {B : Nat → Nat} {σ : St} {h h' : HP} {L : Nat}
theorem scL {i : Int32} (S : ScO L h) (v : vp_in i L) : isL h 0 100 i := ⟨S.1, S.2.1, by rw [S.2.2]; exact v⟩
theorem ScO_c (F : Fc h h') (S : ScO L h) : ScO L h' ∧ gI h' 0 = gI h 0 := by
  have g := F.2.2.1 0 S.1
  exact ⟨⟨Nat.lt_of_lt_of_le S.1 F.2.2.2, g.1.trans S.2.1, g.2.trans S.2.2⟩, (F.1 0 S.1 (by omega)).1⟩
theorem ScO_o (F : Fo h h') (S : ScO L h) : ScO L h' ∧ gI h' 0 = gI h 0 := by
  have e1 : gS h' = gS h := congrArg (fun x => x.2.2.2.2) F.1
  have e2 : gK h' = gK h := congrArg (fun x => x.2.2.1) F.1
  have e4 : gL h' = gL h := congrArg (fun x => x.2.2.2.1) F.1
  exact ⟨⟨by rw [e1]; exact S.1, by rw [e2]; exact S.2.1, by rw [e4]; exact S.2.2⟩, F.2 0 (by omega)⟩
theorem mArr_r : ∀ q ∈ mArr, 338 < q.2.1 ∧ q.2.1 ≤ 361 := by decide
theorem InvM_c (F : Fc h h') (I : InvM σ h) : InvM σ h' := by
  obtain ⟨⟨m1, m2, m3⟩, i2, i3, i4, i5, i6, i7⟩ := I
  have g : ∀ a, 338 ≤ a → a ≤ 361 → gI h' a = gI h a := fun a h1 h2 => (F.1 a (by omega) (by omega)).1
  have k : ∀ a, a ≤ 361 → gK h' a = gK h a ∧ gL h' a = gL h a := fun a h2 => F.2.2.1 a (by omega)
  have r : ∀ k, gR h' 338 k = gR h 338 k := fun k => F.2.1 338 k (by omega) (fun z => by
    unfold Ydy at z
    rcases z with z | z
    · omega
    · exact absurd z.1 (by decide))
  have gS' : 362 ≤ gS h' := Nat.le_trans m1 F.2.2.2
  refine ⟨⟨gS', by rw [(k 338 (by decide)).1]; exact m2, fun q hq => ?_⟩, ?_⟩
  · have b := mArr_r q hq
    rw [r, (k _ b.2).1, (k _ b.2).2]
    exact m3 q hq
  · unfold MSt at *
    rw [g 339 (by decide) (by decide), g 340 (by decide) (by decide), g 338 (by decide) (by decide), g 349 (by decide) (by decide), g 350 (by decide) (by decide), g 352 (by decide) (by decide), g 353 (by decide) (by decide), g 347 (by decide) (by decide), g 348 (by decide) (by decide), g 356 (by decide) (by decide), g 357 (by decide) (by decide), g 358 (by decide) (by decide)]
    exact ⟨i2, i3, i4, i5, i6, i7⟩
theorem InvK_o (F : Fo h h') (w : WF σ) (I : InvK B σ h) : InvK B σ h' := by
  have G : AgY (fun a => 338 ≤ a ∧ a ≤ 361) YN h h' := h2_y F.1 (fun b hb => F.2 b (by omega))
  obtain ⟨s, t, g, m, wd, kn, st⟩ := I
  have hP := w.2.2.1.1
  have hs := s.1
  obtain ⟨m1, m2, m3, m4, m5⟩ := m
  refine ⟨KSh_y G (fun _ _ z => z.elim) s, KTx_y (σ' := σ) G (fun a z => ⟨isTxt_f (by omega) (by omega) (by omega) (by omega) (by omega), by unfold isTA; omega⟩) (fun _ z => z.elim) rfl rfl t, SgO_y (σ' := σ) G hs (by omega) (fun a _ _ => by omega) rfl (fun _ _ _ => rfl) rfl w g, ?_, KWd_y (σ' := σ) G (fun a _ _ => by omega) (fun _ _ _ z => z.elim) rfl wd, KnO_y G (by omega) hs kn, KSt_y G hs (fun a _ _ => by omega) st⟩
  unfold MeO
  rw [(G.1 105 (by omega) (by omega)).1, (G.1 110 (by omega) (by omega)).1, (G.1 111 (by omega) (by omega)).1, (G.1 108 (by omega) (by omega)).1]
  exact ⟨m1, m2, m3, m4, fun p hp => RwO_y G (by omega) (by omega) (by omega) (by omega) (by omega) (m5 p hp)⟩
theorem ld_hm (w : WF σ) : ∀ i, i + 1 < (ctL σ).length → (ctL σ).getD i 0 ≤ (ctL σ).getD (i + 1) 0 := fun i hi => by
  have := load_m w (i + 1) hi
  rw [bgC_s] at this
  exact this
theorem ld_hx (w : WF σ) : ∀ i, (ctL σ).getD i 0 ≤ 600 := fun i => Nat.le_trans (load_x w i) (w.1.2 0 (by decide))
theorem lt_4 {L j : Nat} (h : L < 4) (hj : j < 2147483648) : nI L - (4 : Int32) < nI j := by
  have h0 : nI L - (4 : Int32) < nI 0 := by
    rcases (show L = 0 ∨ L = 1 ∨ L = 2 ∨ L = 3 by omega) with e | e | e | e <;> (rw [e]; decide)
  exact Int32.lt_of_lt_of_le h0 ((le_I (by omega) hj).mpr (Nat.zero_le j))
set_option maxHeartbeats 4000000 in
theorem law_lp (hL : L ≤ 2048) {K : Int32 → HP → Prop} (H : ∀ h, K 1 h) : ∀ (r j bc bs : Nat) (h : HP) (σ : St) (B : Nat → Nat), L < j + 4 * r + 4 → j ≤ 2052 → 2 * r ≤ bc → 1280 * r ≤ bs → ScO L h → WF σ → InvM σ h → InvK B σ h → Wp k_Law_law 18 [some (.ref 0), some (.ref 1), some (.ref 338), some (.int (nI j))] [] h (bc, bs) (QI K)
  | 0, j, bc, bs, h, σ, B, h1, h2, b1, b2, S, wf, M, I => wb_Law_law_18_ok (by
      unfold wb_Law_law_18
      rw [S.2.1, S.2.2]
      refine ⟨⟨S.1, by decide, by decide, fun _ => rfl⟩, fun _ => H h, fun z => absurd ?_ z⟩
      by_cases c : L < 4
      · exact lt_4 c (by omega)
      · rw [show (4 : Int32) = nI 4 from rfl, sub_I (by omega)]
        exact (lt_I (by omega) (by omega)).mpr (by omega))
  | r + 1, j, bc, bs, h, σ, B, h1, h2, b1, b2, S, wf, M, I => wb_Law_law_18_ok (by
      have go : ∀ (bc' bs' : Nat) (h' : HP) (τ : St) (B' : Nat → Nat), j + 4 ≤ L → 2 * r ≤ bc' → 1280 * r ≤ bs' → ScO L h' → WF τ → InvM τ h' → InvK B' τ h' → Wp k_Law_law 18 [some (.ref 0), some (.ref 1), some (.ref 338), some (.int (nI j + (4 : Int32)))] [] h' (bc', bs') (QI K) := fun bc' bs' h' τ B' hj c1 c2 S' w' M' I' => by
        have := law_lp hL H r (j + 4) bc' bs' h' τ B' (by omega) (by omega) c1 c2 S' w' M' I'
        rw [← add_I] at this
        exact this
      unfold wb_Law_law_18
      refine ⟨by rw [S.2.1]; exact ⟨S.1, by decide, by decide, fun _ => rfl⟩, fun _ => H h, fun z => ?_⟩
      have hj : j + 4 ≤ L := by
        rw [S.2.2] at z
        by_cases c : L < 4
        · exact absurd (lt_4 c (by omega)) z
        · rw [show (4 : Int32) = nI 4 from rfl, sub_I (by omega)] at z
          have : ¬ L - 4 < j := fun y => z ((lt_I (by omega) (by omega)).mpr y)
          omega
      have v0 : vp_in (nI j) L := nI_in' (by omega) (by omega)
      have v1 : vp_in (nI j + (1 : Int32)) L := by rw [show nI j + (1 : Int32) = nI (j + 1) from add_I j 1]; exact nI_in' (by omega) (by omega)
      have v2 : vp_in (nI j + (2 : Int32)) L := by rw [show nI j + (2 : Int32) = nI (j + 2) from add_I j 2]; exact nI_in' (by omega) (by omega)
      have v3 : vp_in (nI j + (3 : Int32)) L := by rw [show nI j + (3 : Int32) = nI (j + 3) from add_I j 3]; exact nI_in' (by omega) (by omega)
      have o1 := kO_1 I.1
      refine ⟨scL S v0, fun _ _ _ _ _ _ _ _ _ _ _ _ _ _ _ _ _ _ _ _ _ _ _ _ _ => go bc bs h σ B hj (by omega) (by omega) S wf M I, fun _ => ?_, fun _ => ?_, fun _ => ?_, fun _ => ?_, fun _ => ?_, fun _ => ?_, fun _ => ?_, fun _ => ?_, fun _ => ?_, fun _ => ?_, fun _ => ?_, fun _ => ?_, fun _ => ?_, fun _ => ?_, fun _ => ?_, fun _ => ?_, fun _ => ?_, fun _ => ?_, fun _ => ?_, fun _ => ?_, fun _ => ?_, fun _ => ?_, fun _ => ?_, fun _ => ?_, fun _ => ?_⟩
      · refine ⟨scL S v1, scL S v2, scL S v3, o1, kc_feed I wf (fun h1 hI F1 => ?_)⟩
        obtain ⟨B1, I1⟩ := hI
        obtain ⟨S1, e1⟩ := ScO_c F1 S
        have M1 := InvM_c F1 M
        rw [e1]
        exact ⟨scL S1 v1, scL S1 v2, scL S1 v3, MSh_o M1.1, m_feed M1 wf (fun h2 M2 F2 => ⟨fun _ => go (bc) (bs) h2 _ B1 hj (by omega) (by omega) (ScO_o F2 S1).1 (WF_feed wf) M2 (InvK_o F2 (WF_feed wf) I1), fun z => absurd rfl z⟩)⟩
      · refine ⟨scL S v1, o1, kc_cut I wf (fun h1 hI F1 => ?_)⟩
        obtain ⟨B1, I1⟩ := hI
        obtain ⟨S1, e1⟩ := ScO_c F1 S
        have M1 := InvM_c F1 M
        rw [e1]
        exact ⟨scL S1 v1, MSh_o M1.1, m_cut M1 wf (fun h2 M2 F2 => ⟨fun _ => go (bc) (bs) h2 _ B1 hj (by omega) (by omega) (ScO_o F2 S1).1 (WF_cut wf) M2 (InvK_o F2 (WF_cut wf) I1), fun z => absurd rfl z⟩)⟩
      · refine ⟨scL S v1, o1, kc_tape I wf (fun h1 hI F1 => ?_)⟩
        obtain ⟨B1, I1⟩ := hI
        obtain ⟨S1, e1⟩ := ScO_c F1 S
        have M1 := InvM_c F1 M
        rw [e1]
        exact ⟨scL S1 v1, MSh_o M1.1, m_tape M1 wf (fun h2 M2 F2 => ⟨fun _ => go (bc) (bs) h2 _ B1 hj (by omega) (by omega) (ScO_o F2 S1).1 (wf) M2 (InvK_o F2 (wf) I1), fun z => absurd rfl z⟩)⟩
      · refine ⟨o1, kc_except I wf (fun h1 hI F1 => ?_)⟩
        obtain ⟨B1, I1⟩ := hI
        obtain ⟨S1, e1⟩ := ScO_c F1 S
        have M1 := InvM_c F1 M
        exact ⟨MSh_o M1.1, m_except M1 wf (fun h2 M2 F2 => ⟨fun _ => go (bc) (bs) h2 _ B1 hj (by omega) (by omega) (ScO_o F2 S1).1 (WF_except wf) M2 (InvK_o F2 (WF_except wf) I1), fun z => absurd rfl z⟩)⟩
      · refine ⟨o1, ⟨by omega, by omega⟩, kc_load I wf (load_F wf) (load_N wf) (load_m wf) (load_x wf) (fun h1 hI F1 => ?_)⟩
        obtain ⟨B1, I1⟩ := hI
        obtain ⟨S1, e1⟩ := ScO_c F1 S
        have M1 := InvM_c F1 M
        exact ⟨MSh_o M1.1, m_load M1 wf (ld_hm wf) (ld_hx wf) (fun h2 M2 F2 => ⟨fun _ => go (bc - 1) (bs - 640) h2 _ B1 hj (by omega) (by omega) (ScO_o F2 S1).1 (WF_load wf) M2 (InvK_o F2 (WF_load wf) I1), fun z => absurd rfl z⟩)⟩
      · refine ⟨scL S v1, scL S v2, o1, kc_segment I wf (fun h1 hI F1 => ?_)⟩
        obtain ⟨B1, I1⟩ := hI
        obtain ⟨S1, e1⟩ := ScO_c F1 S
        have M1 := InvM_c F1 M
        rw [e1]
        exact ⟨scL S1 v1, scL S1 v2, MSh_o M1.1, m_segment M1 wf (fun h2 M2 F2 => ⟨fun _ => go (bc) (bs) h2 _ B1 hj (by omega) (by omega) (ScO_o F2 S1).1 (wf) M2 (InvK_o F2 (wf) I1), fun z => absurd rfl z⟩)⟩
      · refine ⟨scL S v1, scL S v2, scL S v3, o1, kc_piece I wf (fun h1 hI F1 => ?_)⟩
        obtain ⟨B1, I1⟩ := hI
        obtain ⟨S1, e1⟩ := ScO_c F1 S
        have M1 := InvM_c F1 M
        rw [e1]
        exact ⟨scL S1 v1, scL S1 v2, scL S1 v3, MSh_o M1.1, m_piece M1 wf (fun h2 M2 F2 => ⟨fun _ => go (bc) (bs) h2 _ B1 hj (by omega) (by omega) (ScO_o F2 S1).1 (wf) M2 (InvK_o F2 (wf) I1), fun z => absurd rfl z⟩)⟩
      · refine ⟨scL S v1, scL S v2, o1, ⟨by omega, by omega⟩, kc_keep I wf (keep_len wf) (fun h1 hI F1 => ?_)⟩
        obtain ⟨B1, I1⟩ := hI
        obtain ⟨S1, e1⟩ := ScO_c F1 S
        have M1 := InvM_c F1 M
        rw [e1]
        exact ⟨scL S1 v1, scL S1 v2, MSh_o M1.1, m_keep M1 wf (fun h2 M2 F2 => ⟨fun _ => go (bc - 2) (bs - 1280) h2 _ B1 hj (by omega) (by omega) (ScO_o F2 S1).1 (WF_keep wf) M2 (InvK_o F2 (WF_keep wf) I1), fun z => absurd rfl z⟩)⟩
      · refine ⟨scL S v1, scL S v2, o1, ⟨by omega, by omega⟩, kc_change I wf (fun h1 hI F1 => ?_)⟩
        obtain ⟨B1, I1⟩ := hI
        obtain ⟨S1, e1⟩ := ScO_c F1 S
        have M1 := InvM_c F1 M
        rw [e1]
        exact ⟨scL S1 v1, scL S1 v2, MSh_o M1.1, m_change M1 wf (fun h2 M2 F2 => ⟨fun _ => go (bc - 1) (bs - 640) h2 _ B1 hj (by omega) (by omega) (ScO_o F2 S1).1 (WF_change wf) M2 (InvK_o F2 (WF_change wf) I1), fun z => absurd rfl z⟩)⟩
      · refine ⟨o1, kc_undo I wf (fun h1 hI F1 => ?_)⟩
        obtain ⟨B1, I1⟩ := hI
        obtain ⟨S1, e1⟩ := ScO_c F1 S
        have M1 := InvM_c F1 M
        exact ⟨MSh_o M1.1, m_undo M1 wf (fun h2 M2 F2 => ⟨fun _ => go (bc) (bs) h2 _ B1 hj (by omega) (by omega) (ScO_o F2 S1).1 (WF_undo wf) M2 (InvK_o F2 (WF_undo wf) I1), fun z => absurd rfl z⟩)⟩
      · refine ⟨scL S v1, scL S v2, o1, kc_pair I wf (fun h1 hI F1 => ?_)⟩
        obtain ⟨B1, I1⟩ := hI
        obtain ⟨S1, e1⟩ := ScO_c F1 S
        have M1 := InvM_c F1 M
        rw [e1]
        exact ⟨scL S1 v1, scL S1 v2, MSh_o M1.1, m_pair M1 wf (fun h2 M2 F2 => ⟨fun _ => go (bc) (bs) h2 _ B1 hj (by omega) (by omega) (ScO_o F2 S1).1 (wf) M2 (InvK_o F2 (wf) I1), fun z => absurd rfl z⟩)⟩
      · refine ⟨scL S v1, scL S v2, scL S v3, o1, kc_rendered I wf (fun h1 hI F1 => ?_)⟩
        obtain ⟨B1, I1⟩ := hI
        obtain ⟨S1, e1⟩ := ScO_c F1 S
        have M1 := InvM_c F1 M
        rw [e1]
        exact ⟨scL S1 v1, scL S1 v2, scL S1 v3, MSh_o M1.1, m_rendered M1 wf (fun h2 M2 F2 => ⟨fun _ => go (bc) (bs) h2 _ B1 hj (by omega) (by omega) (ScO_o F2 S1).1 (wf) M2 (InvK_o F2 (wf) I1), fun z => absurd rfl z⟩)⟩
      · refine ⟨scL S v1, scL S v2, o1, kc_like I wf (fun h1 hI F1 => ?_)⟩
        obtain ⟨B1, I1⟩ := hI
        obtain ⟨S1, e1⟩ := ScO_c F1 S
        have M1 := InvM_c F1 M
        rw [e1]
        exact ⟨scL S1 v1, scL S1 v2, MSh_o M1.1, m_like2 M1 wf (fun h2 M2 F2 => ⟨fun _ => go (bc) (bs) h2 _ B1 hj (by omega) (by omega) (ScO_o F2 S1).1 (wf) M2 (InvK_o F2 (wf) I1), fun z => absurd rfl z⟩)⟩
      · refine ⟨scL S v1, scL S v2, o1, kc_score I wf (fun h1 hI F1 => ?_)⟩
        obtain ⟨B1, I1⟩ := hI
        obtain ⟨S1, e1⟩ := ScO_c F1 S
        have M1 := InvM_c F1 M
        rw [e1]
        exact ⟨scL S1 v1, scL S1 v2, MSh_o M1.1, m_score M1 wf (fun h2 M2 F2 => ⟨fun _ => go (bc) (bs) h2 _ B1 hj (by omega) (by omega) (ScO_o F2 S1).1 (wf) M2 (InvK_o F2 (wf) I1), fun z => absurd rfl z⟩)⟩
      · refine ⟨scL S v1, scL S v2, scL S v3, o1, kc_found I wf (fun h1 hI F1 => ?_)⟩
        obtain ⟨B1, I1⟩ := hI
        obtain ⟨S1, e1⟩ := ScO_c F1 S
        have M1 := InvM_c F1 M
        rw [e1]
        exact ⟨scL S1 v1, scL S1 v2, scL S1 v3, MSh_o M1.1, m_found M1 wf (fun h2 M2 F2 => ⟨fun _ => go (bc) (bs) h2 _ B1 hj (by omega) (by omega) (ScO_o F2 S1).1 (wf) M2 (InvK_o F2 (wf) I1), fun z => absurd rfl z⟩)⟩
      · refine ⟨scL S v1, scL S v2, o1, kc_differ I wf (fun h1 hI F1 => ?_)⟩
        obtain ⟨B1, I1⟩ := hI
        obtain ⟨S1, e1⟩ := ScO_c F1 S
        have M1 := InvM_c F1 M
        rw [e1]
        exact ⟨scL S1 v1, scL S1 v2, MSh_o M1.1, m_differ M1 wf (fun h2 M2 F2 => ⟨fun _ => go (bc) (bs) h2 _ B1 hj (by omega) (by omega) (ScO_o F2 S1).1 (WF_differ wf) M2 (InvK_o F2 (WF_differ wf) I1), fun z => absurd rfl z⟩)⟩
      · refine ⟨scL S v1, scL S v2, o1, kc_step I wf (fun h1 hI F1 => ?_)⟩
        obtain ⟨B1, I1⟩ := hI
        obtain ⟨S1, e1⟩ := ScO_c F1 S
        have M1 := InvM_c F1 M
        rw [e1]
        exact ⟨scL S1 v1, scL S1 v2, MSh_o M1.1, m_step2 M1 wf (fun h2 M2 F2 => ⟨fun _ => go (bc) (bs) h2 _ B1 hj (by omega) (by omega) (ScO_o F2 S1).1 (wf) M2 (InvK_o F2 (wf) I1), fun z => absurd rfl z⟩)⟩
      · refine ⟨scL S v1, scL S v2, o1, ⟨by omega, by omega⟩, kc_patch I wf (fun h1 hI F1 => ?_)⟩
        obtain ⟨B1, I1⟩ := hI
        obtain ⟨S1, e1⟩ := ScO_c F1 S
        have M1 := InvM_c F1 M
        rw [e1]
        exact ⟨scL S1 v1, scL S1 v2, MSh_o M1.1, m_patch M1 wf (fun h2 M2 F2 => ⟨fun _ => go (bc - 1) (bs - 640) h2 _ B1 hj (by omega) (by omega) (ScO_o F2 S1).1 (WF_patch wf (I1.2.1.1 0 (by decide)).2.2.2.2.2.2) M2 (InvK_o F2 (WF_patch wf (I1.2.1.1 0 (by decide)).2.2.2.2.2.2) I1), fun z => absurd rfl z⟩)⟩
      · refine ⟨o1, kc_term I wf (fun h1 hI F1 => ?_)⟩
        obtain ⟨B1, I1⟩ := hI
        obtain ⟨S1, e1⟩ := ScO_c F1 S
        have M1 := InvM_c F1 M
        exact ⟨MSh_o M1.1, m_term M1 wf (fun h2 M2 F2 => ⟨fun _ => go (bc) (bs) h2 _ B1 hj (by omega) (by omega) (ScO_o F2 S1).1 (WF_term wf) M2 (InvK_o F2 (WF_term wf) I1), fun z => absurd rfl z⟩)⟩
      · refine ⟨o1, kc_forbid I wf (fun h1 hI F1 => ?_)⟩
        obtain ⟨B1, I1⟩ := hI
        obtain ⟨S1, e1⟩ := ScO_c F1 S
        have M1 := InvM_c F1 M
        exact ⟨MSh_o M1.1, m_forbid M1 wf (fun h2 M2 F2 => ⟨fun _ => go (bc) (bs) h2 _ B1 hj (by omega) (by omega) (ScO_o F2 S1).1 (WF_forbid wf) M2 (InvK_o F2 (WF_forbid wf) I1), fun z => absurd rfl z⟩)⟩
      · refine ⟨scL S v1, o1, kc_faults I wf (fun h1 hI F1 => ?_)⟩
        obtain ⟨B1, I1⟩ := hI
        obtain ⟨S1, e1⟩ := ScO_c F1 S
        have M1 := InvM_c F1 M
        rw [e1]
        exact ⟨scL S1 v1, MSh_o M1.1, m_faults M1 wf (fun h2 M2 F2 => ⟨fun _ => go (bc) (bs) h2 _ B1 hj (by omega) (by omega) (ScO_o F2 S1).1 (wf) M2 (InvK_o F2 (wf) I1), fun z => absurd rfl z⟩)⟩
      · refine ⟨scL S v1, o1, kc_counted I wf (fun h1 hI F1 => ?_)⟩
        obtain ⟨B1, I1⟩ := hI
        obtain ⟨S1, e1⟩ := ScO_c F1 S
        have M1 := InvM_c F1 M
        rw [e1]
        exact ⟨scL S1 v1, MSh_o M1.1, m_counted M1 wf (fun h2 M2 F2 => ⟨fun _ => go (bc) (bs) h2 _ B1 hj (by omega) (by omega) (ScO_o F2 S1).1 (wf) M2 (InvK_o F2 (wf) I1), fun z => absurd rfl z⟩)⟩
      · refine ⟨scL S v1, scL S v2, o1, kc_count I wf (fun h1 hI F1 => ?_)⟩
        obtain ⟨B1, I1⟩ := hI
        obtain ⟨S1, e1⟩ := ScO_c F1 S
        have M1 := InvM_c F1 M
        rw [e1]
        exact ⟨scL S1 v1, scL S1 v2, MSh_o M1.1, m_count M1 wf (fun h2 M2 F2 => ⟨fun _ => go (bc) (bs) h2 _ B1 hj (by omega) (by omega) (ScO_o F2 S1).1 (wf) M2 (InvK_o F2 (wf) I1), fun z => absurd rfl z⟩)⟩
      · refine ⟨scL S v1, o1, kc_spread I wf (fun h1 hI F1 => ?_)⟩
        obtain ⟨B1, I1⟩ := hI
        obtain ⟨S1, e1⟩ := ScO_c F1 S
        have M1 := InvM_c F1 M
        rw [e1]
        exact ⟨scL S1 v1, MSh_o M1.1, m_spread M1 wf (fun h2 M2 F2 => ⟨fun _ => go (bc) (bs) h2 _ B1 hj (by omega) (by omega) (ScO_o F2 S1).1 (wf) M2 (InvK_o F2 (wf) I1), fun z => absurd rfl z⟩)⟩
      · refine ⟨scL S v1, o1, kc_about I wf (fun h1 hI F1 => ?_)⟩
        obtain ⟨B1, I1⟩ := hI
        obtain ⟨S1, e1⟩ := ScO_c F1 S
        have M1 := InvM_c F1 M
        rw [e1]
        exact ⟨scL S1 v1, MSh_o M1.1, m_about M1 wf (fun h2 M2 F2 => ⟨fun _ => go (bc) (bs) h2 _ B1 hj (by omega) (by omega) (ScO_o F2 S1).1 (wf) M2 (InvK_o F2 (wf) I1), fun z => absurd rfl z⟩)⟩)
end LOOP
