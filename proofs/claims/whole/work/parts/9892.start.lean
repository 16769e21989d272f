/-! the law's start -/
section STA
variable {h0 h h' : HP}
theorem ck_O : ∀ q ∈ kObj, (1 ≤ q.1 ∧ q.1 < 338) ∧ kdF q.1 = q.2 := by decide
theorem ck_R : ∀ q ∈ kRef, (1 ≤ q.1 ∧ q.1 < 338 ∧ q.2.1 < 12) ∧ rfF q.1 q.2.1 = q.2.2 := by decide
theorem ck_A : ∀ q ∈ kArr, (1 ≤ q.1 ∧ q.1 < 338) ∧ kdF q.1 = q.2.1 ∧ lnF q.1 = q.2.2 := by decide
theorem ck_T : ∀ r, r < 63 → (1 < txA r ∧ txA r + 1 < 338 ∧ txA r ≠ 318) ∧ kdF (txA r) = 7 ∧ kdF (txA r + 1) = 101 ∧ rfF (txA r) 0 = txA r + 1 ∧ lnF (txA r + 1) ≤ 1000 := by decide
theorem ck_A2 : ∀ r, r < 63 → isTA (txA r + 1) := fun r hr => by
  have := txA_c r
  unfold isTA
  omega
theorem ck_I {r s : Nat} (hr : r < 63) (hs : s < 63) (e : txA r + 1 = txA s + 1) : r = s := by
  unfold txA at e
  repeat' split at e
  all_goals omega
theorem RwS_n {a N : Nat} (h1 : 1 < a) (h2 : a + 3 < 338) (hS : gS h = 362) (k : ∀ a, 1 ≤ a → a < 338 → gK h a = kdF a ∧ gL h a = lnF a) (r : ∀ a j, 1 < a → a < 338 → gR h a j = rfF a j) (c1 : kdF a = 6 ∧ kdF (a + 1) = 100 ∧ kdF (a + 2) = 100 ∧ kdF (a + 3) = 100) (c2 : lnF (a + 1) = N ∧ lnF (a + 2) = N ∧ lnF (a + 3) = N) (c3 : rfF a 0 = a + 1 ∧ rfF a 1 = a + 2 ∧ rfF a 2 = a + 3) (hN : N ≤ 1000) : RwS h a N := by
  unfold RwS isO
  rw [hS, r a 0 h1 (by omega), r a 1 h1 (by omega), r a 2 h1 (by omega), (k a (by omega) (by omega)).1, (k (a + 1) (by omega) (by omega)).1, (k (a + 2) (by omega) (by omega)).1, (k (a + 3) (by omega) (by omega)).1, (k (a + 1) (by omega) (by omega)).2, (k (a + 2) (by omega) (by omega)).2, (k (a + 3) (by omega) (by omega)).2]
  exact ⟨⟨by omega, by omega, c1.1⟩, c3, by omega, c1.2, c2, hN⟩
theorem WdO_n {a N base : Nat} {c l : Nat → Nat} (h1 : 1 < a) (h2 : 318 < a) (h3 : a + 1 < 338) (hS : gS h = 362) (k : ∀ a, 1 ≤ a → a < 338 → gK h a = kdF a ∧ gL h a = lnF a) (r : ∀ a j, 1 < a → a < 338 → gR h a j = rfF a j) (z : ∀ a, 1 ≤ a → a < 338 → a ≠ 318 → ∀ i, gI h a i = nI 0) (c1 : kdF a = 8 ∧ kdF (a + 1) = 103) (c2 : lnF (a + 1) = N) (c3 : rfF a 0 = a + 1) (hN : N ≤ 100) : WdO h a N base 0 c l := by
  unfold WdO isO
  rw [hS, r a 0 h1 (by omega), (k a (by omega) (by omega)).1, (k (a + 1) (by omega) (by omega)).1, (k (a + 1) (by omega) (by omega)).2, z a (by omega) (by omega) (by omega)]
  exact ⟨⟨by omega, by omega, c1.1⟩, c3, by omega, c1.2, c2, hN, Nat.zero_le _, rfl, fun i hi => absurd hi (Nat.not_lt_zero i)⟩
theorem InvK_n (P : Bd h0 h 338 (fun a j => a = 1 ∧ 12 ≤ j)) (same : ∀ b, b < 338 → gI h' b = gI h b ∧ gJ h' b = gJ h b ∧ gR h' b = gR h b ∧ gK h' b = gK h b ∧ gL h' b = gL h b) (hS : gS h' = 362) : InvK (fun r => txA r + 1) st0 h' := by
  have k : ∀ a, 1 ≤ a → a < 338 → gK h' a = kdF a ∧ gL h' a = lnF a := fun a h1 h2 => by
    rw [(same a h2).2.2.2.1, (same a h2).2.2.2.2]
    exact P.2.2.1 a h1 h2
  have r1 : ∀ a j, 1 ≤ a → a < 338 → ¬ (a = 1 ∧ 12 ≤ j) → gR h' a j = rfF a j := fun a j h1 h2 h3 => by
    rw [(same a h2).2.2.1]
    exact P.2.2.2.1 a j h1 h2 h3
  have r : ∀ a j, 1 < a → a < 338 → gR h' a j = rfF a j := fun a j h1 h2 => r1 a j (by omega) h2 (by omega)
  have z : ∀ a, 1 ≤ a → a < 338 → a ≠ 318 → ∀ i, gI h' a i = nI 0 := fun a h1 h2 h3 i => by
    rw [(same a h2).1, (P.2.2.2.2.1 a h1 h2 h3).1]
    rfl
  have o : ∀ {a c : Nat}, 1 ≤ a → a < 338 → kdF a = c → isO h' a c := fun {a c} h1 h2 e => ⟨h1, by rw [hS]; omega, by rw [(k a h1 h2).1]; exact e⟩
  refine ⟨⟨by omega, fun q hq => ?_, fun q hq => ?_, fun q hq => ?_, fun s hs => ?_, fun p hp => ?_, fun p hp => ?_, ?_⟩, ⟨fun q hq => ?_, ⟨o (by decide) (by decide) rfl, r 320 0 (by decide) (by decide), by rw [hS]; decide, (k 321 (by decide) (by decide)).1, (k 321 (by decide) (by decide)).2⟩, (k 3 (by decide) (by decide)).2, ck_A2, fun q s hq hs e => ck_I hq hs e⟩, ⟨z 4 (by decide) (by decide) (by decide) 3, fun s hs => absurd hs (Nat.not_lt_zero s)⟩, ⟨z 105 (by decide) (by decide) (by decide) 6, z 105 (by decide) (by decide) (by decide) 7, fun i _ => ⟨z 110 (by decide) (by decide) (by decide) i, z 111 (by decide) (by decide) (by decide) i⟩, fun s hs => absurd hs (Nat.not_lt_zero s), fun s hs => absurd hs (Nat.not_lt_zero s)⟩, ⟨?_, ?_, ?_, ?_⟩, fun s hs => absurd hs (Nat.not_lt_zero s), ⟨z 312 (by decide) (by decide) (by decide) 4, fun j x hj => absurd hj (by simp [st0, sD])⟩⟩
  · have c := ck_O q hq
    rw [(k q.1 c.1.1 c.1.2).1]
    exact c.2
  · have c := ck_R q hq
    rw [r1 q.1 q.2.1 c.1.1 c.1.2.1 (by omega)]
    exact c.2
  · have c := ck_A q hq
    rw [(k q.1 c.1.1 c.1.2).1, (k q.1 c.1.1 c.1.2).2]
    exact c.2
  · refine ⟨by rw [r 7 s (by decide) (by decide)]; exact r_7 hs, RwS_n (by omega) (by omega) hS k r ⟨(r_kd hs).1, (r_kd hs).2.1, (r_kd hs).2.2.1, (r_kd hs).2.2.2⟩ ⟨(r_ln hs).2.1, (r_ln hs).2.2.1, (r_ln hs).2.2.2⟩ ⟨by rw [(r_rf hs).1]; rfl, by rw [(r_rf hs).1]; rfl, by rw [(r_rf hs).1]; rfl⟩ (by decide), by rw [r _ 3 (by omega) (by omega), (r_rf hs).1]; rfl⟩
  · have kk := q_kd p hp
    have ll := q_ln p hp
    have e : 114 + 6 * p = 112 + 6 * p + 1 + 1 := by omega
    refine ⟨by rw [r 106 p (by decide) (by decide)]; exact r_106 hp, by rw [r 107 p (by decide) (by decide), e]; exact r_107 hp, ?_, ?_⟩
    · rw [e]
      exact RwS_n (by omega) (by omega) hS k r ⟨kk.2.2.1, kk.2.2.2.1, kk.2.2.2.2.1, kk.2.2.2.2.2⟩ ⟨ll.2.2.2.1, ll.2.2.2.2.1, ll.2.2.2.2.2⟩ ⟨by rw [q_2 hp]; rfl, by rw [q_2 hp]; rfl, by rw [q_2 hp]; rfl⟩ (by decide)
    · rw [e, r _ 3 (by omega) (by omega), q_2 hp]
      rfl
  · rw [r 109 p (by decide) (by decide)]
    exact r_109 hp
  · exact RwS_n (by decide) (by decide) hS k r ⟨rfl, rfl, rfl, rfl⟩ ⟨rfl, rfl, rfl⟩ ⟨rfl, rfl, rfl⟩ (by decide)
  · have c := ck_T q (by omega)
    show TxO h' (txA q) (txA q + 1) (sf st0) (600 * q) (sz st0 q)
    refine ⟨o (by omega) (by omega) c.2.1, by rw [r _ 0 c.1.1 (by omega)]; exact c.2.2.2.1, ⟨by omega, by rw [hS]; omega, by rw [(k _ (by omega) (by omega)).1]; exact c.2.2.1⟩, z _ (by omega) (by omega) c.1.2.2 1, ⟨Nat.zero_le _, by rw [(k _ (by omega) (by omega)).2]; exact c.2.2.2.2⟩, fun i hi => absurd hi (Nat.not_lt_zero i), fun i => (by decide : 0 < 256)⟩
  · exact WdO_n (by decide) (by decide) (by decide) hS k r z ⟨rfl, rfl⟩ rfl rfl (by decide)
  · exact WdO_n (by decide) (by decide) (by decide) hS k r z ⟨rfl, rfl⟩ rfl rfl (by decide)
  · exact WdO_n (by decide) (by decide) (by decide) hS k r z ⟨rfl, rfl⟩ rfl rfl (by decide)
  · exact WdO_n (by decide) (by decide) (by decide) hS k r z ⟨rfl, rfl⟩ rfl rfl (by decide)
theorem law_wq {L : Nat} {xs : Nat → Int32} (hL : L ≤ 2048) : wq_Law_law 0 (hp0 L xs) (fun v _ => v = 1) := by
  unfold wq_Law_law
  intro h1 e1
  have Pz : Bd (hp0 L xs) (hp0 L xs) 1 (fun a _ => a = 1) := ⟨rfl, by decide, fun a h1 h2 => by omega, fun a j h1 h2 => by omega, fun a h1 h2 => by omega, rfl, rfl, rfl⟩
  have P1 : Bd (hp0 L xs) h1 2 (fun a _ => a = 1) := bd_new Pz e1 rfl rfl (fun a j z => z) (fun j => Or.inr rfl)
  rw [Pz.1]
  refine c_K P1 (fun h3 P3 => ?_)
  rw [P3.1]
  refine m_init P3.1 (fun h6 M6 s6 S6 => ?_)
  have I6 := InvK_n P3 s6 S6
  have s0 := s6 0 (by decide)
  have sc : ScO L h6 := ⟨by omega, by rw [s0.2.2.2.1, P3.2.2.2.2.2.2.1]; rfl, by rw [s0.2.2.2.2, P3.2.2.2.2.2.2.2]; rfl⟩
  exact law_lp hL (fun _ => rfl) 512 0 599639 7111689 h6 st0 _ (by omega) (by decide) (by decide) (by decide) sc WF_0 M6 I6
theorem law_wp : LawWp := fun L xs hL => (wq_Law_law_ok (law_wq (L := L) (xs := xs) hL)).conseq (fun r h q => by
  obtain ⟨v, e, k⟩ := q
  rw [e, k])
end STA
