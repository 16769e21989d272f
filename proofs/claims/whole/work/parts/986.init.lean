/-! the constructors -/
def st0 : St := (fun _ => 0, fun _ => 0, (0, fun _ => 0, fun _ => 0), (0, 0, fun _ => 0, fun _ => 0), (0, 0, 0, fun _ => 0, fun _ => 0), [])
theorem WF_0 : WF st0 := ⟨⟨fun _ => (by decide : 0 < 256), fun _ _ => (by decide : 0 ≤ 600)⟩, ⟨(by decide : 0 ≤ 24), fun s hs => absurd hs (Nat.not_lt_zero s), fun s hs => absurd hs (Nat.not_lt_zero s)⟩, ⟨(by decide : 0 ≤ 20), (by decide : 0 ≤ 40), fun r hr => absurd hr (Nat.not_lt_zero r), fun r hr => absurd hr (Nat.not_lt_zero r), fun r hr => absurd hr (Nat.not_lt_zero r), fun r hr => absurd hr (Nat.not_lt_zero r)⟩, ⟨(by decide : 0 ≤ 8), (by decide : 0 ≤ 10), (by decide : 0 ≤ 5), fun _ => (by decide : 0 < 256), fun _ => (by decide : 0 ≤ 8), fun i hi => by
    have hi' : i < 0 ∨ (8 ≤ i ∧ i < 8 + 0) ∨ (18 ≤ i ∧ i < 18 + 0) ∨ (28 ≤ i ∧ i < 28 + 0) := hi
    omega⟩, (by decide : 0 ≤ 40), fun x hx => absurd hx (by simp [st0, sD])⟩
section INI
variable {h0 h h' h2 : HP} {p A : Nat}
/-- the model under way -/
def Mi (h0 h : HP) (D : List (Nat × Nat × Nat × Nat)) (a : Nat) : Prop :=
  gS h = a ∧ 338 < a ∧ gK h 338 = 10 ∧ (∀ q ∈ D, (gR h 338 q.1 = q.2.1 ∧ gK h q.2.1 = q.2.2.1 ∧ gL h q.2.1 = q.2.2.2) ∧ 338 < q.2.1 ∧ q.2.1 < a) ∧ (∀ b, 338 ≤ b → b < a → gI h b = fun _ => 0) ∧ ∀ b, b < 338 → gI h b = gI h0 b ∧ gJ h b = gJ h0 b ∧ gR h b = gR h0 b ∧ gK h b = gK h0 b ∧ gL h b = gL h0 b
theorem nw_o {kd n b : Nat} (hb : b ≠ gS h) : gI (nwC h kd n) b = gI h b ∧ gJ (nwC h kd n) b = gJ h b ∧ gR (nwC h kd n) b = gR h b ∧ gK (nwC h kd n) b = gK h b ∧ gL (nwC h kd n) b = gL h b := ⟨va_up_ne _ _ hb, va_up_ne _ _ hb, va_up_ne _ _ hb, va_up_ne _ _ hb, va_up_ne _ _ hb⟩
theorem sR_o {k v b : Nat} (hb : b ≠ p) : gR (stR h p k v) b = gR h b := va_up_ne _ _ hb
theorem sR_p {k v : Nat} : gR (stR h p k v) p = va_up (gR h p) k v := va_up_self _ _ _
theorem mi_nx {Q : HP → Prop} {D : List (Nat × Nat × Nat × Nat)} {a k kd n : Nat} (P : Mi h0 h D a) (hk : ∀ q ∈ D, q.1 ≠ k) (H : ∀ h3, Mi h0 h3 ((k, a, kd, n) :: D) (a + 1) → Q h3) : ∀ h1, h1 = nwC h kd n → isO h1 338 10 ∧ 0 < gS h ∧ ∀ h3, h3 = stR h1 338 k (gS h) → Q h3 := by
  obtain ⟨p1, p2, p3, p4, p5, p6⟩ := P
  intro h1 e1
  subst e1
  have n3 : 338 ≠ gS h := by omega
  refine ⟨⟨by decide, by show 338 < gS h + 1; omega, by rw [(nw_o n3).2.2.2.1]; exact p3⟩, by omega, fun h3 e3 => H h3 ?_⟩
  subst e3
  refine ⟨by show gS h + 1 = a + 1; omega, by omega, by show gK (nwC h kd n) 338 = 10; rw [(nw_o n3).2.2.2.1]; exact p3, fun q hq => ?_, fun b b1 b2 => ?_, fun b hb => ?_⟩
  · rw [sR_p]
    show (va_up (gR (nwC h kd n) 338) k (gS h) q.1 = q.2.1 ∧ gK (nwC h kd n) q.2.1 = q.2.2.1 ∧ gL (nwC h kd n) q.2.1 = q.2.2.2) ∧ 338 < q.2.1 ∧ q.2.1 < a + 1
    rcases List.mem_cons.mp hq with e | hq
    · rw [e]
      show (va_up (gR (nwC h kd n) 338) k (gS h) k = a ∧ gK (nwC h kd n) a = kd ∧ gL (nwC h kd n) a = n) ∧ 338 < a ∧ a < a + 1
      rw [va_up_self, ← p1]
      exact ⟨⟨rfl, nw_K, nw_L⟩, by omega, by omega⟩
    · obtain ⟨⟨q1, q2, q3⟩, q4, q5⟩ := p4 q hq
      have nq : q.2.1 ≠ gS h := by omega
      rw [va_up_ne _ _ (hk q hq), (nw_o n3).2.2.1, (nw_o nq).2.2.2.1, (nw_o nq).2.2.2.2]
      exact ⟨⟨q1, q2, q3⟩, q4, by omega⟩
  · show gI (nwC h kd n) b = fun _ => 0
    by_cases c : b = gS h
    · rw [c]; exact nw_I
    · rw [(nw_o c).1]; exact p5 b b1 (by omega)
  · have nb : b ≠ gS h := by omega
    rw [sR_o (show b ≠ 338 by omega)]
    show gI (nwC h kd n) b = gI h0 b ∧ gJ (nwC h kd n) b = gJ h0 b ∧ gR (nwC h kd n) b = gR h0 b ∧ gK (nwC h kd n) b = gK h0 b ∧ gL (nwC h kd n) b = gL h0 b
    rw [(nw_o nb).1, (nw_o nb).2.1, (nw_o nb).2.2.1, (nw_o nb).2.2.2.1, (nw_o nb).2.2.2.2]
    exact p6 b hb
set_option maxHeartbeats 4000000 in
theorem m_init {K : HP → Prop} (hS : gS h0 = 338) (H : ∀ h', InvM st0 h' → (∀ b, b < 338 → gI h' b = gI h0 b ∧ gJ h' b = gJ h0 b ∧ gR h' b = gR h0 b ∧ gK h' b = gK h0 b ∧ gL h' b = gL h0 b) → gS h' = 362 → K h') : ∀ h4, h4 = nwC h0 10 0 → wq_M_init 338 h4 K := by
  intro h4 e4
  have P0 : Mi h0 h4 [] 339 := by
    subst e4
    refine ⟨by show gS h0 + 1 = 339; omega, by decide, by rw [← hS]; exact nw_K, fun q hq => absurd hq (by simp), fun b b1 b2 => ?_, fun b hb => nw_o (by omega)⟩
    rw [show b = gS h0 by omega]
    exact nw_I
  unfold wq_M_init
  iterate 23 (refine mi_nx (by assumption) (by decide) (fun h3 P => ?_); clear P0; rename Mi _ _ _ _ => P0)
  obtain ⟨p1, p2, p3, p4, p5, p6⟩ := P0
  have z : ∀ b, 338 ≤ b → b < 362 → ∀ i, gI h3 b i = nI 0 := fun b b1 b2 i => by rw [p5 b b1 b2]; rfl
  refine H h3 ⟨⟨by omega, p3, fun q hq => (p4 q ?_).1⟩, fun i _ => z 339 (by decide) (by decide) i, fun i _ => z 340 (by decide) (by decide) i, ⟨z 338 (by decide) (by decide) _, fun s _ => ⟨z 349 (by decide) (by decide) s, z 350 (by decide) (by decide) s⟩⟩, ⟨z 338 (by decide) (by decide) _, z 338 (by decide) (by decide) _, fun s _ => ⟨z 352 (by decide) (by decide) s, z 353 (by decide) (by decide) s⟩⟩, ⟨z 338 (by decide) (by decide) _, z 338 (by decide) (by decide) _, z 338 (by decide) (by decide) _, fun i _ => z 347 (by decide) (by decide) i, fun i _ => z 348 (by decide) (by decide) i⟩, ⟨z 338 (by decide) (by decide) _, fun j x hj => absurd hj (by simp [st0, sD])⟩⟩ p6 p1
  revert q
  decide
end INI
