/-! the model's pieces -/
def ltE (g : Nat → Nat) (q : Nat) : Nat → Nat
  | 0 => q
  | n + 1 => if isLt (g q) then ltE g (q + 1) n else q
def blE (g : Nat → Nat) (q : Nat) : Nat → Nat
  | 0 => q
  | n + 1 => if g q = 32 then blE g (q + 1) n else q
def nmE (g : Nat → Nat) (pt p : Nat) : Nat := if g (dgE g p 9) = pt ∧ isD (g (dgE g p 9 + 1)) = true then dgE g (dgE g p 9 + 1) 4 else dgE g p 9
/-- the kind of the piece that begins at p -/
def kdM (g : Nat → Nat) (p : Nat) : Nat := if isLt (g p) then 0 else if isD (g p) then 1 else if g p = 32 then 6 else if mkM g p = 9 then 5 else mkM g p
/-- where it ends -/
def nxM (g : Nat → Nat) (pt e p : Nat) : Nat := if isLt (g p) then ltE g (p + 1) e else if isD (g p) then nmE g pt p else if g p = 32 then blE g (p + 1) e else if mkM g p = 9 then p + 1 else if mkM g p = 2 then p + 3 else p + 4
theorem dgE_le (g : Nat → Nat) : ∀ (n p : Nat), p ≤ dgE g p n ∧ dgE g p n ≤ p + n
  | 0, p => ⟨Nat.le_refl p, Nat.le_refl p⟩
  | n + 1, p => by
    have ih := dgE_le g n (p + 1)
    unfold dgE
    split
    · omega
    · omega
theorem mkM_cases (g : Nat → Nat) (p : Nat) : mkM g p = 9 ∨ mkM g p = 2 ∨ mkM g p = 3 ∨ mkM g p = 4 := by
  unfold mkM
  repeat' split
  all_goals simp
theorem mkI_9 (g : Nat → Nat) (p : Nat) : (mkI (mkM g p) = -nI 1) = (mkM g p = 9) := by
  rcases mkM_cases g p with e | e | e | e <;> rw [e] <;> simp [mkI] <;> decide
theorem mkI_2 (g : Nat → Nat) (p : Nat) : (mkI (mkM g p) = nI 2) = (mkM g p = 2) := by
  rcases mkM_cases g p with e | e | e | e <;> rw [e] <;> simp [mkI] <;> decide
theorem mkI_n {n : Nat} (h : ¬ n = 9) : mkI n = nI n := by simp [mkI, h]
section MR
variable {h : HP} {f : Nat → Nat} {e : Nat} {K : HP → Prop} {l1 l4 l5 l6 l7 l8 : Int32}
theorem atM_end {q : Nat} (hq : e ≤ q) : atM f e q = 0 := by simp [atM]; omega
theorem m_read_61 (B : MB h f e) : ∀ (k q : Nat), e ≤ q + k → q + k < 1000000 → wb_M_read_204 338 l1 l4 l5 l6 l7 l8 (nI (ltE (atM f e) q k)) h K → Wp k_M_read 61 [some (.ref 338), some (.int l1), none, none, some (.int l4), some (.int l5), some (.int l6), some (.int l7), some (.int l8), some (.int (nI q)), none] [] h (0, 0) (QV K)
  | 0, q, h1, h2, H => wb_M_read_61_ok (by
      unfold wb_M_read_61
      refine ⟨MSh_o B.1, m_at B (by omega) (m_isLetter (atM_lt B q) ⟨fun _ => H, fun c => absurd ?_ c⟩)⟩
      rw [atM_end (by omega)]; rfl)
  | k + 1, q, h1, h2, H => wb_M_read_61_ok (by
      unfold wb_M_read_61
      refine ⟨MSh_o B.1, m_at B (by omega) (m_isLetter (atM_lt B q) ⟨fun c => ?_, fun c => ?_⟩)⟩
      · simpa [ltE, b2I_0 c] using H
      · have e1 := b2I_1 c
        rw [i1, add_I]
        exact m_read_61 B k (q + 1) (by omega) (by omega) (by simpa [ltE, e1] using H))
theorem m_read_158 (B : MB h f e) : ∀ (k q : Nat), e ≤ q + k → q + k < 1000000 → wb_M_read_204 338 l1 l4 l5 l6 l7 l8 (nI (blE (atM f e) q k)) h K → Wp k_M_read 158 [some (.ref 338), some (.int l1), none, none, some (.int l4), some (.int l5), some (.int l6), some (.int l7), some (.int l8), some (.int (nI q)), none] [] h (0, 0) (QV K)
  | 0, q, h1, h2, H => wb_M_read_158_ok (by
      unfold wb_M_read_158
      refine ⟨MSh_o B.1, m_at B (by omega) ⟨fun _ => H, fun c => absurd c ?_⟩⟩
      rw [atM_end (by omega)]; decide)
  | k + 1, q, h1, h2, H => wb_M_read_158_ok (by
      unfold wb_M_read_158
      simp only [nLit]
      refine ⟨MSh_o B.1, m_at B (by omega) ⟨fun c => ?_, fun c => ?_⟩⟩
      · rw [eqB B (by decide)] at c
        simpa [blE, c] using H
      · rw [eqB B (by decide)] at c
        rw [add_I]
        exact m_read_158 B k (q + 1) (by omega) (by omega) (by simpa [blE, c] using H))
/-- one piece is found -/
theorem m_read_20 {p pt : Nat} (B : MB h f e) (hp : p < e) (hpt : pt < 256) (H : wb_M_read_204 338 l1 (nI pt) l5 l6 (nI p) (nI (kdM (atM f e) p)) (nI (nxM (atM f e) pt e p)) h K) : wb_M_read_20 338 l1 (nI pt) l5 l6 (nI p) h K := by
  have he := B.2.2.2.2
  have hd := dgE_le (atM f e) 9 p
  unfold wb_M_read_20
  simp only [i0, i1, nLit, add_I]
  refine ⟨MSh_o B.1, fun c => ?_, fun _ => ⟨MSh_o B.1, m_mark B (by omega) ⟨MSh_o B.1, m_at B (by omega) (m_isLetter (atM_lt B p) ⟨fun c1 => ⟨MSh_o B.1, m_at B (by omega) (m_isDigit (atM_lt B p) ⟨fun c2 => ⟨MSh_o B.1, m_at B (by omega) ⟨fun c3 => ⟨fun c4 => ?_, fun c4 => ⟨fun c5 => ?_, fun c5 => ?_⟩⟩, fun c3 => ?_⟩⟩, fun c2 => ?_⟩)⟩, fun c1 => ?_⟩)⟩⟩⟩
  · rw [B.2.2.2.1, le_I (by omega) (by omega)] at c
    omega
  · have c1 := b2I_0 c1
    have c2 := b2I_0 c2
    rw [eqB B (by decide)] at c3
    rw [mkI_9] at c4
    simpa [kdM, nxM, c1, c2, c3, c4] using H
  · have c1 := b2I_0 c1
    have c2 := b2I_0 c2
    rw [eqB B (by decide)] at c3
    rw [mkI_9] at c4
    rw [mkI_2] at c5
    rw [mkI_n c4]
    simpa [kdM, nxM, c1, c2, c3, c4, c5] using H
  · have c1 := b2I_0 c1
    have c2 := b2I_0 c2
    rw [eqB B (by decide)] at c3
    rw [mkI_9] at c4
    rw [mkI_2] at c5
    rw [mkI_n c4]
    simpa [kdM, nxM, c1, c2, c3, c5] using H
  · have c1 := b2I_0 c1
    have c2 := b2I_0 c2
    rw [eqB B (by decide)] at c3
    refine m_read_158 B e (p + 1) (by omega) (by omega) ?_
    simpa [kdM, nxM, c3, show isLt 32 = false from rfl, show isD 32 = false from rfl] using H
  · have c1 := b2I_0 c1
    have c2 := b2I_1 c2
    refine ⟨MSh_o B.1, m_digits B (by omega) ⟨MSh_o B.1, m_at B (by omega) ⟨fun c3 => ?_, fun c3 => ?_⟩⟩⟩
    · rw [eqB B hpt] at c3
      simpa [kdM, nxM, nmE, c1, c2, c3] using H
    · rw [eqB B hpt] at c3
      simp only [add_I]
      refine ⟨MSh_o B.1, m_at B (by omega) (m_isDigit (atM_lt B _) ⟨fun c4 => ?_, fun c4 => ⟨MSh_o B.1, m_digits B (by omega) ?_⟩⟩)⟩
      · have c4 := b2I_0 c4
        have e1 : nmE (atM f e) pt p = dgE (atM f e) p 9 := by unfold nmE; rw [if_neg]; rw [c4]; simp
        simpa [kdM, nxM, e1, c1, c2] using H
      · have c4 := b2I_1 c4
        have e1 : nmE (atM f e) pt p = dgE (atM f e) (dgE (atM f e) p 9 + 1) 4 := by unfold nmE; rw [if_pos ⟨c3, c4⟩]
        simpa [kdM, nxM, e1, c1, c2] using H
  · have c1 := b2I_1 c1
    refine m_read_61 B e (p + 1) (by omega) (by omega) ?_
    simpa [kdM, nxM, c1] using H
end MR
