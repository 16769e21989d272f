/-! pieces lie within their row -/
section PUR
variable {g : Nat → Nat} {e : Nat}
theorem ltE_in (hz : ∀ q, e ≤ q → g q = 0) : ∀ (n q : Nat), q ≤ e → ltE g q n ≤ e
  | 0, q, h => h
  | n + 1, q, h => by
    unfold ltE
    split
    · rename_i c
      refine ltE_in hz n (q + 1) ?_
      by_cases z : e ≤ q
      · rw [hz q z] at c; exact absurd c (by decide)
      · omega
    · exact h
theorem blE_in (hz : ∀ q, e ≤ q → g q = 0) : ∀ (n q : Nat), q ≤ e → blE g q n ≤ e
  | 0, q, h => h
  | n + 1, q, h => by
    unfold blE
    split
    · rename_i c
      refine blE_in hz n (q + 1) ?_
      by_cases z : e ≤ q
      · rw [hz q z] at c; exact absurd c (by decide)
      · omega
    · exact h
theorem dgE_in (hz : ∀ q, e ≤ q → g q = 0) : ∀ (n q : Nat), q ≤ e → dgE g q n ≤ e
  | 0, q, h => h
  | n + 1, q, h => by
    unfold dgE
    split
    · rename_i c
      refine dgE_in hz n (q + 1) ?_
      by_cases z : e ≤ q
      · rw [hz q z] at c; exact absurd c (by decide)
      · omega
    · exact h
theorem nz_lt (hz : ∀ q, e ≤ q → g q = 0) {q : Nat} (h : g q ≠ 0) : q < e := by
  by_cases z : e ≤ q
  · exact absurd (hz q z) h
  · omega
theorem isD_nz {c : Nat} (h : isD c = true) : c ≠ 0 := by intro z; rw [z] at h; exact absurd h (by decide)
theorem nmE_in (hz : ∀ q, e ≤ q → g q = 0) {pt p : Nat} (h : p ≤ e) : nmE g pt p ≤ e := by
  unfold nmE
  have h1 := dgE_in hz 9 p h
  split
  · rename_i c
    have := nz_lt hz (isD_nz c.2)
    exact dgE_in hz 4 _ (by omega)
  · exact h1
theorem mk_in (hz : ∀ q, e ≤ q → g q = 0) {p : Nat} (h : mkM g p ≠ 9) : (mkM g p = 2 → p + 3 ≤ e) ∧ (mkM g p ≠ 2 → p + 4 ≤ e) := by
  have k2 : g (p + 2) = 62 → p + 3 ≤ e := fun q => by have := nz_lt hz (q := p + 2) (by rw [q]; decide); omega
  have k3 : g (p + 3) = 62 → p + 4 ≤ e := fun q => by have := nz_lt hz (q := p + 3) (by rw [q]; decide); omega
  unfold mkM at *
  repeat' split at h
  all_goals simp_all
theorem nxM_in (hz : ∀ q, e ≤ q → g q = 0) {pt p : Nat} (h : p < e) : nxM g pt e p ≤ e := by
  unfold nxM
  split
  · exact ltE_in hz e (p + 1) h
  · split
    · exact nmE_in hz (by omega)
    · split
      · exact blE_in hz e (p + 1) h
      · split
        · exact h
        · rename_i c
          have := mk_in hz c
          split
          · exact this.1 (by assumption)
          · exact this.2 (by assumption)
theorem pcs_in (hz : ∀ q, e ≤ q → g q = 0) {pt : Nat} {bl : Bool} : ∀ (k p : Nat), ∀ x ∈ pcs g pt e bl k p, x.1 ≤ 6 ∧ p ≤ x.2.1 ∧ x.2.1 < e ∧ x.2.1 + x.2.2 ≤ e ∧ 1 ≤ x.2.2
  | 0, p => by intro x hx; exact absurd hx (by simp [pcs])
  | k + 1, p => by
    intro x hx
    have ih := pcs_in hz (pt := pt) (bl := bl) k (nxM g pt e p)
    have h1 := nxM_gt g pt e p
    unfold pcs at hx
    split at hx
    · rename_i hp
      have h2 := nxM_in hz (pt := pt) hp
      split at hx
      · have := ih x hx
        omega
      · rcases List.mem_cons.mp hx with q | q
        · rw [q]
          exact ⟨kdM_le g p, Nat.le_refl p, hp, by show p + (nxM g pt e p - p) ≤ e; omega, by show 1 ≤ nxM g pt e p - p; omega⟩
        · have := ih x q
          omega
    · exact absurd hx (by simp)
end PUR
theorem atM_z (f : Nat → Nat) (e : Nat) : ∀ q, e ≤ q → atM f e q = 0 := fun q h => by unfold atM; rw [if_neg (by omega)]
theorem pcs_Wf {f : Nat → Nat} {pt e k p : Nat} {bl : Bool} (he : e ≤ 37200) : ∀ x ∈ pcs (atM f e) pt e bl k p, WfP x := fun x hx => by
  have := pcs_in (atM_z f e) k p x hx
  exact ⟨this.1, by omega, by omega⟩
/-! nothing ahead of p counts -/
section CNG
variable {g g' : Nat → Nat}
theorem ltE_cg : ∀ (n p : Nat), (∀ q, p ≤ q → g q = g' q) → ltE g p n = ltE g' p n
  | 0, p, _ => rfl
  | n + 1, p, h => by
    unfold ltE
    rw [h p (Nat.le_refl p), ltE_cg n (p + 1) (fun q hq => h q (by omega))]
theorem blE_cg : ∀ (n p : Nat), (∀ q, p ≤ q → g q = g' q) → blE g p n = blE g' p n
  | 0, p, _ => rfl
  | n + 1, p, h => by
    unfold blE
    rw [h p (Nat.le_refl p), blE_cg n (p + 1) (fun q hq => h q (by omega))]
theorem dgE_cg : ∀ (n p : Nat), (∀ q, p ≤ q → g q = g' q) → dgE g p n = dgE g' p n
  | 0, p, _ => rfl
  | n + 1, p, h => by
    unfold dgE
    rw [h p (Nat.le_refl p), dgE_cg n (p + 1) (fun q hq => h q (by omega))]
theorem mkM_cg {p : Nat} (h : ∀ q, p ≤ q → g q = g' q) : mkM g p = mkM g' p := by
  unfold mkM
  rw [h p (by omega), h (p + 1) (by omega), h (p + 2) (by omega), h (p + 3) (by omega)]
theorem kdM_cg {p : Nat} (h : ∀ q, p ≤ q → g q = g' q) : kdM g p = kdM g' p := by
  unfold kdM
  rw [h p (by omega), mkM_cg h]
theorem nmE_cg {pt p : Nat} (h : ∀ q, p ≤ q → g q = g' q) : nmE g pt p = nmE g' pt p := by
  have a := dgE_le g 9 p
  unfold nmE
  rw [← dgE_cg 9 p h, h (dgE g p 9) (by omega), h (dgE g p 9 + 1) (by omega), dgE_cg 4 (dgE g p 9 + 1) (fun q hq => h q (by omega))]
theorem nxM_cg {pt e p : Nat} (h : ∀ q, p ≤ q → g q = g' q) : nxM g pt e p = nxM g' pt e p := by
  unfold nxM
  rw [h p (by omega), ltE_cg e (p + 1) (fun q hq => h q (by omega)), blE_cg e (p + 1) (fun q hq => h q (by omega)), mkM_cg h, nmE_cg h]
theorem pcs_cg {pt e : Nat} {bl : Bool} : ∀ (k p : Nat), (∀ q, p ≤ q → g q = g' q) → pcs g pt e bl k p = pcs g' pt e bl k p
  | 0, p, _ => rfl
  | k + 1, p, h => by
    have a := nxM_gt g pt e p
    unfold pcs
    rw [← nxM_cg h, ← kdM_cg h, pcs_cg k (nxM g pt e p) (fun q hq => h q (by omega))]
theorem pct_cg {pt e : Nat} : ∀ (k p : Nat), (∀ q, p ≤ q → g q = g' q) → pct g pt e k p = pct g' pt e k p
  | 0, p, _ => rfl
  | k + 1, p, h => by
    have a := nxM_gt g pt e p
    unfold pct
    rw [← nxM_cg h, pct_cg k (nxM g pt e p) (fun q hq => h q (by omega))]
end CNG
theorem atM_cg {f f' : Nat → Nat} {p e : Nat} (h : ∀ q, p ≤ q → q < e → f q = f' q) : ∀ q, p ≤ q → atM f e q = atM f' e q := fun q hq => by
  unfold atM
  split
  · exact h q hq (by assumption)
  · rfl
