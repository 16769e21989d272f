/-! numbers -/
theorem nLit (n : Nat) : (OfNat.ofNat n : Int32) = nI n := rfl
theorem i0 : (0 : Int32) = nI 0 := rfl
theorem i1 : (1 : Int32) = nI 1 := rfl
theorem nI_cl {n : Nat} (h : n < 2147483648) : (nI n).toNatClampNeg = n := nI_clamp h
theorem nI_in' {n N : Nat} (h : n < N) (hN : N < 2147483648) : vp_in (nI n) N := vp_in_nI h hN
theorem lt_I {a b : Nat} (ha : a < 2147483648) (hb : b < 2147483648) : nI a < nI b ↔ a < b := nI_ltI ha hb
theorem le_I {a b : Nat} (ha : a < 2147483648) (hb : b < 2147483648) : nI a ≤ nI b ↔ a ≤ b := nI_leI ha hb
theorem eq_I {a b : Nat} (ha : a < 2147483648) (hb : b < 2147483648) : nI a = nI b ↔ a = b := nI_eq ha hb
theorem add_I (a b : Nat) : nI a + nI b = nI (a + b) := nI_add a b
theorem sub_I {a b : Nat} (h : b ≤ a) : nI a - nI b = nI (a - b) := pk_sub h
theorem mul_I (a b : Nat) : nI a * nI b = nI (a * b) := pk_mul a b
/-! what a heap gives back -/
theorem gJ_stI (h : HP) (a k : Nat) (v : Int32) : gJ (stI h a k v) = gJ h := rfl
theorem gR_stI (h : HP) (a k : Nat) (v : Int32) : gR (stI h a k v) = gR h := rfl
theorem gK_stI (h : HP) (a k : Nat) (v : Int32) : gK (stI h a k v) = gK h := rfl
theorem gL_stI (h : HP) (a k : Nat) (v : Int32) : gL (stI h a k v) = gL h := rfl
theorem gS_stI (h : HP) (a k : Nat) (v : Int32) : gS (stI h a k v) = gS h := rfl
theorem gI_stJ (h : HP) (a k : Nat) (v : Int64) : gI (stJ h a k v) = gI h := rfl
theorem gR_stJ (h : HP) (a k : Nat) (v : Int64) : gR (stJ h a k v) = gR h := rfl
theorem gK_stJ (h : HP) (a k : Nat) (v : Int64) : gK (stJ h a k v) = gK h := rfl
theorem gL_stJ (h : HP) (a k : Nat) (v : Int64) : gL (stJ h a k v) = gL h := rfl
theorem gS_stJ (h : HP) (a k : Nat) (v : Int64) : gS (stJ h a k v) = gS h := rfl
theorem gI_stR (h : HP) (a k r : Nat) : gI (stR h a k r) = gI h := rfl
theorem gJ_stR (h : HP) (a k r : Nat) : gJ (stR h a k r) = gJ h := rfl
theorem gK_stR (h : HP) (a k r : Nat) : gK (stR h a k r) = gK h := rfl
theorem gL_stR (h : HP) (a k r : Nat) : gL (stR h a k r) = gL h := rfl
theorem gS_stR (h : HP) (a k r : Nat) : gS (stR h a k r) = gS h := rfl
theorem gJ_stA (h : HP) (a : Nat) (f : Nat → Int32) : gJ (stA h a f) = gJ h := rfl
theorem gR_stA (h : HP) (a : Nat) (f : Nat → Int32) : gR (stA h a f) = gR h := rfl
theorem gK_stA (h : HP) (a : Nat) (f : Nat → Int32) : gK (stA h a f) = gK h := rfl
theorem gL_stA (h : HP) (a : Nat) (f : Nat → Int32) : gL (stA h a f) = gL h := rfl
theorem gS_stA (h : HP) (a : Nat) (f : Nat → Int32) : gS (stA h a f) = gS h := rfl
theorem gI_stI (h : HP) (a k : Nat) (v : Int32) (b i : Nat) : gI (stI h a k v) b i = if b = a ∧ i = k then v else gI h b i := by
  show va_up (gI h) a (va_up (gI h a) k v) b i = _
  unfold va_up
  by_cases e : b = a
  · subst e
    simp
  · simp [e]
theorem gI_stI_o (h : HP) (a k : Nat) (v : Int32) {b : Nat} (hb : b ≠ a) : gI (stI h a k v) b = gI h b := va_up_ne _ _ hb
theorem gI_stI_s (h : HP) (a k : Nat) (v : Int32) : gI (stI h a k v) a = va_up (gI h a) k v := va_up_self _ _ _
theorem gJ_stJ (h : HP) (a k : Nat) (v : Int64) (b i : Nat) : gJ (stJ h a k v) b i = if b = a ∧ i = k then v else gJ h b i := by
  show va_up (gJ h) a (va_up (gJ h a) k v) b i = _
  unfold va_up
  by_cases e : b = a
  · subst e
    simp
  · simp [e]
theorem gR_stR (h : HP) (a k v : Nat) (b i : Nat) : gR (stR h a k v) b i = if b = a ∧ i = k then v else gR h b i := by
  show va_up (gR h) a (va_up (gR h a) k v) b i = _
  unfold va_up
  by_cases e : b = a
  · subst e
    simp
  · simp [e]
/-! the model's object: cell 338, its rows behind it -/
def mArr : List (Nat × Nat × Nat × Nat) := [(1, 339, 100, 37200), (2, 340, 100, 62), (3, 341, 100, 1800), (4, 342, 100, 1800), (5, 343, 100, 1800), (6, 344, 100, 3), (7, 345, 100, 3), (9, 346, 100, 600), (10, 347, 100, 264), (11, 348, 100, 33), (16, 349, 100, 24), (17, 350, 100, 24), (18, 351, 100, 601), (21, 352, 100, 40), (22, 353, 100, 40), (23, 354, 100, 441), (24, 355, 100, 30), (25, 356, 100, 2000), (26, 357, 100, 2000), (27, 358, 100, 2000), (29, 359, 100, 10), (30, 360, 102, 600), (31, 361, 100, 600)]
def MSh (h : HP) : Prop := 362 ≤ gS h ∧ gK h 338 = 10 ∧ ∀ q ∈ mArr, gR h 338 q.1 = q.2.1 ∧ gK h q.2.1 = q.2.2.1 ∧ gL h q.2.1 = q.2.2.2
theorem MSh_o {h : HP} (H : MSh h) : isO h 338 10 := ⟨by decide, by have := H.1; omega, H.2.1⟩
theorem MSh_stI {h : HP} (a k : Nat) (v : Int32) (H : MSh h) : MSh (stI h a k v) := H
theorem mR_bytes {h : HP} (H : MSh h) : gR h 338 1 = 339 := (H.2.2 (1, 339, 100, 37200) (by decide)).1
theorem mP_bytes {h : HP} (H : MSh h) : 0 < gR h 338 1 := by rw [mR_bytes H]; decide
theorem mL_bytes {h : HP} (H : MSh h) {n : Nat} (hn : n < 37200) : isL h 339 100 (nI n) := ⟨by have := H.1; omega, (H.2.2 (1, 339, 100, 37200) (by decide)).2.1, by rw [(H.2.2 (1, 339, 100, 37200) (by decide)).2.2]; exact nI_in' hn (by decide)⟩
theorem mA_bytes {h : HP} (H : MSh h) {n : Nat} (hn : n < 37200) : isA h 339 100 (nI n) := ⟨by decide, mL_bytes H hn⟩
theorem mR_size {h : HP} (H : MSh h) : gR h 338 2 = 340 := (H.2.2 (2, 340, 100, 62) (by decide)).1
theorem mP_size {h : HP} (H : MSh h) : 0 < gR h 338 2 := by rw [mR_size H]; decide
theorem mL_size {h : HP} (H : MSh h) {n : Nat} (hn : n < 62) : isL h 340 100 (nI n) := ⟨by have := H.1; omega, (H.2.2 (2, 340, 100, 62) (by decide)).2.1, by rw [(H.2.2 (2, 340, 100, 62) (by decide)).2.2]; exact nI_in' hn (by decide)⟩
theorem mA_size {h : HP} (H : MSh h) {n : Nat} (hn : n < 62) : isA h 340 100 (nI n) := ⟨by decide, mL_size H hn⟩
theorem mR_kind {h : HP} (H : MSh h) : gR h 338 3 = 341 := (H.2.2 (3, 341, 100, 1800) (by decide)).1
theorem mP_kind {h : HP} (H : MSh h) : 0 < gR h 338 3 := by rw [mR_kind H]; decide
theorem mL_kind {h : HP} (H : MSh h) {n : Nat} (hn : n < 1800) : isL h 341 100 (nI n) := ⟨by have := H.1; omega, (H.2.2 (3, 341, 100, 1800) (by decide)).2.1, by rw [(H.2.2 (3, 341, 100, 1800) (by decide)).2.2]; exact nI_in' hn (by decide)⟩
theorem mA_kind {h : HP} (H : MSh h) {n : Nat} (hn : n < 1800) : isA h 341 100 (nI n) := ⟨by decide, mL_kind H hn⟩
theorem mR_from {h : HP} (H : MSh h) : gR h 338 4 = 342 := (H.2.2 (4, 342, 100, 1800) (by decide)).1
theorem mP_from {h : HP} (H : MSh h) : 0 < gR h 338 4 := by rw [mR_from H]; decide
theorem mL_from {h : HP} (H : MSh h) {n : Nat} (hn : n < 1800) : isL h 342 100 (nI n) := ⟨by have := H.1; omega, (H.2.2 (4, 342, 100, 1800) (by decide)).2.1, by rw [(H.2.2 (4, 342, 100, 1800) (by decide)).2.2]; exact nI_in' hn (by decide)⟩
theorem mA_from {h : HP} (H : MSh h) {n : Nat} (hn : n < 1800) : isA h 342 100 (nI n) := ⟨by decide, mL_from H hn⟩
theorem mR_many {h : HP} (H : MSh h) : gR h 338 5 = 343 := (H.2.2 (5, 343, 100, 1800) (by decide)).1
theorem mP_many {h : HP} (H : MSh h) : 0 < gR h 338 5 := by rw [mR_many H]; decide
theorem mL_many {h : HP} (H : MSh h) {n : Nat} (hn : n < 1800) : isL h 343 100 (nI n) := ⟨by have := H.1; omega, (H.2.2 (5, 343, 100, 1800) (by decide)).2.1, by rw [(H.2.2 (5, 343, 100, 1800) (by decide)).2.2]; exact nI_in' hn (by decide)⟩
theorem mA_many {h : HP} (H : MSh h) {n : Nat} (hn : n < 1800) : isA h 343 100 (nI n) := ⟨by decide, mL_many H hn⟩
theorem mR_pieces {h : HP} (H : MSh h) : gR h 338 6 = 344 := (H.2.2 (6, 344, 100, 3) (by decide)).1
theorem mP_pieces {h : HP} (H : MSh h) : 0 < gR h 338 6 := by rw [mR_pieces H]; decide
theorem mL_pieces {h : HP} (H : MSh h) {n : Nat} (hn : n < 3) : isL h 344 100 (nI n) := ⟨by have := H.1; omega, (H.2.2 (6, 344, 100, 3) (by decide)).2.1, by rw [(H.2.2 (6, 344, 100, 3) (by decide)).2.2]; exact nI_in' hn (by decide)⟩
theorem mA_pieces {h : HP} (H : MSh h) {n : Nat} (hn : n < 3) : isA h 344 100 (nI n) := ⟨by decide, mL_pieces H hn⟩
theorem mR_solid {h : HP} (H : MSh h) : gR h 338 7 = 345 := (H.2.2 (7, 345, 100, 3) (by decide)).1
theorem mP_solid {h : HP} (H : MSh h) : 0 < gR h 338 7 := by rw [mR_solid H]; decide
theorem mL_solid {h : HP} (H : MSh h) {n : Nat} (hn : n < 3) : isL h 345 100 (nI n) := ⟨by have := H.1; omega, (H.2.2 (7, 345, 100, 3) (by decide)).2.1, by rw [(H.2.2 (7, 345, 100, 3) (by decide)).2.2]; exact nI_in' hn (by decide)⟩
theorem mA_solid {h : HP} (H : MSh h) {n : Nat} (hn : n < 3) : isA h 345 100 (nI n) := ⟨by decide, mL_solid H hn⟩
theorem mR_stack {h : HP} (H : MSh h) : gR h 338 9 = 346 := (H.2.2 (9, 346, 100, 600) (by decide)).1
theorem mP_stack {h : HP} (H : MSh h) : 0 < gR h 338 9 := by rw [mR_stack H]; decide
theorem mL_stack {h : HP} (H : MSh h) {n : Nat} (hn : n < 600) : isL h 346 100 (nI n) := ⟨by have := H.1; omega, (H.2.2 (9, 346, 100, 600) (by decide)).2.1, by rw [(H.2.2 (9, 346, 100, 600) (by decide)).2.2]; exact nI_in' hn (by decide)⟩
theorem mA_stack {h : HP} (H : MSh h) {n : Nat} (hn : n < 600) : isA h 346 100 (nI n) := ⟨by decide, mL_stack H hn⟩
theorem mR_words {h : HP} (H : MSh h) : gR h 338 10 = 347 := (H.2.2 (10, 347, 100, 264) (by decide)).1
theorem mP_words {h : HP} (H : MSh h) : 0 < gR h 338 10 := by rw [mR_words H]; decide
theorem mL_words {h : HP} (H : MSh h) {n : Nat} (hn : n < 264) : isL h 347 100 (nI n) := ⟨by have := H.1; omega, (H.2.2 (10, 347, 100, 264) (by decide)).2.1, by rw [(H.2.2 (10, 347, 100, 264) (by decide)).2.2]; exact nI_in' hn (by decide)⟩
theorem mA_words {h : HP} (H : MSh h) {n : Nat} (hn : n < 264) : isA h 347 100 (nI n) := ⟨by decide, mL_words H hn⟩
theorem mR_letters {h : HP} (H : MSh h) : gR h 338 11 = 348 := (H.2.2 (11, 348, 100, 33) (by decide)).1
theorem mP_letters {h : HP} (H : MSh h) : 0 < gR h 338 11 := by rw [mR_letters H]; decide
theorem mL_letters {h : HP} (H : MSh h) {n : Nat} (hn : n < 33) : isL h 348 100 (nI n) := ⟨by have := H.1; omega, (H.2.2 (11, 348, 100, 33) (by decide)).2.1, by rw [(H.2.2 (11, 348, 100, 33) (by decide)).2.2]; exact nI_in' hn (by decide)⟩
theorem mA_letters {h : HP} (H : MSh h) {n : Nat} (hn : n < 33) : isA h 348 100 (nI n) := ⟨by decide, mL_letters H hn⟩
theorem mR_begins {h : HP} (H : MSh h) : gR h 338 16 = 349 := (H.2.2 (16, 349, 100, 24) (by decide)).1
theorem mP_begins {h : HP} (H : MSh h) : 0 < gR h 338 16 := by rw [mR_begins H]; decide
theorem mL_begins {h : HP} (H : MSh h) {n : Nat} (hn : n < 24) : isL h 349 100 (nI n) := ⟨by have := H.1; omega, (H.2.2 (16, 349, 100, 24) (by decide)).2.1, by rw [(H.2.2 (16, 349, 100, 24) (by decide)).2.2]; exact nI_in' hn (by decide)⟩
theorem mA_begins {h : HP} (H : MSh h) {n : Nat} (hn : n < 24) : isA h 349 100 (nI n) := ⟨by decide, mL_begins H hn⟩
theorem mR_sizes {h : HP} (H : MSh h) : gR h 338 17 = 350 := (H.2.2 (17, 350, 100, 24) (by decide)).1
theorem mP_sizes {h : HP} (H : MSh h) : 0 < gR h 338 17 := by rw [mR_sizes H]; decide
theorem mL_sizes {h : HP} (H : MSh h) {n : Nat} (hn : n < 24) : isL h 350 100 (nI n) := ⟨by have := H.1; omega, (H.2.2 (17, 350, 100, 24) (by decide)).2.1, by rw [(H.2.2 (17, 350, 100, 24) (by decide)).2.2]; exact nI_in' hn (by decide)⟩
theorem mA_sizes {h : HP} (H : MSh h) {n : Nat} (hn : n < 24) : isA h 350 100 (nI n) := ⟨by decide, mL_sizes H hn⟩
theorem mR_cutAt {h : HP} (H : MSh h) : gR h 338 18 = 351 := (H.2.2 (18, 351, 100, 601) (by decide)).1
theorem mP_cutAt {h : HP} (H : MSh h) : 0 < gR h 338 18 := by rw [mR_cutAt H]; decide
theorem mL_cutAt {h : HP} (H : MSh h) {n : Nat} (hn : n < 601) : isL h 351 100 (nI n) := ⟨by have := H.1; omega, (H.2.2 (18, 351, 100, 601) (by decide)).2.1, by rw [(H.2.2 (18, 351, 100, 601) (by decide)).2.2]; exact nI_in' hn (by decide)⟩
theorem mA_cutAt {h : HP} (H : MSh h) {n : Nat} (hn : n < 601) : isA h 351 100 (nI n) := ⟨by decide, mL_cutAt H hn⟩
theorem mR_pairOf {h : HP} (H : MSh h) : gR h 338 21 = 352 := (H.2.2 (21, 352, 100, 40) (by decide)).1
theorem mP_pairOf {h : HP} (H : MSh h) : 0 < gR h 338 21 := by rw [mR_pairOf H]; decide
theorem mL_pairOf {h : HP} (H : MSh h) {n : Nat} (hn : n < 40) : isL h 352 100 (nI n) := ⟨by have := H.1; omega, (H.2.2 (21, 352, 100, 40) (by decide)).2.1, by rw [(H.2.2 (21, 352, 100, 40) (by decide)).2.2]; exact nI_in' hn (by decide)⟩
theorem mA_pairOf {h : HP} (H : MSh h) {n : Nat} (hn : n < 40) : isA h 352 100 (nI n) := ⟨by decide, mL_pairOf H hn⟩
theorem mR_who {h : HP} (H : MSh h) : gR h 338 22 = 353 := (H.2.2 (22, 353, 100, 40) (by decide)).1
theorem mP_who {h : HP} (H : MSh h) : 0 < gR h 338 22 := by rw [mR_who H]; decide
theorem mL_who {h : HP} (H : MSh h) {n : Nat} (hn : n < 40) : isL h 353 100 (nI n) := ⟨by have := H.1; omega, (H.2.2 (22, 353, 100, 40) (by decide)).2.1, by rw [(H.2.2 (22, 353, 100, 40) (by decide)).2.2]; exact nI_in' hn (by decide)⟩
theorem mA_who {h : HP} (H : MSh h) {n : Nat} (hn : n < 40) : isA h 353 100 (nI n) := ⟨by decide, mL_who H hn⟩
theorem mR_sums {h : HP} (H : MSh h) : gR h 338 23 = 354 := (H.2.2 (23, 354, 100, 441) (by decide)).1
theorem mP_sums {h : HP} (H : MSh h) : 0 < gR h 338 23 := by rw [mR_sums H]; decide
theorem mL_sums {h : HP} (H : MSh h) {n : Nat} (hn : n < 441) : isL h 354 100 (nI n) := ⟨by have := H.1; omega, (H.2.2 (23, 354, 100, 441) (by decide)).2.1, by rw [(H.2.2 (23, 354, 100, 441) (by decide)).2.2]; exact nI_in' hn (by decide)⟩
theorem mA_sums {h : HP} (H : MSh h) {n : Nat} (hn : n < 441) : isA h 354 100 (nI n) := ⟨by decide, mL_sums H hn⟩
theorem mR_scores {h : HP} (H : MSh h) : gR h 338 24 = 355 := (H.2.2 (24, 355, 100, 30) (by decide)).1
theorem mP_scores {h : HP} (H : MSh h) : 0 < gR h 338 24 := by rw [mR_scores H]; decide
theorem mL_scores {h : HP} (H : MSh h) {n : Nat} (hn : n < 30) : isL h 355 100 (nI n) := ⟨by have := H.1; omega, (H.2.2 (24, 355, 100, 30) (by decide)).2.1, by rw [(H.2.2 (24, 355, 100, 30) (by decide)).2.2]; exact nI_in' hn (by decide)⟩
theorem mA_scores {h : HP} (H : MSh h) {n : Nat} (hn : n < 30) : isA h 355 100 (nI n) := ⟨by decide, mL_scores H hn⟩
theorem mR_stepKind {h : HP} (H : MSh h) : gR h 338 25 = 356 := (H.2.2 (25, 356, 100, 2000) (by decide)).1
theorem mP_stepKind {h : HP} (H : MSh h) : 0 < gR h 338 25 := by rw [mR_stepKind H]; decide
theorem mL_stepKind {h : HP} (H : MSh h) {n : Nat} (hn : n < 2000) : isL h 356 100 (nI n) := ⟨by have := H.1; omega, (H.2.2 (25, 356, 100, 2000) (by decide)).2.1, by rw [(H.2.2 (25, 356, 100, 2000) (by decide)).2.2]; exact nI_in' hn (by decide)⟩
theorem mA_stepKind {h : HP} (H : MSh h) {n : Nat} (hn : n < 2000) : isA h 356 100 (nI n) := ⟨by decide, mL_stepKind H hn⟩
theorem mR_stepA {h : HP} (H : MSh h) : gR h 338 26 = 357 := (H.2.2 (26, 357, 100, 2000) (by decide)).1
theorem mP_stepA {h : HP} (H : MSh h) : 0 < gR h 338 26 := by rw [mR_stepA H]; decide
theorem mL_stepA {h : HP} (H : MSh h) {n : Nat} (hn : n < 2000) : isL h 357 100 (nI n) := ⟨by have := H.1; omega, (H.2.2 (26, 357, 100, 2000) (by decide)).2.1, by rw [(H.2.2 (26, 357, 100, 2000) (by decide)).2.2]; exact nI_in' hn (by decide)⟩
theorem mA_stepA {h : HP} (H : MSh h) {n : Nat} (hn : n < 2000) : isA h 357 100 (nI n) := ⟨by decide, mL_stepA H hn⟩
theorem mR_stepB {h : HP} (H : MSh h) : gR h 338 27 = 358 := (H.2.2 (27, 358, 100, 2000) (by decide)).1
theorem mP_stepB {h : HP} (H : MSh h) : 0 < gR h 338 27 := by rw [mR_stepB H]; decide
theorem mL_stepB {h : HP} (H : MSh h) {n : Nat} (hn : n < 2000) : isL h 358 100 (nI n) := ⟨by have := H.1; omega, (H.2.2 (27, 358, 100, 2000) (by decide)).2.1, by rw [(H.2.2 (27, 358, 100, 2000) (by decide)).2.2]; exact nI_in' hn (by decide)⟩
theorem mA_stepB {h : HP} (H : MSh h) {n : Nat} (hn : n < 2000) : isA h 358 100 (nI n) := ⟨by decide, mL_stepB H hn⟩
theorem mR_goesTo {h : HP} (H : MSh h) : gR h 338 29 = 359 := (H.2.2 (29, 359, 100, 10) (by decide)).1
theorem mP_goesTo {h : HP} (H : MSh h) : 0 < gR h 338 29 := by rw [mR_goesTo H]; decide
theorem mL_goesTo {h : HP} (H : MSh h) {n : Nat} (hn : n < 10) : isL h 359 100 (nI n) := ⟨by have := H.1; omega, (H.2.2 (29, 359, 100, 10) (by decide)).2.1, by rw [(H.2.2 (29, 359, 100, 10) (by decide)).2.2]; exact nI_in' hn (by decide)⟩
theorem mA_goesTo {h : HP} (H : MSh h) {n : Nat} (hn : n < 10) : isA h 359 100 (nI n) := ⟨by decide, mL_goesTo H hn⟩
theorem mR_served {h : HP} (H : MSh h) : gR h 338 30 = 360 := (H.2.2 (30, 360, 102, 600) (by decide)).1
theorem mP_served {h : HP} (H : MSh h) : 0 < gR h 338 30 := by rw [mR_served H]; decide
theorem mL_served {h : HP} (H : MSh h) {n : Nat} (hn : n < 600) : isL h 360 102 (nI n) := ⟨by have := H.1; omega, (H.2.2 (30, 360, 102, 600) (by decide)).2.1, by rw [(H.2.2 (30, 360, 102, 600) (by decide)).2.2]; exact nI_in' hn (by decide)⟩
theorem mA_served {h : HP} (H : MSh h) {n : Nat} (hn : n < 600) : isA h 360 102 (nI n) := ⟨by decide, mL_served H hn⟩
theorem mR_out {h : HP} (H : MSh h) : gR h 338 31 = 361 := (H.2.2 (31, 361, 100, 600) (by decide)).1
theorem mP_out {h : HP} (H : MSh h) : 0 < gR h 338 31 := by rw [mR_out H]; decide
theorem mL_out {h : HP} (H : MSh h) {n : Nat} (hn : n < 600) : isL h 361 100 (nI n) := ⟨by have := H.1; omega, (H.2.2 (31, 361, 100, 600) (by decide)).2.1, by rw [(H.2.2 (31, 361, 100, 600) (by decide)).2.2]; exact nI_in' hn (by decide)⟩
theorem mA_out {h : HP} (H : MSh h) {n : Nat} (hn : n < 600) : isA h 361 100 (nI n) := ⟨by decide, mL_out H hn⟩
