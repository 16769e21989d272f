/-! rules: a row an instruction, over the pure machine -/
section WR
variable {X pc nx a b j : Nat} {kn ka : List Nat} {c : Int32} {lo : LO} {st : List Value} {h : HP} {bd : Nat × Nat} {Q : QT}
theorem wp_at {te : TE} (hi : (tab X).lookup pc = some te) (H : Fi Wp X pc te.1 te.2.1 te.2.2.1 te.2.2.2.1 te.2.2.2.2.1 te.2.2.2.2.2.1 te.2.2.2.2.2.2.2 lo st h bd Q) : Wp X pc lo st h bd Q := Wp.step (by unfold F; rw [hi]; exact H)
theorem wp_iload {n : Nat} {x : Int32} (hi : (tab X).lookup pc = some (.iload n, nx, [], a, ka, b, j, c)) (hn : nth lo n = some (.int x)) (K : Wp X nx (lo) (.int x :: st) (h) (bd) Q) : Wp X pc lo (st) h bd Q := by
  refine wp_at hi ?_
  show Fld Wp X nx lo st h bd Q 0 n _
  unfold Fld
  rw [hn]
  exact K
theorem wp_iloadk {n : Nat} {x : Int32} {lo' : LO} (hk : kil kn (lo) = lo') (hi : (tab X).lookup pc = some (.iload n, nx, kn, a, ka, b, j, c)) (hn : nth lo n = some (.int x)) (K : Wp X nx (lo') (.int x :: st) (h) (bd) Q) : Wp X pc lo (st) h bd Q := by
  subst hk
  refine wp_at hi ?_
  show Fld Wp X nx lo st h bd Q 0 n _
  unfold Fld
  rw [hn]
  exact K
theorem wp_iload_n {n : Fin 4} {x : Int32} (hi : (tab X).lookup pc = some (.iload_n n, nx, [], a, ka, b, j, c)) (hn : nth lo n.val = some (.int x)) (K : Wp X nx (lo) (.int x :: st) (h) (bd) Q) : Wp X pc lo (st) h bd Q := by
  refine wp_at hi ?_
  show Fld Wp X nx lo st h bd Q 0 n.val _
  unfold Fld
  rw [hn]
  exact K
theorem wp_iload_nk {n : Fin 4} {x : Int32} {lo' : LO} (hk : kil kn (lo) = lo') (hi : (tab X).lookup pc = some (.iload_n n, nx, kn, a, ka, b, j, c)) (hn : nth lo n.val = some (.int x)) (K : Wp X nx (lo') (.int x :: st) (h) (bd) Q) : Wp X pc lo (st) h bd Q := by
  subst hk
  refine wp_at hi ?_
  show Fld Wp X nx lo st h bd Q 0 n.val _
  unfold Fld
  rw [hn]
  exact K
theorem wp_istore {n : Nat} {x : Int32} {lo' : LO} (hi : (tab X).lookup pc = some (.istore n, nx, kn, a, ka, b, j, c)) (hg : lgb lo n = true) (hk : kil kn (sto lo n (some (.int x))) = lo') (K : Wp X nx lo' st h bd Q) : Wp X pc lo (.int x :: st) h bd Q := by
  subst hk
  exact wp_at hi ⟨hg, K⟩
theorem wp_istore_n {n : Fin 4} {x : Int32} {lo' : LO} (hi : (tab X).lookup pc = some (.istore_n n, nx, kn, a, ka, b, j, c)) (hg : lgb lo n.val = true) (hk : kil kn (sto lo n.val (some (.int x))) = lo') (K : Wp X nx lo' st h bd Q) : Wp X pc lo (.int x :: st) h bd Q := by
  subst hk
  exact wp_at hi ⟨hg, K⟩
theorem wp_lload {n : Nat} {x : Int64} (hi : (tab X).lookup pc = some (.lload n, nx, [], a, ka, b, j, c)) (hn : nth lo n = some (.long x)) (K : Wp X nx (lo) (.long x :: st) (h) (bd) Q) : Wp X pc lo (st) h bd Q := by
  refine wp_at hi ?_
  show Fld Wp X nx lo st h bd Q 1 n _
  unfold Fld
  rw [hn]
  exact K
theorem wp_lloadk {n : Nat} {x : Int64} {lo' : LO} (hk : kil kn (lo) = lo') (hi : (tab X).lookup pc = some (.lload n, nx, kn, a, ka, b, j, c)) (hn : nth lo n = some (.long x)) (K : Wp X nx (lo') (.long x :: st) (h) (bd) Q) : Wp X pc lo (st) h bd Q := by
  subst hk
  refine wp_at hi ?_
  show Fld Wp X nx lo st h bd Q 1 n _
  unfold Fld
  rw [hn]
  exact K
theorem wp_lload_n {n : Fin 4} {x : Int64} (hi : (tab X).lookup pc = some (.lload_n n, nx, [], a, ka, b, j, c)) (hn : nth lo n.val = some (.long x)) (K : Wp X nx (lo) (.long x :: st) (h) (bd) Q) : Wp X pc lo (st) h bd Q := by
  refine wp_at hi ?_
  show Fld Wp X nx lo st h bd Q 1 n.val _
  unfold Fld
  rw [hn]
  exact K
theorem wp_lload_nk {n : Fin 4} {x : Int64} {lo' : LO} (hk : kil kn (lo) = lo') (hi : (tab X).lookup pc = some (.lload_n n, nx, kn, a, ka, b, j, c)) (hn : nth lo n.val = some (.long x)) (K : Wp X nx (lo') (.long x :: st) (h) (bd) Q) : Wp X pc lo (st) h bd Q := by
  subst hk
  refine wp_at hi ?_
  show Fld Wp X nx lo st h bd Q 1 n.val _
  unfold Fld
  rw [hn]
  exact K
theorem wp_lstore {n : Nat} {x : Int64} {lo' : LO} (hi : (tab X).lookup pc = some (.lstore n, nx, kn, a, ka, b, j, c)) (hg : lgb lo n = true) (hk : kil kn (sto (sto lo n (some (.long x))) (n + 1) none) = lo') (K : Wp X nx lo' st h bd Q) : Wp X pc lo (.long x :: st) h bd Q := by
  subst hk
  exact wp_at hi ⟨hg, K⟩
theorem wp_lstore_n {n : Fin 4} {x : Int64} {lo' : LO} (hi : (tab X).lookup pc = some (.lstore_n n, nx, kn, a, ka, b, j, c)) (hg : lgb lo n.val = true) (hk : kil kn (sto (sto lo n.val (some (.long x))) (n.val + 1) none) = lo') (K : Wp X nx lo' st h bd Q) : Wp X pc lo (.long x :: st) h bd Q := by
  subst hk
  exact wp_at hi ⟨hg, K⟩
theorem wp_aload {n : Nat} {x : Nat} (hi : (tab X).lookup pc = some (.aload n, nx, [], a, ka, b, j, c)) (hn : nth lo n = some (.ref x)) (K : Wp X nx (lo) (.ref x :: st) (h) (bd) Q) : Wp X pc lo (st) h bd Q := by
  refine wp_at hi ?_
  show Fld Wp X nx lo st h bd Q 2 n _
  unfold Fld
  rw [hn]
  exact K
theorem wp_aloadk {n : Nat} {x : Nat} {lo' : LO} (hk : kil kn (lo) = lo') (hi : (tab X).lookup pc = some (.aload n, nx, kn, a, ka, b, j, c)) (hn : nth lo n = some (.ref x)) (K : Wp X nx (lo') (.ref x :: st) (h) (bd) Q) : Wp X pc lo (st) h bd Q := by
  subst hk
  refine wp_at hi ?_
  show Fld Wp X nx lo st h bd Q 2 n _
  unfold Fld
  rw [hn]
  exact K
theorem wp_aload_n {n : Fin 4} {x : Nat} (hi : (tab X).lookup pc = some (.aload_n n, nx, [], a, ka, b, j, c)) (hn : nth lo n.val = some (.ref x)) (K : Wp X nx (lo) (.ref x :: st) (h) (bd) Q) : Wp X pc lo (st) h bd Q := by
  refine wp_at hi ?_
  show Fld Wp X nx lo st h bd Q 2 n.val _
  unfold Fld
  rw [hn]
  exact K
theorem wp_aload_nk {n : Fin 4} {x : Nat} {lo' : LO} (hk : kil kn (lo) = lo') (hi : (tab X).lookup pc = some (.aload_n n, nx, kn, a, ka, b, j, c)) (hn : nth lo n.val = some (.ref x)) (K : Wp X nx (lo') (.ref x :: st) (h) (bd) Q) : Wp X pc lo (st) h bd Q := by
  subst hk
  refine wp_at hi ?_
  show Fld Wp X nx lo st h bd Q 2 n.val _
  unfold Fld
  rw [hn]
  exact K
theorem wp_astore {n : Nat} {x : Nat} {lo' : LO} (hi : (tab X).lookup pc = some (.astore n, nx, kn, a, ka, b, j, c)) (hg : lgb lo n = true) (hk : kil kn (sto lo n (some (.ref x))) = lo') (K : Wp X nx lo' st h bd Q) : Wp X pc lo (.ref x :: st) h bd Q := by
  subst hk
  exact wp_at hi ⟨hg, K⟩
theorem wp_astore_n {n : Fin 4} {x : Nat} {lo' : LO} (hi : (tab X).lookup pc = some (.astore_n n, nx, kn, a, ka, b, j, c)) (hg : lgb lo n.val = true) (hk : kil kn (sto lo n.val (some (.ref x))) = lo') (K : Wp X nx lo' st h bd Q) : Wp X pc lo (.ref x :: st) h bd Q := by
  subst hk
  exact wp_at hi ⟨hg, K⟩
theorem wp_iinc {n : Nat} {k : Int} {x : Int32} {lo' : LO} (hi : (tab X).lookup pc = some (.iinc n k, nx, kn, a, ka, b, j, c)) (hn : nth lo n = some (.int x)) (hg : lgb lo n = true) (hk : kil kn (sto lo n (some (.int (x + c)))) = lo') (K : Wp X nx lo' st h bd Q) : Wp X pc lo st h bd Q := by
  subst hk
  refine wp_at hi ?_
  unfold Fi
  simp only
  rw [hn]
  exact ⟨hg, K⟩
theorem wp_iconst {k : Int} (hi : (tab X).lookup pc = some (.iconst k, nx, [], a, ka, b, j, c)) (K : Wp X nx (lo) (.int c :: st) (h) (bd) Q) : Wp X pc lo (st) h bd Q := by
  exact wp_at hi K
theorem wp_iconstk {k : Int} {lo' : LO} (hk : kil kn (lo) = lo') (hi : (tab X).lookup pc = some (.iconst k, nx, kn, a, ka, b, j, c)) (K : Wp X nx (lo') (.int c :: st) (h) (bd) Q) : Wp X pc lo (st) h bd Q := by
  subst hk
  exact wp_at hi K
theorem wp_bipush {k : Int} (hi : (tab X).lookup pc = some (.bipush k, nx, [], a, ka, b, j, c)) (K : Wp X nx (lo) (.int c :: st) (h) (bd) Q) : Wp X pc lo (st) h bd Q := by
  exact wp_at hi K
theorem wp_bipushk {k : Int} {lo' : LO} (hk : kil kn (lo) = lo') (hi : (tab X).lookup pc = some (.bipush k, nx, kn, a, ka, b, j, c)) (K : Wp X nx (lo') (.int c :: st) (h) (bd) Q) : Wp X pc lo (st) h bd Q := by
  subst hk
  exact wp_at hi K
theorem wp_sipush {k : Int} (hi : (tab X).lookup pc = some (.sipush k, nx, [], a, ka, b, j, c)) (K : Wp X nx (lo) (.int c :: st) (h) (bd) Q) : Wp X pc lo (st) h bd Q := by
  exact wp_at hi K
theorem wp_sipushk {k : Int} {lo' : LO} (hk : kil kn (lo) = lo') (hi : (tab X).lookup pc = some (.sipush k, nx, kn, a, ka, b, j, c)) (K : Wp X nx (lo') (.int c :: st) (h) (bd) Q) : Wp X pc lo (st) h bd Q := by
  subst hk
  exact wp_at hi K
theorem wp_ldc {k : Nat} (hi : (tab X).lookup pc = some (.ldc k, nx, [], a, ka, b, j, c)) (K : Wp X nx (lo) (.int c :: st) (h) (bd) Q) : Wp X pc lo (st) h bd Q := by
  exact wp_at hi K
theorem wp_ldck {k : Nat} {lo' : LO} (hk : kil kn (lo) = lo') (hi : (tab X).lookup pc = some (.ldc k, nx, kn, a, ka, b, j, c)) (K : Wp X nx (lo') (.int c :: st) (h) (bd) Q) : Wp X pc lo (st) h bd Q := by
  subst hk
  exact wp_at hi K
theorem wp_lconst {k : Fin 2} (hi : (tab X).lookup pc = some (.lconst k, nx, [], a, ka, b, j, c)) (K : Wp X nx (lo) (.long (lN a) :: st) (h) (bd) Q) : Wp X pc lo (st) h bd Q := by
  exact wp_at hi K
theorem wp_lconstk {k : Fin 2} {lo' : LO} (hk : kil kn (lo) = lo') (hi : (tab X).lookup pc = some (.lconst k, nx, kn, a, ka, b, j, c)) (K : Wp X nx (lo') (.long (lN a) :: st) (h) (bd) Q) : Wp X pc lo (st) h bd Q := by
  subst hk
  exact wp_at hi K
theorem wp_ldc2 {k : Nat} (hi : (tab X).lookup pc = some (.ldc2_w k, nx, [], a, ka, b, j, c)) (K : Wp X nx (lo) (.long (lN a) :: st) (h) (bd) Q) : Wp X pc lo (st) h bd Q := by
  exact wp_at hi K
theorem wp_ldc2k {k : Nat} {lo' : LO} (hk : kil kn (lo) = lo') (hi : (tab X).lookup pc = some (.ldc2_w k, nx, kn, a, ka, b, j, c)) (K : Wp X nx (lo') (.long (lN a) :: st) (h) (bd) Q) : Wp X pc lo (st) h bd Q := by
  subst hk
  exact wp_at hi K
theorem wp_iadd {x y : Int32} (hi : (tab X).lookup pc = some (.iadd, nx, [], a, ka, b, j, c)) (K : Wp X nx (lo) (.int (x + y) :: st) (h) (bd) Q) : Wp X pc lo (.int y :: .int x :: st) h bd Q := by
  exact wp_at hi K
theorem wp_iaddk {x y : Int32} {lo' : LO} (hk : kil kn (lo) = lo') (hi : (tab X).lookup pc = some (.iadd, nx, kn, a, ka, b, j, c)) (K : Wp X nx (lo') (.int (x + y) :: st) (h) (bd) Q) : Wp X pc lo (.int y :: .int x :: st) h bd Q := by
  subst hk
  exact wp_at hi K
theorem wp_isub {x y : Int32} (hi : (tab X).lookup pc = some (.isub, nx, [], a, ka, b, j, c)) (K : Wp X nx (lo) (.int (x - y) :: st) (h) (bd) Q) : Wp X pc lo (.int y :: .int x :: st) h bd Q := by
  exact wp_at hi K
theorem wp_isubk {x y : Int32} {lo' : LO} (hk : kil kn (lo) = lo') (hi : (tab X).lookup pc = some (.isub, nx, kn, a, ka, b, j, c)) (K : Wp X nx (lo') (.int (x - y) :: st) (h) (bd) Q) : Wp X pc lo (.int y :: .int x :: st) h bd Q := by
  subst hk
  exact wp_at hi K
theorem wp_imul {x y : Int32} (hi : (tab X).lookup pc = some (.imul, nx, [], a, ka, b, j, c)) (K : Wp X nx (lo) (.int (x * y) :: st) (h) (bd) Q) : Wp X pc lo (.int y :: .int x :: st) h bd Q := by
  exact wp_at hi K
theorem wp_imulk {x y : Int32} {lo' : LO} (hk : kil kn (lo) = lo') (hi : (tab X).lookup pc = some (.imul, nx, kn, a, ka, b, j, c)) (K : Wp X nx (lo') (.int (x * y) :: st) (h) (bd) Q) : Wp X pc lo (.int y :: .int x :: st) h bd Q := by
  subst hk
  exact wp_at hi K
theorem wp_iand {x y : Int32} (hi : (tab X).lookup pc = some (.iand, nx, [], a, ka, b, j, c)) (K : Wp X nx (lo) (.int (x &&& y) :: st) (h) (bd) Q) : Wp X pc lo (.int y :: .int x :: st) h bd Q := by
  exact wp_at hi K
theorem wp_iandk {x y : Int32} {lo' : LO} (hk : kil kn (lo) = lo') (hi : (tab X).lookup pc = some (.iand, nx, kn, a, ka, b, j, c)) (K : Wp X nx (lo') (.int (x &&& y) :: st) (h) (bd) Q) : Wp X pc lo (.int y :: .int x :: st) h bd Q := by
  subst hk
  exact wp_at hi K
theorem wp_ior {x y : Int32} (hi : (tab X).lookup pc = some (.ior, nx, [], a, ka, b, j, c)) (K : Wp X nx (lo) (.int (x ||| y) :: st) (h) (bd) Q) : Wp X pc lo (.int y :: .int x :: st) h bd Q := by
  exact wp_at hi K
theorem wp_iork {x y : Int32} {lo' : LO} (hk : kil kn (lo) = lo') (hi : (tab X).lookup pc = some (.ior, nx, kn, a, ka, b, j, c)) (K : Wp X nx (lo') (.int (x ||| y) :: st) (h) (bd) Q) : Wp X pc lo (.int y :: .int x :: st) h bd Q := by
  subst hk
  exact wp_at hi K
theorem wp_idiv {x y : Int32} (hi : (tab X).lookup pc = some (.idiv, nx, [], a, ka, b, j, c)) (g0 : ¬ y = 0) (K : Wp X nx (lo) (.int (x / y) :: st) (h) (bd) Q) : Wp X pc lo (.int y :: .int x :: st) h bd Q := by
  exact wp_at hi ⟨g0, K⟩
theorem wp_idivk {x y : Int32} {lo' : LO} (hk : kil kn (lo) = lo') (hi : (tab X).lookup pc = some (.idiv, nx, kn, a, ka, b, j, c)) (g0 : ¬ y = 0) (K : Wp X nx (lo') (.int (x / y) :: st) (h) (bd) Q) : Wp X pc lo (.int y :: .int x :: st) h bd Q := by
  subst hk
  exact wp_at hi ⟨g0, K⟩
theorem wp_land {x y : Int64} (hi : (tab X).lookup pc = some (.land, nx, [], a, ka, b, j, c)) (K : Wp X nx (lo) (.long (x &&& y) :: st) (h) (bd) Q) : Wp X pc lo (.long y :: .long x :: st) h bd Q := by
  exact wp_at hi K
theorem wp_landk {x y : Int64} {lo' : LO} (hk : kil kn (lo) = lo') (hi : (tab X).lookup pc = some (.land, nx, kn, a, ka, b, j, c)) (K : Wp X nx (lo') (.long (x &&& y) :: st) (h) (bd) Q) : Wp X pc lo (.long y :: .long x :: st) h bd Q := by
  subst hk
  exact wp_at hi K
theorem wp_lor {x y : Int64} (hi : (tab X).lookup pc = some (.lor, nx, [], a, ka, b, j, c)) (K : Wp X nx (lo) (.long (x ||| y) :: st) (h) (bd) Q) : Wp X pc lo (.long y :: .long x :: st) h bd Q := by
  exact wp_at hi K
theorem wp_lork {x y : Int64} {lo' : LO} (hk : kil kn (lo) = lo') (hi : (tab X).lookup pc = some (.lor, nx, kn, a, ka, b, j, c)) (K : Wp X nx (lo') (.long (x ||| y) :: st) (h) (bd) Q) : Wp X pc lo (.long y :: .long x :: st) h bd Q := by
  subst hk
  exact wp_at hi K
theorem wp_lshl {x : Int64} {y : Int32} (hi : (tab X).lookup pc = some (.lshl, nx, [], a, ka, b, j, c)) (K : Wp X nx (lo) (.long (x <<< (y.toInt64 &&& 63)) :: st) (h) (bd) Q) : Wp X pc lo (.int y :: .long x :: st) h bd Q := by
  exact wp_at hi K
theorem wp_lshlk {x : Int64} {y : Int32} {lo' : LO} (hk : kil kn (lo) = lo') (hi : (tab X).lookup pc = some (.lshl, nx, kn, a, ka, b, j, c)) (K : Wp X nx (lo') (.long (x <<< (y.toInt64 &&& 63)) :: st) (h) (bd) Q) : Wp X pc lo (.int y :: .long x :: st) h bd Q := by
  subst hk
  exact wp_at hi K
theorem wp_lshr {x : Int64} {y : Int32} (hi : (tab X).lookup pc = some (.lshr, nx, [], a, ka, b, j, c)) (K : Wp X nx (lo) (.long (x >>> (y.toInt64 &&& 63)) :: st) (h) (bd) Q) : Wp X pc lo (.int y :: .long x :: st) h bd Q := by
  exact wp_at hi K
theorem wp_lshrk {x : Int64} {y : Int32} {lo' : LO} (hk : kil kn (lo) = lo') (hi : (tab X).lookup pc = some (.lshr, nx, kn, a, ka, b, j, c)) (K : Wp X nx (lo') (.long (x >>> (y.toInt64 &&& 63)) :: st) (h) (bd) Q) : Wp X pc lo (.int y :: .long x :: st) h bd Q := by
  subst hk
  exact wp_at hi K
theorem wp_lushr {x : Int64} {y : Int32} (hi : (tab X).lookup pc = some (.lushr, nx, [], a, ka, b, j, c)) (K : Wp X nx (lo) (.long ((x.toUInt64 >>> (y.toInt64.toUInt64 &&& Int64.toUInt64 63)).toInt64) :: st) (h) (bd) Q) : Wp X pc lo (.int y :: .long x :: st) h bd Q := by
  exact wp_at hi K
theorem wp_lushrk {x : Int64} {y : Int32} {lo' : LO} (hk : kil kn (lo) = lo') (hi : (tab X).lookup pc = some (.lushr, nx, kn, a, ka, b, j, c)) (K : Wp X nx (lo') (.long ((x.toUInt64 >>> (y.toInt64.toUInt64 &&& Int64.toUInt64 63)).toInt64) :: st) (h) (bd) Q) : Wp X pc lo (.int y :: .long x :: st) h bd Q := by
  subst hk
  exact wp_at hi K
theorem wp_i2l {x : Int32} (hi : (tab X).lookup pc = some (.i2l, nx, [], a, ka, b, j, c)) (K : Wp X nx (lo) (.long x.toInt64 :: st) (h) (bd) Q) : Wp X pc lo (.int x :: st) h bd Q := by
  exact wp_at hi K
theorem wp_i2lk {x : Int32} {lo' : LO} (hk : kil kn (lo) = lo') (hi : (tab X).lookup pc = some (.i2l, nx, kn, a, ka, b, j, c)) (K : Wp X nx (lo') (.long x.toInt64 :: st) (h) (bd) Q) : Wp X pc lo (.int x :: st) h bd Q := by
  subst hk
  exact wp_at hi K
theorem wp_l2i {x : Int64} (hi : (tab X).lookup pc = some (.l2i, nx, [], a, ka, b, j, c)) (K : Wp X nx (lo) (.int x.toInt32 :: st) (h) (bd) Q) : Wp X pc lo (.long x :: st) h bd Q := by
  exact wp_at hi K
theorem wp_l2ik {x : Int64} {lo' : LO} (hk : kil kn (lo) = lo') (hi : (tab X).lookup pc = some (.l2i, nx, kn, a, ka, b, j, c)) (K : Wp X nx (lo') (.int x.toInt32 :: st) (h) (bd) Q) : Wp X pc lo (.long x :: st) h bd Q := by
  subst hk
  exact wp_at hi K
theorem wp_i2b {x : Int32} (hi : (tab X).lookup pc = some (.i2b, nx, [], a, ka, b, j, c)) (K : Wp X nx (lo) (.int x.toInt8.toInt32 :: st) (h) (bd) Q) : Wp X pc lo (.int x :: st) h bd Q := by
  exact wp_at hi K
theorem wp_i2bk {x : Int32} {lo' : LO} (hk : kil kn (lo) = lo') (hi : (tab X).lookup pc = some (.i2b, nx, kn, a, ka, b, j, c)) (K : Wp X nx (lo') (.int x.toInt8.toInt32 :: st) (h) (bd) Q) : Wp X pc lo (.int x :: st) h bd Q := by
  subst hk
  exact wp_at hi K
theorem wp_lcmp {x y : Int64} (hi : (tab X).lookup pc = some (.lcmp, nx, [], a, ka, b, j, c)) (K : Wp X nx (lo) (.int (lg_cmp x y) :: st) (h) (bd) Q) : Wp X pc lo (.long y :: .long x :: st) h bd Q := by
  exact wp_at hi K
theorem wp_lcmpk {x y : Int64} {lo' : LO} (hk : kil kn (lo) = lo') (hi : (tab X).lookup pc = some (.lcmp, nx, kn, a, ka, b, j, c)) (K : Wp X nx (lo') (.int (lg_cmp x y) :: st) (h) (bd) Q) : Wp X pc lo (.long y :: .long x :: st) h bd Q := by
  subst hk
  exact wp_at hi K
theorem wp_dupI {x : Int32} (hi : (tab X).lookup pc = some (.dup, nx, [], a, ka, b, j, c)) (K : Wp X nx (lo) (.int x :: .int x :: st) (h) (bd) Q) : Wp X pc lo (.int x :: st) h bd Q := by
  exact wp_at hi K
theorem wp_dupIk {x : Int32} {lo' : LO} (hk : kil kn (lo) = lo') (hi : (tab X).lookup pc = some (.dup, nx, kn, a, ka, b, j, c)) (K : Wp X nx (lo') (.int x :: .int x :: st) (h) (bd) Q) : Wp X pc lo (.int x :: st) h bd Q := by
  subst hk
  exact wp_at hi K
theorem wp_dupR {x : Nat} (hi : (tab X).lookup pc = some (.dup, nx, [], a, ka, b, j, c)) (K : Wp X nx (lo) (.ref x :: .ref x :: st) (h) (bd) Q) : Wp X pc lo (.ref x :: st) h bd Q := by
  exact wp_at hi K
theorem wp_dupRk {x : Nat} {lo' : LO} (hk : kil kn (lo) = lo') (hi : (tab X).lookup pc = some (.dup, nx, kn, a, ka, b, j, c)) (K : Wp X nx (lo') (.ref x :: .ref x :: st) (h) (bd) Q) : Wp X pc lo (.ref x :: st) h bd Q := by
  subst hk
  exact wp_at hi K
theorem wp_dup2 {y : Int32} {x : Nat} (hi : (tab X).lookup pc = some (.dup2, nx, [], a, ka, b, j, c)) (K : Wp X nx (lo) (.int y :: .ref x :: .int y :: .ref x :: st) (h) (bd) Q) : Wp X pc lo (.int y :: .ref x :: st) h bd Q := by
  exact wp_at hi K
theorem wp_dup2k {y : Int32} {x : Nat} {lo' : LO} (hk : kil kn (lo) = lo') (hi : (tab X).lookup pc = some (.dup2, nx, kn, a, ka, b, j, c)) (K : Wp X nx (lo') (.int y :: .ref x :: .int y :: .ref x :: st) (h) (bd) Q) : Wp X pc lo (.int y :: .ref x :: st) h bd Q := by
  subst hk
  exact wp_at hi K
theorem wp_pop {x : Int32} (hi : (tab X).lookup pc = some (.pop, nx, [], a, ka, b, j, c)) (K : Wp X nx (lo) (st) (h) (bd) Q) : Wp X pc lo (.int x :: st) h bd Q := by
  exact wp_at hi K
theorem wp_popk {x : Int32} {lo' : LO} (hk : kil kn (lo) = lo') (hi : (tab X).lookup pc = some (.pop, nx, kn, a, ka, b, j, c)) (K : Wp X nx (lo') (st) (h) (bd) Q) : Wp X pc lo (.int x :: st) h bd Q := by
  subst hk
  exact wp_at hi K
theorem wp_goto {k : Int} {lo' : LO} (hi : (tab X).lookup pc = some (.goto k, nx, kn, a, ka, b, j, c)) (hk : kil ka lo = lo') (K : Wp X a lo' st h bd Q) : Wp X pc lo st h bd Q := by
  subst hk
  exact wp_at hi K
theorem wp_icmp_eq {k : Int} {x y : Int32} {lo1 lo2 : LO} (hi : (tab X).lookup pc = some (.if_icmp .eq k, nx, kn, a, ka, b, j, c)) (h1 : kil ka lo = lo1) (h2 : kil kn lo = lo2) (K1 : x = y → Wp X a lo1 st h bd Q) (K2 : ¬ x = y → Wp X nx lo2 st h bd Q) : Wp X pc lo (.int y :: .int x :: st) h bd Q := by
  subst h1; subst h2
  exact wp_at hi ⟨K1, K2⟩
theorem wp_if_eq {k : Int} {x : Int32} {lo1 lo2 : LO} (hi : (tab X).lookup pc = some (.ifCond .eq k, nx, kn, a, ka, b, j, c)) (h1 : kil ka lo = lo1) (h2 : kil kn lo = lo2) (K1 : x = 0 → Wp X a lo1 st h bd Q) (K2 : ¬ x = 0 → Wp X nx lo2 st h bd Q) : Wp X pc lo (.int x :: st) h bd Q := by
  subst h1; subst h2
  exact wp_at hi ⟨K1, K2⟩
theorem wp_icmp_ne {k : Int} {x y : Int32} {lo1 lo2 : LO} (hi : (tab X).lookup pc = some (.if_icmp .ne k, nx, kn, a, ka, b, j, c)) (h1 : kil ka lo = lo1) (h2 : kil kn lo = lo2) (K1 : ¬ x = y → Wp X a lo1 st h bd Q) (K2 : x = y → Wp X nx lo2 st h bd Q) : Wp X pc lo (.int y :: .int x :: st) h bd Q := by
  subst h1; subst h2
  exact wp_at hi ⟨K1, K2⟩
theorem wp_if_ne {k : Int} {x : Int32} {lo1 lo2 : LO} (hi : (tab X).lookup pc = some (.ifCond .ne k, nx, kn, a, ka, b, j, c)) (h1 : kil ka lo = lo1) (h2 : kil kn lo = lo2) (K1 : ¬ x = 0 → Wp X a lo1 st h bd Q) (K2 : x = 0 → Wp X nx lo2 st h bd Q) : Wp X pc lo (.int x :: st) h bd Q := by
  subst h1; subst h2
  exact wp_at hi ⟨K1, K2⟩
theorem wp_icmp_lt {k : Int} {x y : Int32} {lo1 lo2 : LO} (hi : (tab X).lookup pc = some (.if_icmp .lt k, nx, kn, a, ka, b, j, c)) (h1 : kil ka lo = lo1) (h2 : kil kn lo = lo2) (K1 : x < y → Wp X a lo1 st h bd Q) (K2 : ¬ x < y → Wp X nx lo2 st h bd Q) : Wp X pc lo (.int y :: .int x :: st) h bd Q := by
  subst h1; subst h2
  exact wp_at hi ⟨K1, K2⟩
theorem wp_if_lt {k : Int} {x : Int32} {lo1 lo2 : LO} (hi : (tab X).lookup pc = some (.ifCond .lt k, nx, kn, a, ka, b, j, c)) (h1 : kil ka lo = lo1) (h2 : kil kn lo = lo2) (K1 : x < 0 → Wp X a lo1 st h bd Q) (K2 : ¬ x < 0 → Wp X nx lo2 st h bd Q) : Wp X pc lo (.int x :: st) h bd Q := by
  subst h1; subst h2
  exact wp_at hi ⟨K1, K2⟩
theorem wp_icmp_ge {k : Int} {x y : Int32} {lo1 lo2 : LO} (hi : (tab X).lookup pc = some (.if_icmp .ge k, nx, kn, a, ka, b, j, c)) (h1 : kil ka lo = lo1) (h2 : kil kn lo = lo2) (K1 : y ≤ x → Wp X a lo1 st h bd Q) (K2 : ¬ y ≤ x → Wp X nx lo2 st h bd Q) : Wp X pc lo (.int y :: .int x :: st) h bd Q := by
  subst h1; subst h2
  exact wp_at hi ⟨K1, K2⟩
theorem wp_if_ge {k : Int} {x : Int32} {lo1 lo2 : LO} (hi : (tab X).lookup pc = some (.ifCond .ge k, nx, kn, a, ka, b, j, c)) (h1 : kil ka lo = lo1) (h2 : kil kn lo = lo2) (K1 : 0 ≤ x → Wp X a lo1 st h bd Q) (K2 : ¬ 0 ≤ x → Wp X nx lo2 st h bd Q) : Wp X pc lo (.int x :: st) h bd Q := by
  subst h1; subst h2
  exact wp_at hi ⟨K1, K2⟩
theorem wp_icmp_gt {k : Int} {x y : Int32} {lo1 lo2 : LO} (hi : (tab X).lookup pc = some (.if_icmp .gt k, nx, kn, a, ka, b, j, c)) (h1 : kil ka lo = lo1) (h2 : kil kn lo = lo2) (K1 : y < x → Wp X a lo1 st h bd Q) (K2 : ¬ y < x → Wp X nx lo2 st h bd Q) : Wp X pc lo (.int y :: .int x :: st) h bd Q := by
  subst h1; subst h2
  exact wp_at hi ⟨K1, K2⟩
theorem wp_if_gt {k : Int} {x : Int32} {lo1 lo2 : LO} (hi : (tab X).lookup pc = some (.ifCond .gt k, nx, kn, a, ka, b, j, c)) (h1 : kil ka lo = lo1) (h2 : kil kn lo = lo2) (K1 : 0 < x → Wp X a lo1 st h bd Q) (K2 : ¬ 0 < x → Wp X nx lo2 st h bd Q) : Wp X pc lo (.int x :: st) h bd Q := by
  subst h1; subst h2
  exact wp_at hi ⟨K1, K2⟩
theorem wp_icmp_le {k : Int} {x y : Int32} {lo1 lo2 : LO} (hi : (tab X).lookup pc = some (.if_icmp .le k, nx, kn, a, ka, b, j, c)) (h1 : kil ka lo = lo1) (h2 : kil kn lo = lo2) (K1 : x ≤ y → Wp X a lo1 st h bd Q) (K2 : ¬ x ≤ y → Wp X nx lo2 st h bd Q) : Wp X pc lo (.int y :: .int x :: st) h bd Q := by
  subst h1; subst h2
  exact wp_at hi ⟨K1, K2⟩
theorem wp_if_le {k : Int} {x : Int32} {lo1 lo2 : LO} (hi : (tab X).lookup pc = some (.ifCond .le k, nx, kn, a, ka, b, j, c)) (h1 : kil ka lo = lo1) (h2 : kil kn lo = lo2) (K1 : x ≤ 0 → Wp X a lo1 st h bd Q) (K2 : ¬ x ≤ 0 → Wp X nx lo2 st h bd Q) : Wp X pc lo (.int x :: st) h bd Q := by
  subst h1; subst h2
  exact wp_at hi ⟨K1, K2⟩
theorem wp_table {d l u : Int} {offs : Array Int} {x : Int32} {lo' : LO} (hi : (tab X).lookup pc = some (.tableswitch d l u offs, nx, kn, a, ka, b, j, c)) (hk : kil ka lo = lo') (K1 : x.toInt < l ∨ u < x.toInt → Wp X a lo' st h bd Q) (K2 : ∀ (i : Nat) (off : Int), offs[i]? = some off → x.toInt = l + i → Wp X ((pc : Int) + off).toNat lo' st h bd Q) : Wp X pc lo (.int x :: st) h bd Q := by
  subst hk
  exact wp_at hi ⟨K1, K2⟩
theorem wp_lookup {d : Int} {ps : Array (Int × Int)} {x : Int32} {lo' : LO} (hi : (tab X).lookup pc = some (.lookupswitch d ps, nx, kn, a, ka, b, j, c)) (hk : kil ka lo = lo') (K : Wp X ((pc : Int) + Op.lookupswitch.offset ps.toList d x.toInt).toNat lo' st h bd Q) : Wp X pc lo (.int x :: st) h bd Q := by
  subst hk
  exact wp_at hi K
theorem wp_getI {k r : Nat} (hi : (tab X).lookup pc = some (.getfield k, nx, [], a, ka, b, j, c)) (hf : isRf a b = false) (g0 : isO h r a) (K : Wp X nx (lo) (.int (gI h r b) :: st) (h) (bd) Q) : Wp X pc lo (.ref r :: st) h bd Q := by
  refine wp_at hi ⟨g0, ?_⟩
  show (match isRf a b with | false => _ | true => _)
  rw [hf]
  exact K
theorem wp_getIk {k r : Nat} {lo' : LO} (hk : kil kn (lo) = lo') (hi : (tab X).lookup pc = some (.getfield k, nx, kn, a, ka, b, j, c)) (hf : isRf a b = false) (g0 : isO h r a) (K : Wp X nx (lo') (.int (gI h r b) :: st) (h) (bd) Q) : Wp X pc lo (.ref r :: st) h bd Q := by
  subst hk
  refine wp_at hi ⟨g0, ?_⟩
  show (match isRf a b with | false => _ | true => _)
  rw [hf]
  exact K
theorem wp_getR {k r : Nat} (hi : (tab X).lookup pc = some (.getfield k, nx, [], a, ka, b, j, c)) (hf : isRf a b = true) (g0 : isO h r a) (g1 : 0 < gR h r b) (K : Wp X nx (lo) (.ref (gR h r b) :: st) (h) (bd) Q) : Wp X pc lo (.ref r :: st) h bd Q := by
  refine wp_at hi ⟨g0, ?_⟩
  show (match isRf a b with | false => _ | true => _)
  rw [hf]
  exact ⟨g1, K⟩
theorem wp_getRk {k r : Nat} {lo' : LO} (hk : kil kn (lo) = lo') (hi : (tab X).lookup pc = some (.getfield k, nx, kn, a, ka, b, j, c)) (hf : isRf a b = true) (g0 : isO h r a) (g1 : 0 < gR h r b) (K : Wp X nx (lo') (.ref (gR h r b) :: st) (h) (bd) Q) : Wp X pc lo (.ref r :: st) h bd Q := by
  subst hk
  refine wp_at hi ⟨g0, ?_⟩
  show (match isRf a b with | false => _ | true => _)
  rw [hf]
  exact ⟨g1, K⟩
theorem wp_putI {k r : Nat} {v : Int32} (hi : (tab X).lookup pc = some (.putfield k, nx, [], a, ka, b, j, c)) (hf : isRf a b = false) (g0 : isO h r a) {h' : HP} (hh : h' = stI h r b v) (K : Wp X nx (lo) (st) h' (bd) Q) : Wp X pc lo (.int v :: .ref r :: st) h bd Q := by
  subst hh
  refine wp_at hi ?_
  unfold Fi
  simp only
  rw [hf]
  exact ⟨g0, K⟩
theorem wp_putIk {k r : Nat} {v : Int32} {lo' : LO} (hk : kil kn (lo) = lo') (hi : (tab X).lookup pc = some (.putfield k, nx, kn, a, ka, b, j, c)) (hf : isRf a b = false) (g0 : isO h r a) {h' : HP} (hh : h' = stI h r b v) (K : Wp X nx (lo') (st) h' (bd) Q) : Wp X pc lo (.int v :: .ref r :: st) h bd Q := by
  subst hh
  subst hk
  refine wp_at hi ?_
  unfold Fi
  simp only
  rw [hf]
  exact ⟨g0, K⟩
theorem wp_putR {k r v : Nat} (hi : (tab X).lookup pc = some (.putfield k, nx, [], a, ka, b, j, c)) (hf : isRf a b = true) (g0 : isO h r a) (g1 : 0 < v) {h' : HP} (hh : h' = stR h r b v) (K : Wp X nx (lo) (st) h' (bd) Q) : Wp X pc lo (.ref v :: .ref r :: st) h bd Q := by
  subst hh
  refine wp_at hi ?_
  unfold Fi
  simp only
  rw [hf]
  exact ⟨g0, g1, K⟩
theorem wp_putRk {k r v : Nat} {lo' : LO} (hk : kil kn (lo) = lo') (hi : (tab X).lookup pc = some (.putfield k, nx, kn, a, ka, b, j, c)) (hf : isRf a b = true) (g0 : isO h r a) (g1 : 0 < v) {h' : HP} (hh : h' = stR h r b v) (K : Wp X nx (lo') (st) h' (bd) Q) : Wp X pc lo (.ref v :: .ref r :: st) h bd Q := by
  subst hh
  subst hk
  refine wp_at hi ?_
  unfold Fi
  simp only
  rw [hf]
  exact ⟨g0, g1, K⟩
theorem wp_iald {r : Nat} {i : Int32} (hi : (tab X).lookup pc = some (.iaload, nx, [], a, ka, b, j, c)) (g0 : isL h r 100 i) (K : Wp X nx (lo) (.int (gI h r i.toNatClampNeg) :: st) (h) (bd) Q) : Wp X pc lo (.int i :: .ref r :: st) h bd Q := by
  exact wp_at hi ⟨g0, K⟩
theorem wp_ialdk {r : Nat} {i : Int32} {lo' : LO} (hk : kil kn (lo) = lo') (hi : (tab X).lookup pc = some (.iaload, nx, kn, a, ka, b, j, c)) (g0 : isL h r 100 i) (K : Wp X nx (lo') (.int (gI h r i.toNatClampNeg) :: st) (h) (bd) Q) : Wp X pc lo (.int i :: .ref r :: st) h bd Q := by
  subst hk
  exact wp_at hi ⟨g0, K⟩
theorem wp_bald {r : Nat} {i : Int32} (hi : (tab X).lookup pc = some (.baload, nx, [], a, ka, b, j, c)) (g0 : isA h r b i) (K : Wp X nx (lo) (.int (gI h r i.toNatClampNeg) :: st) (h) (bd) Q) : Wp X pc lo (.int i :: .ref r :: st) h bd Q := by
  exact wp_at hi ⟨g0, K⟩
theorem wp_baldk {r : Nat} {i : Int32} {lo' : LO} (hk : kil kn (lo) = lo') (hi : (tab X).lookup pc = some (.baload, nx, kn, a, ka, b, j, c)) (g0 : isA h r b i) (K : Wp X nx (lo') (.int (gI h r i.toNatClampNeg) :: st) (h) (bd) Q) : Wp X pc lo (.int i :: .ref r :: st) h bd Q := by
  subst hk
  exact wp_at hi ⟨g0, K⟩
theorem wp_lald {r : Nat} {i : Int32} (hi : (tab X).lookup pc = some (.laload, nx, [], a, ka, b, j, c)) (g0 : isA h r 103 i) (K : Wp X nx (lo) (.long (gJ h r i.toNatClampNeg) :: st) (h) (bd) Q) : Wp X pc lo (.int i :: .ref r :: st) h bd Q := by
  exact wp_at hi ⟨g0, K⟩
theorem wp_laldk {r : Nat} {i : Int32} {lo' : LO} (hk : kil kn (lo) = lo') (hi : (tab X).lookup pc = some (.laload, nx, kn, a, ka, b, j, c)) (g0 : isA h r 103 i) (K : Wp X nx (lo') (.long (gJ h r i.toNatClampNeg) :: st) (h) (bd) Q) : Wp X pc lo (.int i :: .ref r :: st) h bd Q := by
  subst hk
  exact wp_at hi ⟨g0, K⟩
theorem wp_aald {r : Nat} {i : Int32} (hi : (tab X).lookup pc = some (.aaload, nx, [], a, ka, b, j, c)) (g0 : 0 < r) (g1 : r < gS h) (g2 : gK h r = 104 ∨ gK h r = 105) (g3 : vp_in i (gL h r)) (g4 : 0 < gR h r i.toNatClampNeg) (K : Wp X nx (lo) (.ref (gR h r i.toNatClampNeg) :: st) (h) (bd) Q) : Wp X pc lo (.int i :: .ref r :: st) h bd Q := by
  exact wp_at hi ⟨g0, g1, g2, g3, g4, K⟩
theorem wp_aaldk {r : Nat} {i : Int32} {lo' : LO} (hk : kil kn (lo) = lo') (hi : (tab X).lookup pc = some (.aaload, nx, kn, a, ka, b, j, c)) (g0 : 0 < r) (g1 : r < gS h) (g2 : gK h r = 104 ∨ gK h r = 105) (g3 : vp_in i (gL h r)) (g4 : 0 < gR h r i.toNatClampNeg) (K : Wp X nx (lo') (.ref (gR h r i.toNatClampNeg) :: st) (h) (bd) Q) : Wp X pc lo (.int i :: .ref r :: st) h bd Q := by
  subst hk
  exact wp_at hi ⟨g0, g1, g2, g3, g4, K⟩
theorem wp_iast {r : Nat} {i v : Int32} (hi : (tab X).lookup pc = some (.iastore, nx, [], a, ka, b, j, c)) (g0 : isA h r 100 i) {h' : HP} (hh : h' = stI h r i.toNatClampNeg v) (K : Wp X nx (lo) (st) h' (bd) Q) : Wp X pc lo (.int v :: .int i :: .ref r :: st) h bd Q := by
  subst hh
  exact wp_at hi ⟨g0, K⟩
theorem wp_iastk {r : Nat} {i v : Int32} {lo' : LO} (hk : kil kn (lo) = lo') (hi : (tab X).lookup pc = some (.iastore, nx, kn, a, ka, b, j, c)) (g0 : isA h r 100 i) {h' : HP} (hh : h' = stI h r i.toNatClampNeg v) (K : Wp X nx (lo') (st) h' (bd) Q) : Wp X pc lo (.int v :: .int i :: .ref r :: st) h bd Q := by
  subst hh
  subst hk
  exact wp_at hi ⟨g0, K⟩
theorem wp_bast {r : Nat} {i v : Int32} (hi : (tab X).lookup pc = some (.bastore, nx, [], a, ka, b, j, c)) (g0 : isA h r b i) {h' : HP} (hh : h' = stI h r i.toNatClampNeg (narB b v)) (K : Wp X nx (lo) (st) h' (bd) Q) : Wp X pc lo (.int v :: .int i :: .ref r :: st) h bd Q := by
  subst hh
  exact wp_at hi ⟨g0, K⟩
theorem wp_bastk {r : Nat} {i v : Int32} {lo' : LO} (hk : kil kn (lo) = lo') (hi : (tab X).lookup pc = some (.bastore, nx, kn, a, ka, b, j, c)) (g0 : isA h r b i) {h' : HP} (hh : h' = stI h r i.toNatClampNeg (narB b v)) (K : Wp X nx (lo') (st) h' (bd) Q) : Wp X pc lo (.int v :: .int i :: .ref r :: st) h bd Q := by
  subst hh
  subst hk
  exact wp_at hi ⟨g0, K⟩
theorem wp_last {r : Nat} {i : Int32} {v : Int64} (hi : (tab X).lookup pc = some (.lastore, nx, [], a, ka, b, j, c)) (g0 : isA h r 103 i) {h' : HP} (hh : h' = stJ h r i.toNatClampNeg v) (K : Wp X nx (lo) (st) h' (bd) Q) : Wp X pc lo (.long v :: .int i :: .ref r :: st) h bd Q := by
  subst hh
  exact wp_at hi ⟨g0, K⟩
theorem wp_lastk {r : Nat} {i : Int32} {v : Int64} {lo' : LO} (hk : kil kn (lo) = lo') (hi : (tab X).lookup pc = some (.lastore, nx, kn, a, ka, b, j, c)) (g0 : isA h r 103 i) {h' : HP} (hh : h' = stJ h r i.toNatClampNeg v) (K : Wp X nx (lo') (st) h' (bd) Q) : Wp X pc lo (.long v :: .int i :: .ref r :: st) h bd Q := by
  subst hh
  subst hk
  exact wp_at hi ⟨g0, K⟩
theorem wp_aast {r v : Nat} {i : Int32} (hi : (tab X).lookup pc = some (.aastore, nx, [], a, ka, b, j, c)) (g0 : (gK h r = 104 ∧ isO h v 6) ∨ (gK h r = 105 ∧ isO h v 7)) (g1 : 0 < r) (g2 : r < gS h) (g3 : vp_in i (gL h r)) {h' : HP} (hh : h' = stR h r i.toNatClampNeg v) (K : Wp X nx (lo) (st) h' (bd) Q) : Wp X pc lo (.ref v :: .int i :: .ref r :: st) h bd Q := by
  subst hh
  exact wp_at hi ⟨g0, g1, g2, g3, K⟩
theorem wp_aastk {r v : Nat} {i : Int32} {lo' : LO} (hk : kil kn (lo) = lo') (hi : (tab X).lookup pc = some (.aastore, nx, kn, a, ka, b, j, c)) (g0 : (gK h r = 104 ∧ isO h v 6) ∨ (gK h r = 105 ∧ isO h v 7)) (g1 : 0 < r) (g2 : r < gS h) (g3 : vp_in i (gL h r)) {h' : HP} (hh : h' = stR h r i.toNatClampNeg v) (K : Wp X nx (lo') (st) h' (bd) Q) : Wp X pc lo (.ref v :: .int i :: .ref r :: st) h bd Q := by
  subst hh
  subst hk
  exact wp_at hi ⟨g0, g1, g2, g3, K⟩
theorem wp_alen {r : Nat} (hi : (tab X).lookup pc = some (.arraylength, nx, [], a, ka, b, j, c)) (g0 : r < gS h ∧ 100 ≤ gK h r ∧ gK h r ≤ 105 ∧ (r = 0 → gK h r = 100)) (K : Wp X nx (lo) (.int (nI (gL h r)) :: st) (h) (bd) Q) : Wp X pc lo (.ref r :: st) h bd Q := by
  exact wp_at hi ⟨g0, K⟩
theorem wp_alenk {r : Nat} {lo' : LO} (hk : kil kn (lo) = lo') (hi : (tab X).lookup pc = some (.arraylength, nx, kn, a, ka, b, j, c)) (g0 : r < gS h ∧ 100 ≤ gK h r ∧ gK h r ≤ 105 ∧ (r = 0 → gK h r = 100)) (K : Wp X nx (lo') (.int (nI (gL h r)) :: st) (h) (bd) Q) : Wp X pc lo (.ref r :: st) h bd Q := by
  subst hk
  exact wp_at hi ⟨g0, K⟩
theorem wp_newa {t : ArrayType} {n : Int32} (hi : (tab X).lookup pc = some (.newarray t, nx, [], a, ka, b, j, c)) (g0 : ¬ n < 0) (g1 : n.toNatClampNeg ≤ 60000000) (g2 : 1 ≤ bd.1) (g3 : n.toNatClampNeg ≤ bd.2) {h' : HP} (hh : h' = nwC h b n.toNatClampNeg) (K : Wp X nx (lo) (.ref (gS h) :: st) h' (bd.1 - 1, bd.2 - n.toNatClampNeg) Q) : Wp X pc lo (.int n :: st) h bd Q := by
  subst hh
  exact wp_at hi ⟨g0, g1, g2, g3, K⟩
theorem wp_newak {t : ArrayType} {n : Int32} {lo' : LO} (hk : kil kn (lo) = lo') (hi : (tab X).lookup pc = some (.newarray t, nx, kn, a, ka, b, j, c)) (g0 : ¬ n < 0) (g1 : n.toNatClampNeg ≤ 60000000) (g2 : 1 ≤ bd.1) (g3 : n.toNatClampNeg ≤ bd.2) {h' : HP} (hh : h' = nwC h b n.toNatClampNeg) (K : Wp X nx (lo') (.ref (gS h) :: st) h' (bd.1 - 1, bd.2 - n.toNatClampNeg) Q) : Wp X pc lo (.int n :: st) h bd Q := by
  subst hh
  subst hk
  exact wp_at hi ⟨g0, g1, g2, g3, K⟩
theorem wp_anew {t : Nat} {n : Int32} (hi : (tab X).lookup pc = some (.anewarray t, nx, [], a, ka, b, j, c)) (g0 : ¬ n < 0) (g1 : n.toNatClampNeg ≤ 60000000) (g2 : 1 ≤ bd.1) (g3 : n.toNatClampNeg ≤ bd.2) {h' : HP} (hh : h' = nwC h b n.toNatClampNeg) (K : Wp X nx (lo) (.ref (gS h) :: st) h' (bd.1 - 1, bd.2 - n.toNatClampNeg) Q) : Wp X pc lo (.int n :: st) h bd Q := by
  subst hh
  exact wp_at hi ⟨g0, g1, g2, g3, K⟩
theorem wp_anewk {t : Nat} {n : Int32} {lo' : LO} (hk : kil kn (lo) = lo') (hi : (tab X).lookup pc = some (.anewarray t, nx, kn, a, ka, b, j, c)) (g0 : ¬ n < 0) (g1 : n.toNatClampNeg ≤ 60000000) (g2 : 1 ≤ bd.1) (g3 : n.toNatClampNeg ≤ bd.2) {h' : HP} (hh : h' = nwC h b n.toNatClampNeg) (K : Wp X nx (lo') (.ref (gS h) :: st) h' (bd.1 - 1, bd.2 - n.toNatClampNeg) Q) : Wp X pc lo (.int n :: st) h bd Q := by
  subst hh
  subst hk
  exact wp_at hi ⟨g0, g1, g2, g3, K⟩
theorem wp_new {t : Nat} (hi : (tab X).lookup pc = some (.new t, nx, [], a, ka, b, j, c)) (g0 : 1 ≤ bd.1) (g1 : nF a ≤ bd.2) {h' : HP} (hh : h' = nwC h a 0) (K : Wp X nx (lo) (.ref (gS h) :: st) h' (bd.1 - 1, bd.2 - nF a) Q) : Wp X pc lo (st) h bd Q := by
  subst hh
  exact wp_at hi ⟨g0, g1, K⟩
theorem wp_newk {t : Nat} {lo' : LO} (hk : kil kn (lo) = lo') (hi : (tab X).lookup pc = some (.new t, nx, kn, a, ka, b, j, c)) (g0 : 1 ≤ bd.1) (g1 : nF a ≤ bd.2) {h' : HP} (hh : h' = nwC h a 0) (K : Wp X nx (lo') (.ref (gS h) :: st) h' (bd.1 - 1, bd.2 - nF a) Q) : Wp X pc lo (st) h bd Q := by
  subst hh
  subst hk
  exact wp_at hi ⟨g0, g1, K⟩
theorem wp_callvI {k r : Nat} {as rest : List Value} {lo' : LO} (hi : (tab X).lookup pc = some (.invokevirtual k, nx, kn, a, ka, b, j, c)) (hp : popN b [] st = some (as, .ref r :: rest)) (hr : rk a = 1 ∨ rk a = 3) (hk : kil kn lo = lo') (ho : isO h r (ownC a)) (hs : catS rest ≤ 8 ∧ mcM a ≤ bd.1 ∧ msM a ≤ bd.2 ∧ (ent (.ref r :: as)).length ≤ mxl a) {bd' : Nat × Nat} (hb : (bd.1 - mcM a, bd.2 - msM a) = bd') (K : Wp a 0 (entM a (.ref r :: as)) [] h (mcM a, msM a) (QI (fun v h' => Wp X nx lo' (.int v :: rest) h' bd' Q))) : Wp X pc lo st h bd Q := by
  subst hb
  subst hk
  have hF : Fcall Wp X nx a (.ref r :: as) rest (kil kn lo) h bd Q := ⟨hs.1, hs.2.1, hs.2.2.1, hs.2.2.2, _, K, by
    unfold aft
    rcases hr with hr | hr <;> rw [hr] <;> exact fun v h' ⟨w, e, q⟩ => by cases e; exact q⟩
  refine wp_at hi ?_
  unfold Fi
  simp only
  rw [hp]
  exact ⟨ho, hF⟩
theorem wp_callxI {k r : Nat} {as rest : List Value} {lo' : LO} (hi : (tab X).lookup pc = some (.invokespecial k, nx, kn, a, ka, b, j, c)) (hz : Nat.beq a 1000 = false) (hp : popN b [] st = some (as, .ref r :: rest)) (hr : rk a = 1 ∨ rk a = 3) (hk : kil kn lo = lo') (hs : catS rest ≤ 8 ∧ mcM a ≤ bd.1 ∧ msM a ≤ bd.2 ∧ (ent (.ref r :: as)).length ≤ mxl a) {bd' : Nat × Nat} (hb : (bd.1 - mcM a, bd.2 - msM a) = bd') (K : Wp a 0 (entM a (.ref r :: as)) [] h (mcM a, msM a) (QI (fun v h' => Wp X nx lo' (.int v :: rest) h' bd' Q))) : Wp X pc lo st h bd Q := by
  subst hb
  subst hk
  have hF : Fcall Wp X nx a (.ref r :: as) rest (kil kn lo) h bd Q := ⟨hs.1, hs.2.1, hs.2.2.1, hs.2.2.2, _, K, by
    unfold aft
    rcases hr with hr | hr <;> rw [hr] <;> exact fun v h' ⟨w, e, q⟩ => by cases e; exact q⟩
  refine wp_at hi ?_
  unfold Fi
  simp only
  rw [hz, hp]
  exact hF
theorem wp_callsI {k : Nat} {as rest : List Value} {lo' : LO} (hi : (tab X).lookup pc = some (.invokestatic k, nx, kn, a, ka, b, j, c)) (hz : spc a = 0) (hp : popN b [] st = some (as, rest)) (hr : rk a = 1 ∨ rk a = 3) (hk : kil kn lo = lo') (hs : catS rest ≤ 8 ∧ mcM a ≤ bd.1 ∧ msM a ≤ bd.2 ∧ (ent as).length ≤ mxl a) {bd' : Nat × Nat} (hb : (bd.1 - mcM a, bd.2 - msM a) = bd') (K : Wp a 0 (entM a as) [] h (mcM a, msM a) (QI (fun v h' => Wp X nx lo' (.int v :: rest) h' bd' Q))) : Wp X pc lo st h bd Q := by
  subst hb
  subst hk
  have hF : Fcall Wp X nx a as rest (kil kn lo) h bd Q := ⟨hs.1, hs.2.1, hs.2.2.1, hs.2.2.2, _, K, by
    unfold aft
    rcases hr with hr | hr <;> rw [hr] <;> exact fun v h' ⟨w, e, q⟩ => by cases e; exact q⟩
  refine wp_at hi ?_
  unfold Fi
  simp only
  rw [hz]
  simp only
  rw [hp]
  exact hF
theorem wp_callvJ {k r : Nat} {as rest : List Value} {lo' : LO} (hi : (tab X).lookup pc = some (.invokevirtual k, nx, kn, a, ka, b, j, c)) (hp : popN b [] st = some (as, .ref r :: rest)) (hr : rk a = 2) (hk : kil kn lo = lo') (ho : isO h r (ownC a)) (hs : catS rest ≤ 8 ∧ mcM a ≤ bd.1 ∧ msM a ≤ bd.2 ∧ (ent (.ref r :: as)).length ≤ mxl a) {bd' : Nat × Nat} (hb : (bd.1 - mcM a, bd.2 - msM a) = bd') (K : Wp a 0 (entM a (.ref r :: as)) [] h (mcM a, msM a) (QJ (fun v h' => Wp X nx lo' (.long v :: rest) h' bd' Q))) : Wp X pc lo st h bd Q := by
  subst hb
  subst hk
  have hF : Fcall Wp X nx a (.ref r :: as) rest (kil kn lo) h bd Q := ⟨hs.1, hs.2.1, hs.2.2.1, hs.2.2.2, _, K, by
    unfold aft
    rw [hr]; exact fun v h' ⟨w, e, q⟩ => by cases e; exact q⟩
  refine wp_at hi ?_
  unfold Fi
  simp only
  rw [hp]
  exact ⟨ho, hF⟩
theorem wp_callxJ {k r : Nat} {as rest : List Value} {lo' : LO} (hi : (tab X).lookup pc = some (.invokespecial k, nx, kn, a, ka, b, j, c)) (hz : Nat.beq a 1000 = false) (hp : popN b [] st = some (as, .ref r :: rest)) (hr : rk a = 2) (hk : kil kn lo = lo') (hs : catS rest ≤ 8 ∧ mcM a ≤ bd.1 ∧ msM a ≤ bd.2 ∧ (ent (.ref r :: as)).length ≤ mxl a) {bd' : Nat × Nat} (hb : (bd.1 - mcM a, bd.2 - msM a) = bd') (K : Wp a 0 (entM a (.ref r :: as)) [] h (mcM a, msM a) (QJ (fun v h' => Wp X nx lo' (.long v :: rest) h' bd' Q))) : Wp X pc lo st h bd Q := by
  subst hb
  subst hk
  have hF : Fcall Wp X nx a (.ref r :: as) rest (kil kn lo) h bd Q := ⟨hs.1, hs.2.1, hs.2.2.1, hs.2.2.2, _, K, by
    unfold aft
    rw [hr]; exact fun v h' ⟨w, e, q⟩ => by cases e; exact q⟩
  refine wp_at hi ?_
  unfold Fi
  simp only
  rw [hz, hp]
  exact hF
theorem wp_callsJ {k : Nat} {as rest : List Value} {lo' : LO} (hi : (tab X).lookup pc = some (.invokestatic k, nx, kn, a, ka, b, j, c)) (hz : spc a = 0) (hp : popN b [] st = some (as, rest)) (hr : rk a = 2) (hk : kil kn lo = lo') (hs : catS rest ≤ 8 ∧ mcM a ≤ bd.1 ∧ msM a ≤ bd.2 ∧ (ent as).length ≤ mxl a) {bd' : Nat × Nat} (hb : (bd.1 - mcM a, bd.2 - msM a) = bd') (K : Wp a 0 (entM a as) [] h (mcM a, msM a) (QJ (fun v h' => Wp X nx lo' (.long v :: rest) h' bd' Q))) : Wp X pc lo st h bd Q := by
  subst hb
  subst hk
  have hF : Fcall Wp X nx a as rest (kil kn lo) h bd Q := ⟨hs.1, hs.2.1, hs.2.2.1, hs.2.2.2, _, K, by
    unfold aft
    rw [hr]; exact fun v h' ⟨w, e, q⟩ => by cases e; exact q⟩
  refine wp_at hi ?_
  unfold Fi
  simp only
  rw [hz]
  simp only
  rw [hp]
  exact hF
theorem wp_callvV {k r : Nat} {as rest : List Value} {lo' : LO} (hi : (tab X).lookup pc = some (.invokevirtual k, nx, kn, a, ka, b, j, c)) (hp : popN b [] st = some (as, .ref r :: rest)) (hr : rk a = 0) (hk : kil kn lo = lo') (ho : isO h r (ownC a)) (hs : catS rest ≤ 8 ∧ mcM a ≤ bd.1 ∧ msM a ≤ bd.2 ∧ (ent (.ref r :: as)).length ≤ mxl a) {bd' : Nat × Nat} (hb : (bd.1 - mcM a, bd.2 - msM a) = bd') (K : Wp a 0 (entM a (.ref r :: as)) [] h (mcM a, msM a) (QV (fun h' => Wp X nx lo' (rest) h' bd' Q))) : Wp X pc lo st h bd Q := by
  subst hb
  subst hk
  have hF : Fcall Wp X nx a (.ref r :: as) rest (kil kn lo) h bd Q := ⟨hs.1, hs.2.1, hs.2.2.1, hs.2.2.2, _, K, by
    unfold aft
    rw [hr]; exact fun h' ⟨e, q⟩ => q⟩
  refine wp_at hi ?_
  unfold Fi
  simp only
  rw [hp]
  exact ⟨ho, hF⟩
theorem wp_callxV {k r : Nat} {as rest : List Value} {lo' : LO} (hi : (tab X).lookup pc = some (.invokespecial k, nx, kn, a, ka, b, j, c)) (hz : Nat.beq a 1000 = false) (hp : popN b [] st = some (as, .ref r :: rest)) (hr : rk a = 0) (hk : kil kn lo = lo') (hs : catS rest ≤ 8 ∧ mcM a ≤ bd.1 ∧ msM a ≤ bd.2 ∧ (ent (.ref r :: as)).length ≤ mxl a) {bd' : Nat × Nat} (hb : (bd.1 - mcM a, bd.2 - msM a) = bd') (K : Wp a 0 (entM a (.ref r :: as)) [] h (mcM a, msM a) (QV (fun h' => Wp X nx lo' (rest) h' bd' Q))) : Wp X pc lo st h bd Q := by
  subst hb
  subst hk
  have hF : Fcall Wp X nx a (.ref r :: as) rest (kil kn lo) h bd Q := ⟨hs.1, hs.2.1, hs.2.2.1, hs.2.2.2, _, K, by
    unfold aft
    rw [hr]; exact fun h' ⟨e, q⟩ => q⟩
  refine wp_at hi ?_
  unfold Fi
  simp only
  rw [hz, hp]
  exact hF
theorem wp_callsV {k : Nat} {as rest : List Value} {lo' : LO} (hi : (tab X).lookup pc = some (.invokestatic k, nx, kn, a, ka, b, j, c)) (hz : spc a = 0) (hp : popN b [] st = some (as, rest)) (hr : rk a = 0) (hk : kil kn lo = lo') (hs : catS rest ≤ 8 ∧ mcM a ≤ bd.1 ∧ msM a ≤ bd.2 ∧ (ent as).length ≤ mxl a) {bd' : Nat × Nat} (hb : (bd.1 - mcM a, bd.2 - msM a) = bd') (K : Wp a 0 (entM a as) [] h (mcM a, msM a) (QV (fun h' => Wp X nx lo' (rest) h' bd' Q))) : Wp X pc lo st h bd Q := by
  subst hb
  subst hk
  have hF : Fcall Wp X nx a as rest (kil kn lo) h bd Q := ⟨hs.1, hs.2.1, hs.2.2.1, hs.2.2.2, _, K, by
    unfold aft
    rw [hr]; exact fun h' ⟨e, q⟩ => q⟩
  refine wp_at hi ?_
  unfold Fi
  simp only
  rw [hz]
  simp only
  rw [hp]
  exact hF
theorem wp_objI {k r : Nat} {lo' : LO} (hi : (tab X).lookup pc = some (.invokespecial k, nx, kn, 1000, ka, 0, j, c)) (hs : catS st ≤ 8) (hk : kil kn lo = lo') (K : Wp X nx lo' st h bd Q) : Wp X pc lo (.ref r :: st) h bd Q := by
  subst hk
  exact wp_at hi ⟨hs, K⟩
theorem wp_max {k : Nat} {x y : Int32} {lo' : LO} (hi : (tab X).lookup pc = some (.invokestatic k, nx, kn, 1002, ka, b, j, c)) (hs : catS st ≤ 8) (hk : kil kn lo = lo') (K : Wp X nx lo' (.int (if x < y then y else x) :: st) h bd Q) : Wp X pc lo (.int y :: .int x :: st) h bd Q := by
  subst hk
  exact wp_at hi ⟨hs, K⟩
theorem wp_min {k : Nat} {x y : Int32} {lo' : LO} (hi : (tab X).lookup pc = some (.invokestatic k, nx, kn, 1003, ka, b, j, c)) (hs : catS st ≤ 8) (hk : kil kn lo = lo') (K : Wp X nx lo' (.int (if y < x then y else x) :: st) h bd Q) : Wp X pc lo (.int y :: .int x :: st) h bd Q := by
  subst hk
  exact wp_at hi ⟨hs, K⟩
theorem wp_copy {k src dst : Nat} {sp dp n : Int32} {lo' : LO} (hi : (tab X).lookup pc = some (.invokestatic k, nx, kn, 1001, ka, b, j, c)) (g0 : 0 < src ∧ src < gS h ∧ gK h src = 101) (g1 : 0 < dst ∧ dst < gS h ∧ gK h dst = 101) (g2 : ¬ sp < 0 ∧ ¬ dp < 0 ∧ ¬ n < 0) (g3 : sp.toNatClampNeg + n.toNatClampNeg ≤ gL h src ∧ dp.toNatClampNeg + n.toNatClampNeg ≤ gL h dst) (g4 : ∀ i, i < n.toNatClampNeg → fits .byte (.int (gI h src (sp.toNatClampNeg + i))) = true) (hs : catS st ≤ 8) (hk : kil kn lo = lo') {h' : HP} (hh : h' = stA h dst (va_cpy (gI h src) (gI h dst) sp.toNatClampNeg dp.toNatClampNeg n.toNatClampNeg)) (K : Wp X nx lo' st h' bd Q) : Wp X pc lo (.int n :: .int dp :: .ref dst :: .int sp :: .ref src :: st) h bd Q := by
  subst hh
  subst hk
  exact wp_at hi ⟨g0, g1, g2, g3, g4, hs, K⟩
theorem wp_iret {K : Int32 → HP → Prop} {v : Int32} (hi : (tab X).lookup pc = some (.ireturn, nx, kn, a, ka, b, j, c)) (hr : rk X = 1) (H : K v h) : Wp X pc lo [.int v] h bd (QI K) := by
  refine wp_at hi ?_
  show (match rk X with | 1 => _ | 3 => _ | _ => _)
  rw [hr]
  exact ⟨v, rfl, H⟩
theorem wp_zret {K : Int32 → HP → Prop} {v : Int32} (hi : (tab X).lookup pc = some (.ireturn, nx, kn, a, ka, b, j, c)) (hr : rk X = 3) (hv : v = 0 ∨ v = 1) (H : K v h) : Wp X pc lo [.int v] h bd (QI K) := by
  refine wp_at hi ?_
  show (match rk X with | 1 => _ | 3 => _ | _ => _)
  rw [hr]
  exact ⟨hv, v, rfl, H⟩
theorem wp_jret {K : Int64 → HP → Prop} {v : Int64} (hi : (tab X).lookup pc = some (.lreturn, nx, kn, a, ka, b, j, c)) (hr : rk X = 2) (H : K v h) : Wp X pc lo [.long v] h bd (QJ K) := wp_at hi ⟨hr, v, rfl, H⟩
theorem wp_vret {K : HP → Prop} (hi : (tab X).lookup pc = some (.return_, nx, kn, a, ka, b, j, c)) (hr : rk X = 0) (H : K h) : Wp X pc lo [] h bd (QV K) := wp_at hi ⟨hr, rfl, H⟩
theorem wp_newaL {t : ArrayType} {n : Int32} {N : Nat} {lo' : LO} {bd' : Nat × Nat} {h' : HP} (hi : (tab X).lookup pc = some (.newarray t, nx, kn, a, ka, b, j, c)) (hn : ¬ n < 0 ∧ n.toNatClampNeg = N) (hN : N ≤ 60000000 ∧ 1 ≤ bd.1 ∧ N ≤ bd.2) (hk : kil kn lo = lo') (hb : (bd.1 - 1, bd.2 - N) = bd') (hh : h' = nwC h b N) (K : Wp X nx lo' (.ref (gS h) :: st) h' bd' Q) : Wp X pc lo (.int n :: st) h bd Q := by
  obtain ⟨h0, rfl⟩ := hn
  subst hk; subst hb; subst hh
  exact wp_at hi ⟨h0, hN.1, hN.2.1, hN.2.2, K⟩
theorem wp_anewL {t : Nat} {n : Int32} {N : Nat} {lo' : LO} {bd' : Nat × Nat} {h' : HP} (hi : (tab X).lookup pc = some (.anewarray t, nx, kn, a, ka, b, j, c)) (hn : ¬ n < 0 ∧ n.toNatClampNeg = N) (hN : N ≤ 60000000 ∧ 1 ≤ bd.1 ∧ N ≤ bd.2) (hk : kil kn lo = lo') (hb : (bd.1 - 1, bd.2 - N) = bd') (hh : h' = nwC h b N) (K : Wp X nx lo' (.ref (gS h) :: st) h' bd' Q) : Wp X pc lo (.int n :: st) h bd Q := by
  obtain ⟨h0, rfl⟩ := hn
  subst hk; subst hb; subst hh
  exact wp_at hi ⟨h0, hN.1, hN.2.1, hN.2.2, K⟩
theorem wp_newL {t : Nat} {lo' : LO} {bd' : Nat × Nat} {h' : HP} (hi : (tab X).lookup pc = some (.new t, nx, kn, a, ka, b, j, c)) (hN : 1 ≤ bd.1 ∧ nF a ≤ bd.2) (hk : kil kn lo = lo') (hb : (bd.1 - 1, bd.2 - nF a) = bd') (hh : h' = nwC h a 0) (K : Wp X nx lo' (.ref (gS h) :: st) h' bd' Q) : Wp X pc lo st h bd Q := by
  subst hk; subst hb; subst hh
  exact wp_at hi ⟨hN.1, hN.2, K⟩
end WR
