/-! soundness: each step of the picture is the machine's -/
def rmM (X : Nat) : Room := { frames := dep X, cells := mcM X, slots := msM X, locals := 38 * dep X }
def tyL (dA : Nat → ClassId) : List (ClassId × FieldType) := [(dA 100, .int), (dA 101, .byte), (dA 102, .boolean), (dA 103, .long), (dA 104, .object "KeptSentences$Row"), (dA 105, .object "KeptSentences$Text")]
def nst1 : Cond := .methodLinkNest "KeptSentences" 34 ⟨"KeptSentences$Ladder", "<init>", "()V"⟩ "KeptSentences"
def nst2 : Cond := .methodLinkNest "KeptSentences" 50 ⟨"KeptSentences$Patcher", "<init>", "()V"⟩ "KeptSentences"
def nst3 : Cond := .methodLinkNest "KeptSentences" 57 ⟨"KeptSentences$Nesting", "<init>", "()V"⟩ "KeptSentences"
def KK (D : va_G) (dA : Nat → ClassId) (s : State) : Prop := va_K D classes (tyL dA) s ∧ va_AO "KeptSentences$Row" s ∧ va_AO "KeptSentences$Text" s ∧ va_Nw nst1 s ∧ va_Nw nst2 s ∧ va_Nw nst3 s
theorem KK_same {D : va_G} {dA : Nat → ClassId} {s u : State} (hvm : s.vm = u.vm) (h : KK D dA s) : KK D dA u := by
  obtain ⟨h1, h2, h3, h4, h5, h6⟩ := h
  have a : s.vm.Alike u.vm := by rw [← hvm]; exact Vm.Alike.refl s.vm
  exact ⟨va_K.moved a h1, h2.moved a, h3.moved a, h4.same rfl hvm, h5.same rfl hvm, h6.same rfl hvm⟩
theorem KK_warm {D : va_G} {dA : Nat → ClassId} {s u : State} (hW : s.WarmedH u.vm) (h : KK D dA s) : KK D dA u := by
  obtain ⟨h1, h2, h3, h4, h5, h6⟩ := h
  exact ⟨va_K.moved hW.alike h1, h2.moved hW.alike, h3.moved hW.alike, va_Nw.warmM hW h4, va_Nw.warmM hW h5, va_Nw.warmM hW h6⟩
def Ctx (p : Program) (X : Nat) (s : State) (m : MethodId) (args : Array Value) (meth : Method) (c : Code) (D : va_G) (dA : Nat → ClassId) (base : Nat) : Prop :=
  p.tables.exec = Jvm.exec ∧ c.code = cod X ∧ meth.sig.returnType = rtyK (rk X) ∧ c.maxLocals = mxl X ∧ s.vm.findClass (cN (ownC X)) = some m.cls ∧ (∀ w ∈ gtbl, w.before args s = true) ∧ meth.locks = false ∧ ((yM X).name = "<init>" → meth.name = "<init>") ∧ KK D dA s ∧ base ≤ s.heap.size
def RetOK (X : Nat) (v : Option Value) (pc : Nat) : Prop :=
  (rk X = 0 ∧ v = none ∧ decode (cod X) pc = .ok (.return_, 1)) ∨ (rk X = 1 ∧ (∃ x : Int32, v = some (.int x)) ∧ decode (cod X) pc = .ok (.ireturn, 1)) ∨ (rk X = 3 ∧ (∃ x : Int32, v = some (.int x) ∧ (x = 0 ∨ x = 1)) ∧ decode (cod X) pc = .ok (.ireturn, 1)) ∨ (rk X = 2 ∧ (∃ x : Int64, v = some (.long x)) ∧ decode (cod X) pc = .ok (.lreturn, 1))
/-- the machine goes as the picture does -/
def PS (l : Launch) (D : va_G) (dA : Nat → ClassId) (base b : Nat) : PT := fun X pc lo st h bd Q =>
  ∀ (p : Program) (e : Env) (s : State) (m : MethodId) (args : Array Value) (below : List Frame) (meth : Method) (c : Code) (H : Heap) (locs : List Loc) (cells slots : Nat) (QQ : State → Prop) (ls : Array Slot),
    Ctx p X s m args meth c D dA base → Rel D dA base b h s H → va_S (fun q => base ≤ q) s.heap H locs → LV base b ls (mxl X) lo → cells + bd.1 ≤ mcM X → slots + bd.2 ≤ msM X →
    (∀ (v : Option Value) (h' : HP) (H' : Heap) (locs' : List Loc) (cells' slots' pc' : Nat) (ls' : Array Slot), Rel D dA base b h' s H' → va_S (fun q => base ≤ q) s.heap H' locs' → cells' ≤ mcM X → slots' ≤ msM X → Q v h' → RetOK X v pc' → W p l e (rmM X) s m args below meth c H' locs' cells' slots' QQ (F0 m pc' ls' ((v.map (rv base b)).toList))) →
    W p l e (rmM X) s m args below meth c H locs cells slots QQ (F0 m pc ls (st.map (rv base b)))
section PSS
variable {l : Launch} {D : va_G} {dA : Nat → ClassId} {base b : Nat} {X pc : Nat} {lo : LO} {st : List Value} {h : HP} {bd : Nat × Nat} {Q : QT} (kn : List Nat)
theorem ps_iconst {n : Int} {v : Int32} (hv : Int32.ofInt n = v) (hd : decode (cod X) pc = .ok (.iconst n, 1)) (K : PS l D dA base b X (pc + 1) (kil kn lo) (.int v :: st) h bd Q) : PS l D dA base b X pc lo (st) h bd Q := by
  intro p e s m args below meth c H locs cells slots QQ ls C R S V hc hs E
  exact lv_iconst C.1 C.2.1 hd hv (K p e s m args below meth c H locs cells slots QQ ls C R S (LV_kil kn V) hc hs E)
theorem ps_bipush {n : Int} {v : Int32} (hv : (Int8.ofInt n).toInt32 = v) (hd : decode (cod X) pc = .ok (.bipush n, 2)) (K : PS l D dA base b X (pc + 2) (kil kn lo) (.int v :: st) h bd Q) : PS l D dA base b X pc lo (st) h bd Q := by
  intro p e s m args below meth c H locs cells slots QQ ls C R S V hc hs E
  exact lv_bipush C.1 C.2.1 hd hv (K p e s m args below meth c H locs cells slots QQ ls C R S (LV_kil kn V) hc hs E)
theorem ps_sipush {n : Int} {v : Int32} (hv : (Int16.ofInt n).toInt32 = v) (hd : decode (cod X) pc = .ok (.sipush n, 3)) (K : PS l D dA base b X (pc + 3) (kil kn lo) (.int v :: st) h bd Q) : PS l D dA base b X pc lo (st) h bd Q := by
  intro p e s m args below meth c H locs cells slots QQ ls C R S V hc hs E
  exact lv_sipush C.1 C.2.1 hd hv (K p e s m args below meth c H locs cells slots QQ ls C R S (LV_kil kn V) hc hs E)
theorem ps_lconst {n : Fin 2} {a : Nat} (hv : n.val = a) (hd : decode (cod X) pc = .ok (.lconst n, 1)) (K : PS l D dA base b X (pc + 1) (kil kn lo) (.long (lN a) :: st) h bd Q) : PS l D dA base b X pc lo (st) h bd Q := by
  intro p e s m args below meth c H locs cells slots QQ ls C R S V hc hs E
  exact lv_lconst C.1 C.2.1 hd (by rw [hv]; rfl) (K p e s m args below meth c H locs cells slots QQ ls C R S (LV_kil kn V) hc hs E)
theorem ps_ldc {idx a : Nat} {v : Int32} (hl : lkAtP (6, ownC X, idx, a, 0)) (hv : Int32.ofNat a = v) (hd : decode (cod X) pc = .ok (.ldc idx, 2)) (K : PS l D dA base b X (pc + 2) (kil kn lo) (.int v :: st) h bd Q) : PS l D dA base b X pc lo (st) h bd Q := by
  intro p e s m args below meth c H locs cells slots QQ ls C R S V hc hs E
  exact lv_ldc C.1 C.2.1 C.2.2.2.2.1 (C.2.2.2.2.2.1 _ (hl.2 (.constant (cN (ownC X)) idx v) (by rw [← hv]; exact List.mem_singleton.mpr rfl))) hd (K p e s m args below meth c H locs cells slots QQ ls C R S (LV_kil kn V) hc hs E)
theorem ps_ldc2 {idx a : Nat} (hl : lkAtP (7, ownC X, idx, a, 0)) (hd : decode (cod X) pc = .ok (.ldc2_w idx, 3)) (K : PS l D dA base b X (pc + 3) (kil kn lo) (.long (lN a) :: st) h bd Q) : PS l D dA base b X pc lo (st) h bd Q := by
  intro p e s m args below meth c H locs cells slots QQ ls C R S V hc hs E
  exact lv_ldc2 C.1 C.2.1 C.2.2.2.2.1 (C.2.2.2.2.2.1 _ (hl.2 _ (List.mem_singleton.mpr rfl))) hd (K p e s m args below meth c H locs cells slots QQ ls C R S (LV_kil kn V) hc hs E)
theorem ps_iload {i : Nat} {x : Int32} (hn : nth lo i = some (.int x)) (hd : decode (cod X) pc = .ok (.iload i, 2)) (K : PS l D dA base b X (pc + 2) (kil kn lo) (.int x :: st) h bd Q) : PS l D dA base b X pc lo (st) h bd Q := by
  intro p e s m args below meth c H locs cells slots QQ ls C R S V hc hs E
  exact lv_iload C.1 C.2.1 hd (V.2.2 i _ hn) (K p e s m args below meth c H locs cells slots QQ ls C R S (LV_kil kn V) hc hs E)
theorem ps_iload_n {i : Fin 4} {x : Int32} (hn : nth lo i.val = some (.int x)) (hd : decode (cod X) pc = .ok (.iload_n i, 1)) (K : PS l D dA base b X (pc + 1) (kil kn lo) (.int x :: st) h bd Q) : PS l D dA base b X pc lo (st) h bd Q := by
  intro p e s m args below meth c H locs cells slots QQ ls C R S V hc hs E
  exact lv_iload_n C.1 C.2.1 hd rfl (V.2.2 i.val _ hn) (K p e s m args below meth c H locs cells slots QQ ls C R S (LV_kil kn V) hc hs E)
theorem ps_lload {i : Nat} {x : Int64} (hn : nth lo i = some (.long x)) (hd : decode (cod X) pc = .ok (.lload i, 2)) (K : PS l D dA base b X (pc + 2) (kil kn lo) (.long x :: st) h bd Q) : PS l D dA base b X pc lo (st) h bd Q := by
  intro p e s m args below meth c H locs cells slots QQ ls C R S V hc hs E
  exact lv_lload C.1 C.2.1 hd (V.2.2 i _ hn) (K p e s m args below meth c H locs cells slots QQ ls C R S (LV_kil kn V) hc hs E)
theorem ps_lload_n {i : Fin 4} {x : Int64} (hn : nth lo i.val = some (.long x)) (hd : decode (cod X) pc = .ok (.lload_n i, 1)) (K : PS l D dA base b X (pc + 1) (kil kn lo) (.long x :: st) h bd Q) : PS l D dA base b X pc lo (st) h bd Q := by
  intro p e s m args below meth c H locs cells slots QQ ls C R S V hc hs E
  exact lv_lload_n C.1 C.2.1 hd rfl (V.2.2 i.val _ hn) (K p e s m args below meth c H locs cells slots QQ ls C R S (LV_kil kn V) hc hs E)
theorem ps_aload {i : Nat} {x : Nat} (hn : nth lo i = some (.ref x)) (hd : decode (cod X) pc = .ok (.aload i, 2)) (K : PS l D dA base b X (pc + 2) (kil kn lo) (.ref x :: st) h bd Q) : PS l D dA base b X pc lo (st) h bd Q := by
  intro p e s m args below meth c H locs cells slots QQ ls C R S V hc hs E
  exact lv_aload C.1 C.2.1 hd (V.2.2 i _ hn) (K p e s m args below meth c H locs cells slots QQ ls C R S (LV_kil kn V) hc hs E)
theorem ps_aload_n {i : Fin 4} {x : Nat} (hn : nth lo i.val = some (.ref x)) (hd : decode (cod X) pc = .ok (.aload_n i, 1)) (K : PS l D dA base b X (pc + 1) (kil kn lo) (.ref x :: st) h bd Q) : PS l D dA base b X pc lo (st) h bd Q := by
  intro p e s m args below meth c H locs cells slots QQ ls C R S V hc hs E
  exact lv_aload_n C.1 C.2.1 hd rfl (V.2.2 i.val _ hn) (K p e s m args below meth c H locs cells slots QQ ls C R S (LV_kil kn V) hc hs E)
theorem ps_iadd {x y : Int32} (hd : decode (cod X) pc = .ok (.iadd, 1)) (K : PS l D dA base b X (pc + 1) (kil kn lo) (.int (x + y) :: st) h bd Q) : PS l D dA base b X pc lo (.int y :: .int x :: st) h bd Q := by
  intro p e s m args below meth c H locs cells slots QQ ls C R S V hc hs E
  exact lv_iadd C.1 C.2.1 hd (K p e s m args below meth c H locs cells slots QQ ls C R S (LV_kil kn V) hc hs E)
theorem ps_isub {x y : Int32} (hd : decode (cod X) pc = .ok (.isub, 1)) (K : PS l D dA base b X (pc + 1) (kil kn lo) (.int (x - y) :: st) h bd Q) : PS l D dA base b X pc lo (.int y :: .int x :: st) h bd Q := by
  intro p e s m args below meth c H locs cells slots QQ ls C R S V hc hs E
  exact lv_isub C.1 C.2.1 hd (K p e s m args below meth c H locs cells slots QQ ls C R S (LV_kil kn V) hc hs E)
theorem ps_imul {x y : Int32} (hd : decode (cod X) pc = .ok (.imul, 1)) (K : PS l D dA base b X (pc + 1) (kil kn lo) (.int (x * y) :: st) h bd Q) : PS l D dA base b X pc lo (.int y :: .int x :: st) h bd Q := by
  intro p e s m args below meth c H locs cells slots QQ ls C R S V hc hs E
  exact lv_imul C.1 C.2.1 hd (K p e s m args below meth c H locs cells slots QQ ls C R S (LV_kil kn V) hc hs E)
theorem ps_iand {x y : Int32} (hd : decode (cod X) pc = .ok (.iand, 1)) (K : PS l D dA base b X (pc + 1) (kil kn lo) (.int (x &&& y) :: st) h bd Q) : PS l D dA base b X pc lo (.int y :: .int x :: st) h bd Q := by
  intro p e s m args below meth c H locs cells slots QQ ls C R S V hc hs E
  exact lv_iand C.1 C.2.1 hd (K p e s m args below meth c H locs cells slots QQ ls C R S (LV_kil kn V) hc hs E)
theorem ps_ior {x y : Int32} (hd : decode (cod X) pc = .ok (.ior, 1)) (K : PS l D dA base b X (pc + 1) (kil kn lo) (.int (x ||| y) :: st) h bd Q) : PS l D dA base b X pc lo (.int y :: .int x :: st) h bd Q := by
  intro p e s m args below meth c H locs cells slots QQ ls C R S V hc hs E
  exact lv_ior C.1 C.2.1 hd (K p e s m args below meth c H locs cells slots QQ ls C R S (LV_kil kn V) hc hs E)
theorem ps_idiv {x y : Int32} (hy : ¬ y = 0) (hd : decode (cod X) pc = .ok (.idiv, 1)) (K : PS l D dA base b X (pc + 1) (kil kn lo) (.int (x / y) :: st) h bd Q) : PS l D dA base b X pc lo (.int y :: .int x :: st) h bd Q := by
  intro p e s m args below meth c H locs cells slots QQ ls C R S V hc hs E
  exact lv_idiv C.1 C.2.1 hd hy (K p e s m args below meth c H locs cells slots QQ ls C R S (LV_kil kn V) hc hs E)
theorem ps_land {x y : Int64} (hd : decode (cod X) pc = .ok (.land, 1)) (K : PS l D dA base b X (pc + 1) (kil kn lo) (.long (x &&& y) :: st) h bd Q) : PS l D dA base b X pc lo (.long y :: .long x :: st) h bd Q := by
  intro p e s m args below meth c H locs cells slots QQ ls C R S V hc hs E
  exact lv_land C.1 C.2.1 hd (K p e s m args below meth c H locs cells slots QQ ls C R S (LV_kil kn V) hc hs E)
theorem ps_lor {x y : Int64} (hd : decode (cod X) pc = .ok (.lor, 1)) (K : PS l D dA base b X (pc + 1) (kil kn lo) (.long (x ||| y) :: st) h bd Q) : PS l D dA base b X pc lo (.long y :: .long x :: st) h bd Q := by
  intro p e s m args below meth c H locs cells slots QQ ls C R S V hc hs E
  exact lv_lor C.1 C.2.1 hd (K p e s m args below meth c H locs cells slots QQ ls C R S (LV_kil kn V) hc hs E)
theorem ps_lshl {x : Int64} {y : Int32} (hd : decode (cod X) pc = .ok (.lshl, 1)) (K : PS l D dA base b X (pc + 1) (kil kn lo) (.long (x <<< (y.toInt64 &&& 63)) :: st) h bd Q) : PS l D dA base b X pc lo (.int y :: .long x :: st) h bd Q := by
  intro p e s m args below meth c H locs cells slots QQ ls C R S V hc hs E
  exact lv_lshl C.1 C.2.1 hd rfl (K p e s m args below meth c H locs cells slots QQ ls C R S (LV_kil kn V) hc hs E)
theorem ps_lshr {x : Int64} {y : Int32} (hd : decode (cod X) pc = .ok (.lshr, 1)) (K : PS l D dA base b X (pc + 1) (kil kn lo) (.long (x >>> (y.toInt64 &&& 63)) :: st) h bd Q) : PS l D dA base b X pc lo (.int y :: .long x :: st) h bd Q := by
  intro p e s m args below meth c H locs cells slots QQ ls C R S V hc hs E
  exact lv_lshr C.1 C.2.1 hd rfl (K p e s m args below meth c H locs cells slots QQ ls C R S (LV_kil kn V) hc hs E)
theorem ps_lushr {x : Int64} {y : Int32} (hd : decode (cod X) pc = .ok (.lushr, 1)) (K : PS l D dA base b X (pc + 1) (kil kn lo) (.long ((x.toUInt64 >>> (y.toInt64.toUInt64 &&& Int64.toUInt64 63)).toInt64) :: st) h bd Q) : PS l D dA base b X pc lo (.int y :: .long x :: st) h bd Q := by
  intro p e s m args below meth c H locs cells slots QQ ls C R S V hc hs E
  exact lv_lushr C.1 C.2.1 hd rfl (K p e s m args below meth c H locs cells slots QQ ls C R S (LV_kil kn V) hc hs E)
theorem ps_i2l {x : Int32} (hd : decode (cod X) pc = .ok (.i2l, 1)) (K : PS l D dA base b X (pc + 1) (kil kn lo) (.long x.toInt64 :: st) h bd Q) : PS l D dA base b X pc lo (.int x :: st) h bd Q := by
  intro p e s m args below meth c H locs cells slots QQ ls C R S V hc hs E
  exact lv_i2l C.1 C.2.1 hd rfl (K p e s m args below meth c H locs cells slots QQ ls C R S (LV_kil kn V) hc hs E)
theorem ps_l2i {x : Int64} (hd : decode (cod X) pc = .ok (.l2i, 1)) (K : PS l D dA base b X (pc + 1) (kil kn lo) (.int x.toInt32 :: st) h bd Q) : PS l D dA base b X pc lo (.long x :: st) h bd Q := by
  intro p e s m args below meth c H locs cells slots QQ ls C R S V hc hs E
  exact lv_l2i C.1 C.2.1 hd rfl (K p e s m args below meth c H locs cells slots QQ ls C R S (LV_kil kn V) hc hs E)
theorem ps_i2b {x : Int32} (hd : decode (cod X) pc = .ok (.i2b, 1)) (K : PS l D dA base b X (pc + 1) (kil kn lo) (.int x.toInt8.toInt32 :: st) h bd Q) : PS l D dA base b X pc lo (.int x :: st) h bd Q := by
  intro p e s m args below meth c H locs cells slots QQ ls C R S V hc hs E
  exact lv_i2b C.1 C.2.1 hd rfl (K p e s m args below meth c H locs cells slots QQ ls C R S (LV_kil kn V) hc hs E)
theorem ps_lcmp {x y : Int64} (hd : decode (cod X) pc = .ok (.lcmp, 1)) (K : PS l D dA base b X (pc + 1) (kil kn lo) (.int (lg_cmp x y) :: st) h bd Q) : PS l D dA base b X pc lo (.long y :: .long x :: st) h bd Q := by
  intro p e s m args below meth c H locs cells slots QQ ls C R S V hc hs E
  exact W.lcmp C.1 C.2.1 hd (K p e s m args below meth c H locs cells slots QQ ls C R S (LV_kil kn V) hc hs E)
theorem ps_dupI {x : Int32} (hd : decode (cod X) pc = .ok (.dup, 1)) (K : PS l D dA base b X (pc + 1) (kil kn lo) (.int x :: .int x :: st) h bd Q) : PS l D dA base b X pc lo (.int x :: st) h bd Q := by
  intro p e s m args below meth c H locs cells slots QQ ls C R S V hc hs E
  exact lv_dup C.1 C.2.1 hd rfl (K p e s m args below meth c H locs cells slots QQ ls C R S (LV_kil kn V) hc hs E)
theorem ps_dupR {x : Nat} (hd : decode (cod X) pc = .ok (.dup, 1)) (K : PS l D dA base b X (pc + 1) (kil kn lo) (.ref x :: .ref x :: st) h bd Q) : PS l D dA base b X pc lo (.ref x :: st) h bd Q := by
  intro p e s m args below meth c H locs cells slots QQ ls C R S V hc hs E
  exact lv_dup C.1 C.2.1 hd rfl (K p e s m args below meth c H locs cells slots QQ ls C R S (LV_kil kn V) hc hs E)
theorem ps_dup2 {y : Int32} {x : Nat} (hd : decode (cod X) pc = .ok (.dup2, 1)) (K : PS l D dA base b X (pc + 1) (kil kn lo) (.int y :: .ref x :: .int y :: .ref x :: st) h bd Q) : PS l D dA base b X pc lo (.int y :: .ref x :: st) h bd Q := by
  intro p e s m args below meth c H locs cells slots QQ ls C R S V hc hs E
  exact lv_dup2_11 C.1 C.2.1 hd rfl rfl (K p e s m args below meth c H locs cells slots QQ ls C R S (LV_kil kn V) hc hs E)
theorem ps_pop {x : Int32} (hd : decode (cod X) pc = .ok (.pop, 1)) (K : PS l D dA base b X (pc + 1) (kil kn lo) (st) h bd Q) : PS l D dA base b X pc lo (.int x :: st) h bd Q := by
  intro p e s m args below meth c H locs cells slots QQ ls C R S V hc hs E
  exact lv_pop C.1 C.2.1 hd rfl (K p e s m args below meth c H locs cells slots QQ ls C R S (LV_kil kn V) hc hs E)
theorem ps_istore {i : Nat} {x : Int32} (hn : i < mxl X) (hg : lgb lo i = true) (hd : decode (cod X) pc = .ok (.istore i, 2)) (K : PS l D dA base b X (pc + 2) (kil kn (sto lo i (some (.int x)))) st h bd Q) : PS l D dA base b X pc lo (.int x :: st) h bd Q := by
  intro p e s m args below meth c H locs cells slots QQ ls C R S V hc hs E
  exact lv_istore C.1 C.2.1 hd (LV_has V) hn rfl (fun ls2 V2 => K p e s m args below meth c H locs cells slots QQ ls2 C R S (LV_kil kn (LV_store1 (v := .int x) hg V2)) hc hs E)
theorem ps_istore_n {i : Fin 4} {x : Int32} (hn : i.val < mxl X) (hg : lgb lo i.val = true) (hd : decode (cod X) pc = .ok (.istore_n i, 1)) (K : PS l D dA base b X (pc + 1) (kil kn (sto lo i.val (some (.int x)))) st h bd Q) : PS l D dA base b X pc lo (.int x :: st) h bd Q := by
  intro p e s m args below meth c H locs cells slots QQ ls C R S V hc hs E
  exact lv_istore_n C.1 C.2.1 hd rfl (LV_has V) hn rfl (fun ls2 V2 => K p e s m args below meth c H locs cells slots QQ ls2 C R S (LV_kil kn (LV_store1 (v := .int x) hg V2)) hc hs E)
theorem ps_lstore {i : Nat} {x : Int64} (hn : i + 1 < mxl X) (hg : lgb lo i = true) (hd : decode (cod X) pc = .ok (.lstore i, 2)) (K : PS l D dA base b X (pc + 2) (kil kn (sto (sto lo i (some (.long x))) (i + 1) none)) st h bd Q) : PS l D dA base b X pc lo (.long x :: st) h bd Q := by
  intro p e s m args below meth c H locs cells slots QQ ls C R S V hc hs E
  exact lv_lstore C.1 C.2.1 hd (LV_has V) hn rfl (fun ls2 V2 => K p e s m args below meth c H locs cells slots QQ ls2 C R S (LV_kil kn (LV_store2 (v := .long x) hg V2)) hc hs E)
theorem ps_lstore_n {i : Fin 4} {x : Int64} (hn : i.val + 1 < mxl X) (hg : lgb lo i.val = true) (hd : decode (cod X) pc = .ok (.lstore_n i, 1)) (K : PS l D dA base b X (pc + 1) (kil kn (sto (sto lo i.val (some (.long x))) (i.val + 1) none)) st h bd Q) : PS l D dA base b X pc lo (.long x :: st) h bd Q := by
  intro p e s m args below meth c H locs cells slots QQ ls C R S V hc hs E
  exact lv_lstore_n C.1 C.2.1 hd rfl (LV_has V) hn rfl (fun ls2 V2 => K p e s m args below meth c H locs cells slots QQ ls2 C R S (LV_kil kn (LV_store2 (v := .long x) hg V2)) hc hs E)
theorem ps_astore {i : Nat} {x : Nat} (hn : i < mxl X) (hg : lgb lo i = true) (hd : decode (cod X) pc = .ok (.astore i, 2)) (K : PS l D dA base b X (pc + 2) (kil kn (sto lo i (some (.ref x)))) st h bd Q) : PS l D dA base b X pc lo (.ref x :: st) h bd Q := by
  intro p e s m args below meth c H locs cells slots QQ ls C R S V hc hs E
  exact lv_astore C.1 C.2.1 hd (LV_has V) hn rfl (fun ls2 V2 => K p e s m args below meth c H locs cells slots QQ ls2 C R S (LV_kil kn (LV_store1 (v := .ref x) hg V2)) hc hs E)
theorem ps_astore_n {i : Fin 4} {x : Nat} (hn : i.val < mxl X) (hg : lgb lo i.val = true) (hd : decode (cod X) pc = .ok (.astore_n i, 1)) (K : PS l D dA base b X (pc + 1) (kil kn (sto lo i.val (some (.ref x)))) st h bd Q) : PS l D dA base b X pc lo (.ref x :: st) h bd Q := by
  intro p e s m args below meth c H locs cells slots QQ ls C R S V hc hs E
  exact lv_astore_n C.1 C.2.1 hd rfl (LV_has V) hn rfl (fun ls2 V2 => K p e s m args below meth c H locs cells slots QQ ls2 C R S (LV_kil kn (LV_store1 (v := .ref x) hg V2)) hc hs E)
theorem ps_iinc {i : Nat} {n : Int} {x v : Int32} (hv : Int32.ofInt n = v) (hx : nth lo i = some (.int x)) (hn : i < mxl X) (hg : lgb lo i = true) (hd : decode (cod X) pc = .ok (.iinc i n, 3)) (K : PS l D dA base b X (pc + 3) (kil kn (sto lo i (some (.int (x + v))))) st h bd Q) : PS l D dA base b X pc lo st h bd Q := by
  intro p e s m args below meth c H locs cells slots QQ ls C R S V hc hs E
  obtain ⟨k, hk⟩ := List.getElem?_of_mem (lvO_mem (base := base) (b := b) hx)
  exact lv_iinc C.1 C.2.1 hd (LV_has V) hk rfl hn rfl (fun ls2 V2 => K p e s m args below meth c H locs cells slots QQ ls2 C R S (LV_kil kn (LV_store1 (v := .int (x + v)) hg (by rw [← hv]; exact V2))) hc hs E)
theorem ps_icmp_eq (ka : List Nat) {x y : Int32} {off : Int} {t : Nat} (ht : (pc : Int) + off = (t : Int)) (hd : decode (cod X) pc = .ok (.if_icmp .eq off, 3)) (K1 : x = y → PS l D dA base b X t (kil ka lo) st h bd Q) (K2 : ¬ x = y → PS l D dA base b X (pc + 3) (kil kn lo) st h bd Q) : PS l D dA base b X pc lo (.int y :: .int x :: st) h bd Q := by
  intro p e s m args below meth c H locs cells slots QQ ls C R S V hc hs E
  exact lv_icmp_eq C.1 C.2.1 hd ht (fun q => K1 q p e s m args below meth c H locs cells slots QQ ls C R S (LV_kil ka V) hc hs E) (fun q => K2 q p e s m args below meth c H locs cells slots QQ ls C R S (LV_kil kn V) hc hs E)
theorem ps_if_eq (ka : List Nat) {x : Int32} {off : Int} {t : Nat} (ht : (pc : Int) + off = (t : Int)) (hd : decode (cod X) pc = .ok (.ifCond .eq off, 3)) (K1 : x = 0 → PS l D dA base b X t (kil ka lo) st h bd Q) (K2 : ¬ x = 0 → PS l D dA base b X (pc + 3) (kil kn lo) st h bd Q) : PS l D dA base b X pc lo (.int x :: st) h bd Q := by
  intro p e s m args below meth c H locs cells slots QQ ls C R S V hc hs E
  exact lv_if_eq C.1 C.2.1 hd ht (fun q => K1 q p e s m args below meth c H locs cells slots QQ ls C R S (LV_kil ka V) hc hs E) (fun q => K2 q p e s m args below meth c H locs cells slots QQ ls C R S (LV_kil kn V) hc hs E)
theorem ps_icmp_ne (ka : List Nat) {x y : Int32} {off : Int} {t : Nat} (ht : (pc : Int) + off = (t : Int)) (hd : decode (cod X) pc = .ok (.if_icmp .ne off, 3)) (K1 : ¬ x = y → PS l D dA base b X t (kil ka lo) st h bd Q) (K2 : x = y → PS l D dA base b X (pc + 3) (kil kn lo) st h bd Q) : PS l D dA base b X pc lo (.int y :: .int x :: st) h bd Q := by
  intro p e s m args below meth c H locs cells slots QQ ls C R S V hc hs E
  exact lv_icmp_ne C.1 C.2.1 hd ht (fun q => K1 q p e s m args below meth c H locs cells slots QQ ls C R S (LV_kil ka V) hc hs E) (fun q => K2 q p e s m args below meth c H locs cells slots QQ ls C R S (LV_kil kn V) hc hs E)
theorem ps_if_ne (ka : List Nat) {x : Int32} {off : Int} {t : Nat} (ht : (pc : Int) + off = (t : Int)) (hd : decode (cod X) pc = .ok (.ifCond .ne off, 3)) (K1 : ¬ x = 0 → PS l D dA base b X t (kil ka lo) st h bd Q) (K2 : x = 0 → PS l D dA base b X (pc + 3) (kil kn lo) st h bd Q) : PS l D dA base b X pc lo (.int x :: st) h bd Q := by
  intro p e s m args below meth c H locs cells slots QQ ls C R S V hc hs E
  exact lv_if_ne C.1 C.2.1 hd ht (fun q => K1 q p e s m args below meth c H locs cells slots QQ ls C R S (LV_kil ka V) hc hs E) (fun q => K2 q p e s m args below meth c H locs cells slots QQ ls C R S (LV_kil kn V) hc hs E)
theorem ps_icmp_lt (ka : List Nat) {x y : Int32} {off : Int} {t : Nat} (ht : (pc : Int) + off = (t : Int)) (hd : decode (cod X) pc = .ok (.if_icmp .lt off, 3)) (K1 : x < y → PS l D dA base b X t (kil ka lo) st h bd Q) (K2 : ¬ x < y → PS l D dA base b X (pc + 3) (kil kn lo) st h bd Q) : PS l D dA base b X pc lo (.int y :: .int x :: st) h bd Q := by
  intro p e s m args below meth c H locs cells slots QQ ls C R S V hc hs E
  exact lv_icmp_lt C.1 C.2.1 hd ht (fun q => K1 q p e s m args below meth c H locs cells slots QQ ls C R S (LV_kil ka V) hc hs E) (fun q => K2 q p e s m args below meth c H locs cells slots QQ ls C R S (LV_kil kn V) hc hs E)
theorem ps_if_lt (ka : List Nat) {x : Int32} {off : Int} {t : Nat} (ht : (pc : Int) + off = (t : Int)) (hd : decode (cod X) pc = .ok (.ifCond .lt off, 3)) (K1 : x < 0 → PS l D dA base b X t (kil ka lo) st h bd Q) (K2 : ¬ x < 0 → PS l D dA base b X (pc + 3) (kil kn lo) st h bd Q) : PS l D dA base b X pc lo (.int x :: st) h bd Q := by
  intro p e s m args below meth c H locs cells slots QQ ls C R S V hc hs E
  exact lv_if_lt C.1 C.2.1 hd ht (fun q => K1 q p e s m args below meth c H locs cells slots QQ ls C R S (LV_kil ka V) hc hs E) (fun q => K2 q p e s m args below meth c H locs cells slots QQ ls C R S (LV_kil kn V) hc hs E)
theorem ps_icmp_ge (ka : List Nat) {x y : Int32} {off : Int} {t : Nat} (ht : (pc : Int) + off = (t : Int)) (hd : decode (cod X) pc = .ok (.if_icmp .ge off, 3)) (K1 : y ≤ x → PS l D dA base b X t (kil ka lo) st h bd Q) (K2 : ¬ y ≤ x → PS l D dA base b X (pc + 3) (kil kn lo) st h bd Q) : PS l D dA base b X pc lo (.int y :: .int x :: st) h bd Q := by
  intro p e s m args below meth c H locs cells slots QQ ls C R S V hc hs E
  exact lv_icmp_ge C.1 C.2.1 hd ht (fun q => K1 q p e s m args below meth c H locs cells slots QQ ls C R S (LV_kil ka V) hc hs E) (fun q => K2 q p e s m args below meth c H locs cells slots QQ ls C R S (LV_kil kn V) hc hs E)
theorem ps_if_ge (ka : List Nat) {x : Int32} {off : Int} {t : Nat} (ht : (pc : Int) + off = (t : Int)) (hd : decode (cod X) pc = .ok (.ifCond .ge off, 3)) (K1 : 0 ≤ x → PS l D dA base b X t (kil ka lo) st h bd Q) (K2 : ¬ 0 ≤ x → PS l D dA base b X (pc + 3) (kil kn lo) st h bd Q) : PS l D dA base b X pc lo (.int x :: st) h bd Q := by
  intro p e s m args below meth c H locs cells slots QQ ls C R S V hc hs E
  exact lv_if_ge C.1 C.2.1 hd ht (fun q => K1 q p e s m args below meth c H locs cells slots QQ ls C R S (LV_kil ka V) hc hs E) (fun q => K2 q p e s m args below meth c H locs cells slots QQ ls C R S (LV_kil kn V) hc hs E)
theorem ps_icmp_gt (ka : List Nat) {x y : Int32} {off : Int} {t : Nat} (ht : (pc : Int) + off = (t : Int)) (hd : decode (cod X) pc = .ok (.if_icmp .gt off, 3)) (K1 : y < x → PS l D dA base b X t (kil ka lo) st h bd Q) (K2 : ¬ y < x → PS l D dA base b X (pc + 3) (kil kn lo) st h bd Q) : PS l D dA base b X pc lo (.int y :: .int x :: st) h bd Q := by
  intro p e s m args below meth c H locs cells slots QQ ls C R S V hc hs E
  exact lv_icmp_gt C.1 C.2.1 hd ht (fun q => K1 q p e s m args below meth c H locs cells slots QQ ls C R S (LV_kil ka V) hc hs E) (fun q => K2 q p e s m args below meth c H locs cells slots QQ ls C R S (LV_kil kn V) hc hs E)
theorem ps_if_gt (ka : List Nat) {x : Int32} {off : Int} {t : Nat} (ht : (pc : Int) + off = (t : Int)) (hd : decode (cod X) pc = .ok (.ifCond .gt off, 3)) (K1 : 0 < x → PS l D dA base b X t (kil ka lo) st h bd Q) (K2 : ¬ 0 < x → PS l D dA base b X (pc + 3) (kil kn lo) st h bd Q) : PS l D dA base b X pc lo (.int x :: st) h bd Q := by
  intro p e s m args below meth c H locs cells slots QQ ls C R S V hc hs E
  exact lv_if_gt C.1 C.2.1 hd ht (fun q => K1 q p e s m args below meth c H locs cells slots QQ ls C R S (LV_kil ka V) hc hs E) (fun q => K2 q p e s m args below meth c H locs cells slots QQ ls C R S (LV_kil kn V) hc hs E)
theorem ps_icmp_le (ka : List Nat) {x y : Int32} {off : Int} {t : Nat} (ht : (pc : Int) + off = (t : Int)) (hd : decode (cod X) pc = .ok (.if_icmp .le off, 3)) (K1 : x ≤ y → PS l D dA base b X t (kil ka lo) st h bd Q) (K2 : ¬ x ≤ y → PS l D dA base b X (pc + 3) (kil kn lo) st h bd Q) : PS l D dA base b X pc lo (.int y :: .int x :: st) h bd Q := by
  intro p e s m args below meth c H locs cells slots QQ ls C R S V hc hs E
  exact lv_icmp_le C.1 C.2.1 hd ht (fun q => K1 q p e s m args below meth c H locs cells slots QQ ls C R S (LV_kil ka V) hc hs E) (fun q => K2 q p e s m args below meth c H locs cells slots QQ ls C R S (LV_kil kn V) hc hs E)
theorem ps_if_le (ka : List Nat) {x : Int32} {off : Int} {t : Nat} (ht : (pc : Int) + off = (t : Int)) (hd : decode (cod X) pc = .ok (.ifCond .le off, 3)) (K1 : x ≤ 0 → PS l D dA base b X t (kil ka lo) st h bd Q) (K2 : ¬ x ≤ 0 → PS l D dA base b X (pc + 3) (kil kn lo) st h bd Q) : PS l D dA base b X pc lo (.int x :: st) h bd Q := by
  intro p e s m args below meth c H locs cells slots QQ ls C R S V hc hs E
  exact lv_if_le C.1 C.2.1 hd ht (fun q => K1 q p e s m args below meth c H locs cells slots QQ ls C R S (LV_kil ka V) hc hs E) (fun q => K2 q p e s m args below meth c H locs cells slots QQ ls C R S (LV_kil kn V) hc hs E)
theorem ps_goto {off : Int} {t : Nat} (ht : (pc : Int) + off = (t : Int)) (hd : decode (cod X) pc = .ok (.goto off, 3)) (K : PS l D dA base b X t (kil kn lo) st h bd Q) : PS l D dA base b X pc lo st h bd Q := by
  intro p e s m args below meth c H locs cells slots QQ ls C R S V hc hs E
  exact lv_goto C.1 C.2.1 hd ht (K p e s m args below meth c H locs cells slots QQ ls C R S (LV_kil kn V) hc hs E)
theorem ps_table {d lw u : Int} {offs : Array Int} {len t : Nat} {x : Int32} (ht : (pc : Int) + d = (t : Int)) (ho : ∀ o ∈ offs.toList, 0 ≤ (pc : Int) + o) (hz : u + 1 - lw = (offs.size : Int)) (hd : decode (cod X) pc = .ok (.tableswitch d lw u offs, len))
    (K1 : x.toInt < lw ∨ u < x.toInt → PS l D dA base b X t (kil kn lo) st h bd Q) (K2 : ∀ (j : Nat) (off : Int), offs[j]? = some off → x.toInt = lw + j → PS l D dA base b X ((pc : Int) + off).toNat (kil kn lo) st h bd Q) : PS l D dA base b X pc lo (.int x :: st) h bd Q := by
  intro p e s m args below meth c H locs cells slots QQ ls C R S V hc hs E
  by_cases q : x.toInt < lw ∨ u < x.toInt
  · exact lv_tableOut C.1 C.2.1 hd q ht (K1 q p e s m args below meth c H locs cells slots QQ ls C R S (LV_kil kn V) hc hs E)
  · have q1 : ¬ x.toInt < lw := fun z => q (Or.inl z)
    have q2 : ¬ u < x.toInt := fun z => q (Or.inr z)
    have hj : (x.toInt - lw).toNat < offs.size := by omega
    have hg : offs[(x.toInt - lw).toNat]? = some offs[(x.toInt - lw).toNat] := Array.getElem?_eq_getElem hj
    have h0 := ho offs[(x.toInt - lw).toNat] (by simp)
    exact lv_tableIn C.1 C.2.1 hd q1 q2 hg (tgt := ((pc : Int) + offs[(x.toInt - lw).toNat]).toNat) (by omega) (K2 _ _ hg (by omega) p e s m args below meth c H locs cells slots QQ ls C R S (LV_kil kn V) hc hs E)
theorem lsw_nonneg {pc : Nat} {x : Int} {d : Int} : ∀ {ps : List (Int × Int)}, 0 ≤ (pc : Int) + d → (∀ q ∈ ps, 0 ≤ (pc : Int) + q.2) → 0 ≤ (pc : Int) + Op.lookupswitch.offset ps d x
  | [], h, _ => h
  | (k, o) :: ps, h, hp => by
    rw [Op.lookupswitch.offset_cons]
    split
    · exact hp (k, o) List.mem_cons_self
    · exact lsw_nonneg h (fun q hq => hp q (List.mem_cons_of_mem _ hq))
theorem ps_lookup {d : Int} {ps : Array (Int × Int)} {len : Nat} {x : Int32} (h1 : (ps.toList.zip (ps.toList.drop 1)).all (fun (a, next) => a.1 < next.1) = true) (h2 : 0 ≤ (pc : Int) + d) (h3 : ∀ q ∈ ps.toList, 0 ≤ (pc : Int) + q.2) (hd : decode (cod X) pc = .ok (.lookupswitch d ps, len))
    (K : PS l D dA base b X ((pc : Int) + Op.lookupswitch.offset ps.toList d x.toInt).toNat (kil kn lo) st h bd Q) : PS l D dA base b X pc lo (.int x :: st) h bd Q := by
  intro p e s m args below meth c H locs cells slots QQ ls C R S V hc hs E
  have h4 := lsw_nonneg (x := x.toInt) h2 h3
  exact lv_lookup C.1 C.2.1 hd h1 rfl (tgt := ((pc : Int) + Op.lookupswitch.offset ps.toList d x.toInt).toNat) (by omega) (K p e s m args below meth c H locs cells slots QQ ls C R S (LV_kil kn V) hc hs E)
theorem ps_ireturn {v : Int32} (hd : decode (cod X) pc = .ok (.ireturn, 1)) (hr : rk X = 1 ∨ rk X = 3 ∧ (v = 0 ∨ v = 1)) (hQ : Q (some (.int v)) h) : PS l D dA base b X pc lo [.int v] h bd Q := by
  intro p e s m args below meth c H locs cells slots QQ ls C R S V hc hs E
  refine E (some (.int v)) h H locs cells slots pc ls R S (by omega) (by omega) hQ ?_
  rcases hr with hr | ⟨hr, hv⟩
  · exact Or.inr (Or.inl ⟨hr, ⟨v, rfl⟩, hd⟩)
  · exact Or.inr (Or.inr (Or.inl ⟨hr, ⟨v, rfl, hv⟩, hd⟩))
theorem ps_lreturn {v : Int64} (hd : decode (cod X) pc = .ok (.lreturn, 1)) (hr : rk X = 2) (hQ : Q (some (.long v)) h) : PS l D dA base b X pc lo [.long v] h bd Q := by
  intro p e s m args below meth c H locs cells slots QQ ls C R S V hc hs E
  exact E (some (.long v)) h H locs cells slots pc ls R S (by omega) (by omega) hQ (Or.inr (Or.inr (Or.inr ⟨hr, ⟨v, rfl⟩, hd⟩)))
theorem ps_return (hd : decode (cod X) pc = .ok (.return_, 1)) (hr : rk X = 0) (hQ : Q none h) : PS l D dA base b X pc lo [] h bd Q := by
  intro p e s m args below meth c H locs cells slots QQ ls C R S V hc hs E
  exact E none h H locs cells slots pc ls R S (by omega) (by omega) hQ (Or.inl ⟨hr, rfl, hd⟩)
end PSS
