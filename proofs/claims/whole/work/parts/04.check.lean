/-! the tables are the code's, the links the pool's: by the kernel -/
def gtbl : List Cond := lw_tbl.filter goodWord
theorem mem_gtbl {w : Cond} (h : (decide (w ∈ lw_tbl) && goodWord w) = true) : w ∈ gtbl := by
  simp only [Bool.and_eq_true, decide_eq_true_eq] at h
  exact List.mem_filter.mpr h
def clT (ci : Nat) : u_T := (classes.getD ci ("", fun _ => ("", "", "", false), 0)).2.1
/-- what a method's own words are -/
def moC (a : Nat) : List Cond := [.code (yM a) (cod a) (mxl a) (rtyK (rk a)), .initialized (yM a).cls]
def moB (a b : Nat) : Bool := decide ((yM a).cls = cN (ownC a)) && decide ((yM a).cls ≠ "java/lang/invoke/MethodHandle") && decide ((yM a).cls ≠ "java/lang/invoke/VarHandle") && decide ((parseMethodDescriptor (yM a).desc).map (fun d => d.parameters.length) = some b) && plainName (yM a).cls && decide (mxl a ≤ 19)
def lkC : LK → List Cond
  | (0, o, idx, a, b) => [.fieldLink (cN o) idx (clT a b).1 (clT a b).2.1 (clT a b).2.2.1]
  | (1, o, idx, a, _) => [.methodLink (cN o) idx (yM a), .instanceMethod (yM a), .selects (cN (ownC a)) (yM a) (yM a)] ++ moC a
  | (2, o, idx, a, _) => [.methodLink (cN o) idx (yM a), .static (yM a)] ++ moC a
  | (3, o, idx, a, _) => [.methodLink (cN o) idx (yM a), .instanceMethod (yM a)] ++ moC a
  | (4, o, idx, a, _) => [.classLink (cN o) idx (cN a)]
  | (5, o, idx, a, _) => [.classLink (cN o) idx (cN a)]
  | (6, o, idx, a, _) => [.constant (cN o) idx (Int32.ofNat a)]
  | (7, o, idx, a, _) => [.constantLong (cN o) idx (lN a)]
  | (8, o, idx, _, _) => [.methodLink (cN o) idx objectInit, .instanceMethod objectInit, .code objectInit ⟨#[0xb1]⟩ 1 none]
  | (11, o, idx, _, _) => [.methodLink (cN o) idx Lib.Math.max.name, .static Lib.Math.max.name, .initialized "java/lang/Math", .code Lib.Math.max.name Lib.Math.max.code 2 (some .int)]
  | (12, o, idx, _, _) => [.methodLink (cN o) idx Lib.Math.min.name, .static Lib.Math.min.name, .initialized "java/lang/Math", .code Lib.Math.min.name Lib.Math.min.code 2 (some .int)]
  | (9, o, idx, _, _) => [.methodLink (cN o) idx arraycopyName, .native arraycopyName, .static arraycopyName, .initialized "java/lang/System"]
  | (_, _, _, a, _) => [.instanceMethod (yM a)] ++ moC a
def lkB : LK → Bool
  | (0, _, _, a, b) => decide (a < 11) && decide (b < nF a)
  | (1, _, _, a, b) => moB a b && decide (ownC a < 11)
  | (2, _, _, a, b) => moB a b
  | (3, _, _, a, b) => moB a b && decide ((yM a).name = "<init>") && decide (rk a = 0)
  | (4, _, _, a, b) => decide (a < 11) && decide (b = nF a)
  | (5, _, _, a, b) => decide (a = 6 ∧ b = 104 ∨ a = 7 ∧ b = 105)
  | (10, o, idx, a, b) => moB a b && decide ((yM a).name = "<init>") && decide (rk a = 0) && decide ((o, idx, a) = (9, 34, 1) ∨ (o, idx, a) = (9, 50, 56) ∨ (o, idx, a) = (9, 57, 6))
  | _ => true
def lkAt (j : Nat) (r : LK) : Bool := decide (lks[j]? = some r)
def okI (X pc : Nat) (i : Instr) (nx a b j : Nat) (c : Int32) : Bool := match i with
  | .iconst n => decide (Int32.ofInt n = c)
  | .bipush n => decide ((Int8.ofInt n).toInt32 = c)
  | .sipush n => decide ((Int16.ofInt n).toInt32 = c)
  | .iinc i n => decide (Int32.ofInt n = c) && decide (i < mxl X)
  | .istore i => decide (i < mxl X)
  | .istore_n i => decide (i.val < mxl X)
  | .astore i => decide (i < mxl X)
  | .astore_n i => decide (i.val < mxl X)
  | .lstore i => decide (i + 1 < mxl X)
  | .lstore_n i => decide (i.val + 1 < mxl X)
  | .lconst n => decide (n.val = a)
  | .ldc idx => lkAt j (6, ownC X, idx, a, 0) && decide (Int32.ofNat a = c)
  | .ldc2_w idx => lkAt j (7, ownC X, idx, a, 0)
  | .goto off => decide ((pc : Int) + off = (a : Int))
  | .ifCond _ off => decide ((pc : Int) + off = (a : Int))
  | .if_icmp _ off => decide ((pc : Int) + off = (a : Int))
  | .tableswitch d l u offs => decide ((pc : Int) + d = (a : Int)) && offs.toList.all (fun o => decide (0 ≤ (pc : Int) + o)) && decide (u + 1 - l = (offs.size : Int))
  | .lookupswitch d ps => (ps.toList.zip (ps.toList.drop 1)).all (fun (a, next) => a.1 < next.1) && decide (0 ≤ (pc : Int) + d) && ps.toList.all (fun q => decide (0 ≤ (pc : Int) + q.2))
  | .getfield idx => lkAt j (0, ownC X, idx, a, b)
  | .putfield idx => lkAt j (0, ownC X, idx, a, b) && (!(clT a b).2.2.2 || (decide ((yM X).name = "<init>") && decide (ownC X = a)))
  | .new idx => lkAt j (4, ownC X, idx, a, nF a)
  | .anewarray idx => lkAt j (5, ownC X, idx, a, b)
  | .newarray ty => decide (ty = .int ∧ b = 100 ∨ ty = .byte ∧ b = 101 ∨ ty = .boolean ∧ b = 102 ∨ ty = .long ∧ b = 103)
  | .baload => decide (b = 101 ∨ b = 102)
  | .bastore => decide (b = 101 ∨ b = 102)
  | .invokevirtual idx => lkAt j (1, ownC X, idx, a, b) && decide (dep a + 1 ≤ dep X)
  | .invokestatic idx => (match spc a with
    | 1 => lkAt j (9, ownC X, idx, 0, 0) && decide (1 ≤ dep X)
    | 2 => lkAt j (11, ownC X, idx, 0, 0) && decide (1 ≤ dep X)
    | 3 => lkAt j (12, ownC X, idx, 0, 0) && decide (1 ≤ dep X)
    | _ => lkAt j (2, ownC X, idx, a, b) && decide (dep a + 1 ≤ dep X))
  | .invokespecial idx => if Nat.beq a 1000 then lkAt j (8, ownC X, idx, 0, 0) && decide (1 ≤ dep X) && decide (b = 0) else (lkAt j (3, ownC X, idx, a, b) || lkAt j (10, ownC X, idx, a, b)) && decide (dep a + 1 ≤ dep X)
  | _ => true
/-- how long an instruction is; 0: as it may be -/
def iln : Instr → Nat
  | .tableswitch _ _ _ _ => 0
  | .lookupswitch _ _ => 0
  | .iload _ => 2
  | .lload _ => 2
  | .aload _ => 2
  | .istore _ => 2
  | .lstore _ => 2
  | .astore _ => 2
  | .bipush _ => 2
  | .ldc _ => 2
  | .newarray _ => 2
  | .iinc _ _ => 3
  | .sipush _ => 3
  | .ldc2_w _ => 3
  | .goto _ => 3
  | .ifCond _ _ => 3
  | .if_icmp _ _ => 3
  | .getfield _ => 3
  | .putfield _ => 3
  | .new _ => 3
  | .anewarray _ => 3
  | .invokevirtual _ => 3
  | .invokespecial _ => 3
  | .invokestatic _ => 3
  | _ => 1
def okE (X pc : Nat) (te : TE) : Bool := decide (decode (cod X) pc = .ok (te.1, te.2.1 - pc)) && decide (iln te.1 = 0 ∨ te.2.1 = pc + iln te.1) && okI X pc te.1 te.2.1 te.2.2.2.1 te.2.2.2.2.2.1 te.2.2.2.2.2.2.1 te.2.2.2.2.2.2.2
theorem tk_Book_isStop : t_Book_isStop.all (fun e => okE 0 e.1 e.2) = true := by decide +kernel
theorem tk_Ladder_init : t_Ladder_init.all (fun e => okE 1 e.1 e.2) = true := by decide +kernel
theorem tk_Ladder_addStep : t_Ladder_addStep.all (fun e => okE 2 e.1 e.2) = true := by decide +kernel
theorem tk_Memory_renderingAt : t_Memory_renderingAt.all (fun e => okE 3 e.1 e.2) = true := by decide +kernel
theorem tk_Memory_renderingsOf : t_Memory_renderingsOf.all (fun e => okE 4 e.1 e.2) = true := by decide +kernel
theorem tk_Near_forgetPair : t_Near_forgetPair.all (fun e => okE 5 e.1 e.2) = true := by decide +kernel
theorem tk_Nest_init : t_Nest_init.all (fun e => okE 6 e.1 e.2) = true := by decide +kernel
theorem tk_Patch_forgetServed : t_Patch_forgetServed.all (fun e => okE 7 e.1 e.2) = true := by decide +kernel
theorem tk_Patch_inRendering : t_Patch_inRendering.all (fun e => okE 8 e.1 e.2) = true := by decide +kernel
theorem tk_Patch_haveAllServed : t_Patch_haveAllServed.all (fun e => okE 9 e.1 e.2) = true := by decide +kernel
theorem tk_Row_init : t_Row_init.all (fun e => okE 10 e.1 e.2) = true := by decide +kernel
theorem tk_Row_addPiece : t_Row_addPiece.all (fun e => okE 11 e.1 e.2) = true := by decide +kernel
theorem tk_Row_isMark : t_Row_isMark.all (fun e => okE 12 e.1 e.2) = true := by decide +kernel
theorem tk_Row_digitPlace : t_Row_digitPlace.all (fun e => okE 13 e.1 e.2) = true := by decide +kernel
theorem tk_Row_hasBytesOf : t_Row_hasBytesOf.all (fun e => okE 14 e.1 e.2) = true := by decide +kernel
theorem tk_Row_hasLettersOf : t_Row_hasLettersOf.all (fun e => okE 15 e.1 e.2) = true := by decide +kernel
theorem tk_Scan_isLetter : t_Scan_isLetter.all (fun e => okE 16 e.1 e.2) = true := by decide +kernel
theorem tk_Scan_isDigit : t_Scan_isDigit.all (fun e => okE 17 e.1 e.2) = true := by decide +kernel
theorem tk_Text_init : t_Text_init.all (fun e => okE 18 e.1 e.2) = true := by decide +kernel
theorem tk_Text_at : t_Text_at.all (fun e => okE 19 e.1 e.2) = true := by decide +kernel
theorem tk_Text_put : t_Text_put.all (fun e => okE 20 e.1 e.2) = true := by decide +kernel
theorem tk_Text_take : t_Text_take.all (fun e => okE 21 e.1 e.2) = true := by decide +kernel
theorem tk_Text_firstBlank : t_Text_firstBlank.all (fun e => okE 22 e.1 e.2) = true := by decide +kernel
theorem tk_Words_init : t_Words_init.all (fun e => okE 23 e.1 e.2) = true := by decide +kernel
theorem tk_Words_isFull : t_Words_isFull.all (fun e => okE 24 e.1 e.2) = true := by decide +kernel
theorem tk_Words_has : t_Words_has.all (fun e => okE 25 e.1 e.2) = true := by decide +kernel
theorem tk_K_cut : t_K_cut.all (fun e => okE 26 e.1 e.2) = true := by decide +kernel
theorem tk_K_step : t_K_step.all (fun e => okE 27 e.1 e.2) = true := by decide +kernel
theorem tk_K_about : t_K_about.all (fun e => okE 28 e.1 e.2) = true := by decide +kernel
theorem tk_K_isSegment : t_K_isSegment.all (fun e => okE 29 e.1 e.2) = true := by decide +kernel
theorem tk_K_isPair : t_K_isPair.all (fun e => okE 30 e.1 e.2) = true := by decide +kernel
theorem tk_K_isSomebody : t_K_isSomebody.all (fun e => okE 31 e.1 e.2) = true := by decide +kernel
theorem tk_M_init : t_M_init.all (fun e => okE 32 e.1 e.2) = true := by decide +kernel
theorem tk_M_in : t_M_in.all (fun e => okE 33 e.1 e.2) = true := by decide +kernel
theorem tk_M_copy : t_M_copy.all (fun e => okE 34 e.1 e.2) = true := by decide +kernel
theorem tk_M_at : t_M_at.all (fun e => okE 35 e.1 e.2) = true := by decide +kernel
theorem tk_M_isDigit : t_M_isDigit.all (fun e => okE 36 e.1 e.2) = true := by decide +kernel
theorem tk_M_isLetter : t_M_isLetter.all (fun e => okE 37 e.1 e.2) = true := by decide +kernel
theorem tk_M_small : t_M_small.all (fun e => okE 38 e.1 e.2) = true := by decide +kernel
theorem tk_M_pointOf : t_M_pointOf.all (fun e => okE 39 e.1 e.2) = true := by decide +kernel
theorem tk_M_digitAt : t_M_digitAt.all (fun e => okE 40 e.1 e.2) = true := by decide +kernel
theorem tk_M_same : t_M_same.all (fun e => okE 41 e.1 e.2) = true := by decide +kernel
theorem tk_M_word : t_M_word.all (fun e => okE 42 e.1 e.2) = true := by decide +kernel
theorem tk_M_wordsOf : t_M_wordsOf.all (fun e => okE 43 e.1 e.2) = true := by decide +kernel
theorem tk_M_latest : t_M_latest.all (fun e => okE 44 e.1 e.2) = true := by decide +kernel
theorem tk_M_step : t_M_step.all (fun e => okE 45 e.1 e.2) = true := by decide +kernel
theorem tk_M_lay : t_M_lay.all (fun e => okE 46 e.1 e.2) = true := by decide +kernel
theorem tk_M_reads : t_M_reads.all (fun e => okE 47 e.1 e.2) = true := by decide +kernel
theorem tk_M_about : t_M_about.all (fun e => okE 48 e.1 e.2) = true := by decide +kernel
theorem tk_Arrays_fill : t_Arrays_fill.all (fun e => okE 49 e.1 e.2) = true := by decide +kernel
theorem tk_Book_init : t_Book_init.all (fun e => okE 50 e.1 e.2) = true := by decide +kernel
theorem tk_Book_isBlankOrEnd : t_Book_isBlankOrEnd.all (fun e => okE 51 e.1 e.2) = true := by decide +kernel
theorem tk_Memory_init : t_Memory_init.all (fun e => okE 52 e.1 e.2) = true := by decide +kernel
theorem tk_Memory_addRendering : t_Memory_addRendering.all (fun e => okE 53 e.1 e.2) = true := by decide +kernel
theorem tk_Memory_takeBack : t_Memory_takeBack.all (fun e => okE 54 e.1 e.2) = true := by decide +kernel
theorem tk_Near_forgetAll : t_Near_forgetAll.all (fun e => okE 55 e.1 e.2) = true := by decide +kernel
theorem tk_Patch_init : t_Patch_init.all (fun e => okE 56 e.1 e.2) = true := by decide +kernel
theorem tk_Patch_copy : t_Patch_copy.all (fun e => okE 57 e.1 e.2) = true := by decide +kernel
theorem tk_Patch_readsSame : t_Patch_readsSame.all (fun e => okE 58 e.1 e.2) = true := by decide +kernel
theorem tk_Patch_copyNumber : t_Patch_copyNumber.all (fun e => okE 59 e.1 e.2) = true := by decide +kernel
theorem tk_Row_digit : t_Row_digit.all (fun e => okE 60 e.1 e.2) = true := by decide +kernel
theorem tk_Row_isPieceLike : t_Row_isPieceLike.all (fun e => okE 61 e.1 e.2) = true := by decide +kernel
theorem tk_Row_changeCost : t_Row_changeCost.all (fun e => okE 62 e.1 e.2) = true := by decide +kernel
theorem tk_Row_aloneCost : t_Row_aloneCost.all (fun e => okE 63 e.1 e.2) = true := by decide +kernel
theorem tk_Scan_byteAt : t_Scan_byteAt.all (fun e => okE 64 e.1 e.2) = true := by decide +kernel
theorem tk_Scan_lettersEnd : t_Scan_lettersEnd.all (fun e => okE 65 e.1 e.2) = true := by decide +kernel
theorem tk_Scan_blanksEnd : t_Scan_blanksEnd.all (fun e => okE 66 e.1 e.2) = true := by decide +kernel
theorem tk_Scan_digitsEnd : t_Scan_digitsEnd.all (fun e => okE 67 e.1 e.2) = true := by decide +kernel
theorem tk_Words_packed : t_Words_packed.all (fun e => okE 68 e.1 e.2) = true := by decide +kernel
theorem tk_Words_add : t_Words_add.all (fun e => okE 69 e.1 e.2) = true := by decide +kernel
theorem tk_K_feed : t_K_feed.all (fun e => okE 70 e.1 e.2) = true := by decide +kernel
theorem tk_K_tape : t_K_tape.all (fun e => okE 71 e.1 e.2) = true := by decide +kernel
theorem tk_K_piece : t_K_piece.all (fun e => okE 72 e.1 e.2) = true := by decide +kernel
theorem tk_K_pair : t_K_pair.all (fun e => okE 73 e.1 e.2) = true := by decide +kernel
theorem tk_K_rendered : t_K_rendered.all (fun e => okE 74 e.1 e.2) = true := by decide +kernel
theorem tk_M_feed : t_M_feed.all (fun e => okE 75 e.1 e.2) = true := by decide +kernel
theorem tk_M_cut : t_M_cut.all (fun e => okE 76 e.1 e.2) = true := by decide +kernel
theorem tk_M_tape : t_M_tape.all (fun e => okE 77 e.1 e.2) = true := by decide +kernel
theorem tk_M_digits : t_M_digits.all (fun e => okE 78 e.1 e.2) = true := by decide +kernel
theorem tk_M_mark : t_M_mark.all (fun e => okE 79 e.1 e.2) = true := by decide +kernel
theorem tk_M_isMark : t_M_isMark.all (fun e => okE 80 e.1 e.2) = true := by decide +kernel
theorem tk_M_isTorn : t_M_isTorn.all (fun e => okE 81 e.1 e.2) = true := by decide +kernel
theorem tk_M_alike : t_M_alike.all (fun e => okE 82 e.1 e.2) = true := by decide +kernel
theorem tk_M_isWord : t_M_isWord.all (fun e => okE 83 e.1 e.2) = true := by decide +kernel
theorem tk_M_isThat : t_M_isThat.all (fun e => okE 84 e.1 e.2) = true := by decide +kernel
theorem tk_M_isSegment : t_M_isSegment.all (fun e => okE 85 e.1 e.2) = true := by decide +kernel
theorem tk_M_isPair : t_M_isPair.all (fun e => okE 86 e.1 e.2) = true := by decide +kernel
theorem tk_M_comes : t_M_comes.all (fun e => okE 87 e.1 e.2) = true := by decide +kernel
theorem tk_M_undo : t_M_undo.all (fun e => okE 88 e.1 e.2) = true := by decide +kernel
theorem tk_M_step2 : t_M_step2.all (fun e => okE 89 e.1 e.2) = true := by decide +kernel
theorem tk_Ladder_leastSum : t_Ladder_leastSum.all (fun e => okE 90 e.1 e.2) = true := by decide +kernel
theorem tk_Near_init : t_Near_init.all (fun e => okE 91 e.1 e.2) = true := by decide +kernel
theorem tk_Nest_isTorn : t_Nest_isTorn.all (fun e => okE 92 e.1 e.2) = true := by decide +kernel
theorem tk_Patch_matchDigits : t_Patch_matchDigits.all (fun e => okE 93 e.1 e.2) = true := by decide +kernel
theorem tk_Patch_putMark : t_Patch_putMark.all (fun e => okE 94 e.1 e.2) = true := by decide +kernel
theorem tk_Patch_putNumber : t_Patch_putNumber.all (fun e => okE 95 e.1 e.2) = true := by decide +kernel
theorem tk_Row_isLike : t_Row_isLike.all (fun e => okE 96 e.1 e.2) = true := by decide +kernel
theorem tk_Row_timesOf : t_Row_timesOf.all (fun e => okE 97 e.1 e.2) = true := by decide +kernel
theorem tk_Scan_kindBehindBracket : t_Scan_kindBehindBracket.all (fun e => okE 98 e.1 e.2) = true := by decide +kernel
theorem tk_Scan_numberEnd : t_Scan_numberEnd.all (fun e => okE 99 e.1 e.2) = true := by decide +kernel
theorem tk_K_undo : t_K_undo.all (fun e => okE 100 e.1 e.2) = true := by decide +kernel
theorem tk_K_term : t_K_term.all (fun e => okE 101 e.1 e.2) = true := by decide +kernel
theorem tk_K_moveTapeTo : t_K_moveTapeTo.all (fun e => okE 102 e.1 e.2) = true := by decide +kernel
theorem tk_K_addTapeTo : t_K_addTapeTo.all (fun e => okE 103 e.1 e.2) = true := by decide +kernel
theorem tk_M_read : t_M_read.all (fun e => okE 104 e.1 e.2) = true := by decide +kernel
theorem tk_M_except : t_M_except.all (fun e => okE 105 e.1 e.2) = true := by decide +kernel
theorem tk_M_term : t_M_term.all (fun e => okE 106 e.1 e.2) = true := by decide +kernel
theorem tk_M_forbid : t_M_forbid.all (fun e => okE 107 e.1 e.2) = true := by decide +kernel
theorem tk_M_ends : t_M_ends.all (fun e => okE 108 e.1 e.2) = true := by decide +kernel
theorem tk_M_pair : t_M_pair.all (fun e => okE 109 e.1 e.2) = true := by decide +kernel
theorem tk_M_rendered : t_M_rendered.all (fun e => okE 110 e.1 e.2) = true := by decide +kernel
theorem tk_M_like : t_M_like.all (fun e => okE 111 e.1 e.2) = true := by decide +kernel
theorem tk_M_keepCost : t_M_keepCost.all (fun e => okE 112 e.1 e.2) = true := by decide +kernel
theorem tk_M_loneCost : t_M_loneCost.all (fun e => okE 113 e.1 e.2) = true := by decide +kernel
theorem tk_M_maps : t_M_maps.all (fun e => okE 114 e.1 e.2) = true := by decide +kernel
theorem tk_M_patches : t_M_patches.all (fun e => okE 115 e.1 e.2) = true := by decide +kernel
theorem tk_M_often : t_M_often.all (fun e => okE 116 e.1 e.2) = true := by decide +kernel
theorem tk_Ladder_tell : t_Ladder_tell.all (fun e => okE 117 e.1 e.2) = true := by decide +kernel
theorem tk_Near_between : t_Near_between.all (fun e => okE 118 e.1 e.2) = true := by decide +kernel
theorem tk_Patch_make : t_Patch_make.all (fun e => okE 119 e.1 e.2) = true := by decide +kernel
theorem tk_Scan_kindAt : t_Scan_kindAt.all (fun e => okE 120 e.1 e.2) = true := by decide +kernel
theorem tk_Scan_endOf : t_Scan_endOf.all (fun e => okE 121 e.1 e.2) = true := by decide +kernel
theorem tk_K_init : t_K_init.all (fun e => okE 122 e.1 e.2) = true := by decide +kernel
theorem tk_K_except : t_K_except.all (fun e => okE 123 e.1 e.2) = true := by decide +kernel
theorem tk_K_segment : t_K_segment.all (fun e => okE 124 e.1 e.2) = true := by decide +kernel
theorem tk_K_forbid : t_K_forbid.all (fun e => okE 125 e.1 e.2) = true := by decide +kernel
theorem tk_K_isLikeSource : t_K_isLikeSource.all (fun e => okE 126 e.1 e.2) = true := by decide +kernel
theorem tk_M_readRow : t_M_readRow.all (fun e => okE 127 e.1 e.2) = true := by decide +kernel
theorem tk_M_load : t_M_load.all (fun e => okE 128 e.1 e.2) = true := by decide +kernel
theorem tk_M_readSegment : t_M_readSegment.all (fun e => okE 129 e.1 e.2) = true := by decide +kernel
theorem tk_M_work : t_M_work.all (fun e => okE 130 e.1 e.2) = true := by decide +kernel
theorem tk_Book_findEnds : t_Book_findEnds.all (fun e => okE 131 e.1 e.2) = true := by decide +kernel
theorem tk_Row_read : t_Row_read.all (fun e => okE 132 e.1 e.2) = true := by decide +kernel
theorem tk_K_like : t_K_like.all (fun e => okE 133 e.1 e.2) = true := by decide +kernel
theorem tk_K_differ : t_K_differ.all (fun e => okE 134 e.1 e.2) = true := by decide +kernel
theorem tk_K_spread : t_K_spread.all (fun e => okE 135 e.1 e.2) = true := by decide +kernel
theorem tk_K_scoreOf : t_K_scoreOf.all (fun e => okE 136 e.1 e.2) = true := by decide +kernel
theorem tk_M_segment : t_M_segment.all (fun e => okE 137 e.1 e.2) = true := by decide +kernel
theorem tk_M_piece : t_M_piece.all (fun e => okE 138 e.1 e.2) = true := by decide +kernel
theorem tk_M_keep : t_M_keep.all (fun e => okE 139 e.1 e.2) = true := by decide +kernel
theorem tk_M_change : t_M_change.all (fun e => okE 140 e.1 e.2) = true := by decide +kernel
theorem tk_M_readBoth : t_M_readBoth.all (fun e => okE 141 e.1 e.2) = true := by decide +kernel
theorem tk_M_faults : t_M_faults.all (fun e => okE 142 e.1 e.2) = true := by decide +kernel
theorem tk_Book_become : t_Book_become.all (fun e => okE 143 e.1 e.2) = true := by decide +kernel
theorem tk_Memory_addPair : t_Memory_addPair.all (fun e => okE 144 e.1 e.2) = true := by decide +kernel
theorem tk_K_score : t_K_score.all (fun e => okE 145 e.1 e.2) = true := by decide +kernel
theorem tk_K_isTapeTorn : t_K_isTapeTorn.all (fun e => okE 146 e.1 e.2) = true := by decide +kernel
theorem tk_K_readRenderingOf : t_K_readRenderingOf.all (fun e => okE 147 e.1 e.2) = true := by decide +kernel
theorem tk_K_aheadOf : t_K_aheadOf.all (fun e => okE 148 e.1 e.2) = true := by decide +kernel
theorem tk_K_kindCounted : t_K_kindCounted.all (fun e => okE 149 e.1 e.2) = true := by decide +kernel
theorem tk_M_like2 : t_M_like2.all (fun e => okE 150 e.1 e.2) = true := by decide +kernel
theorem tk_M_scoreOf : t_M_scoreOf.all (fun e => okE 151 e.1 e.2) = true := by decide +kernel
theorem tk_M_differ : t_M_differ.all (fun e => okE 152 e.1 e.2) = true := by decide +kernel
theorem tk_M_patch : t_M_patch.all (fun e => okE 153 e.1 e.2) = true := by decide +kernel
theorem tk_M_spread : t_M_spread.all (fun e => okE 154 e.1 e.2) = true := by decide +kernel
theorem tk_K_load : t_K_load.all (fun e => okE 155 e.1 e.2) = true := by decide +kernel
theorem tk_K_keep : t_K_keep.all (fun e => okE 156 e.1 e.2) = true := by decide +kernel
theorem tk_K_change : t_K_change.all (fun e => okE 157 e.1 e.2) = true := by decide +kernel
theorem tk_K_found : t_K_found.all (fun e => okE 158 e.1 e.2) = true := by decide +kernel
theorem tk_K_patch : t_K_patch.all (fun e => okE 159 e.1 e.2) = true := by decide +kernel
theorem tk_K_faults : t_K_faults.all (fun e => okE 160 e.1 e.2) = true := by decide +kernel
theorem tk_K_counted : t_K_counted.all (fun e => okE 161 e.1 e.2) = true := by decide +kernel
theorem tk_K_count : t_K_count.all (fun e => okE 162 e.1 e.2) = true := by decide +kernel
theorem tk_M_score : t_M_score.all (fun e => okE 163 e.1 e.2) = true := by decide +kernel
theorem tk_M_found : t_M_found.all (fun e => okE 164 e.1 e.2) = true := by decide +kernel
theorem tk_M_countedOf : t_M_countedOf.all (fun e => okE 165 e.1 e.2) = true := by decide +kernel
theorem tk_M_counted : t_M_counted.all (fun e => okE 166 e.1 e.2) = true := by decide +kernel
theorem tk_M_count : t_M_count.all (fun e => okE 167 e.1 e.2) = true := by decide +kernel
theorem tk_Law_law_0 : t_Law_law_0.all (fun e => okE 168 e.1 e.2) = true := by decide +kernel
theorem tk_Law_law_1 : t_Law_law_1.all (fun e => okE 168 e.1 e.2) = true := by decide +kernel
theorem tk_Law_law_2 : t_Law_law_2.all (fun e => okE 168 e.1 e.2) = true := by decide +kernel
theorem tk_Law_law_3 : t_Law_law_3.all (fun e => okE 168 e.1 e.2) = true := by decide +kernel
theorem tk_Law_law : t_Law_law.all (fun e => okE 168 e.1 e.2) = true := by
  unfold t_Law_law
  simp only [List.all_append, Bool.and_eq_true]
  exact ⟨⟨⟨tk_Law_law_0, tk_Law_law_1⟩, tk_Law_law_2⟩, tk_Law_law_3⟩
theorem tab_ok : ∀ X : Nat, (tab X).all (fun e => okE X e.1 e.2) = true
  | 0 => tk_Book_isStop
  | 1 => tk_Ladder_init
  | 2 => tk_Ladder_addStep
  | 3 => tk_Memory_renderingAt
  | 4 => tk_Memory_renderingsOf
  | 5 => tk_Near_forgetPair
  | 6 => tk_Nest_init
  | 7 => tk_Patch_forgetServed
  | 8 => tk_Patch_inRendering
  | 9 => tk_Patch_haveAllServed
  | 10 => tk_Row_init
  | 11 => tk_Row_addPiece
  | 12 => tk_Row_isMark
  | 13 => tk_Row_digitPlace
  | 14 => tk_Row_hasBytesOf
  | 15 => tk_Row_hasLettersOf
  | 16 => tk_Scan_isLetter
  | 17 => tk_Scan_isDigit
  | 18 => tk_Text_init
  | 19 => tk_Text_at
  | 20 => tk_Text_put
  | 21 => tk_Text_take
  | 22 => tk_Text_firstBlank
  | 23 => tk_Words_init
  | 24 => tk_Words_isFull
  | 25 => tk_Words_has
  | 26 => tk_K_cut
  | 27 => tk_K_step
  | 28 => tk_K_about
  | 29 => tk_K_isSegment
  | 30 => tk_K_isPair
  | 31 => tk_K_isSomebody
  | 32 => tk_M_init
  | 33 => tk_M_in
  | 34 => tk_M_copy
  | 35 => tk_M_at
  | 36 => tk_M_isDigit
  | 37 => tk_M_isLetter
  | 38 => tk_M_small
  | 39 => tk_M_pointOf
  | 40 => tk_M_digitAt
  | 41 => tk_M_same
  | 42 => tk_M_word
  | 43 => tk_M_wordsOf
  | 44 => tk_M_latest
  | 45 => tk_M_step
  | 46 => tk_M_lay
  | 47 => tk_M_reads
  | 48 => tk_M_about
  | 49 => tk_Arrays_fill
  | 50 => tk_Book_init
  | 51 => tk_Book_isBlankOrEnd
  | 52 => tk_Memory_init
  | 53 => tk_Memory_addRendering
  | 54 => tk_Memory_takeBack
  | 55 => tk_Near_forgetAll
  | 56 => tk_Patch_init
  | 57 => tk_Patch_copy
  | 58 => tk_Patch_readsSame
  | 59 => tk_Patch_copyNumber
  | 60 => tk_Row_digit
  | 61 => tk_Row_isPieceLike
  | 62 => tk_Row_changeCost
  | 63 => tk_Row_aloneCost
  | 64 => tk_Scan_byteAt
  | 65 => tk_Scan_lettersEnd
  | 66 => tk_Scan_blanksEnd
  | 67 => tk_Scan_digitsEnd
  | 68 => tk_Words_packed
  | 69 => tk_Words_add
  | 70 => tk_K_feed
  | 71 => tk_K_tape
  | 72 => tk_K_piece
  | 73 => tk_K_pair
  | 74 => tk_K_rendered
  | 75 => tk_M_feed
  | 76 => tk_M_cut
  | 77 => tk_M_tape
  | 78 => tk_M_digits
  | 79 => tk_M_mark
  | 80 => tk_M_isMark
  | 81 => tk_M_isTorn
  | 82 => tk_M_alike
  | 83 => tk_M_isWord
  | 84 => tk_M_isThat
  | 85 => tk_M_isSegment
  | 86 => tk_M_isPair
  | 87 => tk_M_comes
  | 88 => tk_M_undo
  | 89 => tk_M_step2
  | 90 => tk_Ladder_leastSum
  | 91 => tk_Near_init
  | 92 => tk_Nest_isTorn
  | 93 => tk_Patch_matchDigits
  | 94 => tk_Patch_putMark
  | 95 => tk_Patch_putNumber
  | 96 => tk_Row_isLike
  | 97 => tk_Row_timesOf
  | 98 => tk_Scan_kindBehindBracket
  | 99 => tk_Scan_numberEnd
  | 100 => tk_K_undo
  | 101 => tk_K_term
  | 102 => tk_K_moveTapeTo
  | 103 => tk_K_addTapeTo
  | 104 => tk_M_read
  | 105 => tk_M_except
  | 106 => tk_M_term
  | 107 => tk_M_forbid
  | 108 => tk_M_ends
  | 109 => tk_M_pair
  | 110 => tk_M_rendered
  | 111 => tk_M_like
  | 112 => tk_M_keepCost
  | 113 => tk_M_loneCost
  | 114 => tk_M_maps
  | 115 => tk_M_patches
  | 116 => tk_M_often
  | 117 => tk_Ladder_tell
  | 118 => tk_Near_between
  | 119 => tk_Patch_make
  | 120 => tk_Scan_kindAt
  | 121 => tk_Scan_endOf
  | 122 => tk_K_init
  | 123 => tk_K_except
  | 124 => tk_K_segment
  | 125 => tk_K_forbid
  | 126 => tk_K_isLikeSource
  | 127 => tk_M_readRow
  | 128 => tk_M_load
  | 129 => tk_M_readSegment
  | 130 => tk_M_work
  | 131 => tk_Book_findEnds
  | 132 => tk_Row_read
  | 133 => tk_K_like
  | 134 => tk_K_differ
  | 135 => tk_K_spread
  | 136 => tk_K_scoreOf
  | 137 => tk_M_segment
  | 138 => tk_M_piece
  | 139 => tk_M_keep
  | 140 => tk_M_change
  | 141 => tk_M_readBoth
  | 142 => tk_M_faults
  | 143 => tk_Book_become
  | 144 => tk_Memory_addPair
  | 145 => tk_K_score
  | 146 => tk_K_isTapeTorn
  | 147 => tk_K_readRenderingOf
  | 148 => tk_K_aheadOf
  | 149 => tk_K_kindCounted
  | 150 => tk_M_like2
  | 151 => tk_M_scoreOf
  | 152 => tk_M_differ
  | 153 => tk_M_patch
  | 154 => tk_M_spread
  | 155 => tk_K_load
  | 156 => tk_K_keep
  | 157 => tk_K_change
  | 158 => tk_K_found
  | 159 => tk_K_patch
  | 160 => tk_K_faults
  | 161 => tk_K_counted
  | 162 => tk_K_count
  | 163 => tk_M_score
  | 164 => tk_M_found
  | 165 => tk_M_countedOf
  | 166 => tk_M_counted
  | 167 => tk_M_count
  | 168 => tk_Law_law
  | n + 169 => by
    have h : tab (n + 169) = [] := rfl
    rw [h]; rfl
theorem lookup_mem {α : Type} {pc : Nat} {e : α} : ∀ {l : List (Nat × α)}, l.lookup pc = some e → (pc, e) ∈ l
  | [], h => by simp at h
  | (k, x) :: l, h => by
    rw [List.lookup_cons] at h
    split at h
    · rename_i q
      have q2 : pc = k := by simpa using q
      cases h
      rw [q2]
      exact List.mem_cons_self
    · exact List.mem_cons_of_mem _ (lookup_mem h)
theorem tab_at {X pc : Nat} {te : TE} (h : (tab X).lookup pc = some te) : decode (cod X) pc = .ok (te.1, te.2.1 - pc) ∧ (iln te.1 = 0 ∨ te.2.1 = pc + iln te.1) ∧ okI X pc te.1 te.2.1 te.2.2.2.1 te.2.2.2.2.2.1 te.2.2.2.2.2.2.1 te.2.2.2.2.2.2.2 = true := by
  have h1 := List.all_eq_true.mp (tab_ok X) _ (lookup_mem h)
  simp only [okE, Bool.and_eq_true, decide_eq_true_eq] at h1
  exact ⟨h1.1.1, h1.1.2, h1.2⟩
