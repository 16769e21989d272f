section PSF
variable {l : Launch} {D : va_G} {dA : Nat → ClassId} {base b : Nat} {X pc : Nat} {lo : LO} {st : List Value} {h : HP} {bd : Nat × Nat} {Q : QT}
theorem len_of {i : Instr} {nx k : Nat} (hd : decode (cod X) pc = .ok (i, nx - pc)) (hln : iln i = 0 ∨ nx = pc + iln i) (hk : iln i = k) (h0 : 0 < k) : nx = pc + k ∧ decode (cod X) pc = .ok (i, k) := by
  have e : nx = pc + k := by
    rcases hln with q | q
    · omega
    · omega
  refine ⟨e, ?_⟩
  rw [e, Nat.add_sub_cancel_left] at hd
  exact hd
theorem Fld_sound {t n nx k : Nat} {kn : List Nat} (e : nx = pc + k) (h0 : t = 0 → ∀ x : Int32, nth lo n = some (.int x) → PS l D dA base b X (pc + k) (kil kn lo) (.int x :: st) h bd Q → PS l D dA base b X pc lo st h bd Q) (h1 : t = 1 → ∀ x : Int64, nth lo n = some (.long x) → PS l D dA base b X (pc + k) (kil kn lo) (.long x :: st) h bd Q → PS l D dA base b X pc lo st h bd Q) (h2 : t = 2 → ∀ x : Nat, nth lo n = some (.ref x) → PS l D dA base b X (pc + k) (kil kn lo) (.ref x :: st) h bd Q → PS l D dA base b X pc lo st h bd Q) (H : Fld (PS l D dA base b) X nx lo st h bd Q t n kn) : PS l D dA base b X pc lo st h bd Q := by
  subst e
  unfold Fld at H
  cases hn : nth lo n with
  | none => rw [hn] at H; split at H <;> first | exact H.elim | (rename_i q; cases q)
  | some v =>
    rw [hn] at H
    split at H
    · rename_i q; cases q; exact h0 rfl _ hn H
    · rename_i q; cases q; exact h1 rfl _ hn H
    · rename_i q; cases q; exact h2 rfl _ hn H
    · exact H.elim
theorem Fcmp_at {cd : ClassFile.Cond} {x y : Int32} {A B G : Prop} (H : Fcmp cd x y A B) (heq : cd = .eq → (x = y → A) → (¬ x = y → B) → G) (hne : cd = .ne → (¬ x = y → A) → (x = y → B) → G) (hlt : cd = .lt → (x < y → A) → (¬ x < y → B) → G) (hge : cd = .ge → (y ≤ x → A) → (¬ y ≤ x → B) → G) (hgt : cd = .gt → (y < x → A) → (¬ y < x → B) → G) (hle : cd = .le → (x ≤ y → A) → (¬ x ≤ y → B) → G) : G := by
  cases cd
  · exact heq rfl H.1 H.2
  · exact hne rfl H.1 H.2
  · exact hlt rfl H.1 H.2
  · exact hge rfl H.1 H.2
  · exact hgt rfl H.1 H.2
  · exact hle rfl H.1 H.2
set_option maxHeartbeats 4000000 in
theorem Fi_sound {i : Instr} {nx : Nat} {kn : List Nat} {a : Nat} {ka : List Nat} {bb j : Nat} {c : Int32} (hd : decode (cod X) pc = .ok (i, nx - pc)) (hln : iln i = 0 ∨ nx = pc + iln i) (hok : okI X pc i nx a bb j c = true) (H : Fi (PS l D dA base b) X pc i nx kn a ka bb c lo st h bd Q) : PS l D dA base b X pc lo st h bd Q := by
  cases i
  case iload n => obtain ⟨e, hd⟩ := len_of (k := 2) hd hln rfl (by decide); exact Fld_sound e (fun _ x q K => ps_iload kn q hd K) (fun q => by cases q) (fun q => by cases q) H
  case lload n => obtain ⟨e, hd⟩ := len_of (k := 2) hd hln rfl (by decide); exact Fld_sound e (fun q => by cases q) (fun _ x q K => ps_lload kn q hd K) (fun q => by cases q) H
  case aload n => obtain ⟨e, hd⟩ := len_of (k := 2) hd hln rfl (by decide); exact Fld_sound e (fun q => by cases q) (fun q => by cases q) (fun _ x q K => ps_aload kn q hd K) H
  case iload_n n => obtain ⟨e, hd⟩ := len_of (k := 1) hd hln rfl (by decide); exact Fld_sound e (fun _ x q K => ps_iload_n kn q hd K) (fun q => by cases q) (fun q => by cases q) H
  case lload_n n => obtain ⟨e, hd⟩ := len_of (k := 1) hd hln rfl (by decide); exact Fld_sound e (fun q => by cases q) (fun _ x q K => ps_lload_n kn q hd K) (fun q => by cases q) H
  case aload_n n => obtain ⟨e, hd⟩ := len_of (k := 1) hd hln rfl (by decide); exact Fld_sound e (fun q => by cases q) (fun q => by cases q) (fun _ x q K => ps_aload_n kn q hd K) H
  case istore n => obtain ⟨rfl, hd2⟩ := len_of (k := 2) hd hln rfl (by decide); have hn : n < mxl X := by simpa [okI] using hok
                   simp only [Fi, Fst] at H; split at H <;> first | exact H.elim | (rename_i q; cases q; done) | exact ps_istore kn hn H.1 hd2 H.2
  case astore n => obtain ⟨rfl, hd2⟩ := len_of (k := 2) hd hln rfl (by decide); have hn : n < mxl X := by simpa [okI] using hok
                   simp only [Fi, Fst] at H; split at H <;> first | exact H.elim | (rename_i q; cases q; done) | exact ps_astore kn hn H.1 hd2 H.2
  case lstore n => obtain ⟨rfl, hd2⟩ := len_of (k := 2) hd hln rfl (by decide); have hn : n + 1 < mxl X := by simpa [okI] using hok
                   simp only [Fi, Fst] at H; split at H <;> first | exact H.elim | (rename_i q; cases q; done) | exact ps_lstore kn hn H.1 hd2 H.2
  case istore_n n => obtain ⟨rfl, hd2⟩ := len_of (k := 1) hd hln rfl (by decide); have hn : n.val < mxl X := by simpa [okI] using hok
                     simp only [Fi, Fst] at H; split at H <;> first | exact H.elim | (rename_i q; cases q; done) | exact ps_istore_n kn hn H.1 hd2 H.2
  case astore_n n => obtain ⟨rfl, hd2⟩ := len_of (k := 1) hd hln rfl (by decide); have hn : n.val < mxl X := by simpa [okI] using hok
                     simp only [Fi, Fst] at H; split at H <;> first | exact H.elim | (rename_i q; cases q; done) | exact ps_astore_n kn hn H.1 hd2 H.2
  case lstore_n n => obtain ⟨rfl, hd2⟩ := len_of (k := 1) hd hln rfl (by decide); have hn : n.val + 1 < mxl X := by simpa [okI] using hok
                     simp only [Fi, Fst] at H; split at H <;> first | exact H.elim | (rename_i q; cases q; done) | exact ps_lstore_n kn hn H.1 hd2 H.2
  case iinc n k => obtain ⟨rfl, hd2⟩ := len_of (k := 3) hd hln rfl (by decide); have hv : Int32.ofInt k = c ∧ n < mxl X := by simpa [okI] using hok
                   simp only [Fi] at H; split at H
                   · rename_i q; exact ps_iinc kn hv.1 q hv.2 H.1 hd2 H.2
                   · exact H.elim
  case iconst n => obtain ⟨rfl, hd2⟩ := len_of (k := 1) hd hln rfl (by decide); exact ps_iconst kn (by simpa [okI] using hok) hd2 H
  case bipush n => obtain ⟨rfl, hd2⟩ := len_of (k := 2) hd hln rfl (by decide); exact ps_bipush kn (by simpa [okI] using hok) hd2 H
  case sipush n => obtain ⟨rfl, hd2⟩ := len_of (k := 3) hd hln rfl (by decide); exact ps_sipush kn (by simpa [okI] using hok) hd2 H
  case lconst n => obtain ⟨rfl, hd2⟩ := len_of (k := 1) hd hln rfl (by decide); exact ps_lconst kn (by simpa [okI] using hok) hd2 H
  case ldc idx =>
    obtain ⟨rfl, hd2⟩ := len_of (k := 2) hd hln rfl (by decide)
    simp only [okI, Bool.and_eq_true, decide_eq_true_eq] at hok
    exact ps_ldc kn (lkAt_B hok.1) hok.2 hd2 H
  case ldc2_w idx => obtain ⟨rfl, hd2⟩ := len_of (k := 3) hd hln rfl (by decide); exact ps_ldc2 kn (lkAt_B hok) hd2 H
  case iadd => obtain ⟨rfl, hd2⟩ := len_of (k := 1) hd hln rfl (by decide); simp only [Fi] at H; split at H <;> first | exact H.elim | exact ps_iadd kn hd2 H
  case isub => obtain ⟨rfl, hd2⟩ := len_of (k := 1) hd hln rfl (by decide); simp only [Fi] at H; split at H <;> first | exact H.elim | exact ps_isub kn hd2 H
  case imul => obtain ⟨rfl, hd2⟩ := len_of (k := 1) hd hln rfl (by decide); simp only [Fi] at H; split at H <;> first | exact H.elim | exact ps_imul kn hd2 H
  case iand => obtain ⟨rfl, hd2⟩ := len_of (k := 1) hd hln rfl (by decide); simp only [Fi] at H; split at H <;> first | exact H.elim | exact ps_iand kn hd2 H
  case ior => obtain ⟨rfl, hd2⟩ := len_of (k := 1) hd hln rfl (by decide); simp only [Fi] at H; split at H <;> first | exact H.elim | exact ps_ior kn hd2 H
  case idiv => obtain ⟨rfl, hd2⟩ := len_of (k := 1) hd hln rfl (by decide); simp only [Fi] at H; split at H <;> first | exact H.elim | exact ps_idiv kn H.1 hd2 H.2
  case land => obtain ⟨rfl, hd2⟩ := len_of (k := 1) hd hln rfl (by decide); simp only [Fi] at H; split at H <;> first | exact H.elim | exact ps_land kn hd2 H
  case lor => obtain ⟨rfl, hd2⟩ := len_of (k := 1) hd hln rfl (by decide); simp only [Fi] at H; split at H <;> first | exact H.elim | exact ps_lor kn hd2 H
  case lshl => obtain ⟨rfl, hd2⟩ := len_of (k := 1) hd hln rfl (by decide); simp only [Fi] at H; split at H <;> first | exact H.elim | exact ps_lshl kn hd2 H
  case lshr => obtain ⟨rfl, hd2⟩ := len_of (k := 1) hd hln rfl (by decide); simp only [Fi] at H; split at H <;> first | exact H.elim | exact ps_lshr kn hd2 H
  case lushr => obtain ⟨rfl, hd2⟩ := len_of (k := 1) hd hln rfl (by decide); simp only [Fi] at H; split at H <;> first | exact H.elim | exact ps_lushr kn hd2 H
  case i2l => obtain ⟨rfl, hd2⟩ := len_of (k := 1) hd hln rfl (by decide); simp only [Fi] at H; split at H <;> first | exact H.elim | exact ps_i2l kn hd2 H
  case l2i => obtain ⟨rfl, hd2⟩ := len_of (k := 1) hd hln rfl (by decide); simp only [Fi] at H; split at H <;> first | exact H.elim | exact ps_l2i kn hd2 H
  case i2b => obtain ⟨rfl, hd2⟩ := len_of (k := 1) hd hln rfl (by decide); simp only [Fi] at H; split at H <;> first | exact H.elim | exact ps_i2b kn hd2 H
  case lcmp => obtain ⟨rfl, hd2⟩ := len_of (k := 1) hd hln rfl (by decide); simp only [Fi] at H; split at H <;> first | exact H.elim | exact ps_lcmp kn hd2 H
  case dup => obtain ⟨rfl, hd2⟩ := len_of (k := 1) hd hln rfl (by decide); simp only [Fi] at H; split at H <;> first | exact H.elim | exact ps_dupI kn hd2 H | exact ps_dupR kn hd2 H
  case dup2 => obtain ⟨rfl, hd2⟩ := len_of (k := 1) hd hln rfl (by decide); simp only [Fi] at H; split at H <;> first | exact H.elim | exact ps_dup2 kn hd2 H
  case pop => obtain ⟨rfl, hd2⟩ := len_of (k := 1) hd hln rfl (by decide); simp only [Fi] at H; split at H <;> first | exact H.elim | exact ps_pop kn hd2 H
  case goto off => obtain ⟨rfl, hd2⟩ := len_of (k := 3) hd hln rfl (by decide); exact ps_goto ka (by simpa [okI] using hok) hd2 H
  case ifCond cd off =>
    obtain ⟨rfl, hd2⟩ := len_of (k := 3) hd hln rfl (by decide)
    have ht : (pc : Int) + off = (a : Int) := by simpa [okI] using hok
    simp only [Fi] at H
    split at H
    · exact Fcmp_at H (fun e k1 k2 => ps_if_eq kn ka ht (e ▸ hd2) k1 k2) (fun e k1 k2 => ps_if_ne kn ka ht (e ▸ hd2) k1 k2) (fun e k1 k2 => ps_if_lt kn ka ht (e ▸ hd2) k1 k2) (fun e k1 k2 => ps_if_ge kn ka ht (e ▸ hd2) k1 k2) (fun e k1 k2 => ps_if_gt kn ka ht (e ▸ hd2) k1 k2) (fun e k1 k2 => ps_if_le kn ka ht (e ▸ hd2) k1 k2)
    · exact H.elim
  case if_icmp cd off =>
    obtain ⟨rfl, hd2⟩ := len_of (k := 3) hd hln rfl (by decide)
    have ht : (pc : Int) + off = (a : Int) := by simpa [okI] using hok
    simp only [Fi] at H
    split at H
    · exact Fcmp_at H (fun e k1 k2 => ps_icmp_eq kn ka ht (e ▸ hd2) k1 k2) (fun e k1 k2 => ps_icmp_ne kn ka ht (e ▸ hd2) k1 k2) (fun e k1 k2 => ps_icmp_lt kn ka ht (e ▸ hd2) k1 k2) (fun e k1 k2 => ps_icmp_ge kn ka ht (e ▸ hd2) k1 k2) (fun e k1 k2 => ps_icmp_gt kn ka ht (e ▸ hd2) k1 k2) (fun e k1 k2 => ps_icmp_le kn ka ht (e ▸ hd2) k1 k2)
    · exact H.elim
  case tableswitch d lw u offs =>
    simp only [okI, Bool.and_eq_true, decide_eq_true_eq, List.all_eq_true] at hok
    simp only [Fi] at H
    split at H
    · exact ps_table ka hok.1.1 (fun o ho => by simpa using hok.1.2 o ho) hok.2 hd H.1 H.2
    · exact H.elim
  case lookupswitch d ps =>
    simp only [okI, Bool.and_eq_true, decide_eq_true_eq] at hok
    simp only [Fi] at H
    split at H
    · exact ps_lookup ka hok.1.1 hok.1.2 (fun q hq => by simpa using List.all_eq_true.mp hok.2 q hq) hd H
    · exact H.elim
  case getfield idx =>
    obtain ⟨rfl, hd2⟩ := len_of (k := 3) hd hln rfl (by decide)
    simp only [Fi] at H
    split at H
    · obtain ⟨ho, H⟩ := H
      split at H
      · rename_i q
        exact ps_get kn (lkAt_B hok) ho (by unfold fV; rw [q]; rfl) hd2 H
      · rename_i q
        exact ps_get kn (lkAt_B hok) ho (by unfold fV; rw [q, rq_pos H.1, rv_pos H.1]; rfl) hd2 H.2
    · exact H.elim
  case putfield idx =>
    obtain ⟨rfl, hd2⟩ := len_of (k := 3) hd hln rfl (by decide)
    simp only [okI, Bool.and_eq_true, Bool.or_eq_true, Bool.not_eq_true', decide_eq_true_eq] at hok
    have hfin : (clT a bb).2.2.2 = true → (yM X).name = "<init>" ∧ ownC X = a := by
      intro q
      rcases hok.2 with z | z
      · rw [q] at z; cases z
      · exact z
    simp only [Fi] at H
    split at H
    · rename_i v r st' q
      refine ps_put (h' := stI h r bb v) kn (lkAt_B hok.1) hfin H.1 (fun ty t1 t2 => ?_) (fun k hk => ?_) rfl rfl rfl (fun z hz => va_up_ne _ _ hz) (fun _ _ => rfl) (fun _ _ => rfl) hd2 H.2
      · rw [t2 q]; exact ⟨rfl, rfl⟩
      · have e : gI (stI h r bb v) r = va_up (gI h r) bb v := va_up_self _ _ _
        unfold updV fV
        rw [e]
        by_cases z : k = bb
        · subst z; rw [if_pos rfl, q]; simp [va_up, rv]
        · rw [if_neg z, va_up_ne _ _ z]; rfl
    · rename_i v r st' q
      refine ps_put (h' := stR h r bb v) kn (lkAt_B hok.1) hfin H.1 (fun ty t1 t2 => ?_) (fun k hk => ?_) rfl rfl rfl (fun _ _ => rfl) (fun _ _ => rfl) (fun z hz => va_up_ne _ _ hz) hd2 H.2.2
      · rw [q] at t1
        cases ty <;> first | (cases t1; done) | exact ⟨rfl, rfl⟩
      · have e : gR (stR h r bb v) r = va_up (gR h r) bb v := va_up_self _ _ _
        unfold updV fV
        rw [e]
        by_cases z : k = bb
        · subst z; rw [if_pos rfl, q, rv_pos H.2.1]; simp [va_up, rq_pos H.2.1, va_rf]
        · rw [if_neg z, va_up_ne _ _ z]; rfl
    · exact H.elim
  case iaload => obtain ⟨rfl, hd2⟩ := len_of (k := 1) hd hln rfl (by decide); simp only [Fi] at H; split at H <;> first | exact H.elim | exact ps_iald kn H.1 hd2 H.2
  case baload => obtain ⟨rfl, hd2⟩ := len_of (k := 1) hd hln rfl (by decide); simp only [Fi] at H; split at H <;> first | exact H.elim | exact ps_bald kn (by simpa [okI] using hok) H.1 hd2 H.2
  case laload => obtain ⟨rfl, hd2⟩ := len_of (k := 1) hd hln rfl (by decide); simp only [Fi] at H; split at H <;> first | exact H.elim | exact ps_lald kn H.1 hd2 H.2
  case aaload => obtain ⟨rfl, hd2⟩ := len_of (k := 1) hd hln rfl (by decide); simp only [Fi] at H; split at H <;> first | exact H.elim | exact ps_aald kn H.1 H.2.1 H.2.2.1 H.2.2.2.1 H.2.2.2.2.1 hd2 H.2.2.2.2.2
  case iastore => obtain ⟨rfl, hd2⟩ := len_of (k := 1) hd hln rfl (by decide); simp only [Fi] at H; split at H <;> first | exact H.elim | exact ps_iast kn H.1 hd2 H.2
  case bastore => obtain ⟨rfl, hd2⟩ := len_of (k := 1) hd hln rfl (by decide); simp only [Fi] at H; split at H <;> first | exact H.elim | exact ps_bast kn (by simpa [okI] using hok) H.1 hd2 H.2
  case lastore => obtain ⟨rfl, hd2⟩ := len_of (k := 1) hd hln rfl (by decide); simp only [Fi] at H; split at H <;> first | exact H.elim | exact ps_last kn H.1 hd2 H.2
  case aastore => obtain ⟨rfl, hd2⟩ := len_of (k := 1) hd hln rfl (by decide); simp only [Fi] at H; split at H <;> first | exact H.elim | exact ps_aast kn H.1 H.2.1 H.2.2.1 H.2.2.2.1 hd2 H.2.2.2.2
  case arraylength => obtain ⟨rfl, hd2⟩ := len_of (k := 1) hd hln rfl (by decide); simp only [Fi] at H; split at H <;> first | exact H.elim | exact ps_alen kn H.1.1 H.1.2.1 H.1.2.2.1 H.1.2.2.2 hd2 H.2
  case newarray t => obtain ⟨rfl, hd2⟩ := len_of (k := 2) hd hln rfl (by decide); simp only [Fi] at H; split at H <;> first | exact H.elim | exact ps_newa kn (by simpa [okI] using hok) H.1 H.2.1 H.2.2.1 H.2.2.2.1 hd2 H.2.2.2.2
  case anewarray idx => obtain ⟨rfl, hd2⟩ := len_of (k := 3) hd hln rfl (by decide); simp only [Fi] at H; split at H <;> first | exact H.elim | exact ps_anew kn (lkAt_B hok) H.1 H.2.1 H.2.2.1 H.2.2.2.1 hd2 H.2.2.2.2
  case new idx => obtain ⟨rfl, hd2⟩ := len_of (k := 3) hd hln rfl (by decide); exact ps_new kn (lkAt_B hok) H.1 H.2.1 hd2 H.2.2
  case invokevirtual idx =>
    obtain ⟨rfl, hd2⟩ := len_of (k := 3) hd hln rfl (by decide)
    simp only [okI, Bool.and_eq_true, decide_eq_true_eq] at hok
    simp only [Fi] at H
    split at H
    · rename_i q; exact ps_virt kn (lkAt_B hok.1) hok.2 q H.1 hd2 H.2
    · exact H.elim
  case invokespecial idx =>
    obtain ⟨rfl, hd2⟩ := len_of (k := 3) hd hln rfl (by decide)
    simp only [okI] at hok
    simp only [Fi] at H
    cases hz : Nat.beq a 1000
    · rw [hz] at H hok
      simp only [Bool.false_eq_true, if_false, Bool.and_eq_true, Bool.or_eq_true, decide_eq_true_eq] at hok
      cases hp : popN bb [] st with
      | none => rw [hp] at H; exact H.elim
      | some x =>
        obtain ⟨as, rr⟩ := x
        rw [hp] at H
        match rr, H, hp with
        | .ref r :: rest, H, hp => exact ps_spec kn (hok.1.imp lkAt_B lkAt_B) hok.2 hp hd2 H
        | [], H, _ => exact H.elim
        | .int _ :: _, H, _ => exact H.elim
        | .long _ :: _, H, _ => exact H.elim
        | .float _ :: _, H, _ => exact H.elim
        | .double _ :: _, H, _ => exact H.elim
        | .null :: _, H, _ => exact H.elim
        | .retAddr _ :: _, H, _ => exact H.elim
    · rw [hz] at H hok
      simp only [if_true, Bool.and_eq_true, decide_eq_true_eq] at hok
      rw [hok.2] at H
      cases st with
      | nil => exact H.elim
      | cons v rest =>
        match v, H with
        | .ref r, H => exact ps_objI kn (lkAt_B hok.1.1) hok.1.2 H.1 hd2 H.2
        | .int _, H => exact H.elim
        | .long _, H => exact H.elim
        | .float _, H => exact H.elim
        | .double _, H => exact H.elim
        | .null, H => exact H.elim
        | .retAddr _, H => exact H.elim
  case invokestatic idx =>
    obtain ⟨rfl, hd2⟩ := len_of (k := 3) hd hln rfl (by decide)
    simp only [okI] at hok
    simp only [Fi] at H
    generalize spc a = z at H hok
    split at H
    · simp only [Bool.and_eq_true, decide_eq_true_eq] at hok
      exact ps_copy kn (lkAt_B hok.1) hok.2 H.1.1 H.1.2.1 H.1.2.2 H.2.1.1 H.2.1.2.1 H.2.1.2.2 H.2.2.1.1 H.2.2.1.2.1 H.2.2.1.2.2 H.2.2.2.1.1 H.2.2.2.1.2 H.2.2.2.2.1 H.2.2.2.2.2.1 hd2 H.2.2.2.2.2.2
    · simp only [Bool.and_eq_true, decide_eq_true_eq] at hok
      exact ps_max kn (lkAt_B hok.1) hok.2 H.1 hd2 H.2
    · simp only [Bool.and_eq_true, decide_eq_true_eq] at hok
      exact ps_min kn (lkAt_B hok.1) hok.2 H.1 hd2 H.2
    · simp only [Bool.and_eq_true, decide_eq_true_eq] at hok
      split at H
      · rename_i q; exact ps_stat kn (lkAt_B hok.1) hok.2 q hd2 H
      · exact H.elim
    · exact H.elim
  case ireturn =>
    obtain ⟨rfl, hd2⟩ := len_of (k := 1) hd hln rfl (by decide)
    simp only [Fi] at H
    split at H
    · split at H
      · rename_i q; exact ps_ireturn hd2 (Or.inl q) H
      · rename_i q; exact ps_ireturn hd2 (Or.inr ⟨q, H.1⟩) H.2
      · exact H.elim
    · exact H.elim
  case lreturn =>
    obtain ⟨rfl, hd2⟩ := len_of (k := 1) hd hln rfl (by decide)
    simp only [Fi] at H
    split at H
    · exact ps_lreturn hd2 H.1 H.2
    · exact H.elim
  case return_ =>
    obtain ⟨rfl, hd2⟩ := len_of (k := 1) hd hln rfl (by decide)
    simp only [Fi] at H
    split at H
    · exact ps_return hd2 H.1 H.2
    · exact H.elim
  all_goals exact H.elim
theorem PS_of_Wp (H : Wp X pc lo st h bd Q) : PS l D dA base b X pc lo st h bd Q := by
  refine H (PS l D dA base b) fun X pc lo st h bd Q H => ?_
  unfold F at H
  cases hte : (tab X).lookup pc with
  | none => rw [hte] at H; exact H.elim
  | some te =>
    rw [hte] at H
    obtain ⟨hd, hln, hok⟩ := tab_at hte
    exact Fi_sound hd hln hok H
end PSF
