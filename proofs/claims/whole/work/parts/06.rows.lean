theorem mx_iadd {μ : mx_Me} {d pc n : Nat} {ls st : List Value} {M : mx_M} {Q : mx_O → mx_M → Prop} {x y : Int32} (hd : decode μ.2.1 pc = .ok (.iadd, 1)) (hn : pc + 1 = n) (k : mx_W μ d n ls (.int (x + y) :: st) M Q) : mx_W μ d pc ls (.int y :: .int x :: st) M Q := by
  subst hn
  exact fun Γ p l e R s m args below meth c a0 n0 H locs cells slots ad la C A L => lv_iadd C.1 C.2.1 hd (k Γ p l e R s m args below meth c a0 n0 H locs cells slots ad la C A L)
theorem mx_isub {μ : mx_Me} {d pc n : Nat} {ls st : List Value} {M : mx_M} {Q : mx_O → mx_M → Prop} {x y : Int32} (hd : decode μ.2.1 pc = .ok (.isub, 1)) (hn : pc + 1 = n) (k : mx_W μ d n ls (.int (x - y) :: st) M Q) : mx_W μ d pc ls (.int y :: .int x :: st) M Q := by
  subst hn
  exact fun Γ p l e R s m args below meth c a0 n0 H locs cells slots ad la C A L => lv_isub C.1 C.2.1 hd (k Γ p l e R s m args below meth c a0 n0 H locs cells slots ad la C A L)
theorem mx_imul {μ : mx_Me} {d pc n : Nat} {ls st : List Value} {M : mx_M} {Q : mx_O → mx_M → Prop} {x y : Int32} (hd : decode μ.2.1 pc = .ok (.imul, 1)) (hn : pc + 1 = n) (k : mx_W μ d n ls (.int (x * y) :: st) M Q) : mx_W μ d pc ls (.int y :: .int x :: st) M Q := by
  subst hn
  exact fun Γ p l e R s m args below meth c a0 n0 H locs cells slots ad la C A L => lv_imul C.1 C.2.1 hd (k Γ p l e R s m args below meth c a0 n0 H locs cells slots ad la C A L)
theorem mx_iand {μ : mx_Me} {d pc n : Nat} {ls st : List Value} {M : mx_M} {Q : mx_O → mx_M → Prop} {x y : Int32} (hd : decode μ.2.1 pc = .ok (.iand, 1)) (hn : pc + 1 = n) (k : mx_W μ d n ls (.int (x &&& y) :: st) M Q) : mx_W μ d pc ls (.int y :: .int x :: st) M Q := by
  subst hn
  exact fun Γ p l e R s m args below meth c a0 n0 H locs cells slots ad la C A L => lv_iand C.1 C.2.1 hd (k Γ p l e R s m args below meth c a0 n0 H locs cells slots ad la C A L)
theorem mx_ior {μ : mx_Me} {d pc n : Nat} {ls st : List Value} {M : mx_M} {Q : mx_O → mx_M → Prop} {x y : Int32} (hd : decode μ.2.1 pc = .ok (.ior, 1)) (hn : pc + 1 = n) (k : mx_W μ d n ls (.int (x ||| y) :: st) M Q) : mx_W μ d pc ls (.int y :: .int x :: st) M Q := by
  subst hn
  exact fun Γ p l e R s m args below meth c a0 n0 H locs cells slots ad la C A L => lv_ior C.1 C.2.1 hd (k Γ p l e R s m args below meth c a0 n0 H locs cells slots ad la C A L)
theorem mx_ixor {μ : mx_Me} {d pc n : Nat} {ls st : List Value} {M : mx_M} {Q : mx_O → mx_M → Prop} {x y : Int32} (hd : decode μ.2.1 pc = .ok (.ixor, 1)) (hn : pc + 1 = n) (k : mx_W μ d n ls (.int (x ^^^ y) :: st) M Q) : mx_W μ d pc ls (.int y :: .int x :: st) M Q := by
  subst hn
  exact fun Γ p l e R s m args below meth c a0 n0 H locs cells slots ad la C A L => lv_ixor C.1 C.2.1 hd (k Γ p l e R s m args below meth c a0 n0 H locs cells slots ad la C A L)
theorem mx_ishl {μ : mx_Me} {d pc n : Nat} {ls st : List Value} {M : mx_M} {Q : mx_O → mx_M → Prop} {x y : Int32} (hd : decode μ.2.1 pc = .ok (.ishl, 1)) (hn : pc + 1 = n) (k : mx_W μ d n ls (.int (x <<< (y &&& 31)) :: st) M Q) : mx_W μ d pc ls (.int y :: .int x :: st) M Q := by
  subst hn
  exact fun Γ p l e R s m args below meth c a0 n0 H locs cells slots ad la C A L => lv_ishl C.1 C.2.1 hd (k Γ p l e R s m args below meth c a0 n0 H locs cells slots ad la C A L)
theorem mx_ishr {μ : mx_Me} {d pc n : Nat} {ls st : List Value} {M : mx_M} {Q : mx_O → mx_M → Prop} {x y : Int32} (hd : decode μ.2.1 pc = .ok (.ishr, 1)) (hn : pc + 1 = n) (k : mx_W μ d n ls (.int (x >>> (y &&& 31)) :: st) M Q) : mx_W μ d pc ls (.int y :: .int x :: st) M Q := by
  subst hn
  exact fun Γ p l e R s m args below meth c a0 n0 H locs cells slots ad la C A L => lv_ishr C.1 C.2.1 hd (k Γ p l e R s m args below meth c a0 n0 H locs cells slots ad la C A L)
theorem mx_iushr {μ : mx_Me} {d pc n : Nat} {ls st : List Value} {M : mx_M} {Q : mx_O → mx_M → Prop} {x y : Int32} (hd : decode μ.2.1 pc = .ok (.iushr, 1)) (hn : pc + 1 = n) (k : mx_W μ d n ls (.int ((x.toUInt32 >>> (y.toUInt32 &&& Int32.toUInt32 31)).toInt32) :: st) M Q) : mx_W μ d pc ls (.int y :: .int x :: st) M Q := by
  subst hn
  exact fun Γ p l e R s m args below meth c a0 n0 H locs cells slots ad la C A L => lv_iushr C.1 C.2.1 hd rfl (k Γ p l e R s m args below meth c a0 n0 H locs cells slots ad la C A L)
theorem mx_idiv {μ : mx_Me} {d pc n : Nat} {ls st : List Value} {M : mx_M} {Q : mx_O → mx_M → Prop} {x y : Int32} (hd : decode μ.2.1 pc = .ok (.idiv, 1)) (hn : pc + 1 = n) (hy : ¬ y = 0) (k : mx_W μ d n ls (.int (x / y) :: st) M Q) : mx_W μ d pc ls (.int y :: .int x :: st) M Q := by
  subst hn
  exact fun Γ p l e R s m args below meth c a0 n0 H locs cells slots ad la C A L => lv_idiv C.1 C.2.1 hd hy (k Γ p l e R s m args below meth c a0 n0 H locs cells slots ad la C A L)
theorem mx_irem {μ : mx_Me} {d pc n : Nat} {ls st : List Value} {M : mx_M} {Q : mx_O → mx_M → Prop} {x y : Int32} (hd : decode μ.2.1 pc = .ok (.irem, 1)) (hn : pc + 1 = n) (hy : ¬ y = 0) (k : mx_W μ d n ls (.int (x - x / y * y) :: st) M Q) : mx_W μ d pc ls (.int y :: .int x :: st) M Q := by
  subst hn
  exact fun Γ p l e R s m args below meth c a0 n0 H locs cells slots ad la C A L => lv_irem C.1 C.2.1 hd hy (k Γ p l e R s m args below meth c a0 n0 H locs cells slots ad la C A L)
theorem mx_ineg {μ : mx_Me} {d pc n : Nat} {ls st : List Value} {M : mx_M} {Q : mx_O → mx_M → Prop} {x : Int32} (hd : decode μ.2.1 pc = .ok (.ineg, 1)) (hn : pc + 1 = n) (k : mx_W μ d n ls (.int (-x) :: st) M Q) : mx_W μ d pc ls (.int x :: st) M Q := by
  subst hn
  exact fun Γ p l e R s m args below meth c a0 n0 H locs cells slots ad la C A L => lv_ineg C.1 C.2.1 hd (k Γ p l e R s m args below meth c a0 n0 H locs cells slots ad la C A L)
theorem mx_ladd {μ : mx_Me} {d pc n : Nat} {ls st : List Value} {M : mx_M} {Q : mx_O → mx_M → Prop} {x y : Int64} (hd : decode μ.2.1 pc = .ok (.ladd, 1)) (hn : pc + 1 = n) (k : mx_W μ d n ls (.long (x + y) :: st) M Q) : mx_W μ d pc ls (.long y :: .long x :: st) M Q := by
  subst hn
  exact fun Γ p l e R s m args below meth c a0 n0 H locs cells slots ad la C A L => lv_ladd C.1 C.2.1 hd (k Γ p l e R s m args below meth c a0 n0 H locs cells slots ad la C A L)
theorem mx_lsub {μ : mx_Me} {d pc n : Nat} {ls st : List Value} {M : mx_M} {Q : mx_O → mx_M → Prop} {x y : Int64} (hd : decode μ.2.1 pc = .ok (.lsub, 1)) (hn : pc + 1 = n) (k : mx_W μ d n ls (.long (x - y) :: st) M Q) : mx_W μ d pc ls (.long y :: .long x :: st) M Q := by
  subst hn
  exact fun Γ p l e R s m args below meth c a0 n0 H locs cells slots ad la C A L => lv_lsub C.1 C.2.1 hd (k Γ p l e R s m args below meth c a0 n0 H locs cells slots ad la C A L)
theorem mx_land {μ : mx_Me} {d pc n : Nat} {ls st : List Value} {M : mx_M} {Q : mx_O → mx_M → Prop} {x y : Int64} (hd : decode μ.2.1 pc = .ok (.land, 1)) (hn : pc + 1 = n) (k : mx_W μ d n ls (.long (x &&& y) :: st) M Q) : mx_W μ d pc ls (.long y :: .long x :: st) M Q := by
  subst hn
  exact fun Γ p l e R s m args below meth c a0 n0 H locs cells slots ad la C A L => lv_land C.1 C.2.1 hd (k Γ p l e R s m args below meth c a0 n0 H locs cells slots ad la C A L)
theorem mx_lor {μ : mx_Me} {d pc n : Nat} {ls st : List Value} {M : mx_M} {Q : mx_O → mx_M → Prop} {x y : Int64} (hd : decode μ.2.1 pc = .ok (.lor, 1)) (hn : pc + 1 = n) (k : mx_W μ d n ls (.long (x ||| y) :: st) M Q) : mx_W μ d pc ls (.long y :: .long x :: st) M Q := by
  subst hn
  exact fun Γ p l e R s m args below meth c a0 n0 H locs cells slots ad la C A L => lv_lor C.1 C.2.1 hd (k Γ p l e R s m args below meth c a0 n0 H locs cells slots ad la C A L)
theorem mx_lxor {μ : mx_Me} {d pc n : Nat} {ls st : List Value} {M : mx_M} {Q : mx_O → mx_M → Prop} {x y : Int64} (hd : decode μ.2.1 pc = .ok (.lxor, 1)) (hn : pc + 1 = n) (k : mx_W μ d n ls (.long (x ^^^ y) :: st) M Q) : mx_W μ d pc ls (.long y :: .long x :: st) M Q := by
  subst hn
  exact fun Γ p l e R s m args below meth c a0 n0 H locs cells slots ad la C A L => lv_lxor C.1 C.2.1 hd (k Γ p l e R s m args below meth c a0 n0 H locs cells slots ad la C A L)
theorem mx_lshl {μ : mx_Me} {d pc n : Nat} {ls st : List Value} {M : mx_M} {Q : mx_O → mx_M → Prop} {x : Int64} {y : Int32} (hd : decode μ.2.1 pc = .ok (.lshl, 1)) (hn : pc + 1 = n) (k : mx_W μ d n ls (.long (x <<< (y.toInt64 &&& 63)) :: st) M Q) : mx_W μ d pc ls (.int y :: .long x :: st) M Q := by
  subst hn
  exact fun Γ p l e R s m args below meth c a0 n0 H locs cells slots ad la C A L => lv_lshl C.1 C.2.1 hd rfl (k Γ p l e R s m args below meth c a0 n0 H locs cells slots ad la C A L)
theorem mx_lshr {μ : mx_Me} {d pc n : Nat} {ls st : List Value} {M : mx_M} {Q : mx_O → mx_M → Prop} {x : Int64} {y : Int32} (hd : decode μ.2.1 pc = .ok (.lshr, 1)) (hn : pc + 1 = n) (k : mx_W μ d n ls (.long (x >>> (y.toInt64 &&& 63)) :: st) M Q) : mx_W μ d pc ls (.int y :: .long x :: st) M Q := by
  subst hn
  exact fun Γ p l e R s m args below meth c a0 n0 H locs cells slots ad la C A L => lv_lshr C.1 C.2.1 hd rfl (k Γ p l e R s m args below meth c a0 n0 H locs cells slots ad la C A L)
theorem mx_lushr {μ : mx_Me} {d pc n : Nat} {ls st : List Value} {M : mx_M} {Q : mx_O → mx_M → Prop} {x : Int64} {y : Int32} (hd : decode μ.2.1 pc = .ok (.lushr, 1)) (hn : pc + 1 = n) (k : mx_W μ d n ls (.long ((x.toUInt64 >>> (y.toInt64.toUInt64 &&& Int64.toUInt64 63)).toInt64) :: st) M Q) : mx_W μ d pc ls (.int y :: .long x :: st) M Q := by
  subst hn
  exact fun Γ p l e R s m args below meth c a0 n0 H locs cells slots ad la C A L => lv_lushr C.1 C.2.1 hd rfl (k Γ p l e R s m args below meth c a0 n0 H locs cells slots ad la C A L)
theorem mx_i2l {μ : mx_Me} {d pc n : Nat} {ls st : List Value} {M : mx_M} {Q : mx_O → mx_M → Prop} {x : Int32} (hd : decode μ.2.1 pc = .ok (.i2l, 1)) (hn : pc + 1 = n) (k : mx_W μ d n ls (.long x.toInt64 :: st) M Q) : mx_W μ d pc ls (.int x :: st) M Q := by
  subst hn
  exact fun Γ p l e R s m args below meth c a0 n0 H locs cells slots ad la C A L => lv_i2l C.1 C.2.1 hd rfl (k Γ p l e R s m args below meth c a0 n0 H locs cells slots ad la C A L)
theorem mx_l2i {μ : mx_Me} {d pc n : Nat} {ls st : List Value} {M : mx_M} {Q : mx_O → mx_M → Prop} {x : Int64} (hd : decode μ.2.1 pc = .ok (.l2i, 1)) (hn : pc + 1 = n) (k : mx_W μ d n ls (.int x.toInt32 :: st) M Q) : mx_W μ d pc ls (.long x :: st) M Q := by
  subst hn
  exact fun Γ p l e R s m args below meth c a0 n0 H locs cells slots ad la C A L => lv_l2i C.1 C.2.1 hd rfl (k Γ p l e R s m args below meth c a0 n0 H locs cells slots ad la C A L)
theorem mx_i2b {μ : mx_Me} {d pc n : Nat} {ls st : List Value} {M : mx_M} {Q : mx_O → mx_M → Prop} {x : Int32} (hd : decode μ.2.1 pc = .ok (.i2b, 1)) (hn : pc + 1 = n) (k : mx_W μ d n ls (.int x.toInt8.toInt32 :: st) M Q) : mx_W μ d pc ls (.int x :: st) M Q := by
  subst hn
  exact fun Γ p l e R s m args below meth c a0 n0 H locs cells slots ad la C A L => lv_i2b C.1 C.2.1 hd rfl (k Γ p l e R s m args below meth c a0 n0 H locs cells slots ad la C A L)
theorem mx_i2c {μ : mx_Me} {d pc n : Nat} {ls st : List Value} {M : mx_M} {Q : mx_O → mx_M → Prop} {x : Int32} (hd : decode μ.2.1 pc = .ok (.i2c, 1)) (hn : pc + 1 = n) (k : mx_W μ d n ls (.int (x.toUInt32 % 65536).toInt32 :: st) M Q) : mx_W μ d pc ls (.int x :: st) M Q := by
  subst hn
  exact fun Γ p l e R s m args below meth c a0 n0 H locs cells slots ad la C A L => lv_i2c C.1 C.2.1 hd rfl (k Γ p l e R s m args below meth c a0 n0 H locs cells slots ad la C A L)
theorem mx_lcmp {μ : mx_Me} {d pc n : Nat} {ls st : List Value} {M : mx_M} {Q : mx_O → mx_M → Prop} {x y : Int64} (hd : decode μ.2.1 pc = .ok (.lcmp, 1)) (hn : pc + 1 = n) (k : mx_W μ d n ls (.int (lg_cmp x y) :: st) M Q) : mx_W μ d pc ls (.long y :: .long x :: st) M Q := by
  subst hn
  exact fun Γ p l e R s m args below meth c a0 n0 H locs cells slots ad la C A L => W.lcmp C.1 C.2.1 hd (k Γ p l e R s m args below meth c a0 n0 H locs cells slots ad la C A L)
theorem mx_iconst {μ : mx_Me} {d pc n : Nat} {ls st : List Value} {M : mx_M} {Q : mx_O → mx_M → Prop} {i : Int} {v : Int32} (hd : decode μ.2.1 pc = .ok (.iconst i, 1)) (hn : pc + 1 = n) (hv : Int32.ofInt i = v) (k : mx_W μ d n ls (.int v :: st) M Q) : mx_W μ d pc ls (st) M Q := by
  subst hn
  exact fun Γ p l e R s m args below meth c a0 n0 H locs cells slots ad la C A L => lv_iconst C.1 C.2.1 hd hv (k Γ p l e R s m args below meth c a0 n0 H locs cells slots ad la C A L)
theorem mx_bipush {μ : mx_Me} {d pc n : Nat} {ls st : List Value} {M : mx_M} {Q : mx_O → mx_M → Prop} {i : Int} {v : Int32} (hd : decode μ.2.1 pc = .ok (.bipush i, 2)) (hn : pc + 2 = n) (hv : (Int8.ofInt i).toInt32 = v) (k : mx_W μ d n ls (.int v :: st) M Q) : mx_W μ d pc ls (st) M Q := by
  subst hn
  exact fun Γ p l e R s m args below meth c a0 n0 H locs cells slots ad la C A L => lv_bipush C.1 C.2.1 hd hv (k Γ p l e R s m args below meth c a0 n0 H locs cells slots ad la C A L)
theorem mx_sipush {μ : mx_Me} {d pc n : Nat} {ls st : List Value} {M : mx_M} {Q : mx_O → mx_M → Prop} {i : Int} {v : Int32} (hd : decode μ.2.1 pc = .ok (.sipush i, 3)) (hn : pc + 3 = n) (hv : (Int16.ofInt i).toInt32 = v) (k : mx_W μ d n ls (.int v :: st) M Q) : mx_W μ d pc ls (st) M Q := by
  subst hn
  exact fun Γ p l e R s m args below meth c a0 n0 H locs cells slots ad la C A L => lv_sipush C.1 C.2.1 hd hv (k Γ p l e R s m args below meth c a0 n0 H locs cells slots ad la C A L)
theorem mx_lconst {μ : mx_Me} {d pc n : Nat} {ls st : List Value} {M : mx_M} {Q : mx_O → mx_M → Prop} {i : Fin 2} {v : Int64} (hd : decode μ.2.1 pc = .ok (.lconst i, 1)) (hn : pc + 1 = n) (hv : Int64.ofNat (i : Nat) = v) (k : mx_W μ d n ls (.long v :: st) M Q) : mx_W μ d pc ls (st) M Q := by
  subst hn
  exact fun Γ p l e R s m args below meth c a0 n0 H locs cells slots ad la C A L => lv_lconst C.1 C.2.1 hd hv (k Γ p l e R s m args below meth c a0 n0 H locs cells slots ad la C A L)
theorem mx_cat (Γ : mx_G) (ad : Nat → Nat) (v : Value) : (mx_tv Γ ad v).category = v.category := by
  cases v with
  | ref r => cases r <;> rfl
  | _ => rfl
theorem mx_dup {μ : mx_Me} {d pc n : Nat} {ls st : List Value} {M : mx_M} {Q : mx_O → mx_M → Prop} {v : Value} (hd : decode μ.2.1 pc = .ok (.dup, 1)) (hn : pc + 1 = n) (hv : v.category = 1) (k : mx_W μ d n ls (v :: v :: st) M Q) : mx_W μ d pc ls (v :: st) M Q := by
  subst hn
  exact fun Γ p l e R s m args below meth c a0 n0 H locs cells slots ad la C A L => lv_dup C.1 C.2.1 hd ((mx_cat Γ ad v).trans hv) (k Γ p l e R s m args below meth c a0 n0 H locs cells slots ad la C A L)
theorem mx_pop {μ : mx_Me} {d pc n : Nat} {ls st : List Value} {M : mx_M} {Q : mx_O → mx_M → Prop} {v : Value} (hd : decode μ.2.1 pc = .ok (.pop, 1)) (hn : pc + 1 = n) (hv : v.category = 1) (k : mx_W μ d n ls (st) M Q) : mx_W μ d pc ls (v :: st) M Q := by
  subst hn
  exact fun Γ p l e R s m args below meth c a0 n0 H locs cells slots ad la C A L => lv_pop C.1 C.2.1 hd ((mx_cat Γ ad v).trans hv) (k Γ p l e R s m args below meth c a0 n0 H locs cells slots ad la C A L)
theorem mx_dup_x1 {μ : mx_Me} {d pc n : Nat} {ls st : List Value} {M : mx_M} {Q : mx_O → mx_M → Prop} {v w : Value} (hd : decode μ.2.1 pc = .ok (.dup_x1, 1)) (hn : pc + 1 = n) (hv : v.category = 1) (hw : w.category = 1) (k : mx_W μ d n ls (v :: w :: v :: st) M Q) : mx_W μ d pc ls (v :: w :: st) M Q := by
  subst hn
  exact fun Γ p l e R s m args below meth c a0 n0 H locs cells slots ad la C A L => lv_dup_x1 C.1 C.2.1 hd ((mx_cat Γ ad v).trans hv) ((mx_cat Γ ad w).trans hw) (k Γ p l e R s m args below meth c a0 n0 H locs cells slots ad la C A L)
theorem mx_dup2 {μ : mx_Me} {d pc n : Nat} {ls st : List Value} {M : mx_M} {Q : mx_O → mx_M → Prop} {v w : Value} (hd : decode μ.2.1 pc = .ok (.dup2, 1)) (hn : pc + 1 = n) (hv : v.category = 1) (hw : w.category = 1) (k : mx_W μ d n ls (v :: w :: v :: w :: st) M Q) : mx_W μ d pc ls (v :: w :: st) M Q := by
  subst hn
  exact fun Γ p l e R s m args below meth c a0 n0 H locs cells slots ad la C A L => lv_dup2_11 C.1 C.2.1 hd ((mx_cat Γ ad v).trans hv) ((mx_cat Γ ad w).trans hw) (k Γ p l e R s m args below meth c a0 n0 H locs cells slots ad la C A L)
theorem mx_if_eq {μ : mx_Me} {d pc n : Nat} {ls st : List Value} {M : mx_M} {Q : mx_O → mx_M → Prop} {x : Int32} {off : Int} (t : Nat) (hd : decode μ.2.1 pc = .ok (.ifCond .eq off, 3)) (ht : (pc : Int) + off = (t : Int)) (hn : pc + 3 = n) (kt : x = 0 → mx_W μ d t ls st M Q) (kf : ¬ x = 0 → mx_W μ d n ls st M Q) : mx_W μ d pc ls (.int x :: st) M Q := by
  subst hn
  exact fun Γ p l e R s m args below meth c a0 n0 H locs cells slots ad la C A L => lv_if_eq C.1 C.2.1 hd ht (fun h => (kt h Γ p l e R s m args below meth c a0 n0 H locs cells slots ad la C A L)) (fun h => (kf h Γ p l e R s m args below meth c a0 n0 H locs cells slots ad la C A L))
theorem mx_icmp_eq {μ : mx_Me} {d pc n : Nat} {ls st : List Value} {M : mx_M} {Q : mx_O → mx_M → Prop} {x y : Int32} {off : Int} (t : Nat) (hd : decode μ.2.1 pc = .ok (.if_icmp .eq off, 3)) (ht : (pc : Int) + off = (t : Int)) (hn : pc + 3 = n) (kt : x = y → mx_W μ d t ls st M Q) (kf : ¬ x = y → mx_W μ d n ls st M Q) : mx_W μ d pc ls (.int y :: .int x :: st) M Q := by
  subst hn
  exact fun Γ p l e R s m args below meth c a0 n0 H locs cells slots ad la C A L => lv_icmp_eq C.1 C.2.1 hd ht (fun h => (kt h Γ p l e R s m args below meth c a0 n0 H locs cells slots ad la C A L)) (fun h => (kf h Γ p l e R s m args below meth c a0 n0 H locs cells slots ad la C A L))
theorem mx_if_ne {μ : mx_Me} {d pc n : Nat} {ls st : List Value} {M : mx_M} {Q : mx_O → mx_M → Prop} {x : Int32} {off : Int} (t : Nat) (hd : decode μ.2.1 pc = .ok (.ifCond .ne off, 3)) (ht : (pc : Int) + off = (t : Int)) (hn : pc + 3 = n) (kt : ¬ x = 0 → mx_W μ d t ls st M Q) (kf : x = 0 → mx_W μ d n ls st M Q) : mx_W μ d pc ls (.int x :: st) M Q := by
  subst hn
  exact fun Γ p l e R s m args below meth c a0 n0 H locs cells slots ad la C A L => lv_if_ne C.1 C.2.1 hd ht (fun h => (kt h Γ p l e R s m args below meth c a0 n0 H locs cells slots ad la C A L)) (fun h => (kf h Γ p l e R s m args below meth c a0 n0 H locs cells slots ad la C A L))
theorem mx_icmp_ne {μ : mx_Me} {d pc n : Nat} {ls st : List Value} {M : mx_M} {Q : mx_O → mx_M → Prop} {x y : Int32} {off : Int} (t : Nat) (hd : decode μ.2.1 pc = .ok (.if_icmp .ne off, 3)) (ht : (pc : Int) + off = (t : Int)) (hn : pc + 3 = n) (kt : ¬ x = y → mx_W μ d t ls st M Q) (kf : x = y → mx_W μ d n ls st M Q) : mx_W μ d pc ls (.int y :: .int x :: st) M Q := by
  subst hn
  exact fun Γ p l e R s m args below meth c a0 n0 H locs cells slots ad la C A L => lv_icmp_ne C.1 C.2.1 hd ht (fun h => (kt h Γ p l e R s m args below meth c a0 n0 H locs cells slots ad la C A L)) (fun h => (kf h Γ p l e R s m args below meth c a0 n0 H locs cells slots ad la C A L))
theorem mx_if_lt {μ : mx_Me} {d pc n : Nat} {ls st : List Value} {M : mx_M} {Q : mx_O → mx_M → Prop} {x : Int32} {off : Int} (t : Nat) (hd : decode μ.2.1 pc = .ok (.ifCond .lt off, 3)) (ht : (pc : Int) + off = (t : Int)) (hn : pc + 3 = n) (kt : x < 0 → mx_W μ d t ls st M Q) (kf : ¬ x < 0 → mx_W μ d n ls st M Q) : mx_W μ d pc ls (.int x :: st) M Q := by
  subst hn
  exact fun Γ p l e R s m args below meth c a0 n0 H locs cells slots ad la C A L => lv_if_lt C.1 C.2.1 hd ht (fun h => (kt h Γ p l e R s m args below meth c a0 n0 H locs cells slots ad la C A L)) (fun h => (kf h Γ p l e R s m args below meth c a0 n0 H locs cells slots ad la C A L))
theorem mx_icmp_lt {μ : mx_Me} {d pc n : Nat} {ls st : List Value} {M : mx_M} {Q : mx_O → mx_M → Prop} {x y : Int32} {off : Int} (t : Nat) (hd : decode μ.2.1 pc = .ok (.if_icmp .lt off, 3)) (ht : (pc : Int) + off = (t : Int)) (hn : pc + 3 = n) (kt : x < y → mx_W μ d t ls st M Q) (kf : ¬ x < y → mx_W μ d n ls st M Q) : mx_W μ d pc ls (.int y :: .int x :: st) M Q := by
  subst hn
  exact fun Γ p l e R s m args below meth c a0 n0 H locs cells slots ad la C A L => lv_icmp_lt C.1 C.2.1 hd ht (fun h => (kt h Γ p l e R s m args below meth c a0 n0 H locs cells slots ad la C A L)) (fun h => (kf h Γ p l e R s m args below meth c a0 n0 H locs cells slots ad la C A L))
theorem mx_if_ge {μ : mx_Me} {d pc n : Nat} {ls st : List Value} {M : mx_M} {Q : mx_O → mx_M → Prop} {x : Int32} {off : Int} (t : Nat) (hd : decode μ.2.1 pc = .ok (.ifCond .ge off, 3)) (ht : (pc : Int) + off = (t : Int)) (hn : pc + 3 = n) (kt : 0 ≤ x → mx_W μ d t ls st M Q) (kf : ¬ 0 ≤ x → mx_W μ d n ls st M Q) : mx_W μ d pc ls (.int x :: st) M Q := by
  subst hn
  exact fun Γ p l e R s m args below meth c a0 n0 H locs cells slots ad la C A L => lv_if_ge C.1 C.2.1 hd ht (fun h => (kt h Γ p l e R s m args below meth c a0 n0 H locs cells slots ad la C A L)) (fun h => (kf h Γ p l e R s m args below meth c a0 n0 H locs cells slots ad la C A L))
theorem mx_icmp_ge {μ : mx_Me} {d pc n : Nat} {ls st : List Value} {M : mx_M} {Q : mx_O → mx_M → Prop} {x y : Int32} {off : Int} (t : Nat) (hd : decode μ.2.1 pc = .ok (.if_icmp .ge off, 3)) (ht : (pc : Int) + off = (t : Int)) (hn : pc + 3 = n) (kt : y ≤ x → mx_W μ d t ls st M Q) (kf : ¬ y ≤ x → mx_W μ d n ls st M Q) : mx_W μ d pc ls (.int y :: .int x :: st) M Q := by
  subst hn
  exact fun Γ p l e R s m args below meth c a0 n0 H locs cells slots ad la C A L => lv_icmp_ge C.1 C.2.1 hd ht (fun h => (kt h Γ p l e R s m args below meth c a0 n0 H locs cells slots ad la C A L)) (fun h => (kf h Γ p l e R s m args below meth c a0 n0 H locs cells slots ad la C A L))
theorem mx_if_gt {μ : mx_Me} {d pc n : Nat} {ls st : List Value} {M : mx_M} {Q : mx_O → mx_M → Prop} {x : Int32} {off : Int} (t : Nat) (hd : decode μ.2.1 pc = .ok (.ifCond .gt off, 3)) (ht : (pc : Int) + off = (t : Int)) (hn : pc + 3 = n) (kt : 0 < x → mx_W μ d t ls st M Q) (kf : ¬ 0 < x → mx_W μ d n ls st M Q) : mx_W μ d pc ls (.int x :: st) M Q := by
  subst hn
  exact fun Γ p l e R s m args below meth c a0 n0 H locs cells slots ad la C A L => lv_if_gt C.1 C.2.1 hd ht (fun h => (kt h Γ p l e R s m args below meth c a0 n0 H locs cells slots ad la C A L)) (fun h => (kf h Γ p l e R s m args below meth c a0 n0 H locs cells slots ad la C A L))
theorem mx_icmp_gt {μ : mx_Me} {d pc n : Nat} {ls st : List Value} {M : mx_M} {Q : mx_O → mx_M → Prop} {x y : Int32} {off : Int} (t : Nat) (hd : decode μ.2.1 pc = .ok (.if_icmp .gt off, 3)) (ht : (pc : Int) + off = (t : Int)) (hn : pc + 3 = n) (kt : y < x → mx_W μ d t ls st M Q) (kf : ¬ y < x → mx_W μ d n ls st M Q) : mx_W μ d pc ls (.int y :: .int x :: st) M Q := by
  subst hn
  exact fun Γ p l e R s m args below meth c a0 n0 H locs cells slots ad la C A L => lv_icmp_gt C.1 C.2.1 hd ht (fun h => (kt h Γ p l e R s m args below meth c a0 n0 H locs cells slots ad la C A L)) (fun h => (kf h Γ p l e R s m args below meth c a0 n0 H locs cells slots ad la C A L))
theorem mx_if_le {μ : mx_Me} {d pc n : Nat} {ls st : List Value} {M : mx_M} {Q : mx_O → mx_M → Prop} {x : Int32} {off : Int} (t : Nat) (hd : decode μ.2.1 pc = .ok (.ifCond .le off, 3)) (ht : (pc : Int) + off = (t : Int)) (hn : pc + 3 = n) (kt : x ≤ 0 → mx_W μ d t ls st M Q) (kf : ¬ x ≤ 0 → mx_W μ d n ls st M Q) : mx_W μ d pc ls (.int x :: st) M Q := by
  subst hn
  exact fun Γ p l e R s m args below meth c a0 n0 H locs cells slots ad la C A L => lv_if_le C.1 C.2.1 hd ht (fun h => (kt h Γ p l e R s m args below meth c a0 n0 H locs cells slots ad la C A L)) (fun h => (kf h Γ p l e R s m args below meth c a0 n0 H locs cells slots ad la C A L))
theorem mx_icmp_le {μ : mx_Me} {d pc n : Nat} {ls st : List Value} {M : mx_M} {Q : mx_O → mx_M → Prop} {x y : Int32} {off : Int} (t : Nat) (hd : decode μ.2.1 pc = .ok (.if_icmp .le off, 3)) (ht : (pc : Int) + off = (t : Int)) (hn : pc + 3 = n) (kt : x ≤ y → mx_W μ d t ls st M Q) (kf : ¬ x ≤ y → mx_W μ d n ls st M Q) : mx_W μ d pc ls (.int y :: .int x :: st) M Q := by
  subst hn
  exact fun Γ p l e R s m args below meth c a0 n0 H locs cells slots ad la C A L => lv_icmp_le C.1 C.2.1 hd ht (fun h => (kt h Γ p l e R s m args below meth c a0 n0 H locs cells slots ad la C A L)) (fun h => (kf h Γ p l e R s m args below meth c a0 n0 H locs cells slots ad la C A L))
theorem mx_goto {μ : mx_Me} {d pc n : Nat} {ls st : List Value} {M : mx_M} {Q : mx_O → mx_M → Prop} {off : Int} (hd : decode μ.2.1 pc = .ok (.goto off, 3)) (ht : (pc : Int) + off = (n : Int)) (k : mx_W μ d n ls st M Q) : mx_W μ d pc ls st M Q := fun Γ p l e R s m args below meth c a0 n0 H locs cells slots ad la C A L => lv_goto C.1 C.2.1 hd ht (k Γ p l e R s m args below meth c a0 n0 H locs cells slots ad la C A L)
theorem mx_tsIn {μ : mx_Me} {d pc n : Nat} {ls st : List Value} {M : mx_M} {Q : mx_O → mx_M → Prop} {dflt lo hi : Int} {offs : Array Int} {len : Nat} {off : Int} {x : Int32} (v : Int32) (hx : x = v) (hd : decode μ.2.1 pc = .ok (.tableswitch dflt lo hi offs, len)) (h1 : ¬ v.toInt < lo) (h2 : ¬ hi < v.toInt) (ho : offs[(v.toInt - lo).toNat]? = some off) (ht : (pc : Int) + off = (n : Int)) (k : mx_W μ d n ls st M Q) : mx_W μ d pc ls (.int x :: st) M Q := by
  subst hx
  exact fun Γ p l e R s m args below meth c a0 n0 H locs cells slots ad la C A L => lv_tableIn C.1 C.2.1 hd h1 h2 ho ht (k Γ p l e R s m args below meth c a0 n0 H locs cells slots ad la C A L)
theorem mx_tsOut {μ : mx_Me} {d pc n : Nat} {ls st : List Value} {M : mx_M} {Q : mx_O → mx_M → Prop} {dflt lo hi : Int} {offs : Array Int} {len : Nat} {x : Int32} (hd : decode μ.2.1 pc = .ok (.tableswitch dflt lo hi offs, len)) (h : x.toInt < lo ∨ hi < x.toInt) (ht : (pc : Int) + dflt = (n : Int)) (k : mx_W μ d n ls st M Q) : mx_W μ d pc ls (.int x :: st) M Q := fun Γ p l e R s m args below meth c a0 n0 H locs cells slots ad la C A L => lv_tableOut C.1 C.2.1 hd h ht (k Γ p l e R s m args below meth c a0 n0 H locs cells slots ad la C A L)
theorem mx_iload_n {μ : mx_Me} {d pc n : Nat} {ls st : List Value} {M : mx_M} {Q : mx_O → mx_M → Prop} {q : Fin 4} (i : Nat) {x : Int32} (hd : decode μ.2.1 pc = .ok (.iload_n q, 1)) (hq : (q : Nat) = i) (hn : pc + 1 = n) (hl : ls[i]? = some (.int x)) (k : mx_W μ d n ls (.int x :: st) M Q) : mx_W μ d pc ls st M Q := by
  subst hn
  exact fun Γ p l e R s m args below meth c a0 n0 H locs cells slots ad la C A L => lv_iload_n C.1 C.2.1 hd hq (L.2.2.2 i _ hl (fun h => by cases h)) (k Γ p l e R s m args below meth c a0 n0 H locs cells slots ad la C A L)
theorem mx_iload {μ : mx_Me} {d pc n : Nat} {ls st : List Value} {M : mx_M} {Q : mx_O → mx_M → Prop} (i : Nat) {x : Int32} (hd : decode μ.2.1 pc = .ok (.iload i, 2)) (hn : pc + 2 = n) (hl : ls[i]? = some (.int x)) (k : mx_W μ d n ls (.int x :: st) M Q) : mx_W μ d pc ls st M Q := by
  subst hn
  exact fun Γ p l e R s m args below meth c a0 n0 H locs cells slots ad la C A L => lv_iload C.1 C.2.1 hd (L.2.2.2 i _ hl (fun h => by cases h)) (k Γ p l e R s m args below meth c a0 n0 H locs cells slots ad la C A L)
theorem mx_lload_n {μ : mx_Me} {d pc n : Nat} {ls st : List Value} {M : mx_M} {Q : mx_O → mx_M → Prop} {q : Fin 4} (i : Nat) {x : Int64} (hd : decode μ.2.1 pc = .ok (.lload_n q, 1)) (hq : (q : Nat) = i) (hn : pc + 1 = n) (hl : ls[i]? = some (.long x)) (k : mx_W μ d n ls (.long x :: st) M Q) : mx_W μ d pc ls st M Q := by
  subst hn
  exact fun Γ p l e R s m args below meth c a0 n0 H locs cells slots ad la C A L => lv_lload_n C.1 C.2.1 hd hq (L.2.2.2 i _ hl (fun h => by cases h)) (k Γ p l e R s m args below meth c a0 n0 H locs cells slots ad la C A L)
theorem mx_lload {μ : mx_Me} {d pc n : Nat} {ls st : List Value} {M : mx_M} {Q : mx_O → mx_M → Prop} (i : Nat) {x : Int64} (hd : decode μ.2.1 pc = .ok (.lload i, 2)) (hn : pc + 2 = n) (hl : ls[i]? = some (.long x)) (k : mx_W μ d n ls (.long x :: st) M Q) : mx_W μ d pc ls st M Q := by
  subst hn
  exact fun Γ p l e R s m args below meth c a0 n0 H locs cells slots ad la C A L => lv_lload C.1 C.2.1 hd (L.2.2.2 i _ hl (fun h => by cases h)) (k Γ p l e R s m args below meth c a0 n0 H locs cells slots ad la C A L)
/-- any reference, null too -/
theorem mx_lv_aload_n {p : Program} {l : Launch} {e : Env} {R : Room} {s : State} {m : MethodId} {args : Array Value} {below : List Frame} {meth : Method} {c : Code} {H : Heap} {locs : List Loc} {cells slots : Nat} {Q : State → Prop} {cc : ByteArray} {pc : Nat} {ls : Array Slot} {rest : List Value} (hexec : p.tables.exec = Jvm.exec) (hb : c.code = cc) {k : Fin 4} {i : Nat} {v : Value} (hdg : decode cc pc = .ok (.aload_n k, 1)) (hi : (k : Nat) = i) (hv : v.isRef = true) (hl : ls[i]? = some (.val v)) (k : W p l e R s m args below meth c H locs cells slots Q (F0 m (pc + 1) ls (v :: rest))) : W p l e R s m args below meth c H locs cells slots Q (F0 m pc ls rest) := by
  subst hi
  intro T hT X
  obtain ⟨t, a, b⟩ := k T hT X
  refine ⟨t, ?_, b⟩
  jvm_step X.here [X.here.top, hexec, hb, hdg, hl, hv]
  exact a
theorem mx_lv_aload {p : Program} {l : Launch} {e : Env} {R : Room} {s : State} {m : MethodId} {args : Array Value} {below : List Frame} {meth : Method} {c : Code} {H : Heap} {locs : List Loc} {cells slots : Nat} {Q : State → Prop} {cc : ByteArray} {pc : Nat} {ls : Array Slot} {rest : List Value} (hexec : p.tables.exec = Jvm.exec) (hb : c.code = cc) {i : Nat} {v : Value} (hdg : decode cc pc = .ok (.aload i, 2)) (hv : v.isRef = true) (hl : ls[i]? = some (.val v)) (k : W p l e R s m args below meth c H locs cells slots Q (F0 m (pc + 2) ls (v :: rest))) : W p l e R s m args below meth c H locs cells slots Q (F0 m pc ls rest) := by
  intro T hT X
  obtain ⟨t, a, b⟩ := k T hT X
  refine ⟨t, ?_, b⟩
  jvm_step X.here [X.here.top, hexec, hb, hdg, hl, hv]
  exact a
def mx_isR : Value → Bool
  | .ref _ => true
  | .retAddr (_ + 1) => true
  | _ => false
theorem mx_isR_tv {v : Value} (h : mx_isR v = true) (Γ : mx_G) (ad : Nat → Nat) : (mx_tv Γ ad v).isRef = true ∧ v ≠ .retAddr 0 := by
  cases v with
  | ref r => cases r <;> exact ⟨rfl, fun h => by cases h⟩
  | retAddr n => cases n with
    | zero => cases h
    | succ n => exact ⟨rfl, fun h => by cases h⟩
  | _ => cases h
theorem mx_aload_n {μ : mx_Me} {d pc n : Nat} {ls st : List Value} {M : mx_M} {Q : mx_O → mx_M → Prop} {q : Fin 4} (i : Nat) {v : Value} (hd : decode μ.2.1 pc = .ok (.aload_n q, 1)) (hq : (q : Nat) = i) (hn : pc + 1 = n) (hl : ls[i]? = some v) (hv : mx_isR v = true) (k : mx_W μ d n ls (v :: st) M Q) : mx_W μ d pc ls st M Q := by
  subst hn
  exact fun Γ p l e R s m args below meth c a0 n0 H locs cells slots ad la C A L => mx_lv_aload_n C.1 C.2.1 hd hq (mx_isR_tv hv Γ ad).1 (L.2.2.2 i _ hl (mx_isR_tv hv Γ ad).2) (k Γ p l e R s m args below meth c a0 n0 H locs cells slots ad la C A L)
theorem mx_aload {μ : mx_Me} {d pc n : Nat} {ls st : List Value} {M : mx_M} {Q : mx_O → mx_M → Prop} (i : Nat) {v : Value} (hd : decode μ.2.1 pc = .ok (.aload i, 2)) (hn : pc + 2 = n) (hl : ls[i]? = some v) (hv : mx_isR v = true) (k : mx_W μ d n ls (v :: st) M Q) : mx_W μ d pc ls st M Q := by
  subst hn
  exact fun Γ p l e R s m args below meth c a0 n0 H locs cells slots ad la C A L => mx_lv_aload C.1 C.2.1 hd (mx_isR_tv hv Γ ad).1 (L.2.2.2 i _ hl (mx_isR_tv hv Γ ad).2) (k Γ p l e R s m args below meth c a0 n0 H locs cells slots ad la C A L)
/-- storing into the locals -/
def mx_kil (ls : List Value) : Nat → List Value
  | 0 => ls
  | i + 1 => if (ls.getD i (.retAddr 0)).category = 2 then ls.set i (.retAddr 0) else ls
def mx_st1 (ls : List Value) (i : Nat) (v : Value) : List Value := (mx_kil ls i).set i v
def mx_st2 (ls : List Value) (i : Nat) (v : Value) : List Value := ((mx_kil ls i).set i v).set (i + 1) (.retAddr 0)
theorem mx_kil_len (ls : List Value) (i : Nat) : (mx_kil ls i).length = ls.length := by
  cases i with
  | zero => rfl
  | succ i =>
    show (if _ then _ else _ : List Value).length = _
    split <;> simp
theorem mx_kil_at {ls : List Value} {i k : Nat} {v : Value} (h : (mx_kil ls i)[k]? = some v) (hv : v ≠ .retAddr 0) : ls[k]? = some v ∧ ¬ (k + 1 = i ∧ v.category = 2) := by
  cases i with
  | zero => exact ⟨h, fun q => by omega⟩
  | succ i =>
    change (if (ls.getD i (.retAddr 0)).category = 2 then ls.set i (.retAddr 0) else ls)[k]? = some v at h
    split at h
    · next hc =>
      by_cases hk : k = i
      · subst hk
        by_cases hl : k < ls.length
        · rw [List.getElem?_set_self hl] at h
          exact absurd (Option.some.inj h).symm hv
        · rw [List.getElem?_eq_none_iff.mpr (by simpa using hl)] at h; cases h
      · rw [List.getElem?_set_ne (Ne.symm hk)] at h
        exact ⟨h, fun q => hk (by omega)⟩
    · next hc =>
      refine ⟨h, fun q => ?_⟩
      have hk : k = i := by omega
      subst hk
      rw [List.getD_eq_getElem?_getD, h] at hc
      exact hc q.2
def mx_lv (Γ : mx_G) (ad : Nat → Nat) (ls : List Value) : List (Nat × Value) := (List.range ls.length).filterMap (fun i => match ls[i]? with
  | some v => if v = .retAddr 0 then none else some (i, mx_tv Γ ad v)
  | none => none)
theorem mx_lv_in {Γ : mx_G} {ad : Nat → Nat} {ls : List Value} {i : Nat} {v : Value} (h : ls[i]? = some v) (hv : v ≠ .retAddr 0) : (i, mx_tv Γ ad v) ∈ mx_lv Γ ad ls := by
  unfold mx_lv
  refine List.mem_filterMap.mpr ⟨i, List.mem_range.mpr (List.getElem?_eq_some_iff.mp h).1, ?_⟩
  rw [h]
  simp [hv]
theorem mx_lv_of {Γ : mx_G} {ad : Nat → Nat} {nL : Nat} {ls : List Value} {la : Array Slot} (L : mx_L Γ ad nL ls la) : lv_has la nL (mx_lv Γ ad ls) := by
  refine ⟨L.1, L.2.1, fun q hq => ?_⟩
  obtain ⟨i, -, hi⟩ := List.mem_filterMap.mp hq
  cases hx : ls[i]? with
  | none => rw [hx] at hi; cases hi
  | some v =>
    rw [hx] at hi
    by_cases hv : v = .retAddr 0
    · simp [hv] at hi
    · simp [hv] at hi
      rw [← hi]
      exact L.2.2.2 i v hx hv
theorem mx_L_st1 {Γ : mx_G} {ad : Nat → Nat} {nL : Nat} {ls : List Value} {la la' : Array Slot} {i : Nat} {v : Value} {w : Value} (L : mx_L Γ ad nL ls la) (hi : i < nL) (hw : v ≠ .retAddr 0 → w = mx_tv Γ ad v) (h : lv_has la' nL ((i, w) :: (mx_lv Γ ad ls).filter (fun q => !(q.1 == i) && !(q.1 + 1 == i && q.2.category == 2)))) : mx_L Γ ad nL (mx_st1 ls i v) la' := by
  refine ⟨h.1, h.2.1, by rw [mx_st1, List.length_set, mx_kil_len]; exact L.2.2.1, fun k u hk hu => ?_⟩
  unfold mx_st1 at hk
  by_cases hki : k = i
  · subst hki
    rw [List.getElem?_set_self (by rw [mx_kil_len, L.2.2.1]; exact hi)] at hk
    cases hk
    rw [← hw hu]
    exact h.2.2 (k, w) List.mem_cons_self
  · rw [List.getElem?_set_ne (Ne.symm hki)] at hk
    obtain ⟨h1, h2⟩ := mx_kil_at hk hu
    refine h.2.2 (k, mx_tv Γ ad u) (List.mem_cons_of_mem _ (List.mem_filter.mpr ⟨mx_lv_in h1 hu, ?_⟩))
    rw [← mx_cat Γ ad u] at h2
    simp only [Bool.and_eq_true, Bool.not_eq_true', beq_eq_false_iff_ne, ne_eq, hki, not_false_eq_true, true_and, Bool.and_eq_false_iff]
    by_cases hk1 : k + 1 = i
    · exact Or.inr (fun q => h2 ⟨hk1, q⟩)
    · exact Or.inl hk1
theorem mx_L_st2 {Γ : mx_G} {ad : Nat → Nat} {nL : Nat} {ls : List Value} {la la' : Array Slot} {i : Nat} {v : Value} (L : mx_L Γ ad nL ls la) (hi : i + 1 < nL) (h : lv_has la' nL ((i, mx_tv Γ ad v) :: (mx_lv Γ ad ls).filter (fun q => !(q.1 == i) && (!(q.1 == i + 1) && !(q.1 + 1 == i && q.2.category == 2))))) : mx_L Γ ad nL (mx_st2 ls i v) la' := by
  refine ⟨h.1, h.2.1, by rw [mx_st2, List.length_set, List.length_set, mx_kil_len]; exact L.2.2.1, fun k u hk hu => ?_⟩
  unfold mx_st2 at hk
  by_cases hk2 : k = i + 1
  · subst hk2
    rw [List.getElem?_set_self (by rw [List.length_set, mx_kil_len, L.2.2.1]; exact hi)] at hk
    exact absurd (Option.some.inj hk).symm hu
  · rw [List.getElem?_set_ne (Ne.symm hk2)] at hk
    by_cases hki : k = i
    · subst hki
      rw [List.getElem?_set_self (by rw [mx_kil_len, L.2.2.1]; omega)] at hk
      cases hk
      exact h.2.2 _ List.mem_cons_self
    · rw [List.getElem?_set_ne (Ne.symm hki)] at hk
      obtain ⟨h1, h2⟩ := mx_kil_at hk hu
      refine h.2.2 (k, mx_tv Γ ad u) (List.mem_cons_of_mem _ (List.mem_filter.mpr ⟨mx_lv_in h1 hu, ?_⟩))
      rw [← mx_cat Γ ad u] at h2
      simp only [Bool.and_eq_true, Bool.not_eq_true', beq_eq_false_iff_ne, ne_eq, hki, hk2, not_false_eq_true, true_and, Bool.and_eq_false_iff]
      by_cases hk1 : k + 1 = i
      · exact Or.inr (fun q => h2 ⟨hk1, q⟩)
      · exact Or.inl hk1
theorem mx_istore_n {μ : mx_Me} {d pc n : Nat} {ls st : List Value} {M : mx_M} {Q : mx_O → mx_M → Prop} {q : Fin 4} (i : Nat) {x : Int32} (ls2 : List Value) (hd : decode μ.2.1 pc = .ok (.istore_n q, 1)) (hq : (q : Nat) = i) (hn : pc + 1 = n) (hi : i < μ.2.2.1) (h2 : mx_st1 ls i (.int x) = ls2) (k : mx_W μ d n ls2 st M Q) : mx_W μ d pc ls (.int x :: st) M Q := by
  subst hn; subst h2
  exact fun Γ p l e R s m args below meth c a0 n0 H locs cells slots ad la C A L => lv_istore_n C.1 C.2.1 hd hq (mx_lv_of L) hi rfl (fun la2 h => (k Γ p l e R s m args below meth c a0 n0 H locs cells slots ad la2 C A (mx_L_st1 L hi (fun _ => rfl) h)))
theorem mx_istore {μ : mx_Me} {d pc n : Nat} {ls st : List Value} {M : mx_M} {Q : mx_O → mx_M → Prop} (i : Nat) {x : Int32} (ls2 : List Value) (hd : decode μ.2.1 pc = .ok (.istore i, 2)) (hn : pc + 2 = n) (hi : i < μ.2.2.1) (h2 : mx_st1 ls i (.int x) = ls2) (k : mx_W μ d n ls2 st M Q) : mx_W μ d pc ls (.int x :: st) M Q := by
  subst hn; subst h2
  exact fun Γ p l e R s m args below meth c a0 n0 H locs cells slots ad la C A L => lv_istore C.1 C.2.1 hd (mx_lv_of L) hi rfl (fun la2 h => (k Γ p l e R s m args below meth c a0 n0 H locs cells slots ad la2 C A (mx_L_st1 L hi (fun _ => rfl) h)))
theorem mx_lstore_n {μ : mx_Me} {d pc n : Nat} {ls st : List Value} {M : mx_M} {Q : mx_O → mx_M → Prop} {q : Fin 4} (i : Nat) {x : Int64} (ls2 : List Value) (hd : decode μ.2.1 pc = .ok (.lstore_n q, 1)) (hq : (q : Nat) = i) (hn : pc + 1 = n) (hi : i + 1 < μ.2.2.1) (h2 : mx_st2 ls i (.long x) = ls2) (k : mx_W μ d n ls2 st M Q) : mx_W μ d pc ls (.long x :: st) M Q := by
  subst hn; subst h2
  exact fun Γ p l e R s m args below meth c a0 n0 H locs cells slots ad la C A L => lv_lstore_n C.1 C.2.1 hd hq (mx_lv_of L) hi rfl (fun la2 h => (k Γ p l e R s m args below meth c a0 n0 H locs cells slots ad la2 C A (mx_L_st2 L hi h)))
theorem mx_lstore {μ : mx_Me} {d pc n : Nat} {ls st : List Value} {M : mx_M} {Q : mx_O → mx_M → Prop} (i : Nat) {x : Int64} (ls2 : List Value) (hd : decode μ.2.1 pc = .ok (.lstore i, 2)) (hn : pc + 2 = n) (hi : i + 1 < μ.2.2.1) (h2 : mx_st2 ls i (.long x) = ls2) (k : mx_W μ d n ls2 st M Q) : mx_W μ d pc ls (.long x :: st) M Q := by
  subst hn; subst h2
  exact fun Γ p l e R s m args below meth c a0 n0 H locs cells slots ad la C A L => lv_lstore C.1 C.2.1 hd (mx_lv_of L) hi rfl (fun la2 h => (k Γ p l e R s m args below meth c a0 n0 H locs cells slots ad la2 C A (mx_L_st2 L hi h)))
theorem mx_lv_astore_n {p : Program} {l : Launch} {e : Env} {R : Room} {s : State} {m : MethodId} {args : Array Value} {below : List Frame} {meth : Method} {c : Code} {H : Heap} {locs : List Loc} {cells slots : Nat} {Q : State → Prop} {cc : ByteArray} {pc : Nat} {ls : Array Slot} {rest : List Value} {lv : List (Nat × Value)} {nL : Nat} (hexec : p.tables.exec = Jvm.exec) (hb : c.code = cc) {k : Fin 4} {i : Nat} {v : Value} (hdg : decode cc pc = .ok (.astore_n k, 1)) (hi : (k : Nat) = i) (hv : v.isRef = true) (hc : v.category = 1) (h : lv_has ls nL lv) (hn : i < nL)
    (kk : ∀ ls' : Array Slot, lv_has ls' nL ((i, v) :: lv.filter (fun q => !(q.1 == i) && !(q.1 + 1 == i && q.2.category == 2))) → W p l e R s m args below meth c H locs cells slots Q (F0 m (pc + 1) ls' rest)) : W p l e R s m args below meth c H locs cells slots Q (F0 m pc ls (v :: rest)) := by
  subst hi
  obtain ⟨ls', e', h'⟩ := lv_store1 (v := v) h hn hc
  intro T hT X
  obtain ⟨t, a, b⟩ := kk ls' h' T hT X
  refine ⟨t, ?_, b⟩
  jvm_step X.here [X.here.top, ↓top_set X.here.top, hexec, hb, hdg, e', hv]
  exact a
theorem mx_lv_astore {p : Program} {l : Launch} {e : Env} {R : Room} {s : State} {m : MethodId} {args : Array Value} {below : List Frame} {meth : Method} {c : Code} {H : Heap} {locs : List Loc} {cells slots : Nat} {Q : State → Prop} {cc : ByteArray} {pc : Nat} {ls : Array Slot} {rest : List Value} {lv : List (Nat × Value)} {nL : Nat} (hexec : p.tables.exec = Jvm.exec) (hb : c.code = cc) {i : Nat} {v : Value} (hdg : decode cc pc = .ok (.astore i, 2)) (hv : v.isRef = true) (hc : v.category = 1) (h : lv_has ls nL lv) (hn : i < nL)
    (kk : ∀ ls' : Array Slot, lv_has ls' nL ((i, v) :: lv.filter (fun q => !(q.1 == i) && !(q.1 + 1 == i && q.2.category == 2))) → W p l e R s m args below meth c H locs cells slots Q (F0 m (pc + 2) ls' rest)) : W p l e R s m args below meth c H locs cells slots Q (F0 m pc ls (v :: rest)) := by
  obtain ⟨ls', e', h'⟩ := lv_store1 (v := v) h hn hc
  intro T hT X
  obtain ⟨t, a, b⟩ := kk ls' h' T hT X
  refine ⟨t, ?_, b⟩
  jvm_step X.here [X.here.top, ↓top_set X.here.top, hexec, hb, hdg, e', hv]
  exact a
theorem mx_astore_n {μ : mx_Me} {d pc n : Nat} {ls st : List Value} {M : mx_M} {Q : mx_O → mx_M → Prop} {q : Fin 4} (i : Nat) {v : Value} (ls2 : List Value) (hd : decode μ.2.1 pc = .ok (.astore_n q, 1)) (hq : (q : Nat) = i) (hn : pc + 1 = n) (hi : i < μ.2.2.1) (hv : mx_isR v = true) (hc : v.category = 1) (h2 : mx_st1 ls i v = ls2) (k : mx_W μ d n ls2 st M Q) : mx_W μ d pc ls (v :: st) M Q := by
  subst hn; subst h2
  exact fun Γ p l e R s m args below meth c a0 n0 H locs cells slots ad la C A L => mx_lv_astore_n C.1 C.2.1 hd hq (mx_isR_tv hv Γ ad).1 ((mx_cat Γ ad v).trans hc) (mx_lv_of L) hi (fun la2 h => (k Γ p l e R s m args below meth c a0 n0 H locs cells slots ad la2 C A (mx_L_st1 L hi (fun _ => rfl) h)))
theorem mx_astore {μ : mx_Me} {d pc n : Nat} {ls st : List Value} {M : mx_M} {Q : mx_O → mx_M → Prop} (i : Nat) {v : Value} (ls2 : List Value) (hd : decode μ.2.1 pc = .ok (.astore i, 2)) (hn : pc + 2 = n) (hi : i < μ.2.2.1) (hv : mx_isR v = true) (hc : v.category = 1) (h2 : mx_st1 ls i v = ls2) (k : mx_W μ d n ls2 st M Q) : mx_W μ d pc ls (v :: st) M Q := by
  subst hn; subst h2
  exact fun Γ p l e R s m args below meth c a0 n0 H locs cells slots ad la C A L => mx_lv_astore C.1 C.2.1 hd (mx_isR_tv hv Γ ad).1 ((mx_cat Γ ad v).trans hc) (mx_lv_of L) hi (fun la2 h => (k Γ p l e R s m args below meth c a0 n0 H locs cells slots ad la2 C A (mx_L_st1 L hi (fun _ => rfl) h)))
theorem mx_iinc {μ : mx_Me} {d pc n : Nat} {ls st : List Value} {M : mx_M} {Q : mx_O → mx_M → Prop} (i : Nat) {a : Int} {x v : Int32} (ls2 : List Value) (hd : decode μ.2.1 pc = .ok (.iinc i a, 3)) (hn : pc + 3 = n) (hi : i < μ.2.2.1) (hl : ls[i]? = some (.int x)) (hv : x + Int32.ofInt a = v) (h2 : mx_st1 ls i (.int v) = ls2) (k : mx_W μ d n ls2 st M Q) : mx_W μ d pc ls st M Q := by
  subst hn; subst h2
  intro Γ p l e R s m args below meth c a0 n0 H locs cells slots ad la C A L
  obtain ⟨k9, hk9⟩ := List.getElem?_of_mem (mx_lv_in (Γ := Γ) (ad := ad) hl (fun h => by cases h))
  exact lv_iinc C.1 C.2.1 hd (mx_lv_of L) hk9 hv hi rfl (fun la2 h => (k Γ p l e R s m args below meth c a0 n0 H locs cells slots ad la2 C A (mx_L_st1 L hi (fun _ => rfl) h)))
