section AMR
variable {l : Launch} {g : am_G} {M : am_M} {d : Nat} {kn : Nat × Nat × Bool} {pc : Nat} {L : List (Nat × Value)} {S : List Value} {h : am_H} {Q : Option Value → am_H → Prop}
theorem J_iconst {n : Int} {v : Int32} (hd : decode M.2.1 pc = .ok (.iconst n, 1)) (hv : Int32.ofInt n = v) (k : am_J l g M d kn (pc + 1) L (.int v :: S) h Q) : am_J l g M d kn pc L (S) h Q := by
  intro p e R s m args below meth c H locs ls Qm C hr hl f1 f2 f3
  exact lv_iconst C.1 C.2.1 hd hv (k p e R s m args below meth c H locs ls Qm C hr hl f1 f2 f3)
theorem J_bipush {n : Int} {v : Int32} (hd : decode M.2.1 pc = .ok (.bipush n, 2)) (hv : (Int8.ofInt n).toInt32 = v) (k : am_J l g M d kn (pc + 2) L (.int v :: S) h Q) : am_J l g M d kn pc L (S) h Q := by
  intro p e R s m args below meth c H locs ls Qm C hr hl f1 f2 f3
  exact lv_bipush C.1 C.2.1 hd hv (k p e R s m args below meth c H locs ls Qm C hr hl f1 f2 f3)
theorem J_sipush {n : Int} {v : Int32} (hd : decode M.2.1 pc = .ok (.sipush n, 3)) (hv : (Int16.ofInt n).toInt32 = v) (k : am_J l g M d kn (pc + 3) L (.int v :: S) h Q) : am_J l g M d kn pc L (S) h Q := by
  intro p e R s m args below meth c H locs ls Qm C hr hl f1 f2 f3
  exact lv_sipush C.1 C.2.1 hd hv (k p e R s m args below meth c H locs ls Qm C hr hl f1 f2 f3)
theorem J_lconst {n : Fin 2} {v : Int64} (hd : decode M.2.1 pc = .ok (.lconst n, 1)) (hv : Int64.ofNat (n : Nat) = v) (k : am_J l g M d kn (pc + 1) L (.long v :: S) h Q) : am_J l g M d kn pc L (S) h Q := by
  intro p e R s m args below meth c H locs ls Qm C hr hl f1 f2 f3
  exact lv_lconst C.1 C.2.1 hd hv (k p e R s m args below meth c H locs ls Qm C hr hl f1 f2 f3)
theorem J_iadd {x y : Int32} (hd : decode M.2.1 pc = .ok (.iadd, 1))  (k : am_J l g M d kn (pc + 1) L (.int (x + y) :: S) h Q) : am_J l g M d kn pc L (.int y :: .int x :: S) h Q := by
  intro p e R s m args below meth c H locs ls Qm C hr hl f1 f2 f3
  exact lv_iadd C.1 C.2.1 hd  (k p e R s m args below meth c H locs ls Qm C hr hl f1 f2 f3)
theorem J_isub {x y : Int32} (hd : decode M.2.1 pc = .ok (.isub, 1))  (k : am_J l g M d kn (pc + 1) L (.int (x - y) :: S) h Q) : am_J l g M d kn pc L (.int y :: .int x :: S) h Q := by
  intro p e R s m args below meth c H locs ls Qm C hr hl f1 f2 f3
  exact lv_isub C.1 C.2.1 hd  (k p e R s m args below meth c H locs ls Qm C hr hl f1 f2 f3)
theorem J_imul {x y : Int32} (hd : decode M.2.1 pc = .ok (.imul, 1))  (k : am_J l g M d kn (pc + 1) L (.int (x * y) :: S) h Q) : am_J l g M d kn pc L (.int y :: .int x :: S) h Q := by
  intro p e R s m args below meth c H locs ls Qm C hr hl f1 f2 f3
  exact lv_imul C.1 C.2.1 hd  (k p e R s m args below meth c H locs ls Qm C hr hl f1 f2 f3)
theorem J_iand {x y : Int32} (hd : decode M.2.1 pc = .ok (.iand, 1))  (k : am_J l g M d kn (pc + 1) L (.int (x &&& y) :: S) h Q) : am_J l g M d kn pc L (.int y :: .int x :: S) h Q := by
  intro p e R s m args below meth c H locs ls Qm C hr hl f1 f2 f3
  exact lv_iand C.1 C.2.1 hd  (k p e R s m args below meth c H locs ls Qm C hr hl f1 f2 f3)
theorem J_ior {x y : Int32} (hd : decode M.2.1 pc = .ok (.ior, 1))  (k : am_J l g M d kn (pc + 1) L (.int (x ||| y) :: S) h Q) : am_J l g M d kn pc L (.int y :: .int x :: S) h Q := by
  intro p e R s m args below meth c H locs ls Qm C hr hl f1 f2 f3
  exact lv_ior C.1 C.2.1 hd  (k p e R s m args below meth c H locs ls Qm C hr hl f1 f2 f3)
theorem J_ixor {x y : Int32} (hd : decode M.2.1 pc = .ok (.ixor, 1))  (k : am_J l g M d kn (pc + 1) L (.int (x ^^^ y) :: S) h Q) : am_J l g M d kn pc L (.int y :: .int x :: S) h Q := by
  intro p e R s m args below meth c H locs ls Qm C hr hl f1 f2 f3
  exact lv_ixor C.1 C.2.1 hd  (k p e R s m args below meth c H locs ls Qm C hr hl f1 f2 f3)
theorem J_ladd {x y : Int64} (hd : decode M.2.1 pc = .ok (.ladd, 1))  (k : am_J l g M d kn (pc + 1) L (.long (x + y) :: S) h Q) : am_J l g M d kn pc L (.long y :: .long x :: S) h Q := by
  intro p e R s m args below meth c H locs ls Qm C hr hl f1 f2 f3
  exact lv_ladd C.1 C.2.1 hd  (k p e R s m args below meth c H locs ls Qm C hr hl f1 f2 f3)
theorem J_lsub {x y : Int64} (hd : decode M.2.1 pc = .ok (.lsub, 1))  (k : am_J l g M d kn (pc + 1) L (.long (x - y) :: S) h Q) : am_J l g M d kn pc L (.long y :: .long x :: S) h Q := by
  intro p e R s m args below meth c H locs ls Qm C hr hl f1 f2 f3
  exact lv_lsub C.1 C.2.1 hd  (k p e R s m args below meth c H locs ls Qm C hr hl f1 f2 f3)
theorem J_lmul {x y : Int64} (hd : decode M.2.1 pc = .ok (.lmul, 1))  (k : am_J l g M d kn (pc + 1) L (.long (x * y) :: S) h Q) : am_J l g M d kn pc L (.long y :: .long x :: S) h Q := by
  intro p e R s m args below meth c H locs ls Qm C hr hl f1 f2 f3
  exact lv_lmul C.1 C.2.1 hd  (k p e R s m args below meth c H locs ls Qm C hr hl f1 f2 f3)
theorem J_land {x y : Int64} (hd : decode M.2.1 pc = .ok (.land, 1))  (k : am_J l g M d kn (pc + 1) L (.long (x &&& y) :: S) h Q) : am_J l g M d kn pc L (.long y :: .long x :: S) h Q := by
  intro p e R s m args below meth c H locs ls Qm C hr hl f1 f2 f3
  exact lv_land C.1 C.2.1 hd  (k p e R s m args below meth c H locs ls Qm C hr hl f1 f2 f3)
theorem J_lor {x y : Int64} (hd : decode M.2.1 pc = .ok (.lor, 1))  (k : am_J l g M d kn (pc + 1) L (.long (x ||| y) :: S) h Q) : am_J l g M d kn pc L (.long y :: .long x :: S) h Q := by
  intro p e R s m args below meth c H locs ls Qm C hr hl f1 f2 f3
  exact lv_lor C.1 C.2.1 hd  (k p e R s m args below meth c H locs ls Qm C hr hl f1 f2 f3)
theorem J_lxor {x y : Int64} (hd : decode M.2.1 pc = .ok (.lxor, 1))  (k : am_J l g M d kn (pc + 1) L (.long (x ^^^ y) :: S) h Q) : am_J l g M d kn pc L (.long y :: .long x :: S) h Q := by
  intro p e R s m args below meth c H locs ls Qm C hr hl f1 f2 f3
  exact lv_lxor C.1 C.2.1 hd  (k p e R s m args below meth c H locs ls Qm C hr hl f1 f2 f3)
theorem J_idiv {x y : Int32} (hd : decode M.2.1 pc = .ok (.idiv, 1)) (hne : ¬ y = 0) (k : am_J l g M d kn (pc + 1) L (.int (x / y) :: S) h Q) : am_J l g M d kn pc L (.int y :: .int x :: S) h Q := by
  intro p e R s m args below meth c H locs ls Qm C hr hl f1 f2 f3
  exact lv_idiv C.1 C.2.1 hd hne (k p e R s m args below meth c H locs ls Qm C hr hl f1 f2 f3)
theorem J_irem {x y : Int32} (hd : decode M.2.1 pc = .ok (.irem, 1)) (hne : ¬ y = 0) (k : am_J l g M d kn (pc + 1) L (.int (x - x / y * y) :: S) h Q) : am_J l g M d kn pc L (.int y :: .int x :: S) h Q := by
  intro p e R s m args below meth c H locs ls Qm C hr hl f1 f2 f3
  exact lv_irem C.1 C.2.1 hd hne (k p e R s m args below meth c H locs ls Qm C hr hl f1 f2 f3)
theorem J_ldiv {x y : Int64} (hd : decode M.2.1 pc = .ok (.ldiv, 1)) (hne : ¬ y = 0) (k : am_J l g M d kn (pc + 1) L (.long (x / y) :: S) h Q) : am_J l g M d kn pc L (.long y :: .long x :: S) h Q := by
  intro p e R s m args below meth c H locs ls Qm C hr hl f1 f2 f3
  exact lv_ldiv C.1 C.2.1 hd hne (k p e R s m args below meth c H locs ls Qm C hr hl f1 f2 f3)
theorem J_ineg {x : Int32} (hd : decode M.2.1 pc = .ok (.ineg, 1))  (k : am_J l g M d kn (pc + 1) L (.int (-x) :: S) h Q) : am_J l g M d kn pc L (.int x :: S) h Q := by
  intro p e R s m args below meth c H locs ls Qm C hr hl f1 f2 f3
  exact lv_ineg C.1 C.2.1 hd  (k p e R s m args below meth c H locs ls Qm C hr hl f1 f2 f3)
theorem J_lneg {x : Int64} (hd : decode M.2.1 pc = .ok (.lneg, 1))  (k : am_J l g M d kn (pc + 1) L (.long (-x) :: S) h Q) : am_J l g M d kn pc L (.long x :: S) h Q := by
  intro p e R s m args below meth c H locs ls Qm C hr hl f1 f2 f3
  exact lv_lneg C.1 C.2.1 hd  (k p e R s m args below meth c H locs ls Qm C hr hl f1 f2 f3)
theorem J_ishl {x y : Int32} (hd : decode M.2.1 pc = .ok (.ishl, 1))  (k : am_J l g M d kn (pc + 1) L (.int (x <<< (y &&& 31)) :: S) h Q) : am_J l g M d kn pc L (.int y :: .int x :: S) h Q := by
  intro p e R s m args below meth c H locs ls Qm C hr hl f1 f2 f3
  exact lv_ishl C.1 C.2.1 hd  (k p e R s m args below meth c H locs ls Qm C hr hl f1 f2 f3)
theorem J_ishr {x y : Int32} (hd : decode M.2.1 pc = .ok (.ishr, 1))  (k : am_J l g M d kn (pc + 1) L (.int (x >>> (y &&& 31)) :: S) h Q) : am_J l g M d kn pc L (.int y :: .int x :: S) h Q := by
  intro p e R s m args below meth c H locs ls Qm C hr hl f1 f2 f3
  exact lv_ishr C.1 C.2.1 hd  (k p e R s m args below meth c H locs ls Qm C hr hl f1 f2 f3)
theorem J_lshl {x : Int64} {y : Int32} (hd : decode M.2.1 pc = .ok (.lshl, 1))  (k : am_J l g M d kn (pc + 1) L (.long (x <<< (y.toInt64 &&& 63)) :: S) h Q) : am_J l g M d kn pc L (.int y :: .long x :: S) h Q := by
  intro p e R s m args below meth c H locs ls Qm C hr hl f1 f2 f3
  exact lv_lshl C.1 C.2.1 hd rfl (k p e R s m args below meth c H locs ls Qm C hr hl f1 f2 f3)
theorem J_lshr {x : Int64} {y : Int32} (hd : decode M.2.1 pc = .ok (.lshr, 1))  (k : am_J l g M d kn (pc + 1) L (.long (x >>> (y.toInt64 &&& 63)) :: S) h Q) : am_J l g M d kn pc L (.int y :: .long x :: S) h Q := by
  intro p e R s m args below meth c H locs ls Qm C hr hl f1 f2 f3
  exact lv_lshr C.1 C.2.1 hd rfl (k p e R s m args below meth c H locs ls Qm C hr hl f1 f2 f3)
theorem J_lushr {x : Int64} {y : Int32} (hd : decode M.2.1 pc = .ok (.lushr, 1))  (k : am_J l g M d kn (pc + 1) L (.long ((x.toUInt64 >>> (y.toInt64.toUInt64 &&& Int64.toUInt64 63)).toInt64) :: S) h Q) : am_J l g M d kn pc L (.int y :: .long x :: S) h Q := by
  intro p e R s m args below meth c H locs ls Qm C hr hl f1 f2 f3
  exact lv_lushr C.1 C.2.1 hd rfl (k p e R s m args below meth c H locs ls Qm C hr hl f1 f2 f3)
theorem J_i2l {x : Int32} (hd : decode M.2.1 pc = .ok (.i2l, 1))  (k : am_J l g M d kn (pc + 1) L (.long x.toInt64 :: S) h Q) : am_J l g M d kn pc L (.int x :: S) h Q := by
  intro p e R s m args below meth c H locs ls Qm C hr hl f1 f2 f3
  exact lv_i2l C.1 C.2.1 hd rfl (k p e R s m args below meth c H locs ls Qm C hr hl f1 f2 f3)
theorem J_l2i {x : Int64} (hd : decode M.2.1 pc = .ok (.l2i, 1))  (k : am_J l g M d kn (pc + 1) L (.int x.toInt32 :: S) h Q) : am_J l g M d kn pc L (.long x :: S) h Q := by
  intro p e R s m args below meth c H locs ls Qm C hr hl f1 f2 f3
  exact lv_l2i C.1 C.2.1 hd rfl (k p e R s m args below meth c H locs ls Qm C hr hl f1 f2 f3)
theorem J_i2c {x : Int32} (hd : decode M.2.1 pc = .ok (.i2c, 1))  (k : am_J l g M d kn (pc + 1) L (.int (x.toUInt32 % 65536).toInt32 :: S) h Q) : am_J l g M d kn pc L (.int x :: S) h Q := by
  intro p e R s m args below meth c H locs ls Qm C hr hl f1 f2 f3
  exact lv_i2c C.1 C.2.1 hd rfl (k p e R s m args below meth c H locs ls Qm C hr hl f1 f2 f3)
theorem J_lcmp {x y : Int64} (hd : decode M.2.1 pc = .ok (.lcmp, 1))  (k : am_J l g M d kn (pc + 1) L (.int (lg_cmp x y) :: S) h Q) : am_J l g M d kn pc L (.long y :: .long x :: S) h Q := by
  intro p e R s m args below meth c H locs ls Qm C hr hl f1 f2 f3
  exact W.lcmp C.1 C.2.1 hd  (k p e R s m args below meth c H locs ls Qm C hr hl f1 f2 f3)
theorem J_dup {v : Value} (hd : decode M.2.1 pc = .ok (.dup, 1)) (hv : v.category = 1) (k : am_J l g M d kn (pc + 1) L (v :: v :: S) h Q) : am_J l g M d kn pc L (v :: S) h Q := by
  intro p e R s m args below meth c H locs ls Qm C hr hl f1 f2 f3
  exact lv_dup C.1 C.2.1 hd ((am_t_cat g v).trans hv) (k p e R s m args below meth c H locs ls Qm C hr hl f1 f2 f3)
theorem J_pop {v : Value} (hd : decode M.2.1 pc = .ok (.pop, 1)) (hv : v.category = 1) (k : am_J l g M d kn (pc + 1) L (S) h Q) : am_J l g M d kn pc L (v :: S) h Q := by
  intro p e R s m args below meth c H locs ls Qm C hr hl f1 f2 f3
  exact lv_pop C.1 C.2.1 hd ((am_t_cat g v).trans hv) (k p e R s m args below meth c H locs ls Qm C hr hl f1 f2 f3)
theorem J_dup2 {v u : Value} (hd : decode M.2.1 pc = .ok (.dup2, 1)) (hv : v.category = 1) (hu : u.category = 1) (k : am_J l g M d kn (pc + 1) L (v :: u :: v :: u :: S) h Q) : am_J l g M d kn pc L (v :: u :: S) h Q := by
  intro p e R s m args below meth c H locs ls Qm C hr hl f1 f2 f3
  exact lv_dup2_11 C.1 C.2.1 hd ((am_t_cat g v).trans hv) ((am_t_cat g u).trans hu) (k p e R s m args below meth c H locs ls Qm C hr hl f1 f2 f3)
theorem J_dup2l {v : Value} (hd : decode M.2.1 pc = .ok (.dup2, 1)) (hv : v.category = 2) (k : am_J l g M d kn (pc + 1) L (v :: v :: S) h Q) : am_J l g M d kn pc L (v :: S) h Q := by
  intro p e R s m args below meth c H locs ls Qm C hr hl f1 f2 f3
  exact lv_dup2_2 C.1 C.2.1 hd ((am_t_cat g v).trans hv) (k p e R s m args below meth c H locs ls Qm C hr hl f1 f2 f3)
theorem J_iload_n {i : Fin 4} {x : Int32} (hd : decode M.2.1 pc = .ok (.iload_n i, 1)) (j : Nat) (hj : L[j]? = some ((i : Nat), .int x)) (k : am_J l g M d kn (pc + 1) L (.int x :: S) h Q) : am_J l g M d kn pc L S h Q := by
  intro p e R s m args below meth c H locs ls Qm C hr hl f1 f2 f3
  exact lv_iload_n C.1 C.2.1 hd rfl (lv_at hl j (am_lv_get hj)) (k p e R s m args below meth c H locs ls Qm C hr hl f1 f2 f3)
theorem J_iload {i : Nat} {x : Int32} (hd : decode M.2.1 pc = .ok (.iload i, 2)) (j : Nat) (hj : L[j]? = some (i, .int x)) (k : am_J l g M d kn (pc + 2) L (.int x :: S) h Q) : am_J l g M d kn pc L S h Q := by
  intro p e R s m args below meth c H locs ls Qm C hr hl f1 f2 f3
  exact lv_iload C.1 C.2.1 hd  (lv_at hl j (am_lv_get hj)) (k p e R s m args below meth c H locs ls Qm C hr hl f1 f2 f3)
theorem J_lload_n {i : Fin 4} {x : Int64} (hd : decode M.2.1 pc = .ok (.lload_n i, 1)) (j : Nat) (hj : L[j]? = some ((i : Nat), .long x)) (k : am_J l g M d kn (pc + 1) L (.long x :: S) h Q) : am_J l g M d kn pc L S h Q := by
  intro p e R s m args below meth c H locs ls Qm C hr hl f1 f2 f3
  exact lv_lload_n C.1 C.2.1 hd rfl (lv_at hl j (am_lv_get hj)) (k p e R s m args below meth c H locs ls Qm C hr hl f1 f2 f3)
theorem J_lload {i : Nat} {x : Int64} (hd : decode M.2.1 pc = .ok (.lload i, 2)) (j : Nat) (hj : L[j]? = some (i, .long x)) (k : am_J l g M d kn (pc + 2) L (.long x :: S) h Q) : am_J l g M d kn pc L S h Q := by
  intro p e R s m args below meth c H locs ls Qm C hr hl f1 f2 f3
  exact lv_lload C.1 C.2.1 hd  (lv_at hl j (am_lv_get hj)) (k p e R s m args below meth c H locs ls Qm C hr hl f1 f2 f3)
theorem J_aload_n {i : Fin 4} {x : Nat} (hd : decode M.2.1 pc = .ok (.aload_n i, 1)) (j : Nat) (hj : L[j]? = some ((i : Nat), .ref x)) (k : am_J l g M d kn (pc + 1) L (.ref x :: S) h Q) : am_J l g M d kn pc L S h Q := by
  intro p e R s m args below meth c H locs ls Qm C hr hl f1 f2 f3
  exact lv_aload_n C.1 C.2.1 hd rfl (lv_at hl j (am_lv_get hj)) (k p e R s m args below meth c H locs ls Qm C hr hl f1 f2 f3)
theorem J_aload {i : Nat} {x : Nat} (hd : decode M.2.1 pc = .ok (.aload i, 2)) (j : Nat) (hj : L[j]? = some (i, .ref x)) (k : am_J l g M d kn (pc + 2) L (.ref x :: S) h Q) : am_J l g M d kn pc L S h Q := by
  intro p e R s m args below meth c H locs ls Qm C hr hl f1 f2 f3
  exact lv_aload C.1 C.2.1 hd  (lv_at hl j (am_lv_get hj)) (k p e R s m args below meth c H locs ls Qm C hr hl f1 f2 f3)
theorem J_sload_n {i : Fin 4} {x : Nat} (hd : decode M.2.1 pc = .ok (.aload_n i, 1)) (j : Nat) (hj : L[j]? = some ((i : Nat), .retAddr x)) (k : am_J l g M d kn (pc + 1) L (.retAddr x :: S) h Q) : am_J l g M d kn pc L S h Q := by
  intro p e R s m args below meth c H locs ls Qm C hr hl f1 f2 f3
  exact lv_aload_n C.1 C.2.1 hd rfl (lv_at hl j (am_lv_get hj)) (k p e R s m args below meth c H locs ls Qm C hr hl f1 f2 f3)
theorem J_istore_n {i : Fin 4} {x : Int32} {L' : List (Nat × Value)} (hd : decode M.2.1 pc = .ok (.istore_n i, 1)) (hi : (i : Nat) < M.2.2.1) (hL : am_st1 L (i : Nat) (.int x) = L') (k : am_J l g M d kn (pc + 1) L' S h Q) : am_J l g M d kn pc L (.int x :: S) h Q := by
  intro p e R s m args below meth c H locs ls Qm C hr hl f1 f2 f3
  subst hL
  exact lv_istore_n C.1 C.2.1 hd rfl hl hi (am_lv_st1 (g := g) (L := L) (i := (i : Nat)) (v := .int x)) (fun ls' hl' => k p e R s m args below meth c H locs ls' Qm C hr hl' f1 f2 f3)
theorem J_istore {i : Nat} {x : Int32} {L' : List (Nat × Value)} (hd : decode M.2.1 pc = .ok (.istore i, 2)) (hi : i < M.2.2.1) (hL : am_st1 L i (.int x) = L') (k : am_J l g M d kn (pc + 2) L' S h Q) : am_J l g M d kn pc L (.int x :: S) h Q := by
  intro p e R s m args below meth c H locs ls Qm C hr hl f1 f2 f3
  subst hL
  exact lv_istore C.1 C.2.1 hd  hl hi (am_lv_st1 (g := g) (L := L) (i := i) (v := .int x)) (fun ls' hl' => k p e R s m args below meth c H locs ls' Qm C hr hl' f1 f2 f3)
theorem J_lstore_n {i : Fin 4} {x : Int64} {L' : List (Nat × Value)} (hd : decode M.2.1 pc = .ok (.lstore_n i, 1)) (hi : (i : Nat) + 1 < M.2.2.1) (hL : am_st2 L (i : Nat) (.long x) = L') (k : am_J l g M d kn (pc + 1) L' S h Q) : am_J l g M d kn pc L (.long x :: S) h Q := by
  intro p e R s m args below meth c H locs ls Qm C hr hl f1 f2 f3
  subst hL
  exact lv_lstore_n C.1 C.2.1 hd rfl hl hi (am_lv_st2 (g := g) (L := L) (i := (i : Nat)) (v := .long x)) (fun ls' hl' => k p e R s m args below meth c H locs ls' Qm C hr hl' f1 f2 f3)
theorem J_lstore {i : Nat} {x : Int64} {L' : List (Nat × Value)} (hd : decode M.2.1 pc = .ok (.lstore i, 2)) (hi : i + 1 < M.2.2.1) (hL : am_st2 L i (.long x) = L') (k : am_J l g M d kn (pc + 2) L' S h Q) : am_J l g M d kn pc L (.long x :: S) h Q := by
  intro p e R s m args below meth c H locs ls Qm C hr hl f1 f2 f3
  subst hL
  exact lv_lstore C.1 C.2.1 hd  hl hi (am_lv_st2 (g := g) (L := L) (i := i) (v := .long x)) (fun ls' hl' => k p e R s m args below meth c H locs ls' Qm C hr hl' f1 f2 f3)
theorem J_astore_n {i : Fin 4} {x : Nat} {L' : List (Nat × Value)} (hd : decode M.2.1 pc = .ok (.astore_n i, 1)) (hi : (i : Nat) < M.2.2.1) (hL : am_st1 L (i : Nat) (.ref x) = L') (k : am_J l g M d kn (pc + 1) L' S h Q) : am_J l g M d kn pc L (.ref x :: S) h Q := by
  intro p e R s m args below meth c H locs ls Qm C hr hl f1 f2 f3
  subst hL
  exact lv_astore_n C.1 C.2.1 hd rfl hl hi (am_lv_st1 (g := g) (L := L) (i := (i : Nat)) (v := .ref x)) (fun ls' hl' => k p e R s m args below meth c H locs ls' Qm C hr hl' f1 f2 f3)
theorem J_astore {i : Nat} {x : Nat} {L' : List (Nat × Value)} (hd : decode M.2.1 pc = .ok (.astore i, 2)) (hi : i < M.2.2.1) (hL : am_st1 L i (.ref x) = L') (k : am_J l g M d kn (pc + 2) L' S h Q) : am_J l g M d kn pc L (.ref x :: S) h Q := by
  intro p e R s m args below meth c H locs ls Qm C hr hl f1 f2 f3
  subst hL
  exact lv_astore C.1 C.2.1 hd  hl hi (am_lv_st1 (g := g) (L := L) (i := i) (v := .ref x)) (fun ls' hl' => k p e R s m args below meth c H locs ls' Qm C hr hl' f1 f2 f3)
theorem J_iinc {i : Nat} {n : Int} {x v : Int32} {L' : List (Nat × Value)} (hd : decode M.2.1 pc = .ok (.iinc i n, 3)) (j : Nat) (hj : L[j]? = some (i, .int x)) (hv : x + Int32.ofInt n = v) (hi : i < M.2.2.1) (hL : am_st1 L i (.int v) = L') (k : am_J l g M d kn (pc + 3) L' S h Q) : am_J l g M d kn pc L S h Q := by
  intro p e R s m args below meth c H locs ls Qm C hr hl f1 f2 f3
  subst hL
  exact lv_iinc C.1 C.2.1 hd hl (am_lv_get hj) hv hi (am_lv_st1 (g := g) (L := L) (i := i) (v := .int v)) (fun ls' hl' => k p e R s m args below meth c H locs ls' Qm C hr hl' f1 f2 f3)
theorem J_icmp_eq {x y : Int32} {off : Int} {tgt : Nat} (hd : decode M.2.1 pc = .ok (.if_icmp .eq off, 3)) (ht : (pc : Int) + off = (tgt : Int)) (kt : x = y → am_J l g M d kn tgt L S h Q) (kf : ¬ x = y → am_J l g M d kn (pc + 3) L S h Q) : am_J l g M d kn pc L (.int y :: .int x :: S) h Q := by
  intro p e R s m args below meth c H locs ls Qm C hr hl f1 f2 f3
  exact lv_icmp_eq C.1 C.2.1 hd ht (fun q => kt q p e R s m args below meth c H locs ls Qm C hr hl f1 f2 f3) (fun q => kf q p e R s m args below meth c H locs ls Qm C hr hl f1 f2 f3)
theorem J_icmp_ne {x y : Int32} {off : Int} {tgt : Nat} (hd : decode M.2.1 pc = .ok (.if_icmp .ne off, 3)) (ht : (pc : Int) + off = (tgt : Int)) (kt : ¬ x = y → am_J l g M d kn tgt L S h Q) (kf : x = y → am_J l g M d kn (pc + 3) L S h Q) : am_J l g M d kn pc L (.int y :: .int x :: S) h Q := by
  intro p e R s m args below meth c H locs ls Qm C hr hl f1 f2 f3
  exact lv_icmp_ne C.1 C.2.1 hd ht (fun q => kt q p e R s m args below meth c H locs ls Qm C hr hl f1 f2 f3) (fun q => kf q p e R s m args below meth c H locs ls Qm C hr hl f1 f2 f3)
theorem J_icmp_lt {x y : Int32} {off : Int} {tgt : Nat} (hd : decode M.2.1 pc = .ok (.if_icmp .lt off, 3)) (ht : (pc : Int) + off = (tgt : Int)) (kt : x < y → am_J l g M d kn tgt L S h Q) (kf : ¬ x < y → am_J l g M d kn (pc + 3) L S h Q) : am_J l g M d kn pc L (.int y :: .int x :: S) h Q := by
  intro p e R s m args below meth c H locs ls Qm C hr hl f1 f2 f3
  exact lv_icmp_lt C.1 C.2.1 hd ht (fun q => kt q p e R s m args below meth c H locs ls Qm C hr hl f1 f2 f3) (fun q => kf q p e R s m args below meth c H locs ls Qm C hr hl f1 f2 f3)
theorem J_icmp_ge {x y : Int32} {off : Int} {tgt : Nat} (hd : decode M.2.1 pc = .ok (.if_icmp .ge off, 3)) (ht : (pc : Int) + off = (tgt : Int)) (kt : y ≤ x → am_J l g M d kn tgt L S h Q) (kf : ¬ y ≤ x → am_J l g M d kn (pc + 3) L S h Q) : am_J l g M d kn pc L (.int y :: .int x :: S) h Q := by
  intro p e R s m args below meth c H locs ls Qm C hr hl f1 f2 f3
  exact lv_icmp_ge C.1 C.2.1 hd ht (fun q => kt q p e R s m args below meth c H locs ls Qm C hr hl f1 f2 f3) (fun q => kf q p e R s m args below meth c H locs ls Qm C hr hl f1 f2 f3)
theorem J_icmp_gt {x y : Int32} {off : Int} {tgt : Nat} (hd : decode M.2.1 pc = .ok (.if_icmp .gt off, 3)) (ht : (pc : Int) + off = (tgt : Int)) (kt : y < x → am_J l g M d kn tgt L S h Q) (kf : ¬ y < x → am_J l g M d kn (pc + 3) L S h Q) : am_J l g M d kn pc L (.int y :: .int x :: S) h Q := by
  intro p e R s m args below meth c H locs ls Qm C hr hl f1 f2 f3
  exact lv_icmp_gt C.1 C.2.1 hd ht (fun q => kt q p e R s m args below meth c H locs ls Qm C hr hl f1 f2 f3) (fun q => kf q p e R s m args below meth c H locs ls Qm C hr hl f1 f2 f3)
theorem J_icmp_le {x y : Int32} {off : Int} {tgt : Nat} (hd : decode M.2.1 pc = .ok (.if_icmp .le off, 3)) (ht : (pc : Int) + off = (tgt : Int)) (kt : x ≤ y → am_J l g M d kn tgt L S h Q) (kf : ¬ x ≤ y → am_J l g M d kn (pc + 3) L S h Q) : am_J l g M d kn pc L (.int y :: .int x :: S) h Q := by
  intro p e R s m args below meth c H locs ls Qm C hr hl f1 f2 f3
  exact lv_icmp_le C.1 C.2.1 hd ht (fun q => kt q p e R s m args below meth c H locs ls Qm C hr hl f1 f2 f3) (fun q => kf q p e R s m args below meth c H locs ls Qm C hr hl f1 f2 f3)
theorem J_if_eq {x : Int32} {off : Int} {tgt : Nat} (hd : decode M.2.1 pc = .ok (.ifCond .eq off, 3)) (ht : (pc : Int) + off = (tgt : Int)) (kt : x = 0 → am_J l g M d kn tgt L S h Q) (kf : ¬ x = 0 → am_J l g M d kn (pc + 3) L S h Q) : am_J l g M d kn pc L (.int x :: S) h Q := by
  intro p e R s m args below meth c H locs ls Qm C hr hl f1 f2 f3
  exact lv_if_eq C.1 C.2.1 hd ht (fun q => kt q p e R s m args below meth c H locs ls Qm C hr hl f1 f2 f3) (fun q => kf q p e R s m args below meth c H locs ls Qm C hr hl f1 f2 f3)
theorem J_if_ne {x : Int32} {off : Int} {tgt : Nat} (hd : decode M.2.1 pc = .ok (.ifCond .ne off, 3)) (ht : (pc : Int) + off = (tgt : Int)) (kt : ¬ x = 0 → am_J l g M d kn tgt L S h Q) (kf : x = 0 → am_J l g M d kn (pc + 3) L S h Q) : am_J l g M d kn pc L (.int x :: S) h Q := by
  intro p e R s m args below meth c H locs ls Qm C hr hl f1 f2 f3
  exact lv_if_ne C.1 C.2.1 hd ht (fun q => kt q p e R s m args below meth c H locs ls Qm C hr hl f1 f2 f3) (fun q => kf q p e R s m args below meth c H locs ls Qm C hr hl f1 f2 f3)
theorem J_if_lt {x : Int32} {off : Int} {tgt : Nat} (hd : decode M.2.1 pc = .ok (.ifCond .lt off, 3)) (ht : (pc : Int) + off = (tgt : Int)) (kt : x < 0 → am_J l g M d kn tgt L S h Q) (kf : ¬ x < 0 → am_J l g M d kn (pc + 3) L S h Q) : am_J l g M d kn pc L (.int x :: S) h Q := by
  intro p e R s m args below meth c H locs ls Qm C hr hl f1 f2 f3
  exact lv_if_lt C.1 C.2.1 hd ht (fun q => kt q p e R s m args below meth c H locs ls Qm C hr hl f1 f2 f3) (fun q => kf q p e R s m args below meth c H locs ls Qm C hr hl f1 f2 f3)
theorem J_if_ge {x : Int32} {off : Int} {tgt : Nat} (hd : decode M.2.1 pc = .ok (.ifCond .ge off, 3)) (ht : (pc : Int) + off = (tgt : Int)) (kt : 0 ≤ x → am_J l g M d kn tgt L S h Q) (kf : ¬ 0 ≤ x → am_J l g M d kn (pc + 3) L S h Q) : am_J l g M d kn pc L (.int x :: S) h Q := by
  intro p e R s m args below meth c H locs ls Qm C hr hl f1 f2 f3
  exact lv_if_ge C.1 C.2.1 hd ht (fun q => kt q p e R s m args below meth c H locs ls Qm C hr hl f1 f2 f3) (fun q => kf q p e R s m args below meth c H locs ls Qm C hr hl f1 f2 f3)
theorem J_if_gt {x : Int32} {off : Int} {tgt : Nat} (hd : decode M.2.1 pc = .ok (.ifCond .gt off, 3)) (ht : (pc : Int) + off = (tgt : Int)) (kt : 0 < x → am_J l g M d kn tgt L S h Q) (kf : ¬ 0 < x → am_J l g M d kn (pc + 3) L S h Q) : am_J l g M d kn pc L (.int x :: S) h Q := by
  intro p e R s m args below meth c H locs ls Qm C hr hl f1 f2 f3
  exact lv_if_gt C.1 C.2.1 hd ht (fun q => kt q p e R s m args below meth c H locs ls Qm C hr hl f1 f2 f3) (fun q => kf q p e R s m args below meth c H locs ls Qm C hr hl f1 f2 f3)
theorem J_if_le {x : Int32} {off : Int} {tgt : Nat} (hd : decode M.2.1 pc = .ok (.ifCond .le off, 3)) (ht : (pc : Int) + off = (tgt : Int)) (kt : x ≤ 0 → am_J l g M d kn tgt L S h Q) (kf : ¬ x ≤ 0 → am_J l g M d kn (pc + 3) L S h Q) : am_J l g M d kn pc L (.int x :: S) h Q := by
  intro p e R s m args below meth c H locs ls Qm C hr hl f1 f2 f3
  exact lv_if_le C.1 C.2.1 hd ht (fun q => kt q p e R s m args below meth c H locs ls Qm C hr hl f1 f2 f3) (fun q => kf q p e R s m args below meth c H locs ls Qm C hr hl f1 f2 f3)
theorem J_goto {off : Int} {tgt : Nat} (hd : decode M.2.1 pc = .ok (.goto off, 3)) (ht : (pc : Int) + off = (tgt : Int)) (k : am_J l g M d kn tgt L S h Q) : am_J l g M d kn pc L S h Q := by
  intro p e R s m args below meth c H locs ls Qm C hr hl f1 f2 f3
  exact lv_goto C.1 C.2.1 hd ht (k p e R s m args below meth c H locs ls Qm C hr hl f1 f2 f3)
theorem J_tableIn {dflt lo hi : Int} {offs : Array Int} {len : Nat} {x : Int32} {off : Int} {tgt : Nat} (hd : decode M.2.1 pc = .ok (.tableswitch dflt lo hi offs, len)) (h1 : ¬ x.toInt < lo) (h2 : ¬ hi < x.toInt) (ho : offs[(x.toInt - lo).toNat]? = some off) (ht : (pc : Int) + off = (tgt : Int)) (k : am_J l g M d kn tgt L S h Q) : am_J l g M d kn pc L (.int x :: S) h Q := by
  intro p e R s m args below meth c H locs ls Qm C hr hl f1 f2 f3
  exact lv_tableIn C.1 C.2.1 hd h1 h2 ho ht (k p e R s m args below meth c H locs ls Qm C hr hl f1 f2 f3)
theorem J_tableOut {dflt lo hi : Int} {offs : Array Int} {len : Nat} {x : Int32} {tgt : Nat} (hd : decode M.2.1 pc = .ok (.tableswitch dflt lo hi offs, len)) (h1 : x.toInt < lo ∨ hi < x.toInt) (ht : (pc : Int) + dflt = (tgt : Int)) (k : am_J l g M d kn tgt L S h Q) : am_J l g M d kn pc L (.int x :: S) h Q := by
  intro p e R s m args below meth c H locs ls Qm C hr hl f1 f2 f3
  exact lv_tableOut C.1 C.2.1 hd h1 ht (k p e R s m args below meth c H locs ls Qm C hr hl f1 f2 f3)
theorem J_ldc {idx : Nat} {v : Int32} (hd : decode M.2.1 pc = .ok (.ldc idx, 2)) (hc : Cond.constant M.1.cls idx v ∈ lw_gw) (k : am_J l g M d kn (pc + 2) L (.int v :: S) h Q) : am_J l g M d kn pc L S h Q := by
  intro p e R s m args below meth c H locs ls Qm C hr hl f1 f2 f3
  exact lv_ldc C.1 C.2.1 C.2.2.2.2.1 (C.2.2.2.2.2.1 _ hc) hd (k p e R s m args below meth c H locs ls Qm C hr hl f1 f2 f3)
theorem J_ldc2 {idx : Nat} {v : Int64} (hd : decode M.2.1 pc = .ok (.ldc2_w idx, 3)) (hc : Cond.constantLong M.1.cls idx v ∈ lw_gw) (k : am_J l g M d kn (pc + 3) L (.long v :: S) h Q) : am_J l g M d kn pc L S h Q := by
  intro p e R s m args below meth c H locs ls Qm C hr hl f1 f2 f3
  exact lv_ldc2 C.1 C.2.1 C.2.2.2.2.1 (C.2.2.2.2.2.1 _ hc) hd (k p e R s m args below meth c H locs ls Qm C hr hl f1 f2 f3)
theorem J_sub {L' : List (Nat × Value)} (hL : ∀ q ∈ L', q ∈ L) (k : am_J l g M d kn pc L' S h Q) : am_J l g M d kn pc L S h Q := by
  intro p e R s m args below meth c H locs ls Qm C hr hl f1 f2 f3
  exact k p e R s m args below meth c H locs ls Qm C hr (am_lv_sub hl hL) f1 f2 f3
theorem J_mono {P : Option Value → am_H → Prop} (k : am_J l g M d kn pc L S h P) (hPQ : ∀ r h', P r h' → Q r h') : am_J l g M d kn pc L S h Q := by
  intro p e R s m args below meth c H locs ls Qm C hr hl f1 f2 f3
  exact k p e R s m args below meth c H locs ls Qm C hr hl (fun h' H' locs' hq => f1 h' H' locs' (hPQ _ _ hq)) (fun v h' H' locs' hq => f2 v h' H' locs' (hPQ _ _ hq)) (fun v h' H' locs' a b hq => f3 v h' H' locs' a b (hPQ _ _ hq))
theorem J_vret (hd : decode M.2.1 pc = .ok (.return_, 1)) (hm : M.2.2.2.1 = none) (hk : kn.1 ≤ M.2.2.2.2.1 ∧ kn.2.1 ≤ M.2.2.2.2.2 ∧ (kn.2.2 = true → kn.1 = M.2.2.2.2.1)) (hq : Q none h) : am_J l g M d kn pc L [] h Q := by
  intro p e R s m args below meth c H locs ls Qm C hr hl f1 f2 f3
  refine W.widen hk.1 hk.2.1 (f1 h H locs hq hm ?_ pc ls hd)
  obtain ⟨h1, h2, h3, h4, h5, h6⟩ := hr
  exact ⟨h1, h2, h3, h4, h5, fun hx => by rw [← hk.2.2 (am_x_of hx)]; exact h6 (am_x_of hx)⟩
theorem J_iret {v : Int32} (hd : decode M.2.1 pc = .ok (.ireturn, 1)) (hm : am_nar M v) (hk : kn.1 ≤ M.2.2.2.2.1 ∧ kn.2.1 ≤ M.2.2.2.2.2 ∧ (kn.2.2 = true → kn.1 = M.2.2.2.2.1)) (hq : Q (some (.int v)) h) : am_J l g M d kn pc L [.int v] h Q := by
  intro p e R s m args below meth c H locs ls Qm C hr hl f1 f2 f3
  refine W.widen hk.1 hk.2.1 (f2 v h H locs hq hm ?_ pc ls hd)
  obtain ⟨h1, h2, h3, h4, h5, h6⟩ := hr
  exact ⟨h1, h2, h3, h4, h5, fun hx => by rw [← hk.2.2 (am_x_of hx)]; exact h6 (am_x_of hx)⟩
theorem J_throw (hk : kn.1 ≤ M.2.2.2.2.1 ∧ kn.2.1 ≤ M.2.2.2.2.2) (hq : Q (some (.retAddr pc)) h) : am_J l g M d kn pc L [] h Q := by
  intro p e R s m args below meth c H locs ls Qm C hr hl f1 f2 f3
  exact f3 pc h H locs _ _ hq hk.1 hk.2 (am_r_x hr (fun z => by cases z)) ls hl.1
theorem J_pick {L' : List (Nat × Value)} (ks : List Nat) (hL : lv_pick L ks = L') (k : am_J l g M d kn pc L' S h Q) : am_J l g M d kn pc L S h Q := by
  refine J_sub (fun q hq => ?_) k
  rw [← hL] at hq
  obtain ⟨i, -, hi⟩ := List.mem_filterMap.mp hq
  exact List.mem_of_getElem? hi
/-- the law's end need not tell the heap's size -/
theorem J_weak {kc n : Nat} {x : Bool} (hM : 1000 ≤ M.2.2.2.2.1) (k : am_J l g M d (kc, n, false) pc L S h Q) : am_J l g M d (kc, n, x) pc L S h Q := by
  intro p e R s m args below meth c H locs ls Qm C hr hl f1 f2 f3
  have hx : ∀ y, am_x M y = false := fun y => by simp [am_x, Nat.not_lt.mpr hM]
  refine k p e R s m args below meth c H locs ls Qm C (am_r_x hr (fun z => by cases z)) hl ?_ ?_ f3
  · intro h' H' locs' a b c; exact f1 h' H' locs' a b (by rw [hx] at c ⊢; exact c)
  · intro v h' H' locs' a b c; exact f2 v h' H' locs' a b (by rw [hx] at c ⊢; exact c)
end AMR
