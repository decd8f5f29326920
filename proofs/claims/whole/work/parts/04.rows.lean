section
variable {X : mm_X} {G : mm_G} {Y : mm_Y} {ρ : Type} {fin : ρ → mm_F} {sh : mm_S} {M : mm_M} {pc : Nat} {lv : List (Nat × Value)} {st : List Value} {f : Option ρ}
theorem mm_iconst {n : Int} {v : Int32} (q : Nat) (hq : q = pc + 1) (hd : decode Y.1 pc = .ok (.iconst n, 1)) (hv : Int32.ofInt n = v) (k : mm_T X G Y fin sh M q lv (.int v :: st) f) : mm_T X G Y fin sh M pc lv st f := by
  subst hq
  exact fun C r hr H locs ls hP hD hS hl => lv_iconst C.1 C.2.1 hd hv (k C r hr H locs ls hP hD hS hl)
theorem mm_bipush {n : Int} {v : Int32} (q : Nat) (hq : q = pc + 2) (hd : decode Y.1 pc = .ok (.bipush n, 2)) (hv : (Int8.ofInt n).toInt32 = v) (k : mm_T X G Y fin sh M q lv (.int v :: st) f) : mm_T X G Y fin sh M pc lv st f := by
  subst hq
  exact fun C r hr H locs ls hP hD hS hl => lv_bipush C.1 C.2.1 hd hv (k C r hr H locs ls hP hD hS hl)
theorem mm_sipush {n : Int} {v : Int32} (q : Nat) (hq : q = pc + 3) (hd : decode Y.1 pc = .ok (.sipush n, 3)) (hv : (Int16.ofInt n).toInt32 = v) (k : mm_T X G Y fin sh M q lv (.int v :: st) f) : mm_T X G Y fin sh M pc lv st f := by
  subst hq
  exact fun C r hr H locs ls hP hD hS hl => lv_sipush C.1 C.2.1 hd hv (k C r hr H locs ls hP hD hS hl)
theorem mm_lconst {n : Fin 2} {v : Int64} (q : Nat) (hq : q = pc + 1) (hd : decode Y.1 pc = .ok (.lconst n, 1)) (hv : Int64.ofNat (n : Nat) = v) (k : mm_T X G Y fin sh M q lv (.long v :: st) f) : mm_T X G Y fin sh M pc lv st f := by
  subst hq
  exact fun C r hr H locs ls hP hD hS hl => lv_lconst C.1 C.2.1 hd hv (k C r hr H locs ls hP hD hS hl)
theorem mm_iload_n {n : Fin 4} {i : Nat} {x : Int32} (q : Nat) (hq : q = pc + 1) (hd : decode Y.1 pc = .ok (.iload_n n, 1)) (hi : (n : Nat) = i) (j : Nat) (hj : lv[j]? = some (i, .int x)) (k : mm_T X G Y fin sh M q lv (.int x :: st) f) : mm_T X G Y fin sh M pc lv st f := by
  subst hq
  exact fun C r hr H locs ls hP hD hS hl => lv_iload_n C.1 C.2.1 hd hi (lv_at hl j hj) (k C r hr H locs ls hP hD hS hl)
theorem mm_iload {i : Nat} {x : Int32} (q : Nat) (hq : q = pc + 2) (hd : decode Y.1 pc = .ok (.iload i, 2)) (j : Nat) (hj : lv[j]? = some (i, .int x)) (k : mm_T X G Y fin sh M q lv (.int x :: st) f) : mm_T X G Y fin sh M pc lv st f := by
  subst hq
  exact fun C r hr H locs ls hP hD hS hl => lv_iload C.1 C.2.1 hd (lv_at hl j hj) (k C r hr H locs ls hP hD hS hl)
theorem mm_lload_n {n : Fin 4} {i : Nat} {x : Int64} (q : Nat) (hq : q = pc + 1) (hd : decode Y.1 pc = .ok (.lload_n n, 1)) (hi : (n : Nat) = i) (j : Nat) (hj : lv[j]? = some (i, .long x)) (k : mm_T X G Y fin sh M q lv (.long x :: st) f) : mm_T X G Y fin sh M pc lv st f := by
  subst hq
  exact fun C r hr H locs ls hP hD hS hl => lv_lload_n C.1 C.2.1 hd hi (lv_at hl j hj) (k C r hr H locs ls hP hD hS hl)
theorem mm_lload {i : Nat} {x : Int64} (q : Nat) (hq : q = pc + 2) (hd : decode Y.1 pc = .ok (.lload i, 2)) (j : Nat) (hj : lv[j]? = some (i, .long x)) (k : mm_T X G Y fin sh M q lv (.long x :: st) f) : mm_T X G Y fin sh M pc lv st f := by
  subst hq
  exact fun C r hr H locs ls hP hD hS hl => lv_lload C.1 C.2.1 hd (lv_at hl j hj) (k C r hr H locs ls hP hD hS hl)
theorem mm_aload_n {n : Fin 4} {i : Nat} {x : Nat} (q : Nat) (hq : q = pc + 1) (hd : decode Y.1 pc = .ok (.aload_n n, 1)) (hi : (n : Nat) = i) (j : Nat) (hj : lv[j]? = some (i, .ref x)) (k : mm_T X G Y fin sh M q lv (.ref x :: st) f) : mm_T X G Y fin sh M pc lv st f := by
  subst hq
  exact fun C r hr H locs ls hP hD hS hl => lv_aload_n C.1 C.2.1 hd hi (lv_at hl j hj) (k C r hr H locs ls hP hD hS hl)
theorem mm_aload {i : Nat} {x : Nat} (q : Nat) (hq : q = pc + 2) (hd : decode Y.1 pc = .ok (.aload i, 2)) (j : Nat) (hj : lv[j]? = some (i, .ref x)) (k : mm_T X G Y fin sh M q lv (.ref x :: st) f) : mm_T X G Y fin sh M pc lv st f := by
  subst hq
  exact fun C r hr H locs ls hP hD hS hl => lv_aload C.1 C.2.1 hd (lv_at hl j hj) (k C r hr H locs ls hP hD hS hl)
theorem mm_istore_n {n : Fin 4} {i : Nat} {x : Int32} {lv' : List (Nat × Value)} (q : Nat) (hq : q = pc + 1) (hd : decode Y.1 pc = .ok (.istore_n n, 1)) (hi : (n : Nat) = i) (hn : i < Y.2.1) (hj : (i, Value.int x) :: lv.filter (fun q => !(q.1 == i) && !(q.1 + 1 == i && q.2.category == 2)) = lv') (k : mm_T X G Y fin sh M q lv' st f) : mm_T X G Y fin sh M pc lv (.int x :: st) f := by
  subst hq
  exact fun C r hr H locs ls hP hD hS hl => lv_istore_n C.1 C.2.1 hd hi hl hn hj (fun ls hl => k C r hr H locs ls hP hD hS hl)
theorem mm_istore {i : Nat} {x : Int32} {lv' : List (Nat × Value)} (q : Nat) (hq : q = pc + 2) (hd : decode Y.1 pc = .ok (.istore i, 2)) (hn : i < Y.2.1) (hj : (i, Value.int x) :: lv.filter (fun q => !(q.1 == i) && !(q.1 + 1 == i && q.2.category == 2)) = lv') (k : mm_T X G Y fin sh M q lv' st f) : mm_T X G Y fin sh M pc lv (.int x :: st) f := by
  subst hq
  exact fun C r hr H locs ls hP hD hS hl => lv_istore C.1 C.2.1 hd hl hn hj (fun ls hl => k C r hr H locs ls hP hD hS hl)
theorem mm_astore_n {n : Fin 4} {i : Nat} {x : Nat} {lv' : List (Nat × Value)} (q : Nat) (hq : q = pc + 1) (hd : decode Y.1 pc = .ok (.astore_n n, 1)) (hi : (n : Nat) = i) (hn : i < Y.2.1) (hj : (i, Value.ref x) :: lv.filter (fun q => !(q.1 == i) && !(q.1 + 1 == i && q.2.category == 2)) = lv') (k : mm_T X G Y fin sh M q lv' st f) : mm_T X G Y fin sh M pc lv (.ref x :: st) f := by
  subst hq
  exact fun C r hr H locs ls hP hD hS hl => lv_astore_n C.1 C.2.1 hd hi hl hn hj (fun ls hl => k C r hr H locs ls hP hD hS hl)
theorem mm_astore {i : Nat} {x : Nat} {lv' : List (Nat × Value)} (q : Nat) (hq : q = pc + 2) (hd : decode Y.1 pc = .ok (.astore i, 2)) (hn : i < Y.2.1) (hj : (i, Value.ref x) :: lv.filter (fun q => !(q.1 == i) && !(q.1 + 1 == i && q.2.category == 2)) = lv') (k : mm_T X G Y fin sh M q lv' st f) : mm_T X G Y fin sh M pc lv (.ref x :: st) f := by
  subst hq
  exact fun C r hr H locs ls hP hD hS hl => lv_astore C.1 C.2.1 hd hl hn hj (fun ls hl => k C r hr H locs ls hP hD hS hl)
theorem mm_lstore_n {n : Fin 4} {i : Nat} {x : Int64} {lv' : List (Nat × Value)} (q : Nat) (hq : q = pc + 1) (hd : decode Y.1 pc = .ok (.lstore_n n, 1)) (hi : (n : Nat) = i) (hn : i + 1 < Y.2.1) (hj : (i, Value.long x) :: lv.filter (fun q => !(q.1 == i) && (!(q.1 == i + 1) && !(q.1 + 1 == i && q.2.category == 2))) = lv') (k : mm_T X G Y fin sh M q lv' st f) : mm_T X G Y fin sh M pc lv (.long x :: st) f := by
  subst hq
  exact fun C r hr H locs ls hP hD hS hl => lv_lstore_n C.1 C.2.1 hd hi hl hn hj (fun ls hl => k C r hr H locs ls hP hD hS hl)
theorem mm_lstore {i : Nat} {x : Int64} {lv' : List (Nat × Value)} (q : Nat) (hq : q = pc + 2) (hd : decode Y.1 pc = .ok (.lstore i, 2)) (hn : i + 1 < Y.2.1) (hj : (i, Value.long x) :: lv.filter (fun q => !(q.1 == i) && (!(q.1 == i + 1) && !(q.1 + 1 == i && q.2.category == 2))) = lv') (k : mm_T X G Y fin sh M q lv' st f) : mm_T X G Y fin sh M pc lv (.long x :: st) f := by
  subst hq
  exact fun C r hr H locs ls hP hD hS hl => lv_lstore C.1 C.2.1 hd hl hn hj (fun ls hl => k C r hr H locs ls hP hD hS hl)
theorem mm_iinc {i : Nat} {n : Int} {x : Int32} {v : Int32} {lv' : List (Nat × Value)} (q : Nat) (hq : q = pc + 3) (hd : decode Y.1 pc = .ok (.iinc i n, 3)) (j : Nat) (hk : lv[j]? = some (i, .int x)) (hv : x + Int32.ofInt n = v) (hn : i < Y.2.1) (hj : (i, Value.int v) :: lv.filter (fun q => !(q.1 == i) && !(q.1 + 1 == i && q.2.category == 2)) = lv') (k : mm_T X G Y fin sh M q lv' st f) : mm_T X G Y fin sh M pc lv st f := by
  subst hq
  exact fun C r hr H locs ls hP hD hS hl => lv_iinc C.1 C.2.1 hd hl hk hv hn hj (fun ls hl => k C r hr H locs ls hP hD hS hl)
theorem mm_iadd {x y : Int32} (q : Nat) (hq : q = pc + 1) (hd : decode Y.1 pc = .ok (.iadd, 1)) (k : mm_T X G Y fin sh M q lv (.int (x + y) :: st) f) : mm_T X G Y fin sh M pc lv (.int y :: .int x :: st) f := by
  subst hq
  exact fun C r hr H locs ls hP hD hS hl => lv_iadd C.1 C.2.1 hd (k C r hr H locs ls hP hD hS hl)
theorem mm_isub {x y : Int32} (q : Nat) (hq : q = pc + 1) (hd : decode Y.1 pc = .ok (.isub, 1)) (k : mm_T X G Y fin sh M q lv (.int (x - y) :: st) f) : mm_T X G Y fin sh M pc lv (.int y :: .int x :: st) f := by
  subst hq
  exact fun C r hr H locs ls hP hD hS hl => lv_isub C.1 C.2.1 hd (k C r hr H locs ls hP hD hS hl)
theorem mm_imul {x y : Int32} (q : Nat) (hq : q = pc + 1) (hd : decode Y.1 pc = .ok (.imul, 1)) (k : mm_T X G Y fin sh M q lv (.int (x * y) :: st) f) : mm_T X G Y fin sh M pc lv (.int y :: .int x :: st) f := by
  subst hq
  exact fun C r hr H locs ls hP hD hS hl => lv_imul C.1 C.2.1 hd (k C r hr H locs ls hP hD hS hl)
theorem mm_iand {x y : Int32} (q : Nat) (hq : q = pc + 1) (hd : decode Y.1 pc = .ok (.iand, 1)) (k : mm_T X G Y fin sh M q lv (.int (x &&& y) :: st) f) : mm_T X G Y fin sh M pc lv (.int y :: .int x :: st) f := by
  subst hq
  exact fun C r hr H locs ls hP hD hS hl => lv_iand C.1 C.2.1 hd (k C r hr H locs ls hP hD hS hl)
theorem mm_ior {x y : Int32} (q : Nat) (hq : q = pc + 1) (hd : decode Y.1 pc = .ok (.ior, 1)) (k : mm_T X G Y fin sh M q lv (.int (x ||| y) :: st) f) : mm_T X G Y fin sh M pc lv (.int y :: .int x :: st) f := by
  subst hq
  exact fun C r hr H locs ls hP hD hS hl => lv_ior C.1 C.2.1 hd (k C r hr H locs ls hP hD hS hl)
theorem mm_ishl {x y : Int32} (q : Nat) (hq : q = pc + 1) (hd : decode Y.1 pc = .ok (.ishl, 1)) (k : mm_T X G Y fin sh M q lv (.int (x <<< (y &&& 31)) :: st) f) : mm_T X G Y fin sh M pc lv (.int y :: .int x :: st) f := by
  subst hq
  exact fun C r hr H locs ls hP hD hS hl => lv_ishl C.1 C.2.1 hd (k C r hr H locs ls hP hD hS hl)
theorem mm_ishr {x y : Int32} (q : Nat) (hq : q = pc + 1) (hd : decode Y.1 pc = .ok (.ishr, 1)) (k : mm_T X G Y fin sh M q lv (.int (x >>> (y &&& 31)) :: st) f) : mm_T X G Y fin sh M pc lv (.int y :: .int x :: st) f := by
  subst hq
  exact fun C r hr H locs ls hP hD hS hl => lv_ishr C.1 C.2.1 hd (k C r hr H locs ls hP hD hS hl)
theorem mm_iushr {x y : Int32} (q : Nat) (hq : q = pc + 1) (hd : decode Y.1 pc = .ok (.iushr, 1)) (k : mm_T X G Y fin sh M q lv (.int (x.toUInt32 >>> (y.toUInt32 &&& Int32.toUInt32 31)).toInt32 :: st) f) : mm_T X G Y fin sh M pc lv (.int y :: .int x :: st) f := by
  subst hq
  exact fun C r hr H locs ls hP hD hS hl => lv_iushr C.1 C.2.1 hd rfl (k C r hr H locs ls hP hD hS hl)
theorem mm_ladd {x y : Int64} (q : Nat) (hq : q = pc + 1) (hd : decode Y.1 pc = .ok (.ladd, 1)) (k : mm_T X G Y fin sh M q lv (.long (x + y) :: st) f) : mm_T X G Y fin sh M pc lv (.long y :: .long x :: st) f := by
  subst hq
  exact fun C r hr H locs ls hP hD hS hl => lv_ladd C.1 C.2.1 hd (k C r hr H locs ls hP hD hS hl)
theorem mm_lmul {x y : Int64} (q : Nat) (hq : q = pc + 1) (hd : decode Y.1 pc = .ok (.lmul, 1)) (k : mm_T X G Y fin sh M q lv (.long (x * y) :: st) f) : mm_T X G Y fin sh M pc lv (.long y :: .long x :: st) f := by
  subst hq
  exact fun C r hr H locs ls hP hD hS hl => lv_lmul C.1 C.2.1 hd (k C r hr H locs ls hP hD hS hl)
theorem mm_idiv {x y : Int32} (q : Nat) (hq : q = pc + 1) (hd : decode Y.1 pc = .ok (.idiv, 1)) (hne : ¬ y = 0) (k : mm_T X G Y fin sh M q lv (.int (x / y) :: st) f) : mm_T X G Y fin sh M pc lv (.int y :: .int x :: st) f := by
  subst hq
  exact fun C r hr H locs ls hP hD hS hl => lv_idiv C.1 C.2.1 hd hne (k C r hr H locs ls hP hD hS hl)
theorem mm_idivU {x y : Int32} (q : Nat) (hq : q = pc + 1) (hd : decode Y.1 pc = .ok (.idiv, 1)) (k : ¬ y = 0 → mm_T X G Y fin sh M q lv (.int (x / y) :: st) f) : mm_T X G Y fin sh M pc lv (.int y :: .int x :: st) (if y = 0 then none else f) := by
  by_cases h : y = 0
  · rw [if_pos h]; exact mm_none
  · rw [if_neg h]; exact mm_idiv q hq hd h (k h)
theorem mm_irem {x y : Int32} (q : Nat) (hq : q = pc + 1) (hd : decode Y.1 pc = .ok (.irem, 1)) (hne : ¬ y = 0) (k : mm_T X G Y fin sh M q lv (.int (x - x / y * y) :: st) f) : mm_T X G Y fin sh M pc lv (.int y :: .int x :: st) f := by
  subst hq
  exact fun C r hr H locs ls hP hD hS hl => lv_irem C.1 C.2.1 hd hne (k C r hr H locs ls hP hD hS hl)
theorem mm_iremU {x y : Int32} (q : Nat) (hq : q = pc + 1) (hd : decode Y.1 pc = .ok (.irem, 1)) (k : ¬ y = 0 → mm_T X G Y fin sh M q lv (.int (x - x / y * y) :: st) f) : mm_T X G Y fin sh M pc lv (.int y :: .int x :: st) (if y = 0 then none else f) := by
  by_cases h : y = 0
  · rw [if_pos h]; exact mm_none
  · rw [if_neg h]; exact mm_irem q hq hd h (k h)
theorem mm_ldiv {x y : Int64} (q : Nat) (hq : q = pc + 1) (hd : decode Y.1 pc = .ok (.ldiv, 1)) (hne : ¬ y = 0) (k : mm_T X G Y fin sh M q lv (.long (x / y) :: st) f) : mm_T X G Y fin sh M pc lv (.long y :: .long x :: st) f := by
  subst hq
  exact fun C r hr H locs ls hP hD hS hl => lv_ldiv C.1 C.2.1 hd hne (k C r hr H locs ls hP hD hS hl)
theorem mm_ldivU {x y : Int64} (q : Nat) (hq : q = pc + 1) (hd : decode Y.1 pc = .ok (.ldiv, 1)) (k : ¬ y = 0 → mm_T X G Y fin sh M q lv (.long (x / y) :: st) f) : mm_T X G Y fin sh M pc lv (.long y :: .long x :: st) (if y = 0 then none else f) := by
  by_cases h : y = 0
  · rw [if_pos h]; exact mm_none
  · rw [if_neg h]; exact mm_ldiv q hq hd h (k h)
theorem mm_lrem {x y : Int64} (q : Nat) (hq : q = pc + 1) (hd : decode Y.1 pc = .ok (.lrem, 1)) (hne : ¬ y = 0) (k : mm_T X G Y fin sh M q lv (.long (x - x / y * y) :: st) f) : mm_T X G Y fin sh M pc lv (.long y :: .long x :: st) f := by
  subst hq
  exact fun C r hr H locs ls hP hD hS hl => lv_lrem C.1 C.2.1 hd hne (k C r hr H locs ls hP hD hS hl)
theorem mm_lremU {x y : Int64} (q : Nat) (hq : q = pc + 1) (hd : decode Y.1 pc = .ok (.lrem, 1)) (k : ¬ y = 0 → mm_T X G Y fin sh M q lv (.long (x - x / y * y) :: st) f) : mm_T X G Y fin sh M pc lv (.long y :: .long x :: st) (if y = 0 then none else f) := by
  by_cases h : y = 0
  · rw [if_pos h]; exact mm_none
  · rw [if_neg h]; exact mm_lrem q hq hd h (k h)
theorem mm_i2l {x : Int32} (q : Nat) (hq : q = pc + 1) (hd : decode Y.1 pc = .ok (.i2l, 1)) (k : mm_T X G Y fin sh M q lv (.long x.toInt64 :: st) f) : mm_T X G Y fin sh M pc lv (.int x :: st) f := by
  subst hq
  exact fun C r hr H locs ls hP hD hS hl => lv_i2l C.1 C.2.1 hd rfl (k C r hr H locs ls hP hD hS hl)
theorem mm_i2b {x : Int32} (q : Nat) (hq : q = pc + 1) (hd : decode Y.1 pc = .ok (.i2b, 1)) (k : mm_T X G Y fin sh M q lv (.int x.toInt8.toInt32 :: st) f) : mm_T X G Y fin sh M pc lv (.int x :: st) f := by
  subst hq
  exact fun C r hr H locs ls hP hD hS hl => lv_i2b C.1 C.2.1 hd rfl (k C r hr H locs ls hP hD hS hl)
theorem mm_i2s {x : Int32} (q : Nat) (hq : q = pc + 1) (hd : decode Y.1 pc = .ok (.i2s, 1)) (k : mm_T X G Y fin sh M q lv (.int x.toInt16.toInt32 :: st) f) : mm_T X G Y fin sh M pc lv (.int x :: st) f := by
  subst hq
  exact fun C r hr H locs ls hP hD hS hl => lv_i2s C.1 C.2.1 hd rfl (k C r hr H locs ls hP hD hS hl)
theorem mm_i2c {x : Int32} (q : Nat) (hq : q = pc + 1) (hd : decode Y.1 pc = .ok (.i2c, 1)) (k : mm_T X G Y fin sh M q lv (.int (x.toUInt32 % 65536).toInt32 :: st) f) : mm_T X G Y fin sh M pc lv (.int x :: st) f := by
  subst hq
  exact fun C r hr H locs ls hP hD hS hl => lv_i2c C.1 C.2.1 hd rfl (k C r hr H locs ls hP hD hS hl)
theorem mm_dup {a : Value} (q : Nat) (hq : q = pc + 1) (hd : decode Y.1 pc = .ok (.dup, 1)) (ha : a.category = 1) (k : mm_T X G Y fin sh M q lv (a :: a :: st) f) : mm_T X G Y fin sh M pc lv (a :: st) f := by
  subst hq
  exact fun C r hr H locs ls hP hD hS hl => lv_dup C.1 C.2.1 hd ha (k C r hr H locs ls hP hD hS hl)
theorem mm_pop {a : Value} (q : Nat) (hq : q = pc + 1) (hd : decode Y.1 pc = .ok (.pop, 1)) (ha : a.category = 1) (k : mm_T X G Y fin sh M q lv st f) : mm_T X G Y fin sh M pc lv (a :: st) f := by
  subst hq
  exact fun C r hr H locs ls hP hD hS hl => lv_pop C.1 C.2.1 hd ha (k C r hr H locs ls hP hD hS hl)
theorem mm_dup2 {a b : Value} (q : Nat) (hq : q = pc + 1) (hd : decode Y.1 pc = .ok (.dup2, 1)) (ha : a.category = 1) (hb : b.category = 1) (k : mm_T X G Y fin sh M q lv (a :: b :: a :: b :: st) f) : mm_T X G Y fin sh M pc lv (a :: b :: st) f := by
  subst hq
  exact fun C r hr H locs ls hP hD hS hl => lv_dup2_11 C.1 C.2.1 hd ha hb (k C r hr H locs ls hP hD hS hl)
theorem mm_lcmp {x y : Int64} (q : Nat) (hq : q = pc + 1) (hd : decode Y.1 pc = .ok (.lcmp, 1)) (k : mm_T X G Y fin sh M q lv (.int (lg_cmp x y) :: st) f) : mm_T X G Y fin sh M pc lv (.long y :: .long x :: st) f := by
  subst hq
  exact fun C r hr H locs ls hP hD hS hl => W.lcmp C.1 C.2.1 hd (k C r hr H locs ls hP hD hS hl)
theorem mm_ldc {i : Nat} {v : Int32} (q : Nat) (hq : q = pc + 2) (hd : decode Y.1 pc = .ok (.ldc i, 2)) (hw : Cond.constant Y.2.2.1 i v ∈ mm_ws) (k : mm_T X G Y fin sh M q lv (.int v :: st) f) : mm_T X G Y fin sh M pc lv st f := by
  subst hq
  exact fun C r hr H locs ls hP hD hS hl => lv_ldc C.1 C.2.1 C.2.2.2.1 (C.2.2.2.2.1 _ hw) hd (k C r hr H locs ls hP hD hS hl)
theorem mm_ldcw {i : Nat} {v : Int32} (q : Nat) (hq : q = pc + 3) (hd : decode Y.1 pc = .ok (.ldc_w i, 3)) (hw : Cond.constant Y.2.2.1 i v ∈ mm_ws) (k : mm_T X G Y fin sh M q lv (.int v :: st) f) : mm_T X G Y fin sh M pc lv st f := by
  subst hq
  exact fun C r hr H locs ls hP hD hS hl => lv_ldcw C.1 C.2.1 C.2.2.2.1 (C.2.2.2.2.1 _ hw) hd (k C r hr H locs ls hP hD hS hl)
theorem mm_ldc2 {i : Nat} {v : Int64} (q : Nat) (hq : q = pc + 3) (hd : decode Y.1 pc = .ok (.ldc2_w i, 3)) (hw : Cond.constantLong Y.2.2.1 i v ∈ mm_ws) (k : mm_T X G Y fin sh M q lv (.long v :: st) f) : mm_T X G Y fin sh M pc lv st f := by
  subst hq
  exact fun C r hr H locs ls hP hD hS hl => lv_ldc2 C.1 C.2.1 C.2.2.2.1 (C.2.2.2.2.1 _ hw) hd (k C r hr H locs ls hP hD hS hl)
theorem mm_ite {c : Prop} [hdc : Decidable c] {a b : Option ρ} (ka : c → mm_T X G Y fin sh M pc lv st a) (kb : ¬ c → mm_T X G Y fin sh M pc lv st b) : mm_T X G Y fin sh M pc lv st (if c then a else b) := by
  by_cases h : c
  · rw [if_pos h]; exact ka h
  · rw [if_neg h]; exact kb h
theorem mm_if_eq {x : Int32} {off : Int} {a b : Option ρ} (q t : Nat) (hq : q = pc + 3) (hd : decode Y.1 pc = .ok (.ifCond .eq off, 3)) (ht : (pc : Int) + off = (t : Int)) (ka : x = 0 → mm_T X G Y fin sh M t lv st a) (kb : ¬ x = 0 → mm_T X G Y fin sh M q lv st b) : mm_T X G Y fin sh M pc lv (.int x :: st) (if x = 0 then a else b) := by
  subst hq
  intro C r hr H locs ls hP hD hS hl
  refine lv_if_eq C.1 C.2.1 hd ht (fun h => ?_) (fun h => ?_)
  · rw [if_pos h] at hr
    exact ka h C r hr H locs ls hP hD hS hl
  · rw [if_neg h] at hr
    exact kb h C r hr H locs ls hP hD hS hl
theorem mm_if_eqY {x : Int32} {off : Int} (t : Nat) (hd : decode Y.1 pc = .ok (.ifCond .eq off, 3)) (ht : (pc : Int) + off = (t : Int)) (h0 : x = 0) (k : mm_T X G Y fin sh M t lv st f) : mm_T X G Y fin sh M pc lv (.int x :: st) f := fun C r hr H locs ls hP hD hS hl => lv_if_eq C.1 C.2.1 hd ht (fun _ => k C r hr H locs ls hP hD hS hl) (fun h => absurd h0 h)
theorem mm_if_eqN {x : Int32} {off : Int} (q : Nat) (hq : q = pc + 3) (t : Nat) (hd : decode Y.1 pc = .ok (.ifCond .eq off, 3)) (ht : (pc : Int) + off = (t : Int)) (h0 : ¬ x = 0) (k : mm_T X G Y fin sh M q lv st f) : mm_T X G Y fin sh M pc lv (.int x :: st) f := by
  subst hq
  exact fun C r hr H locs ls hP hD hS hl => lv_if_eq C.1 C.2.1 hd ht (fun h => absurd h h0) (fun _ => k C r hr H locs ls hP hD hS hl)
theorem mm_icmp_eq {x y : Int32} {off : Int} {a b : Option ρ} (q t : Nat) (hq : q = pc + 3) (hd : decode Y.1 pc = .ok (.if_icmp .eq off, 3)) (ht : (pc : Int) + off = (t : Int)) (ka : x = y → mm_T X G Y fin sh M t lv st a) (kb : ¬ x = y → mm_T X G Y fin sh M q lv st b) : mm_T X G Y fin sh M pc lv (.int y :: .int x :: st) (if x = y then a else b) := by
  subst hq
  intro C r hr H locs ls hP hD hS hl
  refine lv_icmp_eq C.1 C.2.1 hd ht (fun h => ?_) (fun h => ?_)
  · rw [if_pos h] at hr
    exact ka h C r hr H locs ls hP hD hS hl
  · rw [if_neg h] at hr
    exact kb h C r hr H locs ls hP hD hS hl
theorem mm_icmp_eqY {x y : Int32} {off : Int} (t : Nat) (hd : decode Y.1 pc = .ok (.if_icmp .eq off, 3)) (ht : (pc : Int) + off = (t : Int)) (h0 : x = y) (k : mm_T X G Y fin sh M t lv st f) : mm_T X G Y fin sh M pc lv (.int y :: .int x :: st) f := fun C r hr H locs ls hP hD hS hl => lv_icmp_eq C.1 C.2.1 hd ht (fun _ => k C r hr H locs ls hP hD hS hl) (fun h => absurd h0 h)
theorem mm_icmp_eqN {x y : Int32} {off : Int} (q : Nat) (hq : q = pc + 3) (t : Nat) (hd : decode Y.1 pc = .ok (.if_icmp .eq off, 3)) (ht : (pc : Int) + off = (t : Int)) (h0 : ¬ x = y) (k : mm_T X G Y fin sh M q lv st f) : mm_T X G Y fin sh M pc lv (.int y :: .int x :: st) f := by
  subst hq
  exact fun C r hr H locs ls hP hD hS hl => lv_icmp_eq C.1 C.2.1 hd ht (fun h => absurd h h0) (fun _ => k C r hr H locs ls hP hD hS hl)
theorem mm_if_ne {x : Int32} {off : Int} {a b : Option ρ} (q t : Nat) (hq : q = pc + 3) (hd : decode Y.1 pc = .ok (.ifCond .ne off, 3)) (ht : (pc : Int) + off = (t : Int)) (ka : ¬ x = 0 → mm_T X G Y fin sh M t lv st a) (kb : x = 0 → mm_T X G Y fin sh M q lv st b) : mm_T X G Y fin sh M pc lv (.int x :: st) (if x = 0 then b else a) := by
  subst hq
  intro C r hr H locs ls hP hD hS hl
  refine lv_if_ne C.1 C.2.1 hd ht (fun h => ?_) (fun h => ?_)
  · rw [if_neg h] at hr
    exact ka h C r hr H locs ls hP hD hS hl
  · rw [if_pos h] at hr
    exact kb h C r hr H locs ls hP hD hS hl
theorem mm_if_neY {x : Int32} {off : Int} (t : Nat) (hd : decode Y.1 pc = .ok (.ifCond .ne off, 3)) (ht : (pc : Int) + off = (t : Int)) (h0 : ¬ x = 0) (k : mm_T X G Y fin sh M t lv st f) : mm_T X G Y fin sh M pc lv (.int x :: st) f := fun C r hr H locs ls hP hD hS hl => lv_if_ne C.1 C.2.1 hd ht (fun _ => k C r hr H locs ls hP hD hS hl) (fun h => absurd h0 (fun g => g h))
theorem mm_if_neN {x : Int32} {off : Int} (q : Nat) (hq : q = pc + 3) (t : Nat) (hd : decode Y.1 pc = .ok (.ifCond .ne off, 3)) (ht : (pc : Int) + off = (t : Int)) (h0 : x = 0) (k : mm_T X G Y fin sh M q lv st f) : mm_T X G Y fin sh M pc lv (.int x :: st) f := by
  subst hq
  exact fun C r hr H locs ls hP hD hS hl => lv_if_ne C.1 C.2.1 hd ht (fun h => absurd h (fun g => g h0)) (fun _ => k C r hr H locs ls hP hD hS hl)
theorem mm_icmp_ne {x y : Int32} {off : Int} {a b : Option ρ} (q t : Nat) (hq : q = pc + 3) (hd : decode Y.1 pc = .ok (.if_icmp .ne off, 3)) (ht : (pc : Int) + off = (t : Int)) (ka : ¬ x = y → mm_T X G Y fin sh M t lv st a) (kb : x = y → mm_T X G Y fin sh M q lv st b) : mm_T X G Y fin sh M pc lv (.int y :: .int x :: st) (if x = y then b else a) := by
  subst hq
  intro C r hr H locs ls hP hD hS hl
  refine lv_icmp_ne C.1 C.2.1 hd ht (fun h => ?_) (fun h => ?_)
  · rw [if_neg h] at hr
    exact ka h C r hr H locs ls hP hD hS hl
  · rw [if_pos h] at hr
    exact kb h C r hr H locs ls hP hD hS hl
theorem mm_icmp_neY {x y : Int32} {off : Int} (t : Nat) (hd : decode Y.1 pc = .ok (.if_icmp .ne off, 3)) (ht : (pc : Int) + off = (t : Int)) (h0 : ¬ x = y) (k : mm_T X G Y fin sh M t lv st f) : mm_T X G Y fin sh M pc lv (.int y :: .int x :: st) f := fun C r hr H locs ls hP hD hS hl => lv_icmp_ne C.1 C.2.1 hd ht (fun _ => k C r hr H locs ls hP hD hS hl) (fun h => absurd h0 (fun g => g h))
theorem mm_icmp_neN {x y : Int32} {off : Int} (q : Nat) (hq : q = pc + 3) (t : Nat) (hd : decode Y.1 pc = .ok (.if_icmp .ne off, 3)) (ht : (pc : Int) + off = (t : Int)) (h0 : x = y) (k : mm_T X G Y fin sh M q lv st f) : mm_T X G Y fin sh M pc lv (.int y :: .int x :: st) f := by
  subst hq
  exact fun C r hr H locs ls hP hD hS hl => lv_icmp_ne C.1 C.2.1 hd ht (fun h => absurd h (fun g => g h0)) (fun _ => k C r hr H locs ls hP hD hS hl)
theorem mm_if_lt {x : Int32} {off : Int} {a b : Option ρ} (q t : Nat) (hq : q = pc + 3) (hd : decode Y.1 pc = .ok (.ifCond .lt off, 3)) (ht : (pc : Int) + off = (t : Int)) (ka : x < 0 → mm_T X G Y fin sh M t lv st a) (kb : ¬ x < 0 → mm_T X G Y fin sh M q lv st b) : mm_T X G Y fin sh M pc lv (.int x :: st) (if x < 0 then a else b) := by
  subst hq
  intro C r hr H locs ls hP hD hS hl
  refine lv_if_lt C.1 C.2.1 hd ht (fun h => ?_) (fun h => ?_)
  · rw [if_pos h] at hr
    exact ka h C r hr H locs ls hP hD hS hl
  · rw [if_neg h] at hr
    exact kb h C r hr H locs ls hP hD hS hl
theorem mm_if_ltY {x : Int32} {off : Int} (t : Nat) (hd : decode Y.1 pc = .ok (.ifCond .lt off, 3)) (ht : (pc : Int) + off = (t : Int)) (h0 : x < 0) (k : mm_T X G Y fin sh M t lv st f) : mm_T X G Y fin sh M pc lv (.int x :: st) f := fun C r hr H locs ls hP hD hS hl => lv_if_lt C.1 C.2.1 hd ht (fun _ => k C r hr H locs ls hP hD hS hl) (fun h => absurd h0 h)
theorem mm_if_ltN {x : Int32} {off : Int} (q : Nat) (hq : q = pc + 3) (t : Nat) (hd : decode Y.1 pc = .ok (.ifCond .lt off, 3)) (ht : (pc : Int) + off = (t : Int)) (h0 : ¬ x < 0) (k : mm_T X G Y fin sh M q lv st f) : mm_T X G Y fin sh M pc lv (.int x :: st) f := by
  subst hq
  exact fun C r hr H locs ls hP hD hS hl => lv_if_lt C.1 C.2.1 hd ht (fun h => absurd h h0) (fun _ => k C r hr H locs ls hP hD hS hl)
theorem mm_icmp_lt {x y : Int32} {off : Int} {a b : Option ρ} (q t : Nat) (hq : q = pc + 3) (hd : decode Y.1 pc = .ok (.if_icmp .lt off, 3)) (ht : (pc : Int) + off = (t : Int)) (ka : x < y → mm_T X G Y fin sh M t lv st a) (kb : ¬ x < y → mm_T X G Y fin sh M q lv st b) : mm_T X G Y fin sh M pc lv (.int y :: .int x :: st) (if x < y then a else b) := by
  subst hq
  intro C r hr H locs ls hP hD hS hl
  refine lv_icmp_lt C.1 C.2.1 hd ht (fun h => ?_) (fun h => ?_)
  · rw [if_pos h] at hr
    exact ka h C r hr H locs ls hP hD hS hl
  · rw [if_neg h] at hr
    exact kb h C r hr H locs ls hP hD hS hl
theorem mm_icmp_ltY {x y : Int32} {off : Int} (t : Nat) (hd : decode Y.1 pc = .ok (.if_icmp .lt off, 3)) (ht : (pc : Int) + off = (t : Int)) (h0 : x < y) (k : mm_T X G Y fin sh M t lv st f) : mm_T X G Y fin sh M pc lv (.int y :: .int x :: st) f := fun C r hr H locs ls hP hD hS hl => lv_icmp_lt C.1 C.2.1 hd ht (fun _ => k C r hr H locs ls hP hD hS hl) (fun h => absurd h0 h)
theorem mm_icmp_ltN {x y : Int32} {off : Int} (q : Nat) (hq : q = pc + 3) (t : Nat) (hd : decode Y.1 pc = .ok (.if_icmp .lt off, 3)) (ht : (pc : Int) + off = (t : Int)) (h0 : ¬ x < y) (k : mm_T X G Y fin sh M q lv st f) : mm_T X G Y fin sh M pc lv (.int y :: .int x :: st) f := by
  subst hq
  exact fun C r hr H locs ls hP hD hS hl => lv_icmp_lt C.1 C.2.1 hd ht (fun h => absurd h h0) (fun _ => k C r hr H locs ls hP hD hS hl)
theorem mm_if_ge {x : Int32} {off : Int} {a b : Option ρ} (q t : Nat) (hq : q = pc + 3) (hd : decode Y.1 pc = .ok (.ifCond .ge off, 3)) (ht : (pc : Int) + off = (t : Int)) (ka : 0 ≤ x → mm_T X G Y fin sh M t lv st a) (kb : ¬ 0 ≤ x → mm_T X G Y fin sh M q lv st b) : mm_T X G Y fin sh M pc lv (.int x :: st) (if 0 ≤ x then a else b) := by
  subst hq
  intro C r hr H locs ls hP hD hS hl
  refine lv_if_ge C.1 C.2.1 hd ht (fun h => ?_) (fun h => ?_)
  · rw [if_pos h] at hr
    exact ka h C r hr H locs ls hP hD hS hl
  · rw [if_neg h] at hr
    exact kb h C r hr H locs ls hP hD hS hl
theorem mm_if_geY {x : Int32} {off : Int} (t : Nat) (hd : decode Y.1 pc = .ok (.ifCond .ge off, 3)) (ht : (pc : Int) + off = (t : Int)) (h0 : 0 ≤ x) (k : mm_T X G Y fin sh M t lv st f) : mm_T X G Y fin sh M pc lv (.int x :: st) f := fun C r hr H locs ls hP hD hS hl => lv_if_ge C.1 C.2.1 hd ht (fun _ => k C r hr H locs ls hP hD hS hl) (fun h => absurd h0 h)
theorem mm_if_geN {x : Int32} {off : Int} (q : Nat) (hq : q = pc + 3) (t : Nat) (hd : decode Y.1 pc = .ok (.ifCond .ge off, 3)) (ht : (pc : Int) + off = (t : Int)) (h0 : ¬ 0 ≤ x) (k : mm_T X G Y fin sh M q lv st f) : mm_T X G Y fin sh M pc lv (.int x :: st) f := by
  subst hq
  exact fun C r hr H locs ls hP hD hS hl => lv_if_ge C.1 C.2.1 hd ht (fun h => absurd h h0) (fun _ => k C r hr H locs ls hP hD hS hl)
theorem mm_icmp_ge {x y : Int32} {off : Int} {a b : Option ρ} (q t : Nat) (hq : q = pc + 3) (hd : decode Y.1 pc = .ok (.if_icmp .ge off, 3)) (ht : (pc : Int) + off = (t : Int)) (ka : y ≤ x → mm_T X G Y fin sh M t lv st a) (kb : ¬ y ≤ x → mm_T X G Y fin sh M q lv st b) : mm_T X G Y fin sh M pc lv (.int y :: .int x :: st) (if y ≤ x then a else b) := by
  subst hq
  intro C r hr H locs ls hP hD hS hl
  refine lv_icmp_ge C.1 C.2.1 hd ht (fun h => ?_) (fun h => ?_)
  · rw [if_pos h] at hr
    exact ka h C r hr H locs ls hP hD hS hl
  · rw [if_neg h] at hr
    exact kb h C r hr H locs ls hP hD hS hl
theorem mm_icmp_geY {x y : Int32} {off : Int} (t : Nat) (hd : decode Y.1 pc = .ok (.if_icmp .ge off, 3)) (ht : (pc : Int) + off = (t : Int)) (h0 : y ≤ x) (k : mm_T X G Y fin sh M t lv st f) : mm_T X G Y fin sh M pc lv (.int y :: .int x :: st) f := fun C r hr H locs ls hP hD hS hl => lv_icmp_ge C.1 C.2.1 hd ht (fun _ => k C r hr H locs ls hP hD hS hl) (fun h => absurd h0 h)
theorem mm_icmp_geN {x y : Int32} {off : Int} (q : Nat) (hq : q = pc + 3) (t : Nat) (hd : decode Y.1 pc = .ok (.if_icmp .ge off, 3)) (ht : (pc : Int) + off = (t : Int)) (h0 : ¬ y ≤ x) (k : mm_T X G Y fin sh M q lv st f) : mm_T X G Y fin sh M pc lv (.int y :: .int x :: st) f := by
  subst hq
  exact fun C r hr H locs ls hP hD hS hl => lv_icmp_ge C.1 C.2.1 hd ht (fun h => absurd h h0) (fun _ => k C r hr H locs ls hP hD hS hl)
theorem mm_if_gt {x : Int32} {off : Int} {a b : Option ρ} (q t : Nat) (hq : q = pc + 3) (hd : decode Y.1 pc = .ok (.ifCond .gt off, 3)) (ht : (pc : Int) + off = (t : Int)) (ka : 0 < x → mm_T X G Y fin sh M t lv st a) (kb : ¬ 0 < x → mm_T X G Y fin sh M q lv st b) : mm_T X G Y fin sh M pc lv (.int x :: st) (if 0 < x then a else b) := by
  subst hq
  intro C r hr H locs ls hP hD hS hl
  refine lv_if_gt C.1 C.2.1 hd ht (fun h => ?_) (fun h => ?_)
  · rw [if_pos h] at hr
    exact ka h C r hr H locs ls hP hD hS hl
  · rw [if_neg h] at hr
    exact kb h C r hr H locs ls hP hD hS hl
theorem mm_if_gtY {x : Int32} {off : Int} (t : Nat) (hd : decode Y.1 pc = .ok (.ifCond .gt off, 3)) (ht : (pc : Int) + off = (t : Int)) (h0 : 0 < x) (k : mm_T X G Y fin sh M t lv st f) : mm_T X G Y fin sh M pc lv (.int x :: st) f := fun C r hr H locs ls hP hD hS hl => lv_if_gt C.1 C.2.1 hd ht (fun _ => k C r hr H locs ls hP hD hS hl) (fun h => absurd h0 h)
theorem mm_if_gtN {x : Int32} {off : Int} (q : Nat) (hq : q = pc + 3) (t : Nat) (hd : decode Y.1 pc = .ok (.ifCond .gt off, 3)) (ht : (pc : Int) + off = (t : Int)) (h0 : ¬ 0 < x) (k : mm_T X G Y fin sh M q lv st f) : mm_T X G Y fin sh M pc lv (.int x :: st) f := by
  subst hq
  exact fun C r hr H locs ls hP hD hS hl => lv_if_gt C.1 C.2.1 hd ht (fun h => absurd h h0) (fun _ => k C r hr H locs ls hP hD hS hl)
theorem mm_icmp_gt {x y : Int32} {off : Int} {a b : Option ρ} (q t : Nat) (hq : q = pc + 3) (hd : decode Y.1 pc = .ok (.if_icmp .gt off, 3)) (ht : (pc : Int) + off = (t : Int)) (ka : y < x → mm_T X G Y fin sh M t lv st a) (kb : ¬ y < x → mm_T X G Y fin sh M q lv st b) : mm_T X G Y fin sh M pc lv (.int y :: .int x :: st) (if y < x then a else b) := by
  subst hq
  intro C r hr H locs ls hP hD hS hl
  refine lv_icmp_gt C.1 C.2.1 hd ht (fun h => ?_) (fun h => ?_)
  · rw [if_pos h] at hr
    exact ka h C r hr H locs ls hP hD hS hl
  · rw [if_neg h] at hr
    exact kb h C r hr H locs ls hP hD hS hl
theorem mm_icmp_gtY {x y : Int32} {off : Int} (t : Nat) (hd : decode Y.1 pc = .ok (.if_icmp .gt off, 3)) (ht : (pc : Int) + off = (t : Int)) (h0 : y < x) (k : mm_T X G Y fin sh M t lv st f) : mm_T X G Y fin sh M pc lv (.int y :: .int x :: st) f := fun C r hr H locs ls hP hD hS hl => lv_icmp_gt C.1 C.2.1 hd ht (fun _ => k C r hr H locs ls hP hD hS hl) (fun h => absurd h0 h)
theorem mm_icmp_gtN {x y : Int32} {off : Int} (q : Nat) (hq : q = pc + 3) (t : Nat) (hd : decode Y.1 pc = .ok (.if_icmp .gt off, 3)) (ht : (pc : Int) + off = (t : Int)) (h0 : ¬ y < x) (k : mm_T X G Y fin sh M q lv st f) : mm_T X G Y fin sh M pc lv (.int y :: .int x :: st) f := by
  subst hq
  exact fun C r hr H locs ls hP hD hS hl => lv_icmp_gt C.1 C.2.1 hd ht (fun h => absurd h h0) (fun _ => k C r hr H locs ls hP hD hS hl)
theorem mm_if_le {x : Int32} {off : Int} {a b : Option ρ} (q t : Nat) (hq : q = pc + 3) (hd : decode Y.1 pc = .ok (.ifCond .le off, 3)) (ht : (pc : Int) + off = (t : Int)) (ka : x ≤ 0 → mm_T X G Y fin sh M t lv st a) (kb : ¬ x ≤ 0 → mm_T X G Y fin sh M q lv st b) : mm_T X G Y fin sh M pc lv (.int x :: st) (if x ≤ 0 then a else b) := by
  subst hq
  intro C r hr H locs ls hP hD hS hl
  refine lv_if_le C.1 C.2.1 hd ht (fun h => ?_) (fun h => ?_)
  · rw [if_pos h] at hr
    exact ka h C r hr H locs ls hP hD hS hl
  · rw [if_neg h] at hr
    exact kb h C r hr H locs ls hP hD hS hl
theorem mm_if_leY {x : Int32} {off : Int} (t : Nat) (hd : decode Y.1 pc = .ok (.ifCond .le off, 3)) (ht : (pc : Int) + off = (t : Int)) (h0 : x ≤ 0) (k : mm_T X G Y fin sh M t lv st f) : mm_T X G Y fin sh M pc lv (.int x :: st) f := fun C r hr H locs ls hP hD hS hl => lv_if_le C.1 C.2.1 hd ht (fun _ => k C r hr H locs ls hP hD hS hl) (fun h => absurd h0 h)
theorem mm_if_leN {x : Int32} {off : Int} (q : Nat) (hq : q = pc + 3) (t : Nat) (hd : decode Y.1 pc = .ok (.ifCond .le off, 3)) (ht : (pc : Int) + off = (t : Int)) (h0 : ¬ x ≤ 0) (k : mm_T X G Y fin sh M q lv st f) : mm_T X G Y fin sh M pc lv (.int x :: st) f := by
  subst hq
  exact fun C r hr H locs ls hP hD hS hl => lv_if_le C.1 C.2.1 hd ht (fun h => absurd h h0) (fun _ => k C r hr H locs ls hP hD hS hl)
theorem mm_icmp_le {x y : Int32} {off : Int} {a b : Option ρ} (q t : Nat) (hq : q = pc + 3) (hd : decode Y.1 pc = .ok (.if_icmp .le off, 3)) (ht : (pc : Int) + off = (t : Int)) (ka : x ≤ y → mm_T X G Y fin sh M t lv st a) (kb : ¬ x ≤ y → mm_T X G Y fin sh M q lv st b) : mm_T X G Y fin sh M pc lv (.int y :: .int x :: st) (if x ≤ y then a else b) := by
  subst hq
  intro C r hr H locs ls hP hD hS hl
  refine lv_icmp_le C.1 C.2.1 hd ht (fun h => ?_) (fun h => ?_)
  · rw [if_pos h] at hr
    exact ka h C r hr H locs ls hP hD hS hl
  · rw [if_neg h] at hr
    exact kb h C r hr H locs ls hP hD hS hl
theorem mm_icmp_leY {x y : Int32} {off : Int} (t : Nat) (hd : decode Y.1 pc = .ok (.if_icmp .le off, 3)) (ht : (pc : Int) + off = (t : Int)) (h0 : x ≤ y) (k : mm_T X G Y fin sh M t lv st f) : mm_T X G Y fin sh M pc lv (.int y :: .int x :: st) f := fun C r hr H locs ls hP hD hS hl => lv_icmp_le C.1 C.2.1 hd ht (fun _ => k C r hr H locs ls hP hD hS hl) (fun h => absurd h0 h)
theorem mm_icmp_leN {x y : Int32} {off : Int} (q : Nat) (hq : q = pc + 3) (t : Nat) (hd : decode Y.1 pc = .ok (.if_icmp .le off, 3)) (ht : (pc : Int) + off = (t : Int)) (h0 : ¬ x ≤ y) (k : mm_T X G Y fin sh M q lv st f) : mm_T X G Y fin sh M pc lv (.int y :: .int x :: st) f := by
  subst hq
  exact fun C r hr H locs ls hP hD hS hl => lv_icmp_le C.1 C.2.1 hd ht (fun h => absurd h h0) (fun _ => k C r hr H locs ls hP hD hS hl)
theorem mm_goto {off : Int} (t : Nat) (hd : decode Y.1 pc = .ok (.goto off, 3)) (ht : (pc : Int) + off = (t : Int)) (k : mm_T X G Y fin sh M t lv st f) : mm_T X G Y fin sh M pc lv st f := fun C r hr H locs ls hP hD hS hl => lv_goto C.1 C.2.1 hd ht (k C r hr H locs ls hP hD hS hl)
theorem mm_tabIn {dflt lo hi : Int} {offs : Array Int} {len : Nat} {x : Int32} {off : Int} (t : Nat) (v : Int32) (hx : x = v) (hd : decode Y.1 pc = .ok (.tableswitch dflt lo hi offs, len)) (h1 : ¬ v.toInt < lo) (h2 : ¬ hi < v.toInt) (ho : offs[(v.toInt - lo).toNat]? = some off) (ht : (pc : Int) + off = (t : Int)) (k : mm_T X G Y fin sh M t lv st f) : mm_T X G Y fin sh M pc lv (.int x :: st) f := by
  subst hx
  exact fun C r hr H locs ls hP hD hS hl => lv_tableIn C.1 C.2.1 hd h1 h2 ho ht (k C r hr H locs ls hP hD hS hl)
theorem mm_tabOut {dflt lo hi : Int} {offs : Array Int} {len : Nat} {x : Int32} (t : Nat) (hd : decode Y.1 pc = .ok (.tableswitch dflt lo hi offs, len)) (h : x.toInt < lo ∨ hi < x.toInt) (ht : (pc : Int) + dflt = (t : Int)) (k : mm_T X G Y fin sh M t lv st f) : mm_T X G Y fin sh M pc lv (.int x :: st) f := fun C r hr H locs ls hP hD hS hl => lv_tableOut C.1 C.2.1 hd h ht (k C r hr H locs ls hP hD hS hl)
theorem mm_lkup {dflt : Int} {ps : Array (Int × Int)} {len : Nat} {x : Int32} {off : Int} (t : Nat) (hd : decode Y.1 pc = .ok (.lookupswitch dflt ps, len)) (hp : (ps.toList.zip (ps.toList.drop 1)).all (fun (a, next) => a.1 < next.1) = true) (ho : Op.lookupswitch.offset ps.toList dflt x.toInt = off) (ht : (pc : Int) + off = (t : Int)) (k : mm_T X G Y fin sh M t lv st f) : mm_T X G Y fin sh M pc lv (.int x :: st) f := fun C r hr H locs ls hP hD hS hl => lv_lookup C.1 C.2.1 hd hp ho ht (k C r hr H locs ls hP hD hS hl)
theorem mm_get {i : Nat} {o : Nat} {g : (Nat → Int32) → va_E} {ci N : Nat} {fs : List Value} {C0 : String} {T0 : u_T} {v : Value} (q : Nat) (hq : q = pc + 3) (hd : decode Y.1 pc = .ok (.getfield i, 3)) (hs : sh[o]? = some g) (hf : g (M o) = .inr (ci, fs)) (hc : vwCl[ci]? = some (C0, T0, N)) (hin : ∀ w ∈ u_ws C0 T0 N, w ∈ mm_ws) (j : Nat) (hj : j < N) (hw : Cond.fieldLink Y.2.2.1 i (T0 j).1 (T0 j).2.1 (T0 j).2.2.1 ∈ mm_ws) (hv : fs[j]? = some v) (k : mm_T X G Y fin sh M q lv (v :: st) f) : mm_T X G Y fin sh M pc lv (.ref (mm_ad G o) :: st) f := by
  subst hq
  exact fun C r hr H locs ls hP hD hS hl => va_get (D := mm_D G) C.1 C.2.1 C.2.2.2.2.1 hin C.2.2.2.1 C.2.2.2.2.2.2.2.1 hP o (by rw [mm_w_get hs, hf]) hc j hj (C.2.2.2.2.1 _ hw) (fun _ h => h) hv hd (k C r hr H locs ls hP hD hS hl)
theorem mm_getN {i : Nat} {host : String} {o : Nat} {g : (Nat → Int32) → va_E} {ci N : Nat} {fs : List Value} {C0 : String} {T0 : u_T} {v : Value} (q : Nat) (hq : q = pc + 3) (hd : decode Y.1 pc = .ok (.getfield i, 3)) (hs : sh[o]? = some g) (hf : g (M o) = .inr (ci, fs)) (hc : vwCl[ci]? = some (C0, T0, N)) (hin : ∀ w ∈ u_ws C0 T0 N, w ∈ mm_ws) (j : Nat) (hj : j < N) (hw : Cond.fieldLinkNest Y.2.2.1 i (T0 j).1 (T0 j).2.1 (T0 j).2.2.1 host ∈ mm_nest) (hv : fs[j]? = some v) (k : mm_T X G Y fin sh M q lv (v :: st) f) : mm_T X G Y fin sh M pc lv (.ref (mm_ad G o) :: st) f := by
  subst hq
  exact fun C r hr H locs ls hP hD hS hl => va_getN (D := mm_D G) C.1 C.2.1 C.2.2.2.2.1 hin C.2.2.2.1 C.2.2.2.2.2.2.2.1 hP o (by rw [mm_w_get hs, hf]) hc j hj (va_Nw.use rfl (C.2.2.2.2.2.2.2.2.1 _ hw)) (fun _ h => h) hv hd (k C r hr H locs ls hP hD hS hl)
theorem mm_put {i : Nat} {o : Nat} {g : (Nat → Int32) → va_E} {ci N : Nat} {fs : List Value} {C0 : String} {T0 : u_T} {ty : FieldType} {v : Int32} (q : Nat) (hq : q = pc + 3) (hd : decode Y.1 pc = .ok (.putfield i, 3)) (hs : sh[o]? = some g) (hf : g (M o) = .inr (ci, fs)) (hc : vwCl[ci]? = some (C0, T0, N)) (hin : ∀ w ∈ u_ws C0 T0 N, w ∈ mm_ws) (ty0 : Nat → FieldType) (hty : ∀ k, k < N → parseFieldDescriptor (T0 k).2.2.1 = some (ty0 k)) (hnm : ∀ a, a < N → ∀ b, b < N → a ≠ b → (T0 a).2.1 ≠ (T0 b).2.1) (j : Nat) (hj : j < N) (hw : Cond.fieldLink Y.2.2.1 i (T0 j).1 (T0 j).2.1 (T0 j).2.2.1 ∈ mm_ws) (hfin : (T0 j).2.2.2 = false) (hdd : parseFieldDescriptor (T0 j).2.2.1 = some ty) (hn : narrow ty (.int v) = .int v) (hfit : fits ty (.int v) = true) (hlen : j < fs.length) (hset : g (upd (M o) j v) = .inr (ci, fs.set j (.int v))) (k : mm_T X G Y fin sh (mm_up M o j v) q lv st f) : mm_T X G Y fin sh M pc lv (.int v :: .ref (mm_ad G o) :: st) f := by
  subst hq
  intro C r hr H locs ls hP hD hS hl
  have he : (mm_w (mm_ad G) sh M)[o]? = some (mm_ad G o, .inr (ci, fs)) := by rw [mm_w_get hs, hf]
  refine va_put (D := mm_D G) C.1 C.2.1 C.2.2.2.2.1 hin ty0 hty hnm C.2.2.2.1 C.2.2.2.2.2.2.2.1 hP hD hS o he hc j hj (C.2.2.2.2.1 _ hw) (fun _ h => h) hfin hdd hn hfit hlen hd (fun H1 locs1 hP1 hD1 hS1 => ?_)
  rw [← hset, mm_w_set hs] at hP1 hD1
  exact k C r hr H1 locs1 ls hP1 hD1 hS1 hl
theorem mm_putN {i : Nat} {host : String} {o : Nat} {g : (Nat → Int32) → va_E} {ci N : Nat} {fs : List Value} {C0 : String} {T0 : u_T} {ty : FieldType} {v : Int32} (q : Nat) (hq : q = pc + 3) (hd : decode Y.1 pc = .ok (.putfield i, 3)) (hs : sh[o]? = some g) (hf : g (M o) = .inr (ci, fs)) (hc : vwCl[ci]? = some (C0, T0, N)) (hin : ∀ w ∈ u_ws C0 T0 N, w ∈ mm_ws) (ty0 : Nat → FieldType) (hty : ∀ k, k < N → parseFieldDescriptor (T0 k).2.2.1 = some (ty0 k)) (hnm : ∀ a, a < N → ∀ b, b < N → a ≠ b → (T0 a).2.1 ≠ (T0 b).2.1) (j : Nat) (hj : j < N) (hw : Cond.fieldLinkNest Y.2.2.1 i (T0 j).1 (T0 j).2.1 (T0 j).2.2.1 host ∈ mm_nest) (hfin : (T0 j).2.2.2 = false) (hdd : parseFieldDescriptor (T0 j).2.2.1 = some ty) (hn : narrow ty (.int v) = .int v) (hfit : fits ty (.int v) = true) (hlen : j < fs.length) (hset : g (upd (M o) j v) = .inr (ci, fs.set j (.int v))) (k : mm_T X G Y fin sh (mm_up M o j v) q lv st f) : mm_T X G Y fin sh M pc lv (.int v :: .ref (mm_ad G o) :: st) f := by
  subst hq
  intro C r hr H locs ls hP hD hS hl
  have he : (mm_w (mm_ad G) sh M)[o]? = some (mm_ad G o, .inr (ci, fs)) := by rw [mm_w_get hs, hf]
  refine va_putN (D := mm_D G) C.1 C.2.1 C.2.2.2.2.1 hin ty0 hty hnm C.2.2.2.1 C.2.2.2.2.2.2.2.1 hP hD hS o he hc j hj (va_Nw.use rfl (C.2.2.2.2.2.2.2.2.1 _ hw)) (fun _ h => h) hfin hdd hn hfit hlen hd (fun H1 locs1 hP1 hD1 hS1 => ?_)
  rw [← hset, mm_w_set hs] at hP1 hD1
  exact k C r hr H1 locs1 ls hP1 hD1 hS1 hl
def mm_ia (G : mm_G) (n : Nat) : (Nat → Int32) → va_E := fun row => .inl (mm_cy G 0, n, .inl row)
def mm_za (G : mm_G) (n : Nat) : (Nat → Int32) → va_E := fun row => .inl (mm_cy G 1, n, .inl row)
theorem mm_iald {a n : Nat} {i : Int32} (q : Nat) (hq : q = pc + 1) (hd : decode Y.1 pc = .ok (.iaload, 1)) (hs : sh[a]? = some (mm_ia G n)) (k : mm_in i n = true → mm_T X G Y fin sh M q lv (.int (M a i.toNatClampNeg) :: st) f) : mm_T X G Y fin sh M pc lv (.int i :: .ref (mm_ad G a) :: st) (if mm_in i n then f else none) := by
  subst hq
  by_cases h : mm_in i n = true
  · rw [if_pos h]
    exact fun C r hr H locs ls hP hD hS hl => va_iald (D := mm_D G) C.1 C.2.1 C.2.2.2.2.2.2.2.1 hP a 0 (mm_w_get hs) rfl (mm_in_vp h) hd (k h C r hr H locs ls hP hD hS hl)
  · rw [if_neg h]; exact mm_none
theorem mm_ialdK {a n : Nat} {i : Int32} (q : Nat) (hq : q = pc + 1) (hd : decode Y.1 pc = .ok (.iaload, 1)) (hs : sh[a]? = some (mm_ia G n)) (h : mm_in i n = true) (j : Nat) (hj : i.toNatClampNeg = j) (k : mm_T X G Y fin sh M q lv (.int (M a j) :: st) f) : mm_T X G Y fin sh M pc lv (.int i :: .ref (mm_ad G a) :: st) f := by
  subst hq; subst hj
  exact fun C r hr H locs ls hP hD hS hl => va_iald (D := mm_D G) C.1 C.2.1 C.2.2.2.2.2.2.2.1 hP a 0 (mm_w_get hs) rfl (mm_in_vp h) hd (k C r hr H locs ls hP hD hS hl)
theorem mm_iastK {a n : Nat} {i x : Int32} (q : Nat) (hq : q = pc + 1) (hd : decode Y.1 pc = .ok (.iastore, 1)) (hs : sh[a]? = some (mm_ia G n)) (h : mm_in i n = true) (j : Nat) (hj : i.toNatClampNeg = j) (k : mm_T X G Y fin sh (mm_up M a j x) q lv st f) : mm_T X G Y fin sh M pc lv (.int x :: .int i :: .ref (mm_ad G a) :: st) f := by
  subst hq; subst hj
  intro C r hr H locs ls hP hD hS hl
  refine va_iast (D := mm_D G) C.1 C.2.1 C.2.2.2.2.2.2.2.1 hP hD hS a 0 (mm_w_get hs) rfl (mm_in_vp h) hd (fun H1 locs1 hP1 hD1 hS1 => ?_)
  have e : (mm_w (mm_ad G) sh M).set a (mm_ad G a, .inl (mm_cy G 0, n, .inl (upd (M a) i.toNatClampNeg x))) = mm_w (mm_ad G) sh (mm_up M a i.toNatClampNeg x) := mm_w_set (f := mm_ia G n) hs
  rw [e] at hP1 hD1
  exact k C r hr H1 locs1 ls hP1 hD1 hS1 hl
theorem mm_iast {a n : Nat} {i x : Int32} (q : Nat) (hq : q = pc + 1) (hd : decode Y.1 pc = .ok (.iastore, 1)) (hs : sh[a]? = some (mm_ia G n)) (k : mm_in i n = true → mm_T X G Y fin sh (mm_up M a i.toNatClampNeg x) q lv st f) : mm_T X G Y fin sh M pc lv (.int x :: .int i :: .ref (mm_ad G a) :: st) (if mm_in i n then f else none) := by
  by_cases h : mm_in i n = true
  · rw [if_pos h]; exact mm_iastK q hq hd hs h _ rfl (k h)
  · rw [if_neg h]; exact mm_none
theorem mm_alen {a n : Nat} {v : Int32} (q : Nat) (hq : q = pc + 1) (hd : decode Y.1 pc = .ok (.arraylength, 1)) (hs : sh[a]? = some (mm_ia G n)) (hv : Int32.ofNat n = v) (k : mm_T X G Y fin sh M q lv (.int v :: st) f) : mm_T X G Y fin sh M pc lv (.ref (mm_ad G a) :: st) f := by
  subst hq
  exact fun C r hr H locs ls hP hD hS hl => va_alen (D := mm_D G) C.1 C.2.1 C.2.2.2.2.2.2.2.1 hP a 0 (mm_w_get hs) rfl hv hd (k C r hr H locs ls hP hD hS hl)
theorem mm_zaldK {a n : Nat} {i : Int32} (q : Nat) (hq : q = pc + 1) (hd : decode Y.1 pc = .ok (.baload, 1)) (hs : sh[a]? = some (mm_za G n)) (h : mm_in i n = true) (j : Nat) (hj : i.toNatClampNeg = j) (k : mm_T X G Y fin sh M q lv (.int (M a j) :: st) f) : mm_T X G Y fin sh M pc lv (.int i :: .ref (mm_ad G a) :: st) f := by
  subst hq; subst hj
  exact fun C r hr H locs ls hP hD hS hl => va_zald (D := mm_D G) C.1 C.2.1 C.2.2.2.2.2.2.2.1 hP a 1 (mm_w_get hs) rfl (mm_in_vp h) hd (k C r hr H locs ls hP hD hS hl)
theorem mm_zald {a n : Nat} {i : Int32} (q : Nat) (hq : q = pc + 1) (hd : decode Y.1 pc = .ok (.baload, 1)) (hs : sh[a]? = some (mm_za G n)) (k : mm_in i n = true → mm_T X G Y fin sh M q lv (.int (M a i.toNatClampNeg) :: st) f) : mm_T X G Y fin sh M pc lv (.int i :: .ref (mm_ad G a) :: st) (if mm_in i n then f else none) := by
  by_cases h : mm_in i n = true
  · rw [if_pos h]; exact mm_zaldK q hq hd hs h _ rfl (k h)
  · rw [if_neg h]; exact mm_none
/-- an array of references that stay -/
def mm_ra (G : mm_G) (ty n b s : Nat) : (Nat → Int32) → va_E := fun _ => .inl (mm_cy G ty, n, .inr (.inr (.inr (.inr (fun i => some (mm_ad G (b + s * i)))))))
theorem mm_aald {a n ty b s : Nat} {E : String} {i : Int32} (q : Nat) (hq : q = pc + 1) (hd : decode Y.1 pc = .ok (.aaload, 1)) (hs : sh[a]? = some (mm_ra G ty n b s)) (ht : (mm_ty G)[ty]? = some (mm_cy G ty, .object E)) (k : mm_in i n = true → mm_T X G Y fin sh M q lv (.ref (mm_ad G (b + s * i.toNatClampNeg)) :: st) f) : mm_T X G Y fin sh M pc lv (.int i :: .ref (mm_ad G a) :: st) (if mm_in i n then f else none) := by
  subst hq
  by_cases h : mm_in i n = true
  · rw [if_pos h]
    exact fun C r hr H locs ls hP hD hS hl => va_aldq (D := mm_D G) C.1 C.2.1 C.2.2.2.2.2.2.2.1 hP a ty (mm_w_get hs) ht (mm_in_vp h) hd (k h C r hr H locs ls hP hD hS hl)
  · rw [if_neg h]; exact mm_none
theorem mm_aaldK {a n ty b s : Nat} {E : String} {i : Int32} (q : Nat) (hq : q = pc + 1) (hd : decode Y.1 pc = .ok (.aaload, 1)) (hs : sh[a]? = some (mm_ra G ty n b s)) (ht : (mm_ty G)[ty]? = some (mm_cy G ty, .object E)) (h : mm_in i n = true) (j : Nat) (hj : b + s * i.toNatClampNeg = j) (k : mm_T X G Y fin sh M q lv (.ref (mm_ad G j) :: st) f) : mm_T X G Y fin sh M pc lv (.int i :: .ref (mm_ad G a) :: st) f := by
  subst hq; subst hj
  exact fun C r hr H locs ls hP hD hS hl => va_aldq (D := mm_D G) C.1 C.2.1 C.2.2.2.2.2.2.2.1 hP a ty (mm_w_get hs) ht (mm_in_vp h) hd (k C r hr H locs ls hP hD hS hl)
theorem mm_alenR {a n ty b s : Nat} {E : String} {v : Int32} (q : Nat) (hq : q = pc + 1) (hd : decode Y.1 pc = .ok (.arraylength, 1)) (hs : sh[a]? = some (mm_ra G ty n b s)) (ht : (mm_ty G)[ty]? = some (mm_cy G ty, .object E)) (hv : Int32.ofNat n = v) (k : mm_T X G Y fin sh M q lv (.int v :: st) f) : mm_T X G Y fin sh M pc lv (.ref (mm_ad G a) :: st) f := by
  subst hq
  exact fun C r hr H locs ls hP hD hS hl => va_alen (D := mm_D G) C.1 C.2.1 C.2.2.2.2.2.2.2.1 hP a ty (mm_w_get hs) ht hv hd (k C r hr H locs ls hP hD hS hl)
/-! the ends -/
def mm_fi (sh : mm_S) : Int32 × mm_M → mm_F := fun r => (some (.int r.1), sh, r.2)
def mm_fl (sh : mm_S) : Int64 × mm_M → mm_F := fun r => (some (.long r.1), sh, r.2)
def mm_fv (sh : mm_S) : mm_M → mm_F := fun r => (none, sh, r)
def mm_fr (ad : Nat → Nat) (sh : mm_S) : Nat × mm_M → mm_F := fun r => (some (.ref (ad r.1)), sh, r.2)
theorem mm_end {H : Heap} {locs : List Loc} {v : Option Value} {F : mm_F} (C : mm_C X G Y) (hP : va_P (mm_D G) vwCl (mm_w (mm_ad G) sh M) H) (hD : va_D (mm_A G) (mm_w (mm_ad G) sh M)) (hS : va_S (mm_A G) X.2.2.2.1.heap H locs) (hF : F = (v, sh, M)) (t : State) (ht : t.heap = H) (hW : X.2.2.2.1.WarmedH t.vm) : mm_Q G F X.2.2.2.2.2.1 X.2.2.2.1 (.returned v) t := by
  subst hF
  exact ⟨⟨rfl, by rw [ht]; exact hP, hD, mm_E_warm C.2.2.2.2.2.2.2 hW hS ht⟩, hS.F ht⟩
theorem mm_iret {v : Int32} {r0 : ρ} (hd : decode Y.1 pc = .ok (.ireturn, 1)) (hY : Y.2.2.2.1 = some .int) (hF : fin r0 = (some (.int v), sh, M)) : mm_T X G Y fin sh M pc lv [.int v] (some r0) := by
  intro C r hr H locs ls hP hD hS hl
  cases hr
  exact W.iret C.1 C.2.1 (by rw [C.2.2.2.2.2.1, hY]) (fun t ht hW => mm_end C hP hD hS hF t ht hW) hS.2.2 hd (hlocks := C.2.2.2.2.2.2.1)
theorem mm_zretK {ty : FieldType} {v : Int32} {r0 : ρ} (hd : decode Y.1 pc = .ok (.ireturn, 1)) (hY : Y.2.2.2.1 = some ty) (hn : narrow ty (.int v) = .int v) (hF : fin r0 = (some (.int v), sh, M)) : mm_T X G Y fin sh M pc lv [.int v] (some r0) := by
  intro C r hr H locs ls hP hD hS hl
  cases hr
  exact W.zret C.1 C.2.1 (by rw [C.2.2.2.2.2.1, hY]) hn (fun t ht hW => mm_end C hP hD hS hF t ht hW) hS.2.2 hd (hlocks := C.2.2.2.2.2.2.1)
theorem mm_zret {v : Int32} {r0 : ρ} (hd : decode Y.1 pc = .ok (.ireturn, 1)) (hY : Y.2.2.2.1 = some .boolean) (hF : fin r0 = (some (.int v), sh, M)) : mm_T X G Y fin sh M pc lv [.int v] (if v = 0 ∨ v = 1 then some r0 else none) := by
  by_cases h : v = 0 ∨ v = 1
  · rw [if_pos h]
    exact mm_zretK hd hY (by rcases h with h | h <;> subst h <;> rfl) hF
  · rw [if_neg h]; exact mm_none
theorem mm_vret {r0 : ρ} (hd : decode Y.1 pc = .ok (.return_, 1)) (hY : Y.2.2.2.1 = none) (hF : fin r0 = (none, sh, M)) : mm_T X G Y fin sh M pc lv [] (some r0) := by
  intro C r hr H locs ls hP hD hS hl
  cases hr
  exact W.vret C.1 C.2.1 (by rw [C.2.2.2.2.2.1, hY]) (fun t ht hW => mm_end C hP hD hS hF t ht hW) hS.2.2 hd (hlocks := C.2.2.2.2.2.2.1)
theorem mm_lret {v : Int64} {r0 : ρ} (hd : decode Y.1 pc = .ok (.lreturn, 1)) (hY : Y.2.2.2.1 = some .long) (hF : fin r0 = (some (.long v), sh, M)) : mm_T X G Y fin sh M pc lv [.long v] (some r0) := by
  intro C r hr H locs ls hP hD hS hl
  cases hr
  exact W.lret C.1 C.2.1 (by rw [C.2.2.2.2.2.1, hY]) (fun t ht hW => mm_end C hP hD hS hF t ht hW) hS.2.2 hd (hlocks := C.2.2.2.2.2.2.1)
end
