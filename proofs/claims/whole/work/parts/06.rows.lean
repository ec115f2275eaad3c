section RWS
variable {X : rr_X} {G : rr_G} {nL : Nat} {Q : State → Prop} {cc : ByteArray} {own : String} {ret : Option FieldType} {fr lo : Nat} {σ : rr_M} {pc : Nat} {lv : List (Nat × Value)} {rest : List Value}
theorem rx_iadd (C : rr_C X G cc nL own ret fr lo) {x y : Int32} (hdg : decode cc pc = .ok (.iadd, 1))  (k : rr_J X G nL Q σ (pc + 1) lv (.int (x + y) :: rest)) : rr_J X G nL Q σ pc lv (.int y :: .int x :: rest) := fun hT H locs ls hl hP hS => lv_iadd C.1 C.2.1 hdg  (k hT H locs ls hl hP hS)
theorem rx_isub (C : rr_C X G cc nL own ret fr lo) {x y : Int32} (hdg : decode cc pc = .ok (.isub, 1))  (k : rr_J X G nL Q σ (pc + 1) lv (.int (x - y) :: rest)) : rr_J X G nL Q σ pc lv (.int y :: .int x :: rest) := fun hT H locs ls hl hP hS => lv_isub C.1 C.2.1 hdg  (k hT H locs ls hl hP hS)
theorem rx_imul (C : rr_C X G cc nL own ret fr lo) {x y : Int32} (hdg : decode cc pc = .ok (.imul, 1))  (k : rr_J X G nL Q σ (pc + 1) lv (.int (x * y) :: rest)) : rr_J X G nL Q σ pc lv (.int y :: .int x :: rest) := fun hT H locs ls hl hP hS => lv_imul C.1 C.2.1 hdg  (k hT H locs ls hl hP hS)
theorem rx_iand (C : rr_C X G cc nL own ret fr lo) {x y : Int32} (hdg : decode cc pc = .ok (.iand, 1))  (k : rr_J X G nL Q σ (pc + 1) lv (.int (x &&& y) :: rest)) : rr_J X G nL Q σ pc lv (.int y :: .int x :: rest) := fun hT H locs ls hl hP hS => lv_iand C.1 C.2.1 hdg  (k hT H locs ls hl hP hS)
theorem rx_ior (C : rr_C X G cc nL own ret fr lo) {x y : Int32} (hdg : decode cc pc = .ok (.ior, 1))  (k : rr_J X G nL Q σ (pc + 1) lv (.int (x ||| y) :: rest)) : rr_J X G nL Q σ pc lv (.int y :: .int x :: rest) := fun hT H locs ls hl hP hS => lv_ior C.1 C.2.1 hdg  (k hT H locs ls hl hP hS)
theorem rx_ixor (C : rr_C X G cc nL own ret fr lo) {x y : Int32} (hdg : decode cc pc = .ok (.ixor, 1))  (k : rr_J X G nL Q σ (pc + 1) lv (.int (x ^^^ y) :: rest)) : rr_J X G nL Q σ pc lv (.int y :: .int x :: rest) := fun hT H locs ls hl hP hS => lv_ixor C.1 C.2.1 hdg  (k hT H locs ls hl hP hS)
theorem rx_ishl (C : rr_C X G cc nL own ret fr lo) {x y : Int32} (hdg : decode cc pc = .ok (.ishl, 1))  (k : rr_J X G nL Q σ (pc + 1) lv (.int (x <<< (y &&& 31)) :: rest)) : rr_J X G nL Q σ pc lv (.int y :: .int x :: rest) := fun hT H locs ls hl hP hS => lv_ishl C.1 C.2.1 hdg  (k hT H locs ls hl hP hS)
theorem rx_ishr (C : rr_C X G cc nL own ret fr lo) {x y : Int32} (hdg : decode cc pc = .ok (.ishr, 1))  (k : rr_J X G nL Q σ (pc + 1) lv (.int (x >>> (y &&& 31)) :: rest)) : rr_J X G nL Q σ pc lv (.int y :: .int x :: rest) := fun hT H locs ls hl hP hS => lv_ishr C.1 C.2.1 hdg  (k hT H locs ls hl hP hS)
theorem rx_ineg (C : rr_C X G cc nL own ret fr lo) {x : Int32} (hdg : decode cc pc = .ok (.ineg, 1))  (k : rr_J X G nL Q σ (pc + 1) lv (.int (-x) :: rest)) : rr_J X G nL Q σ pc lv (.int x :: rest) := fun hT H locs ls hl hP hS => lv_ineg C.1 C.2.1 hdg  (k hT H locs ls hl hP hS)
theorem rx_ladd (C : rr_C X G cc nL own ret fr lo) {x y : Int64} (hdg : decode cc pc = .ok (.ladd, 1))  (k : rr_J X G nL Q σ (pc + 1) lv (.long (x + y) :: rest)) : rr_J X G nL Q σ pc lv (.long y :: .long x :: rest) := fun hT H locs ls hl hP hS => lv_ladd C.1 C.2.1 hdg  (k hT H locs ls hl hP hS)
theorem rx_lsub (C : rr_C X G cc nL own ret fr lo) {x y : Int64} (hdg : decode cc pc = .ok (.lsub, 1))  (k : rr_J X G nL Q σ (pc + 1) lv (.long (x - y) :: rest)) : rr_J X G nL Q σ pc lv (.long y :: .long x :: rest) := fun hT H locs ls hl hP hS => lv_lsub C.1 C.2.1 hdg  (k hT H locs ls hl hP hS)
theorem rx_lmul (C : rr_C X G cc nL own ret fr lo) {x y : Int64} (hdg : decode cc pc = .ok (.lmul, 1))  (k : rr_J X G nL Q σ (pc + 1) lv (.long (x * y) :: rest)) : rr_J X G nL Q σ pc lv (.long y :: .long x :: rest) := fun hT H locs ls hl hP hS => lv_lmul C.1 C.2.1 hdg  (k hT H locs ls hl hP hS)
theorem rx_land (C : rr_C X G cc nL own ret fr lo) {x y : Int64} (hdg : decode cc pc = .ok (.land, 1))  (k : rr_J X G nL Q σ (pc + 1) lv (.long (x &&& y) :: rest)) : rr_J X G nL Q σ pc lv (.long y :: .long x :: rest) := fun hT H locs ls hl hP hS => lv_land C.1 C.2.1 hdg  (k hT H locs ls hl hP hS)
theorem rx_lor (C : rr_C X G cc nL own ret fr lo) {x y : Int64} (hdg : decode cc pc = .ok (.lor, 1))  (k : rr_J X G nL Q σ (pc + 1) lv (.long (x ||| y) :: rest)) : rr_J X G nL Q σ pc lv (.long y :: .long x :: rest) := fun hT H locs ls hl hP hS => lv_lor C.1 C.2.1 hdg  (k hT H locs ls hl hP hS)
theorem rx_lneg (C : rr_C X G cc nL own ret fr lo) {x : Int64} (hdg : decode cc pc = .ok (.lneg, 1))  (k : rr_J X G nL Q σ (pc + 1) lv (.long (-x) :: rest)) : rr_J X G nL Q σ pc lv (.long x :: rest) := fun hT H locs ls hl hP hS => lv_lneg C.1 C.2.1 hdg  (k hT H locs ls hl hP hS)
theorem rx_iushr (C : rr_C X G cc nL own ret fr lo) {x y : Int32} (hdg : decode cc pc = .ok (.iushr, 1))  (k : rr_J X G nL Q σ (pc + 1) lv (.int ((x.toUInt32 >>> (y.toUInt32 &&& Int32.toUInt32 31)).toInt32) :: rest)) : rr_J X G nL Q σ pc lv (.int y :: .int x :: rest) := fun hT H locs ls hl hP hS => lv_iushr C.1 C.2.1 hdg rfl (k hT H locs ls hl hP hS)
theorem rx_lushr (C : rr_C X G cc nL own ret fr lo) {x : Int64} {y : Int32} (hdg : decode cc pc = .ok (.lushr, 1))  (k : rr_J X G nL Q σ (pc + 1) lv (.long ((x.toUInt64 >>> (y.toInt64.toUInt64 &&& Int64.toUInt64 63)).toInt64) :: rest)) : rr_J X G nL Q σ pc lv (.int y :: .long x :: rest) := fun hT H locs ls hl hP hS => lv_lushr C.1 C.2.1 hdg rfl (k hT H locs ls hl hP hS)
theorem rx_lshl (C : rr_C X G cc nL own ret fr lo) {x : Int64} {y : Int32} (hdg : decode cc pc = .ok (.lshl, 1))  (k : rr_J X G nL Q σ (pc + 1) lv (.long (x <<< (y.toInt64 &&& 63)) :: rest)) : rr_J X G nL Q σ pc lv (.int y :: .long x :: rest) := fun hT H locs ls hl hP hS => lv_lshl C.1 C.2.1 hdg rfl (k hT H locs ls hl hP hS)
theorem rx_lshr (C : rr_C X G cc nL own ret fr lo) {x : Int64} {y : Int32} (hdg : decode cc pc = .ok (.lshr, 1))  (k : rr_J X G nL Q σ (pc + 1) lv (.long (x >>> (y.toInt64 &&& 63)) :: rest)) : rr_J X G nL Q σ pc lv (.int y :: .long x :: rest) := fun hT H locs ls hl hP hS => lv_lshr C.1 C.2.1 hdg rfl (k hT H locs ls hl hP hS)
theorem rx_i2l (C : rr_C X G cc nL own ret fr lo) {x : Int32} (hdg : decode cc pc = .ok (.i2l, 1))  (k : rr_J X G nL Q σ (pc + 1) lv (.long x.toInt64 :: rest)) : rr_J X G nL Q σ pc lv (.int x :: rest) := fun hT H locs ls hl hP hS => lv_i2l C.1 C.2.1 hdg rfl (k hT H locs ls hl hP hS)
theorem rx_l2i (C : rr_C X G cc nL own ret fr lo) {x : Int64} (hdg : decode cc pc = .ok (.l2i, 1))  (k : rr_J X G nL Q σ (pc + 1) lv (.int x.toInt32 :: rest)) : rr_J X G nL Q σ pc lv (.long x :: rest) := fun hT H locs ls hl hP hS => lv_l2i C.1 C.2.1 hdg rfl (k hT H locs ls hl hP hS)
theorem rx_i2b (C : rr_C X G cc nL own ret fr lo) {x : Int32} (hdg : decode cc pc = .ok (.i2b, 1))  (k : rr_J X G nL Q σ (pc + 1) lv (.int x.toInt8.toInt32 :: rest)) : rr_J X G nL Q σ pc lv (.int x :: rest) := fun hT H locs ls hl hP hS => lv_i2b C.1 C.2.1 hdg rfl (k hT H locs ls hl hP hS)
theorem rx_iconst (C : rr_C X G cc nL own ret fr lo) {n : Int} {v : Int32} (hdg : decode cc pc = .ok (.iconst n, 1)) (hv : Int32.ofInt n = v) (k : rr_J X G nL Q σ (pc + 1) lv (.int v :: rest)) : rr_J X G nL Q σ pc lv (rest) := fun hT H locs ls hl hP hS => lv_iconst C.1 C.2.1 hdg hv (k hT H locs ls hl hP hS)
theorem rx_bipush (C : rr_C X G cc nL own ret fr lo) {n : Int} {v : Int32} (hdg : decode cc pc = .ok (.bipush n, 2)) (hv : (Int8.ofInt n).toInt32 = v) (k : rr_J X G nL Q σ (pc + 2) lv (.int v :: rest)) : rr_J X G nL Q σ pc lv (rest) := fun hT H locs ls hl hP hS => lv_bipush C.1 C.2.1 hdg hv (k hT H locs ls hl hP hS)
theorem rx_sipush (C : rr_C X G cc nL own ret fr lo) {n : Int} {v : Int32} (hdg : decode cc pc = .ok (.sipush n, 3)) (hv : (Int16.ofInt n).toInt32 = v) (k : rr_J X G nL Q σ (pc + 3) lv (.int v :: rest)) : rr_J X G nL Q σ pc lv (rest) := fun hT H locs ls hl hP hS => lv_sipush C.1 C.2.1 hdg hv (k hT H locs ls hl hP hS)
theorem rx_lconst (C : rr_C X G cc nL own ret fr lo) {n : Fin 2} {v : Int64} (hdg : decode cc pc = .ok (.lconst n, 1)) (hv : Int64.ofNat (n : Nat) = v) (k : rr_J X G nL Q σ (pc + 1) lv (.long v :: rest)) : rr_J X G nL Q σ pc lv (rest) := fun hT H locs ls hl hP hS => lv_lconst C.1 C.2.1 hdg hv (k hT H locs ls hl hP hS)
theorem rx_dup (C : rr_C X G cc nL own ret fr lo) {va : Value} (hdg : decode cc pc = .ok (.dup, 1)) (hc : va.category = 1) (k : rr_J X G nL Q σ (pc + 1) lv (va :: va :: rest)) : rr_J X G nL Q σ pc lv (va :: rest) := fun hT H locs ls hl hP hS => lv_dup C.1 C.2.1 hdg hc (k hT H locs ls hl hP hS)
theorem rx_pop (C : rr_C X G cc nL own ret fr lo) {va : Value} (hdg : decode cc pc = .ok (.pop, 1)) (hc : va.category = 1) (k : rr_J X G nL Q σ (pc + 1) lv (rest)) : rr_J X G nL Q σ pc lv (va :: rest) := fun hT H locs ls hl hP hS => lv_pop C.1 C.2.1 hdg hc (k hT H locs ls hl hP hS)
theorem rx_dup2_11 (C : rr_C X G cc nL own ret fr lo) {va vb : Value} (hdg : decode cc pc = .ok (.dup2, 1)) (hc : va.category = 1) (hd : vb.category = 1) (k : rr_J X G nL Q σ (pc + 1) lv (va :: vb :: va :: vb :: rest)) : rr_J X G nL Q σ pc lv (va :: vb :: rest) := fun hT H locs ls hl hP hS => lv_dup2_11 C.1 C.2.1 hdg hc hd (k hT H locs ls hl hP hS)
theorem rx_dup2_2 (C : rr_C X G cc nL own ret fr lo) {va : Value} (hdg : decode cc pc = .ok (.dup2, 1)) (hc : va.category = 2) (k : rr_J X G nL Q σ (pc + 1) lv (va :: va :: rest)) : rr_J X G nL Q σ pc lv (va :: rest) := fun hT H locs ls hl hP hS => lv_dup2_2 C.1 C.2.1 hdg hc (k hT H locs ls hl hP hS)
theorem rx_idiv (C : rr_C X G cc nL own ret fr lo) {x y : Int32} (hdg : decode cc pc = .ok (.idiv, 1)) (hz : ¬ y = 0) (k : rr_J X G nL Q σ (pc + 1) lv (.int (x / y) :: rest)) : rr_J X G nL Q σ pc lv (.int y :: .int x :: rest) := fun hT H locs ls hl hP hS => lv_idiv C.1 C.2.1 hdg hz (k hT H locs ls hl hP hS)
theorem rx_ldiv (C : rr_C X G cc nL own ret fr lo) {x y : Int64} (hdg : decode cc pc = .ok (.ldiv, 1)) (hz : ¬ y = 0) (k : rr_J X G nL Q σ (pc + 1) lv (.long (x / y) :: rest)) : rr_J X G nL Q σ pc lv (.long y :: .long x :: rest) := fun hT H locs ls hl hP hS => lv_ldiv C.1 C.2.1 hdg hz (k hT H locs ls hl hP hS)
theorem rx_irem (C : rr_C X G cc nL own ret fr lo) {x y : Int32} (hdg : decode cc pc = .ok (.irem, 1)) (hz : ¬ y = 0) (k : rr_J X G nL Q σ (pc + 1) lv (.int (x - x / y * y) :: rest)) : rr_J X G nL Q σ pc lv (.int y :: .int x :: rest) := fun hT H locs ls hl hP hS => lv_irem C.1 C.2.1 hdg hz (k hT H locs ls hl hP hS)
theorem rx_lrem (C : rr_C X G cc nL own ret fr lo) {x y : Int64} (hdg : decode cc pc = .ok (.lrem, 1)) (hz : ¬ y = 0) (k : rr_J X G nL Q σ (pc + 1) lv (.long (x - x / y * y) :: rest)) : rr_J X G nL Q σ pc lv (.long y :: .long x :: rest) := fun hT H locs ls hl hP hS => lv_lrem C.1 C.2.1 hdg hz (k hT H locs ls hl hP hS)
theorem rx_ldc (C : rr_C X G cc nL own ret fr lo) {index : Nat} {v : Int32} (hq : Jvm.Cond.constant own index v ∈ rr_tb) (hdg : decode cc pc = .ok (.ldc index, 2)) (k : rr_J X G nL Q σ (pc + 2) lv (.int v :: rest)) : rr_J X G nL Q σ pc lv rest := fun hT H locs ls hl hP hS => lv_ldc C.1 C.2.1 C.2.2.2.1 (C.2.2.2.2.1 _ hq) hdg (k hT H locs ls hl hP hS)
theorem rx_ldc2 (C : rr_C X G cc nL own ret fr lo) {index : Nat} {v : Int64} (hq : Jvm.Cond.constantLong own index v ∈ rr_tb) (hdg : decode cc pc = .ok (.ldc2_w index, 3)) (k : rr_J X G nL Q σ (pc + 3) lv (.long v :: rest)) : rr_J X G nL Q σ pc lv rest := fun hT H locs ls hl hP hS => lv_ldc2 C.1 C.2.1 C.2.2.2.1 (C.2.2.2.2.1 _ hq) hdg (k hT H locs ls hl hP hS)
theorem rx_iload_n (C : rr_C X G cc nL own ret fr lo) {j : Fin 4} {x : Int32} (q : Nat) (hdg : decode cc pc = .ok (.iload_n j, 1)) (hq : lv[q]? = some ((j : Nat), .int x)) (k : rr_J X G nL Q σ (pc + 1) lv (.int x :: rest)) : rr_J X G nL Q σ pc lv rest := fun hT H locs ls hl hP hS => lv_iload_n C.1 C.2.1 hdg rfl (lv_at hl q hq) (k hT H locs ls hl hP hS)
theorem rx_iload (C : rr_C X G cc nL own ret fr lo) {i : Nat} {x : Int32} (q : Nat) (hdg : decode cc pc = .ok (.iload i, 2)) (hq : lv[q]? = some (i, .int x)) (k : rr_J X G nL Q σ (pc + 2) lv (.int x :: rest)) : rr_J X G nL Q σ pc lv rest := fun hT H locs ls hl hP hS => lv_iload C.1 C.2.1 hdg (lv_at hl q hq) (k hT H locs ls hl hP hS)
theorem rx_lload_n (C : rr_C X G cc nL own ret fr lo) {j : Fin 4} {x : Int64} (q : Nat) (hdg : decode cc pc = .ok (.lload_n j, 1)) (hq : lv[q]? = some ((j : Nat), .long x)) (k : rr_J X G nL Q σ (pc + 1) lv (.long x :: rest)) : rr_J X G nL Q σ pc lv rest := fun hT H locs ls hl hP hS => lv_lload_n C.1 C.2.1 hdg rfl (lv_at hl q hq) (k hT H locs ls hl hP hS)
theorem rx_lload (C : rr_C X G cc nL own ret fr lo) {i : Nat} {x : Int64} (q : Nat) (hdg : decode cc pc = .ok (.lload i, 2)) (hq : lv[q]? = some (i, .long x)) (k : rr_J X G nL Q σ (pc + 2) lv (.long x :: rest)) : rr_J X G nL Q σ pc lv rest := fun hT H locs ls hl hP hS => lv_lload C.1 C.2.1 hdg (lv_at hl q hq) (k hT H locs ls hl hP hS)
theorem rx_aload_n (C : rr_C X G cc nL own ret fr lo) {j : Fin 4} {x : Nat} (q : Nat) (hdg : decode cc pc = .ok (.aload_n j, 1)) (hq : lv[q]? = some ((j : Nat), .ref x)) (k : rr_J X G nL Q σ (pc + 1) lv (.ref x :: rest)) : rr_J X G nL Q σ pc lv rest := fun hT H locs ls hl hP hS => lv_aload_n C.1 C.2.1 hdg rfl (lv_at hl q hq) (k hT H locs ls hl hP hS)
theorem rx_aload (C : rr_C X G cc nL own ret fr lo) {i : Nat} {x : Nat} (q : Nat) (hdg : decode cc pc = .ok (.aload i, 2)) (hq : lv[q]? = some (i, .ref x)) (k : rr_J X G nL Q σ (pc + 2) lv (.ref x :: rest)) : rr_J X G nL Q σ pc lv rest := fun hT H locs ls hl hP hS => lv_aload C.1 C.2.1 hdg (lv_at hl q hq) (k hT H locs ls hl hP hS)
theorem rx_istore_n (C : rr_C X G cc nL own ret fr lo) {j : Fin 4} {x : Int32} {lv1 : List (Nat × Value)} (hdg : decode cc pc = .ok (.istore_n j, 1)) (hn : (j : Nat) < nL) (he : ((j : Nat), Value.int x) :: lv.filter (fun q => !(q.1 == (j : Nat)) && !(q.1 + 1 == (j : Nat) && q.2.category == 2)) = lv1) (k : rr_J X G nL Q σ (pc + 1) lv1 rest) : rr_J X G nL Q σ pc lv (.int x :: rest) := fun hT H locs ls hl hP hS => lv_istore_n C.1 C.2.1 hdg rfl hl hn he (fun ls1 hl1 => k hT H locs ls1 hl1 hP hS)
theorem rx_istore (C : rr_C X G cc nL own ret fr lo) {i : Nat} {x : Int32} {lv1 : List (Nat × Value)} (hdg : decode cc pc = .ok (.istore i, 2)) (hn : i < nL) (he : (i, Value.int x) :: lv.filter (fun q => !(q.1 == i) && !(q.1 + 1 == i && q.2.category == 2)) = lv1) (k : rr_J X G nL Q σ (pc + 2) lv1 rest) : rr_J X G nL Q σ pc lv (.int x :: rest) := fun hT H locs ls hl hP hS => lv_istore C.1 C.2.1 hdg hl hn he (fun ls1 hl1 => k hT H locs ls1 hl1 hP hS)
theorem rx_lstore_n (C : rr_C X G cc nL own ret fr lo) {j : Fin 4} {x : Int64} {lv1 : List (Nat × Value)} (hdg : decode cc pc = .ok (.lstore_n j, 1)) (hn : (j : Nat) + 1 < nL) (he : ((j : Nat), Value.long x) :: lv.filter (fun q => !(q.1 == (j : Nat)) && (!(q.1 == (j : Nat) + 1) && !(q.1 + 1 == (j : Nat) && q.2.category == 2))) = lv1) (k : rr_J X G nL Q σ (pc + 1) lv1 rest) : rr_J X G nL Q σ pc lv (.long x :: rest) := fun hT H locs ls hl hP hS => lv_lstore_n C.1 C.2.1 hdg rfl hl hn he (fun ls1 hl1 => k hT H locs ls1 hl1 hP hS)
theorem rx_lstore (C : rr_C X G cc nL own ret fr lo) {i : Nat} {x : Int64} {lv1 : List (Nat × Value)} (hdg : decode cc pc = .ok (.lstore i, 2)) (hn : i + 1 < nL) (he : (i, Value.long x) :: lv.filter (fun q => !(q.1 == i) && (!(q.1 == i + 1) && !(q.1 + 1 == i && q.2.category == 2))) = lv1) (k : rr_J X G nL Q σ (pc + 2) lv1 rest) : rr_J X G nL Q σ pc lv (.long x :: rest) := fun hT H locs ls hl hP hS => lv_lstore C.1 C.2.1 hdg hl hn he (fun ls1 hl1 => k hT H locs ls1 hl1 hP hS)
theorem rx_astore_n (C : rr_C X G cc nL own ret fr lo) {j : Fin 4} {x : Nat} {lv1 : List (Nat × Value)} (hdg : decode cc pc = .ok (.astore_n j, 1)) (hn : (j : Nat) < nL) (he : ((j : Nat), Value.ref x) :: lv.filter (fun q => !(q.1 == (j : Nat)) && !(q.1 + 1 == (j : Nat) && q.2.category == 2)) = lv1) (k : rr_J X G nL Q σ (pc + 1) lv1 rest) : rr_J X G nL Q σ pc lv (.ref x :: rest) := fun hT H locs ls hl hP hS => lv_astore_n C.1 C.2.1 hdg rfl hl hn he (fun ls1 hl1 => k hT H locs ls1 hl1 hP hS)
theorem rx_astore (C : rr_C X G cc nL own ret fr lo) {i : Nat} {x : Nat} {lv1 : List (Nat × Value)} (hdg : decode cc pc = .ok (.astore i, 2)) (hn : i < nL) (he : (i, Value.ref x) :: lv.filter (fun q => !(q.1 == i) && !(q.1 + 1 == i && q.2.category == 2)) = lv1) (k : rr_J X G nL Q σ (pc + 2) lv1 rest) : rr_J X G nL Q σ pc lv (.ref x :: rest) := fun hT H locs ls hl hP hS => lv_astore C.1 C.2.1 hdg hl hn he (fun ls1 hl1 => k hT H locs ls1 hl1 hP hS)
theorem rx_iinc (C : rr_C X G cc nL own ret fr lo) {α : Type} {kb : Int32 → Option α} {z : α} {i : Nat} {n : Int} {x d : Int32} {lv1 : Int32 → List (Nat × Value)} (q : Nat) (hdg : decode cc pc = .ok (.iinc i n, 3)) (hm : rr_lt (x + d) kb = some z) (hq : lv[q]? = some (i, .int x)) (hd : Int32.ofInt n = d) (hn : i < nL) (he : ∀ v : Int32, (i, Value.int v) :: lv.filter (fun q => !(q.1 == i) && !(q.1 + 1 == i && q.2.category == 2)) = lv1 v) (k : ∀ v : Int32, kb v = some z → rr_J X G nL Q σ (pc + 3) (lv1 v) rest) : rr_J X G nL Q σ pc lv rest := fun hT H locs ls hl hP hS => lv_iinc (k := q) (v := x + d) C.1 C.2.1 hdg hl hq (by rw [hd]) hn (he (x + d)) (fun ls1 hl1 => k (x + d) hm hT H locs ls1 hl1 hP hS)
theorem rx_goto (C : rr_C X G cc nL own ret fr lo) {off : Int} {tgt : Nat} (hdg : decode cc pc = .ok (.goto off, 3)) (ht : (pc : Int) + off = (tgt : Int)) (k : rr_J X G nL Q σ tgt lv rest) : rr_J X G nL Q σ pc lv rest := fun hT H locs ls hl hP hS => lv_goto C.1 C.2.1 hdg ht (k hT H locs ls hl hP hS)
theorem rx_if_eq (C : rr_C X G cc nL own ret fr lo) {α : Type} {A B : Option α} {z : α} {x : Int32} {off : Int} {tgt : Nat} (hdg : decode cc pc = .ok (.ifCond .eq off, 3)) (ht : (pc : Int) + off = (tgt : Int)) (hm : (if x = 0 then A else B) = some z) (kt : x = 0 → A = some z → rr_J X G nL Q σ tgt lv rest) (kf : ¬ x = 0 → B = some z → rr_J X G nL Q σ (pc + 3) lv rest) : rr_J X G nL Q σ pc lv (.int x :: rest) := fun hT H locs ls hl hP hS => lv_if_eq C.1 C.2.1 hdg ht (fun h => kt h (by rw [if_pos h] at hm; exact hm) hT H locs ls hl hP hS) (fun h => kf h (by rw [if_neg h] at hm; exact hm) hT H locs ls hl hP hS)
theorem rx_if_ne (C : rr_C X G cc nL own ret fr lo) {α : Type} {A B : Option α} {z : α} {x : Int32} {off : Int} {tgt : Nat} (hdg : decode cc pc = .ok (.ifCond .ne off, 3)) (ht : (pc : Int) + off = (tgt : Int)) (hm : (if x = 0 then B else A) = some z) (kt : ¬ x = 0 → A = some z → rr_J X G nL Q σ tgt lv rest) (kf : x = 0 → B = some z → rr_J X G nL Q σ (pc + 3) lv rest) : rr_J X G nL Q σ pc lv (.int x :: rest) := fun hT H locs ls hl hP hS => lv_if_ne C.1 C.2.1 hdg ht (fun h => kt h (by rw [if_neg h] at hm; exact hm) hT H locs ls hl hP hS) (fun h => kf h (by rw [if_pos h] at hm; exact hm) hT H locs ls hl hP hS)
theorem rx_if_lt (C : rr_C X G cc nL own ret fr lo) {α : Type} {A B : Option α} {z : α} {x : Int32} {off : Int} {tgt : Nat} (hdg : decode cc pc = .ok (.ifCond .lt off, 3)) (ht : (pc : Int) + off = (tgt : Int)) (hm : (if x < 0 then A else B) = some z) (kt : x < 0 → A = some z → rr_J X G nL Q σ tgt lv rest) (kf : ¬ x < 0 → B = some z → rr_J X G nL Q σ (pc + 3) lv rest) : rr_J X G nL Q σ pc lv (.int x :: rest) := fun hT H locs ls hl hP hS => lv_if_lt C.1 C.2.1 hdg ht (fun h => kt h (by rw [if_pos h] at hm; exact hm) hT H locs ls hl hP hS) (fun h => kf h (by rw [if_neg h] at hm; exact hm) hT H locs ls hl hP hS)
theorem rx_if_ge (C : rr_C X G cc nL own ret fr lo) {α : Type} {A B : Option α} {z : α} {x : Int32} {off : Int} {tgt : Nat} (hdg : decode cc pc = .ok (.ifCond .ge off, 3)) (ht : (pc : Int) + off = (tgt : Int)) (hm : (if 0 ≤ x then A else B) = some z) (kt : 0 ≤ x → A = some z → rr_J X G nL Q σ tgt lv rest) (kf : ¬ 0 ≤ x → B = some z → rr_J X G nL Q σ (pc + 3) lv rest) : rr_J X G nL Q σ pc lv (.int x :: rest) := fun hT H locs ls hl hP hS => lv_if_ge C.1 C.2.1 hdg ht (fun h => kt h (by rw [if_pos h] at hm; exact hm) hT H locs ls hl hP hS) (fun h => kf h (by rw [if_neg h] at hm; exact hm) hT H locs ls hl hP hS)
theorem rx_if_gt (C : rr_C X G cc nL own ret fr lo) {α : Type} {A B : Option α} {z : α} {x : Int32} {off : Int} {tgt : Nat} (hdg : decode cc pc = .ok (.ifCond .gt off, 3)) (ht : (pc : Int) + off = (tgt : Int)) (hm : (if 0 < x then A else B) = some z) (kt : 0 < x → A = some z → rr_J X G nL Q σ tgt lv rest) (kf : ¬ 0 < x → B = some z → rr_J X G nL Q σ (pc + 3) lv rest) : rr_J X G nL Q σ pc lv (.int x :: rest) := fun hT H locs ls hl hP hS => lv_if_gt C.1 C.2.1 hdg ht (fun h => kt h (by rw [if_pos h] at hm; exact hm) hT H locs ls hl hP hS) (fun h => kf h (by rw [if_neg h] at hm; exact hm) hT H locs ls hl hP hS)
theorem rx_if_le (C : rr_C X G cc nL own ret fr lo) {α : Type} {A B : Option α} {z : α} {x : Int32} {off : Int} {tgt : Nat} (hdg : decode cc pc = .ok (.ifCond .le off, 3)) (ht : (pc : Int) + off = (tgt : Int)) (hm : (if x ≤ 0 then A else B) = some z) (kt : x ≤ 0 → A = some z → rr_J X G nL Q σ tgt lv rest) (kf : ¬ x ≤ 0 → B = some z → rr_J X G nL Q σ (pc + 3) lv rest) : rr_J X G nL Q σ pc lv (.int x :: rest) := fun hT H locs ls hl hP hS => lv_if_le C.1 C.2.1 hdg ht (fun h => kt h (by rw [if_pos h] at hm; exact hm) hT H locs ls hl hP hS) (fun h => kf h (by rw [if_neg h] at hm; exact hm) hT H locs ls hl hP hS)
theorem rx_icmp_eq (C : rr_C X G cc nL own ret fr lo) {α : Type} {A B : Option α} {z : α} {x y : Int32} {off : Int} {tgt : Nat} (hdg : decode cc pc = .ok (.if_icmp .eq off, 3)) (ht : (pc : Int) + off = (tgt : Int)) (hm : (if x = y then A else B) = some z) (kt : x = y → A = some z → rr_J X G nL Q σ tgt lv rest) (kf : ¬ x = y → B = some z → rr_J X G nL Q σ (pc + 3) lv rest) : rr_J X G nL Q σ pc lv (.int y :: .int x :: rest) := fun hT H locs ls hl hP hS => lv_icmp_eq C.1 C.2.1 hdg ht (fun h => kt h (by rw [if_pos h] at hm; exact hm) hT H locs ls hl hP hS) (fun h => kf h (by rw [if_neg h] at hm; exact hm) hT H locs ls hl hP hS)
theorem rx_icmp_ne (C : rr_C X G cc nL own ret fr lo) {α : Type} {A B : Option α} {z : α} {x y : Int32} {off : Int} {tgt : Nat} (hdg : decode cc pc = .ok (.if_icmp .ne off, 3)) (ht : (pc : Int) + off = (tgt : Int)) (hm : (if x = y then B else A) = some z) (kt : ¬ x = y → A = some z → rr_J X G nL Q σ tgt lv rest) (kf : x = y → B = some z → rr_J X G nL Q σ (pc + 3) lv rest) : rr_J X G nL Q σ pc lv (.int y :: .int x :: rest) := fun hT H locs ls hl hP hS => lv_icmp_ne C.1 C.2.1 hdg ht (fun h => kt h (by rw [if_neg h] at hm; exact hm) hT H locs ls hl hP hS) (fun h => kf h (by rw [if_pos h] at hm; exact hm) hT H locs ls hl hP hS)
theorem rx_icmp_lt (C : rr_C X G cc nL own ret fr lo) {α : Type} {A B : Option α} {z : α} {x y : Int32} {off : Int} {tgt : Nat} (hdg : decode cc pc = .ok (.if_icmp .lt off, 3)) (ht : (pc : Int) + off = (tgt : Int)) (hm : (if x < y then A else B) = some z) (kt : x < y → A = some z → rr_J X G nL Q σ tgt lv rest) (kf : ¬ x < y → B = some z → rr_J X G nL Q σ (pc + 3) lv rest) : rr_J X G nL Q σ pc lv (.int y :: .int x :: rest) := fun hT H locs ls hl hP hS => lv_icmp_lt C.1 C.2.1 hdg ht (fun h => kt h (by rw [if_pos h] at hm; exact hm) hT H locs ls hl hP hS) (fun h => kf h (by rw [if_neg h] at hm; exact hm) hT H locs ls hl hP hS)
theorem rx_icmp_ge (C : rr_C X G cc nL own ret fr lo) {α : Type} {A B : Option α} {z : α} {x y : Int32} {off : Int} {tgt : Nat} (hdg : decode cc pc = .ok (.if_icmp .ge off, 3)) (ht : (pc : Int) + off = (tgt : Int)) (hm : (if y ≤ x then A else B) = some z) (kt : y ≤ x → A = some z → rr_J X G nL Q σ tgt lv rest) (kf : ¬ y ≤ x → B = some z → rr_J X G nL Q σ (pc + 3) lv rest) : rr_J X G nL Q σ pc lv (.int y :: .int x :: rest) := fun hT H locs ls hl hP hS => lv_icmp_ge C.1 C.2.1 hdg ht (fun h => kt h (by rw [if_pos h] at hm; exact hm) hT H locs ls hl hP hS) (fun h => kf h (by rw [if_neg h] at hm; exact hm) hT H locs ls hl hP hS)
theorem rx_icmp_gt (C : rr_C X G cc nL own ret fr lo) {α : Type} {A B : Option α} {z : α} {x y : Int32} {off : Int} {tgt : Nat} (hdg : decode cc pc = .ok (.if_icmp .gt off, 3)) (ht : (pc : Int) + off = (tgt : Int)) (hm : (if y < x then A else B) = some z) (kt : y < x → A = some z → rr_J X G nL Q σ tgt lv rest) (kf : ¬ y < x → B = some z → rr_J X G nL Q σ (pc + 3) lv rest) : rr_J X G nL Q σ pc lv (.int y :: .int x :: rest) := fun hT H locs ls hl hP hS => lv_icmp_gt C.1 C.2.1 hdg ht (fun h => kt h (by rw [if_pos h] at hm; exact hm) hT H locs ls hl hP hS) (fun h => kf h (by rw [if_neg h] at hm; exact hm) hT H locs ls hl hP hS)
theorem rx_icmp_le (C : rr_C X G cc nL own ret fr lo) {α : Type} {A B : Option α} {z : α} {x y : Int32} {off : Int} {tgt : Nat} (hdg : decode cc pc = .ok (.if_icmp .le off, 3)) (ht : (pc : Int) + off = (tgt : Int)) (hm : (if x ≤ y then A else B) = some z) (kt : x ≤ y → A = some z → rr_J X G nL Q σ tgt lv rest) (kf : ¬ x ≤ y → B = some z → rr_J X G nL Q σ (pc + 3) lv rest) : rr_J X G nL Q σ pc lv (.int y :: .int x :: rest) := fun hT H locs ls hl hP hS => lv_icmp_le C.1 C.2.1 hdg ht (fun h => kt h (by rw [if_pos h] at hm; exact hm) hT H locs ls hl hP hS) (fun h => kf h (by rw [if_neg h] at hm; exact hm) hT H locs ls hl hP hS)
theorem rx_lcmp_eq (C : rr_C X G cc nL own ret fr lo) {α : Type} {A B : Option α} {z : α} {x y : Int64} {off : Int} {tgt : Nat} (hdg : decode cc pc = .ok (.lcmp, 1)) (hdh : decode cc (pc + 1) = .ok (.ifCond .eq off, 3)) (ht : ((pc + 1 : Nat) : Int) + off = (tgt : Int)) (hm : (if x = y then A else B) = some z) (kt : x = y → A = some z → rr_J X G nL Q σ tgt lv rest) (kf : ¬ x = y → B = some z → rr_J X G nL Q σ (pc + 1 + 3) lv rest) : rr_J X G nL Q σ pc lv (.long y :: .long x :: rest) := fun hT H locs ls hl hP hS => W.lcmp C.1 C.2.1 hdg (lv_if_eq C.1 C.2.1 hdh ht (fun h => kt ((lg_cmp_eq x y).mp h) (by rw [if_pos ((lg_cmp_eq x y).mp h)] at hm; exact hm) hT H locs ls hl hP hS) (fun h => kf (fun q => h ((lg_cmp_eq x y).mpr q)) (by rw [if_neg (fun q => h ((lg_cmp_eq x y).mpr q))] at hm; exact hm) hT H locs ls hl hP hS))
theorem rx_lcmp_ne (C : rr_C X G cc nL own ret fr lo) {α : Type} {A B : Option α} {z : α} {x y : Int64} {off : Int} {tgt : Nat} (hdg : decode cc pc = .ok (.lcmp, 1)) (hdh : decode cc (pc + 1) = .ok (.ifCond .ne off, 3)) (ht : ((pc + 1 : Nat) : Int) + off = (tgt : Int)) (hm : (if x = y then B else A) = some z) (kt : ¬ x = y → A = some z → rr_J X G nL Q σ tgt lv rest) (kf : x = y → B = some z → rr_J X G nL Q σ (pc + 1 + 3) lv rest) : rr_J X G nL Q σ pc lv (.long y :: .long x :: rest) := fun hT H locs ls hl hP hS => W.lcmp C.1 C.2.1 hdg (lv_if_ne C.1 C.2.1 hdh ht (fun h => kt (fun q => h ((lg_cmp_eq x y).mpr q)) (by rw [if_neg (fun q => h ((lg_cmp_eq x y).mpr q))] at hm; exact hm) hT H locs ls hl hP hS) (fun h => kf ((lg_cmp_eq x y).mp h) (by rw [if_pos ((lg_cmp_eq x y).mp h)] at hm; exact hm) hT H locs ls hl hP hS))
theorem rx_lcmp_lt (C : rr_C X G cc nL own ret fr lo) {α : Type} {A B : Option α} {z : α} {x y : Int64} {off : Int} {tgt : Nat} (hdg : decode cc pc = .ok (.lcmp, 1)) (hdh : decode cc (pc + 1) = .ok (.ifCond .lt off, 3)) (ht : ((pc + 1 : Nat) : Int) + off = (tgt : Int)) (hm : (if x < y then A else B) = some z) (kt : x < y → A = some z → rr_J X G nL Q σ tgt lv rest) (kf : ¬ x < y → B = some z → rr_J X G nL Q σ (pc + 1 + 3) lv rest) : rr_J X G nL Q σ pc lv (.long y :: .long x :: rest) := fun hT H locs ls hl hP hS => W.lcmp C.1 C.2.1 hdg (lv_if_lt C.1 C.2.1 hdh ht (fun h => kt ((lg_cmp_lt x y).mp h) (by rw [if_pos ((lg_cmp_lt x y).mp h)] at hm; exact hm) hT H locs ls hl hP hS) (fun h => kf (fun q => h ((lg_cmp_lt x y).mpr q)) (by rw [if_neg (fun q => h ((lg_cmp_lt x y).mpr q))] at hm; exact hm) hT H locs ls hl hP hS))
theorem rx_lcmp_ge (C : rr_C X G cc nL own ret fr lo) {α : Type} {A B : Option α} {z : α} {x y : Int64} {off : Int} {tgt : Nat} (hdg : decode cc pc = .ok (.lcmp, 1)) (hdh : decode cc (pc + 1) = .ok (.ifCond .ge off, 3)) (ht : ((pc + 1 : Nat) : Int) + off = (tgt : Int)) (hm : (if y ≤ x then A else B) = some z) (kt : y ≤ x → A = some z → rr_J X G nL Q σ tgt lv rest) (kf : ¬ y ≤ x → B = some z → rr_J X G nL Q σ (pc + 1 + 3) lv rest) : rr_J X G nL Q σ pc lv (.long y :: .long x :: rest) := fun hT H locs ls hl hP hS => W.lcmp C.1 C.2.1 hdg (lv_if_ge C.1 C.2.1 hdh ht (fun h => kt ((lg_cmp_ge x y).mp h) (by rw [if_pos ((lg_cmp_ge x y).mp h)] at hm; exact hm) hT H locs ls hl hP hS) (fun h => kf (fun q => h ((lg_cmp_ge x y).mpr q)) (by rw [if_neg (fun q => h ((lg_cmp_ge x y).mpr q))] at hm; exact hm) hT H locs ls hl hP hS))
theorem rx_lcmp_gt (C : rr_C X G cc nL own ret fr lo) {α : Type} {A B : Option α} {z : α} {x y : Int64} {off : Int} {tgt : Nat} (hdg : decode cc pc = .ok (.lcmp, 1)) (hdh : decode cc (pc + 1) = .ok (.ifCond .gt off, 3)) (ht : ((pc + 1 : Nat) : Int) + off = (tgt : Int)) (hm : (if y < x then A else B) = some z) (kt : y < x → A = some z → rr_J X G nL Q σ tgt lv rest) (kf : ¬ y < x → B = some z → rr_J X G nL Q σ (pc + 1 + 3) lv rest) : rr_J X G nL Q σ pc lv (.long y :: .long x :: rest) := fun hT H locs ls hl hP hS => W.lcmp C.1 C.2.1 hdg (lv_if_gt C.1 C.2.1 hdh ht (fun h => kt ((lg_cmp_gt x y).mp h) (by rw [if_pos ((lg_cmp_gt x y).mp h)] at hm; exact hm) hT H locs ls hl hP hS) (fun h => kf (fun q => h ((lg_cmp_gt x y).mpr q)) (by rw [if_neg (fun q => h ((lg_cmp_gt x y).mpr q))] at hm; exact hm) hT H locs ls hl hP hS))
theorem rx_lcmp_le (C : rr_C X G cc nL own ret fr lo) {α : Type} {A B : Option α} {z : α} {x y : Int64} {off : Int} {tgt : Nat} (hdg : decode cc pc = .ok (.lcmp, 1)) (hdh : decode cc (pc + 1) = .ok (.ifCond .le off, 3)) (ht : ((pc + 1 : Nat) : Int) + off = (tgt : Int)) (hm : (if x ≤ y then A else B) = some z) (kt : x ≤ y → A = some z → rr_J X G nL Q σ tgt lv rest) (kf : ¬ x ≤ y → B = some z → rr_J X G nL Q σ (pc + 1 + 3) lv rest) : rr_J X G nL Q σ pc lv (.long y :: .long x :: rest) := fun hT H locs ls hl hP hS => W.lcmp C.1 C.2.1 hdg (lv_if_le C.1 C.2.1 hdh ht (fun h => kt ((lg_cmp_le x y).mp h) (by rw [if_pos ((lg_cmp_le x y).mp h)] at hm; exact hm) hT H locs ls hl hP hS) (fun h => kf (fun q => h ((lg_cmp_le x y).mpr q)) (by rw [if_neg (fun q => h ((lg_cmp_le x y).mpr q))] at hm; exact hm) hT H locs ls hl hP hS))
theorem rx_nmi {α : Type} {kb : Int32 → Option α} {z : α} {x : Int32} (hm : rr_lt x kb = some z) (k : ∀ v : Int32, v = x → kb v = some z → rr_J X G nL Q σ pc lv (.int v :: rest)) : rr_J X G nL Q σ pc lv (.int x :: rest) := k x rfl hm
theorem rx_nml {α : Type} {kb : Int64 → Option α} {z : α} {x : Int64} (hm : rr_lt x kb = some z) (k : ∀ v : Int64, v = x → kb v = some z → rr_J X G nL Q σ pc lv (.long v :: rest)) : rr_J X G nL Q σ pc lv (.long x :: rest) := k x rfl hm
theorem rx_lv {lv1 : List (Nat × Value)} {st : List Value} (ks : List Nat) (he : lv_pick lv ks = lv1) (k : rr_J X G nL Q σ pc lv1 st) : rr_J X G nL Q σ pc lv st := fun hT H locs ls hl hP hS => k hT H locs ls (lv_sub hl ks he) hP hS
theorem rx_iald (C : rr_C X G cc nL own ret fr lo) {α : Type} {A : Option α} {z : α} {a : Nat} {i : Int32} (ha : a ∈ G.2.2.1) (hk : G.2.2.2.1 a = 11) (hdg : decode cc pc = .ok (.iaload, 1)) (hm : (if rr_ix i (G.2.2.2.2 a) then A else none) = some z) (k : A = some z → rr_J X G nL Q σ (pc + 1) lv (.int (mg_i σ a (rr_n i)) :: rest)) : rr_J X G nL Q σ pc lv (.int i :: .ref a :: rest) := by
  intro hT H locs ls hl hP hS
  by_cases hx : rr_ix i (G.2.2.2.2 a) = true
  · rw [if_pos hx] at hm
    obtain ⟨q, hq⟩ := rr_at (σ := σ) ha
    rw [rr_cI hk (by omega)] at hq
    exact va_iald C.1 C.2.1 C.2.2.2.2.2.1 hP q 1 hq rfl (rr_ix_in hx) hdg (k hm hT H locs ls hl hP hS)
  · rw [if_neg hx] at hm
    cases hm
theorem rx_bald (C : rr_C X G cc nL own ret fr lo) {α : Type} {A : Option α} {z : α} {a : Nat} {i : Int32} (ha : a ∈ G.2.2.1) (hk : G.2.2.2.1 a = 10) (hdg : decode cc pc = .ok (.baload, 1)) (hm : (if rr_ix i (G.2.2.2.2 a) then A else none) = some z) (k : A = some z → rr_J X G nL Q σ (pc + 1) lv (.int (mg_i σ a (rr_n i)) :: rest)) : rr_J X G nL Q σ pc lv (.int i :: .ref a :: rest) := by
  intro hT H locs ls hl hP hS
  by_cases hx : rr_ix i (G.2.2.2.2 a) = true
  · rw [if_pos hx] at hm
    obtain ⟨q, hq⟩ := rr_at (σ := σ) ha
    rw [rr_cI hk (by omega)] at hq
    exact va_bald C.1 C.2.1 C.2.2.2.2.2.1 hP q 0 hq rfl (rr_ix_in hx) hdg (k hm hT H locs ls hl hP hS)
  · rw [if_neg hx] at hm
    cases hm
theorem rx_zald (C : rr_C X G cc nL own ret fr lo) {α : Type} {A : Option α} {z : α} {a : Nat} {i : Int32} (ha : a ∈ G.2.2.1) (hk : G.2.2.2.1 a = 13) (hdg : decode cc pc = .ok (.baload, 1)) (hm : (if rr_ix i (G.2.2.2.2 a) then A else none) = some z) (k : A = some z → rr_J X G nL Q σ (pc + 1) lv (.int (mg_i σ a (rr_n i)) :: rest)) : rr_J X G nL Q σ pc lv (.int i :: .ref a :: rest) := by
  intro hT H locs ls hl hP hS
  by_cases hx : rr_ix i (G.2.2.2.2 a) = true
  · rw [if_pos hx] at hm
    obtain ⟨q, hq⟩ := rr_at (σ := σ) ha
    rw [rr_cI hk (by omega)] at hq
    exact va_zald C.1 C.2.1 C.2.2.2.2.2.1 hP q 3 hq rfl (rr_ix_in hx) hdg (k hm hT H locs ls hl hP hS)
  · rw [if_neg hx] at hm
    cases hm
theorem rx_lald (C : rr_C X G cc nL own ret fr lo) {α : Type} {A : Option α} {z : α} {a : Nat} {i : Int32} (ha : a ∈ G.2.2.1) (hk : G.2.2.2.1 a = 12) (hdg : decode cc pc = .ok (.laload, 1)) (hm : (if rr_ix i (G.2.2.2.2 a) then A else none) = some z) (k : A = some z → rr_J X G nL Q σ (pc + 1) lv (.long (mg_l σ a (rr_n i)) :: rest)) : rr_J X G nL Q σ pc lv (.int i :: .ref a :: rest) := by
  intro hT H locs ls hl hP hS
  by_cases hx : rr_ix i (G.2.2.2.2 a) = true
  · rw [if_pos hx] at hm
    obtain ⟨q, hq⟩ := rr_at (σ := σ) ha
    rw [rr_cJ hk] at hq
    exact va_lald C.1 C.2.1 C.2.2.2.2.2.1 hP q 2 hq rfl (rr_ix_in hx) hdg (k hm hT H locs ls hl hP hS)
  · rw [if_neg hx] at hm
    cases hm
theorem rr_wald (C : rr_C X G cc nL own ret fr lo) {a kd : Nat} {i : Int32} {ty : FieldType} {t0 : Nat} {Hh : Heap} {lc : List Loc} {ls : Array Slot} (hty : ty.isReference = true) (ha : a ∈ G.2.2.1) (hk : G.2.2.2.1 a = kd) (hkd : kd = 14 ∨ kd = 15 ∨ kd = 16) (ht : (rr_tys G)[t0]? = some (G.2.1 kd, ty)) (hdg : decode cc pc = .ok (.aaload, 1)) (hin : vp_in i (G.2.2.2.2 a)) (hP : rr_P G σ Hh) (kk : W X.1 X.2.1 X.2.2.1 X.2.2.2.1 X.2.2.2.2.1 X.2.2.2.2.2.1 X.2.2.2.2.2.2.1 X.2.2.2.2.2.2.2.1 X.2.2.2.2.2.2.2.2.1 X.2.2.2.2.2.2.2.2.2 Hh lc 0 0 Q (F0 X.2.2.2.2.2.1 (pc + 1) ls (.ref (mg_r σ a (rr_n i)) :: rest))) : W X.1 X.2.1 X.2.2.1 X.2.2.2.1 X.2.2.2.2.1 X.2.2.2.2.2.1 X.2.2.2.2.2.2.1 X.2.2.2.2.2.2.2.1 X.2.2.2.2.2.2.2.2.1 X.2.2.2.2.2.2.2.2.2 Hh lc 0 0 Q (F0 X.2.2.2.2.2.1 pc ls (.int i :: .ref a :: rest)) := by
  obtain ⟨q, hq⟩ := rr_at (σ := σ) ha
  rw [rr_cR hk hkd] at hq
  have hlt : i.toNatClampNeg < G.2.2.2.2 a := Nat.not_le.mp fun q => hin (Or.inr q)
  have hcell := hP q _ hq
  exact W.aald (v := .ref (mg_r σ a (rr_n i))) (ty := ty) C.1 C.2.1 hcell ((C.2.2.2.2.2.1.2 t0 _ ht).1 (G.2.2.2.2 a) (fun j => va_rf (some (mg_r σ a j)))) hty (fun q => by cases q) (by show ¬ (i < 0 ∨ (arrV _ _ _).slots.size ≤ _); rw [arrV_size]; exact hin) (by show (arrV _ _ _).slots[_]? = _; rw [arrV_read _ _ hlt]; rfl) rfl rfl hdg kk
theorem rx_ald14 (C : rr_C X G cc nL own ret fr lo) {α : Type} {kb : Nat → Option α} {z : α} {a : Nat} {i : Int32} (ha : a ∈ G.2.2.1) (hk : G.2.2.2.1 a = 14) (hdg : decode cc pc = .ok (.aaload, 1)) (hm : (if rr_ix i (G.2.2.2.2 a) then rr_lt (mg_r σ a (rr_n i)) kb else none) = some z) (k : ∀ b : Nat, b ∈ G.2.2.1 → G.2.2.2.1 b = 0 → kb b = some z → rr_J X G nL Q σ (pc + 1) lv (.ref b :: rest)) : rr_J X G nL Q σ pc lv (.int i :: .ref a :: rest) := by
  intro hT H locs ls hl hP hS
  by_cases hx : rr_ix i (G.2.2.2.2 a) = true
  · rw [if_pos hx] at hm
    have hin := rr_ix_in hx
    have hlt : rr_n i < G.2.2.2.2 a := Nat.not_le.mp fun q => hin (Or.inr q)
    have ht := hT a ha (rr_n i) 0 (by rw [hk]; simp [rr_rt, hlt])
    exact rr_wald C (ty := .object "RootRows$Big") (t0 := 4) rfl ha hk (by omega) rfl hdg hin hP (k _ ht.1 ht.2 hm hT H locs ls hl hP hS)
  · rw [if_neg hx] at hm
    cases hm
theorem rx_ald15 (C : rr_C X G cc nL own ret fr lo) {α : Type} {kb : Nat → Option α} {z : α} {a : Nat} {i : Int32} (ha : a ∈ G.2.2.1) (hk : G.2.2.2.1 a = 15) (hdg : decode cc pc = .ok (.aaload, 1)) (hm : (if rr_ix i (G.2.2.2.2 a) then rr_lt (mg_r σ a (rr_n i)) kb else none) = some z) (k : ∀ b : Nat, b ∈ G.2.2.1 → G.2.2.2.1 b = 7 → kb b = some z → rr_J X G nL Q σ (pc + 1) lv (.ref b :: rest)) : rr_J X G nL Q σ pc lv (.int i :: .ref a :: rest) := by
  intro hT H locs ls hl hP hS
  by_cases hx : rr_ix i (G.2.2.2.2 a) = true
  · rw [if_pos hx] at hm
    have hin := rr_ix_in hx
    have hlt : rr_n i < G.2.2.2.2 a := Nat.not_le.mp fun q => hin (Or.inr q)
    have ht := hT a ha (rr_n i) 7 (by rw [hk]; simp [rr_rt, hlt])
    exact rr_wald C (ty := .object "RootRows$Tray") (t0 := 5) rfl ha hk (by omega) rfl hdg hin hP (k _ ht.1 ht.2 hm hT H locs ls hl hP hS)
  · rw [if_neg hx] at hm
    cases hm
theorem rx_ald16 (C : rr_C X G cc nL own ret fr lo) {α : Type} {kb : Nat → Option α} {z : α} {a : Nat} {i : Int32} (ha : a ∈ G.2.2.1) (hk : G.2.2.2.1 a = 16) (hdg : decode cc pc = .ok (.aaload, 1)) (hm : (if rr_ix i (G.2.2.2.2 a) then rr_lt (mg_r σ a (rr_n i)) kb else none) = some z) (k : ∀ b : Nat, b ∈ G.2.2.1 → G.2.2.2.1 b = 12 → kb b = some z → rr_J X G nL Q σ (pc + 1) lv (.ref b :: rest)) : rr_J X G nL Q σ pc lv (.int i :: .ref a :: rest) := by
  intro hT H locs ls hl hP hS
  by_cases hx : rr_ix i (G.2.2.2.2 a) = true
  · rw [if_pos hx] at hm
    have hin := rr_ix_in hx
    have hlt : rr_n i < G.2.2.2.2 a := Nat.not_le.mp fun q => hin (Or.inr q)
    have ht := hT a ha (rr_n i) 12 (by rw [hk]; simp [rr_rt, hlt])
    exact rr_wald C (ty := .array .long) (t0 := 6) rfl ha hk (by omega) rfl hdg hin hP (k _ ht.1 ht.2 hm hT H locs ls hl hP hS)
  · rw [if_neg hx] at hm
    cases hm
theorem rr_uI {G : rr_G} {σ : rr_M} {a k q i : Nat} {v : Int32} (hn : G.2.2.1.Nodup) (ha : a ∈ G.2.2.1) (hk : G.2.2.2.1 a = k) (hkd : k = 10 ∨ k = 11 ∨ k = 13) (hq : (rr_w G σ)[q]? = some (a, .inl (G.2.1 k, G.2.2.2.2 a, .inl (mg_i σ a)))) : (rr_w G σ).set q (a, .inl (G.2.1 k, G.2.2.2.2 a, .inl (upd (mg_i σ a) i v))) = rr_w G (ms_i σ a i v) := by
  refine rr_set hn ha (by rw [rr_cI hk hkd]; exact hq) ?_ (fun b hb => rr_ce_e (rr_oI hb).symm rfl rfl)
  rw [rr_cI hk hkd]
  have : upd (mg_i σ a) i v = mg_i (ms_i σ a i v) a := by
    funext j
    simp [upd, mg_i, ms_i, rr_u2]
  rw [this]
theorem rr_uL {G : rr_G} {σ : rr_M} {a q i : Nat} {v : Int64} (hn : G.2.2.1.Nodup) (ha : a ∈ G.2.2.1) (hk : G.2.2.2.1 a = 12) (hq : (rr_w G σ)[q]? = some (a, .inl (G.2.1 12, G.2.2.2.2 a, .inr (.inl (mg_l σ a))))) : (rr_w G σ).set q (a, .inl (G.2.1 12, G.2.2.2.2 a, .inr (.inl (vp_updL (mg_l σ a) i v)))) = rr_w G (ms_l σ a i v) := by
  refine rr_set hn ha (by rw [rr_cJ hk]; exact hq) ?_ (fun b hb => rr_ce_e rfl (rr_oL hb).symm rfl)
  rw [rr_cJ hk]
  have : vp_updL (mg_l σ a) i v = mg_l (ms_l σ a i v) a := by
    funext j
    simp [vp_updL, mg_l, ms_l, rr_u2]
  rw [this]
theorem rx_iast (C : rr_C X G cc nL own ret fr lo) {α : Type} {kb : rr_M → Option α} {z : α} {a : Nat} {i x : Int32} (ha : a ∈ G.2.2.1) (hk : G.2.2.2.1 a = 11) (hdg : decode cc pc = .ok (.iastore, 1)) (hm : (if rr_ix i (G.2.2.2.2 a) then rr_lt (ms_i σ a (rr_n i) x) kb else none) = some z) (k : ∀ σ1 : rr_M, kb σ1 = some z → rr_J X G nL Q σ1 (pc + 1) lv rest) : rr_J X G nL Q σ pc lv (.int x :: .int i :: .ref a :: rest) := by
  intro hT H locs ls hl hP hS
  by_cases hx : rr_ix i (G.2.2.2.2 a) = true
  · rw [if_pos hx] at hm
    obtain ⟨q, hq⟩ := rr_at (σ := σ) ha
    rw [rr_cI hk (by omega)] at hq
    refine va_iast C.1 C.2.1 C.2.2.2.2.2.1 hP (rr_D σ C.2.2.2.2.2.2.1) hS q 1 hq rfl (rr_ix_in hx) hdg (fun H1 locs1 hP1 hD1 hS1 => ?_)
    rw [rr_uI C.2.2.2.2.2.2.1 ha hk (by omega) hq] at hP1
    exact k _ hm (rr_T_i hT) H1 locs1 ls hl hP1 hS1
  · rw [if_neg hx] at hm
    cases hm
theorem rx_bast (C : rr_C X G cc nL own ret fr lo) {α : Type} {kb : rr_M → Option α} {z : α} {a : Nat} {i x : Int32} (ha : a ∈ G.2.2.1) (hk : G.2.2.2.1 a = 10) (hdg : decode cc pc = .ok (.bastore, 1)) (hm : (if rr_ix i (G.2.2.2.2 a) then rr_lt (ms_i σ a (rr_n i) (vp_nar .byte x)) kb else none) = some z) (k : ∀ σ1 : rr_M, kb σ1 = some z → rr_J X G nL Q σ1 (pc + 1) lv rest) : rr_J X G nL Q σ pc lv (.int x :: .int i :: .ref a :: rest) := by
  intro hT H locs ls hl hP hS
  by_cases hx : rr_ix i (G.2.2.2.2 a) = true
  · rw [if_pos hx] at hm
    obtain ⟨q, hq⟩ := rr_at (σ := σ) ha
    rw [rr_cI hk (by omega)] at hq
    refine va_bast C.1 C.2.1 C.2.2.2.2.2.1 hP (rr_D σ C.2.2.2.2.2.2.1) hS q 0 hq rfl (rr_ix_in hx) hdg (fun H1 locs1 hP1 hD1 hS1 => ?_)
    rw [rr_uI C.2.2.2.2.2.2.1 ha hk (by omega) hq] at hP1
    exact k _ hm (rr_T_i hT) H1 locs1 ls hl hP1 hS1
  · rw [if_neg hx] at hm
    cases hm
theorem rx_zast (C : rr_C X G cc nL own ret fr lo) {α : Type} {kb : rr_M → Option α} {z : α} {a : Nat} {i x : Int32} (ha : a ∈ G.2.2.1) (hk : G.2.2.2.1 a = 13) (hdg : decode cc pc = .ok (.bastore, 1)) (hm : (if rr_ix i (G.2.2.2.2 a) then rr_lt (ms_i σ a (rr_n i) (vp_nar .boolean x)) kb else none) = some z) (k : ∀ σ1 : rr_M, kb σ1 = some z → rr_J X G nL Q σ1 (pc + 1) lv rest) : rr_J X G nL Q σ pc lv (.int x :: .int i :: .ref a :: rest) := by
  intro hT H locs ls hl hP hS
  by_cases hx : rr_ix i (G.2.2.2.2 a) = true
  · rw [if_pos hx] at hm
    obtain ⟨q, hq⟩ := rr_at (σ := σ) ha
    rw [rr_cI hk (by omega)] at hq
    refine va_zast C.1 C.2.1 C.2.2.2.2.2.1 hP (rr_D σ C.2.2.2.2.2.2.1) hS q 3 hq rfl (rr_ix_in hx) hdg (fun H1 locs1 hP1 hD1 hS1 => ?_)
    rw [rr_uI C.2.2.2.2.2.2.1 ha hk (by omega) hq] at hP1
    exact k _ hm (rr_T_i hT) H1 locs1 ls hl hP1 hS1
  · rw [if_neg hx] at hm
    cases hm
theorem rx_last (C : rr_C X G cc nL own ret fr lo) {α : Type} {kb : rr_M → Option α} {z : α} {a : Nat} {i : Int32} {x : Int64} (ha : a ∈ G.2.2.1) (hk : G.2.2.2.1 a = 12) (hdg : decode cc pc = .ok (.lastore, 1)) (hm : (if rr_ix i (G.2.2.2.2 a) then rr_lt (ms_l σ a (rr_n i) x) kb else none) = some z) (k : ∀ σ1 : rr_M, kb σ1 = some z → rr_J X G nL Q σ1 (pc + 1) lv rest) : rr_J X G nL Q σ pc lv (.long x :: .int i :: .ref a :: rest) := by
  intro hT H locs ls hl hP hS
  by_cases hx : rr_ix i (G.2.2.2.2 a) = true
  · rw [if_pos hx] at hm
    obtain ⟨q, hq⟩ := rr_at (σ := σ) ha
    rw [rr_cJ hk] at hq
    refine va_last C.1 C.2.1 C.2.2.2.2.2.1 hP (rr_D σ C.2.2.2.2.2.2.1) hS q 2 hq rfl (rr_ix_in hx) hdg (fun H1 locs1 hP1 hD1 hS1 => ?_)
    rw [rr_uL C.2.2.2.2.2.2.1 ha hk hq] at hP1
    exact k _ hm (rr_T_l hT) H1 locs1 ls hl hP1 hS1
  · rw [if_neg hx] at hm
    cases hm
theorem rx_alen (C : rr_C X G cc nL own ret fr lo) {a kd : Nat} (ha : a ∈ G.2.2.1) (hk : G.2.2.2.1 a = kd) (hkd : 10 ≤ kd ∧ kd ≤ 16) (hdg : decode cc pc = .ok (.arraylength, 1)) (k : rr_J X G nL Q σ (pc + 1) lv (.int (nI (G.2.2.2.2 a)) :: rest)) : rr_J X G nL Q σ pc lv (.ref a :: rest) := by
  intro hT H locs ls hl hP hS
  obtain ⟨q, hq⟩ := rr_at (σ := σ) ha
  have ht : (rr_tys G)[kd - 10]? = some (G.2.1 kd, ((rr_tys G)[kd - 10]?.getD (G.2.1 kd, .int)).2) := by
    obtain ⟨h1, h2⟩ := hkd
    rcases (by omega : kd = 10 ∨ kd = 11 ∨ kd = 12 ∨ kd = 13 ∨ kd = 14 ∨ kd = 15 ∨ kd = 16) with h | h | h | h | h | h | h <;> subst h <;> rfl
  by_cases h12 : kd = 12
  · rw [rr_cJ (hk.trans h12)] at hq
    subst h12
    exact va_alen C.1 C.2.1 C.2.2.2.2.2.1 hP q _ hq ht rfl hdg (k hT H locs ls hl hP hS)
  · by_cases h13 : kd ≤ 13
    · rw [rr_cI hk (by omega)] at hq
      exact va_alen C.1 C.2.1 C.2.2.2.2.2.1 hP q _ hq ht rfl hdg (k hT H locs ls hl hP hS)
    · rw [rr_cR hk (by omega)] at hq
      exact va_alen C.1 C.2.1 C.2.2.2.2.2.1 hP q _ hq ht rfl hdg (k hT H locs ls hl hP hS)
theorem rr_get (C : rr_C X G cc nL own ret fr lo) {index : Nat} (ci j : Nat) {a : Nat} {K0 : String} {T : u_T} {M : Nat} {v : Value} (hin : ∀ w ∈ u_ws K0 T M, w ∈ rr_tb) (hc : rr_cls[ci]? = some (K0, T, M)) (hci : ci < 10) (hj : j < M) (hlink : Cond.fieldLink own index (T j).1 (T j).2.1 (T j).2.2.1 ∈ rr_tb) (ha : a ∈ G.2.2.1) (hk : G.2.2.2.1 a = ci) (hv : (rr_fs ci σ a)[j]? = some v) (hdg : decode cc pc = .ok (.getfield index, 3)) (k : rr_J X G nL Q σ (pc + 3) lv (v :: rest)) : rr_J X G nL Q σ pc lv (.ref a :: rest) := by
  intro hT H locs ls hl hP hS
  obtain ⟨q, hq⟩ := rr_at (σ := σ) ha
  rw [rr_cO hk hci] at hq
  exact va_get C.1 C.2.1 C.2.2.2.2.1 hin C.2.2.2.1 C.2.2.2.2.2.1 hP q hq hc j hj (C.2.2.2.2.1 _ hlink) (fun _ h => h) hv hdg (k hT H locs ls hl hP hS)
theorem rr_put (C : rr_C X G cc nL own ret fr lo) {index : Nat} (ci j : Nat) {a : Nat} {K0 : String} {T : u_T} {M : Nat} {v : Value} {ty : FieldType} {σ1 : rr_M} (ty0 : Nat → FieldType) (hty : ∀ k, k < M → parseFieldDescriptor (T k).2.2.1 = some (ty0 k)) (hnm : ∀ a, a < M → ∀ b, b < M → a ≠ b → (T a).2.1 ≠ (T b).2.1) (hin : ∀ w ∈ u_ws K0 T M, w ∈ rr_tb) (hc : rr_cls[ci]? = some (K0, T, M)) (hci : ci < 10) (hj : j < M) (hlink : Cond.fieldLink own index (T j).1 (T j).2.1 (T j).2.2.1 ∈ rr_tb) (hfin : (T j).2.2.2 = false) (hd : parseFieldDescriptor (T j).2.2.1 = some ty) (hlen : ∀ σ : rr_M, j < (rr_fs ci σ a).length) (ha : a ∈ G.2.2.1) (hk : G.2.2.2.1 a = ci)
    (hset : (rr_fs ci σ a).set j v = rr_fs ci σ1 a) (ho : ∀ b, b ≠ a → rr_ce G σ b = rr_ce G σ1 b) (hT1 : rr_T G σ → rr_T G σ1) (hn : narrow ty v = v) (hfit : fits ty v = true) (hdg : decode cc pc = .ok (.putfield index, 3)) (k : rr_J X G nL Q σ1 (pc + 3) lv rest) : rr_J X G nL Q σ pc lv (v :: .ref a :: rest) := by
  intro hT H locs ls hl hP hS
  obtain ⟨q, hq⟩ := rr_at (σ := σ) ha
  have hq0 := hq
  rw [rr_cO hk hci] at hq
  refine va_put C.1 C.2.1 C.2.2.2.2.1 hin ty0 hty hnm C.2.2.2.1 C.2.2.2.2.2.1 hP (rr_D σ C.2.2.2.2.2.2.1) hS q hq hc j hj (C.2.2.2.2.1 _ hlink) (fun _ h => h) hfin hd hn hfit (hlen σ) hdg (fun H1 locs1 hP1 hD1 hS1 => ?_)
  rw [rr_set (σ' := σ1) C.2.2.2.2.2.2.1 ha hq0 (by rw [rr_cO hk hci, hset]) ho] at hP1
  exact k (hT1 hT) H1 locs1 ls hl hP1 hS1
theorem rx_ldcw (C : rr_C X G cc nL own ret fr lo) {index : Nat} {v : Int32} (hq : Jvm.Cond.constant own index v ∈ rr_tb) (hdg : decode cc pc = .ok (.ldc_w index, 3)) (k : rr_J X G nL Q σ (pc + 3) lv (.int v :: rest)) : rr_J X G nL Q σ pc lv rest := fun hT H locs ls hl hP hS => lv_ldcw C.1 C.2.1 C.2.2.2.1 (C.2.2.2.2.1 _ hq) hdg (k hT H locs ls hl hP hS)
theorem rx_tin (C : rr_C X G cc nL own ret fr lo) {dflt lo9 hi9 : Int} {offs : Array Int} {len : Nat} {x v : Int32} {off : Int} {tgt : Nat} (hv : x = v) (hdg : decode cc pc = .ok (.tableswitch dflt lo9 hi9 offs, len)) (h1 : ¬ v.toInt < lo9) (h2 : ¬ hi9 < v.toInt) (ho : offs[(v.toInt - lo9).toNat]? = some off) (ht : (pc : Int) + off = (tgt : Int)) (k : rr_J X G nL Q σ tgt lv rest) : rr_J X G nL Q σ pc lv (.int x :: rest) := by
  subst hv
  exact fun hT H locs ls hl hP hS => lv_tableIn C.1 C.2.1 hdg h1 h2 ho ht (k hT H locs ls hl hP hS)
theorem rx_tout (C : rr_C X G cc nL own ret fr lo) {dflt lo9 hi9 : Int} {offs : Array Int} {len : Nat} {x : Int32} {tgt : Nat} (hdg : decode cc pc = .ok (.tableswitch dflt lo9 hi9 offs, len)) (h : x.toInt < lo9 ∨ hi9 < x.toInt) (ht : (pc : Int) + dflt = (tgt : Int)) (k : rr_J X G nL Q σ tgt lv rest) : rr_J X G nL Q σ pc lv (.int x :: rest) := fun hT H locs ls hl hP hS => lv_tableOut C.1 C.2.1 hdg h ht (k hT H locs ls hl hP hS)
/-- may n longs be copied from place sp of an array of n0 to place dp of one of n1 -/
def rr_cp (sp dp n : Int32) (n0 n1 : Nat) : Bool := decide (0 ≤ sp.toInt) && decide (0 ≤ dp.toInt) && decide (0 ≤ n.toInt) && decide (rr_n sp + rr_n n ≤ n0) && decide (rr_n dp + rr_n n ≤ n1)
theorem rr_uC {G : rr_G} {σ : rr_M} {a b q sp dp n : Nat} (hn : G.2.2.1.Nodup) (hb : b ∈ G.2.2.1) (hk : G.2.2.2.1 b = 12) (hq : (rr_w G σ)[q]? = some (b, .inl (G.2.1 12, G.2.2.2.2 b, .inr (.inl (mg_l σ b))))) : (rr_w G σ).set q (b, .inl (G.2.1 12, G.2.2.2.2 b, .inr (.inl (va_cpy (mg_l σ a) (mg_l σ b) sp dp n)))) = rr_w G (mc_l σ a b sp dp n) := by
  refine rr_set hn hb (by rw [rr_cJ hk]; exact hq) ?_ (fun c hc => rr_ce_e rfl ?_ rfl)
  · rw [rr_cJ hk]
    have : va_cpy (mg_l σ a) (mg_l σ b) sp dp n = mg_l (mc_l σ a b sp dp n) b := by
      funext j
      simp [mg_l, mc_l]
      rfl
    rw [this]
  · funext j
    simp [mg_l, mc_l, hc]
theorem rr_nn {x : Int32} (h : 0 ≤ x.toInt) : ¬ x < 0 := by
  intro q
  have := Int32.lt_iff_toInt_lt.mp q
  simp at this
  omega
theorem rx_copyl (C : rr_C X G cc nL own ret fr lo) {index : Nat} {α : Type} {kb : rr_M → Option α} {z : α} {a b : Nat} {sp dp n : Int32} (q1 : Cond.methodLink own index arraycopyName ∈ rr_tb) (q2 : Cond.native arraycopyName ∈ rr_tb) (q3 : Cond.static arraycopyName ∈ rr_tb) (q4 : Cond.initialized "java/lang/System" ∈ rr_tb) (ha : a ∈ G.2.2.1) (hka : G.2.2.2.1 a = 12) (hb : b ∈ G.2.2.1) (hkb : G.2.2.2.1 b = 12) (hfr : 1 ≤ fr) (hlo : 68 ≤ lo) (hcat : (rest.map fun v => v.category).sum ≤ 8) (hdg : decode cc pc = .ok (.invokestatic index, 3)) (hm : (if rr_cp sp dp n (G.2.2.2.2 a) (G.2.2.2.2 b) then rr_lt (mc_l σ a b (rr_n sp) (rr_n dp) (rr_n n)) kb else none) = some z) (k : ∀ σ1 : rr_M, kb σ1 = some z → rr_J X G nL Q σ1 (pc + 3) lv rest) : rr_J X G nL Q σ pc lv (.int n :: .int dp :: .ref b :: .int sp :: .ref a :: rest) := by
  intro hT H locs ls hl hP hS
  by_cases hx : rr_cp sp dp n (G.2.2.2.2 a) (G.2.2.2.2 b) = true
  · rw [if_pos hx] at hm
    simp only [rr_cp, Bool.and_eq_true, decide_eq_true_eq] at hx
    obtain ⟨⟨⟨⟨h1, h2⟩, h3⟩, h4⟩, h5⟩ := hx
    obtain ⟨q, hq⟩ := rr_at (σ := σ) ha
    obtain ⟨q9, hq9⟩ := rr_at (σ := σ) hb
    rw [rr_cJ hka] at hq
    rw [rr_cJ hkb] at hq9
    have hRR : X.2.2.2.1.frames = fr ∧ X.2.2.2.1.locals = lo := by rw [C.2.2.2.2.2.2.2.2.2]; exact ⟨rfl, rfl⟩
    have ht := C.2.2.2.2.1
    have hnw : nativeFrameWords "java/lang/System" "arraycopy" 5 + 11 ≤ 60 := by decide
    refine va_copyl C.1 C.2.1 (C.2.2.1.trans hl.1.symm) C.2.2.2.1 (ht _ q1) (ht _ q2) (ht _ q3) (ht _ q4) C.2.2.2.2.2.1 hP (rr_D σ C.2.2.2.2.2.2.1) hS q q9 2 2 hq hq9 rfl rfl rfl (rr_nn h1) (rr_nn h2) (rr_nn h3) h4 h5 (fun _ _ => rfl) (by rw [hRR.1]; exact hfr) (by rw [hRR.2]; omega) hdg (fun H1 locs1 hP1 hD1 hS1 => ?_)
    have e := rr_uC (a := a) (sp := rr_n sp) (dp := rr_n dp) (n := rr_n n) C.2.2.2.2.2.2.1 hb hkb hq9
    have hP2 : va_P G.1 rr_cls ((rr_w G σ).set q9 (b, .inl (G.2.1 12, G.2.2.2.2 b, .inr (.inl (va_cpy (mg_l σ a) (mg_l σ b) (rr_n sp) (rr_n dp) (rr_n n)))))) H1 := hP1
    rw [e] at hP2
    exact k _ hm (rr_T_c hT) H1 locs1 ls hl hP2 hS1
  · rw [if_neg hx] at hm
    cases hm
def rr_mx (x y : Int32) : Int32 := if x < y then y else x
def rr_mn (x y : Int32) : Int32 := if y < x then y else x
def rr_mnl (x y : Int64) : Int64 := if y < x then y else x
def rr_abl (x : Int64) : Int64 := if 0 < x then x else -x
theorem rx_mmax (C : rr_C X G cc nL own ret fr lo) {index : Nat} {x y : Int32} (q1 : Cond.methodLink own index Lib.Math.max.name ∈ rr_tb) (hfr : 1 ≤ fr) (hlo : 23 ≤ lo) (hcat : (rest.map fun v => v.category).sum ≤ 8) (hdg : decode cc pc = .ok (.invokestatic index, 3)) (k : rr_J X G nL Q σ (pc + 3) lv (.int (rr_mx x y) :: rest)) : rr_J X G nL Q σ pc lv (.int y :: .int x :: rest) := by
  intro hT H locs ls hl hP hS
  have hRR : X.2.2.2.1.frames = fr ∧ X.2.2.2.1.locals = lo := by rw [C.2.2.2.2.2.2.2.2.2]; exact ⟨rfl, rfl⟩
  have ht := C.2.2.2.2.1
  exact va_mmax C.1 C.2.1 (C.2.2.1.trans hl.1.symm) C.2.2.2.1 (ht _ q1) (ht _ q_156) (ht _ q_7) (ht _ q_157) (by rw [hRR.1]; exact hfr) (by rw [hRR.2]; omega) (Nat.zero_le _) (Nat.zero_le _) hdg (k hT H locs ls hl hP hS)
theorem rx_mmin (C : rr_C X G cc nL own ret fr lo) {index : Nat} {x y : Int32} (q1 : Cond.methodLink own index Lib.Math.min.name ∈ rr_tb) (hfr : 1 ≤ fr) (hlo : 23 ≤ lo) (hcat : (rest.map fun v => v.category).sum ≤ 8) (hdg : decode cc pc = .ok (.invokestatic index, 3)) (k : rr_J X G nL Q σ (pc + 3) lv (.int (rr_mn x y) :: rest)) : rr_J X G nL Q σ pc lv (.int y :: .int x :: rest) := by
  intro hT H locs ls hl hP hS
  have hRR : X.2.2.2.1.frames = fr ∧ X.2.2.2.1.locals = lo := by rw [C.2.2.2.2.2.2.2.2.2]; exact ⟨rfl, rfl⟩
  have ht := C.2.2.2.2.1
  exact va_mmin C.1 C.2.1 (C.2.2.1.trans hl.1.symm) C.2.2.2.1 (ht _ q1) (ht _ q_673) (ht _ q_7) (ht _ q_674) (by rw [hRR.1]; exact hfr) (by rw [hRR.2]; omega) (Nat.zero_le _) (Nat.zero_le _) hdg (k hT H locs ls hl hP hS)
theorem rx_mminl (C : rr_C X G cc nL own ret fr lo) {index : Nat} {x y : Int64} (q1 : Cond.methodLink own index Lib.MathLoose.min_long.x ∈ rr_tb) (hfr : 1 ≤ fr) (hlo : 23 ≤ lo) (hcat : (rest.map fun v => v.category).sum ≤ 8) (hdg : decode cc pc = .ok (.invokestatic index, 3)) (k : rr_J X G nL Q σ (pc + 3) lv (.long (rr_mnl x y) :: rest)) : rr_J X G nL Q σ pc lv (.long y :: .long x :: rest) := by
  intro hT H locs ls hl hP hS
  have hRR : X.2.2.2.1.frames = fr ∧ X.2.2.2.1.locals = lo := by rw [C.2.2.2.2.2.2.2.2.2]; exact ⟨rfl, rfl⟩
  have ht := C.2.2.2.2.1
  exact va_mmin_long C.1 C.2.1 (C.2.2.1.trans hl.1.symm) C.2.2.2.1 (ht _ q1) (ht _ q_403) (ht _ q_7) (ht _ q_404) (by rw [hRR.1]; exact hfr) (by rw [hRR.2]; omega) (Nat.zero_le _) (Nat.zero_le _) hdg (k hT H locs ls hl hP hS)
theorem rx_mabsl (C : rr_C X G cc nL own ret fr lo) {index : Nat} {x : Int64} (q1 : Cond.methodLink own index Lib.MathLoose.abs_long.x ∈ rr_tb) (hfr : 1 ≤ fr) (hlo : 23 ≤ lo) (hcat : (rest.map fun v => v.category).sum ≤ 8) (hdg : decode cc pc = .ok (.invokestatic index, 3)) (k : rr_J X G nL Q σ (pc + 3) lv (.long (rr_abl x) :: rest)) : rr_J X G nL Q σ pc lv (.long x :: rest) := by
  intro hT H locs ls hl hP hS
  have hRR : X.2.2.2.1.frames = fr ∧ X.2.2.2.1.locals = lo := by rw [C.2.2.2.2.2.2.2.2.2]; exact ⟨rfl, rfl⟩
  have ht := C.2.2.2.2.1
  exact va_mabs_long C.1 C.2.1 (C.2.2.1.trans hl.1.symm) C.2.2.2.1 (ht _ q1) (ht _ q_659) (ht _ q_7) (ht _ q_660) (by rw [hRR.1]; exact hfr) (by rw [hRR.2]; omega) (Nat.zero_le _) (Nat.zero_le _) hdg (k hT H locs ls hl hP hS)
end RWS
section RWR
variable {X : rr_X} {G : rr_G} {nL : Nat} {cc : ByteArray} {own : String} {fr lo : Nat} {σ σr : rr_M} {pc : Nat} {lv : List (Nat × Value)}
theorem rx_iret {v r : Int32} (C : rr_C X G cc nL own (some .int) fr lo) (hdg : decode cc pc = .ok (.ireturn, 1)) (hm : some (v, σ) = some (r, σr)) : rr_J X G nL (rr_E X G σr (some (.int r))) σ pc lv [.int v] := by
  cases hm
  exact fun hT H locs ls hl hP hS => W.iret C.1 C.2.1 C.2.2.2.2.2.2.2.2.1 (fun t ht hW => ⟨rfl, ⟨by rw [ht]; exact hP, va_K.moved hW.alike C.2.2.2.2.2.1, hT⟩, hS.F ht⟩) hS.2.2 hdg C.2.2.2.2.2.2.2.1
theorem rx_lret {v r : Int64} (C : rr_C X G cc nL own (some .long) fr lo) (hdg : decode cc pc = .ok (.lreturn, 1)) (hm : some (v, σ) = some (r, σr)) : rr_J X G nL (rr_E X G σr (some (.long r))) σ pc lv [.long v] := by
  cases hm
  exact fun hT H locs ls hl hP hS => W.lret C.1 C.2.1 C.2.2.2.2.2.2.2.2.1 (fun t ht hW => ⟨rfl, ⟨by rw [ht]; exact hP, va_K.moved hW.alike C.2.2.2.2.2.1, hT⟩, hS.F ht⟩) hS.2.2 hdg C.2.2.2.2.2.2.2.1
theorem rx_vret {r : Unit} (C : rr_C X G cc nL own none fr lo) (hdg : decode cc pc = .ok (.return_, 1)) (hm : some ((), σ) = some (r, σr)) : rr_J X G nL (rr_E X G σr none) σ pc lv [] := by
  cases hm
  exact fun hT H locs ls hl hP hS => W.vret C.1 C.2.1 C.2.2.2.2.2.2.2.2.1 (fun t ht hW => ⟨rfl, ⟨by rw [ht]; exact hP, va_K.moved hW.alike C.2.2.2.2.2.1, hT⟩, hS.F ht⟩) hS.2.2 hdg C.2.2.2.2.2.2.2.1
def rr_b1 (v : Int32) : Bool := decide (v = 0) || decide (v = 1)
theorem rr_b1_n {v : Int32} (h : rr_b1 v = true) : narrow .boolean (.int v) = .int v := by
  simp only [rr_b1, Bool.or_eq_true, decide_eq_true_eq] at h
  rcases h with h | h <;> subst h <;> rfl
theorem rr_b1_f {v : Int32} (h : rr_b1 v = true) : fits .boolean (.int v) = true := by
  simp only [rr_b1, Bool.or_eq_true, decide_eq_true_eq] at h
  rcases h with h | h <;> subst h <;> rfl
theorem rx_zret {v r : Int32} (C : rr_C X G cc nL own (some .boolean) fr lo) (hdg : decode cc pc = .ok (.ireturn, 1)) (hm : (if rr_b1 v then some (v, σ) else none) = some (r, σr)) : rr_J X G nL (rr_E X G σr (some (.int r))) σ pc lv [.int v] := by
  by_cases hb : rr_b1 v = true
  · rw [if_pos hb] at hm
    cases hm
    exact fun hT H locs ls hl hP hS => W.zret C.1 C.2.1 C.2.2.2.2.2.2.2.2.1 (rr_b1_n hb) (fun t ht hW => ⟨rfl, ⟨by rw [ht]; exact hP, va_K.moved hW.alike C.2.2.2.2.2.1, hT⟩, hS.F ht⟩) hS.2.2 hdg C.2.2.2.2.2.2.2.1
  · rw [if_neg hb] at hm
    cases hm
end RWR
theorem rr_enter {l : Launch} {G : rr_G} {y : MethodName} {cc : ByteArray} {maxL : Nat} {ret : Option FieldType} {fr lo : Nat} {av : List Value} {σ σr : rr_M} {res : Option Value} {lv0 : List (Nat × Value)} (hy : plainName y.cls = true) (hG : G.2.2.1.Nodup) (hlen : (lg_sl av).length ≤ maxL) (hlv : lv_args 0 av = lv0)
    (body : ∀ X : rr_X, X.2.1 = l → rr_C X G cc maxL y.cls ret fr lo → rr_J X G maxL (rr_E X G σr res) σ 0 lv0 []) : rr_Met l G y cc maxL ret fr lo av σ σr res := by
  refine Met.ofW (cc := cc) (maxL := maxL) (ret := ret) hy rfl ?_
  intro p e s m args below meth c s₁ B hml hv
  obtain ⟨rfl, hP, hK, hT⟩ := hv
  have hts := atoms_spec (ws := .code y cc maxL ret :: rr_tb) B.pre
  have hown : s.vm.findClass y.cls = some m.cls := findClass_of_methodNamed B.named
  have hl := lv_entry av (n := maxL) hlen
  rw [hlv] at hl
  rw [lg_entry_eq]
  exact body (p, l, e, { frames := fr, cells := 0, slots := 0, locals := lo }, s, m, av.toArray, below, meth, c) rfl ⟨B.exec, B.bytes, hml, hown, fun w h => hts w (List.mem_cons_of_mem _ h), hK, hG, B.notSynchronized, B.returns, rfl⟩ hT s.heap [] _ hl hP va_S.rf
section RWC
variable {X : rr_X} {G : rr_G} {nL : Nat} {Q : State → Prop} {cc : ByteArray} {own : String} {ret : Option FieldType} {fr lo : Nat} {σ σ1 : rr_M} {pc : Nat} {lv : List (Nat × Value)} {rest : List Value}
theorem rr_goodc {y : MethodName} {c0 : ByteArray} {n0 : Nat} {r0 : Option FieldType} (h : Cond.code y c0 n0 r0 ∈ rr_tb) : GoodIn rr_tb (Cond.code y c0 n0 r0 :: rr_tb) := fun w hw => by
  have hm : w ∈ rr_tb := by
    rcases List.mem_cons.mp hw with h1 | h1
    · rw [h1]; exact h
    · exact h1
  exact ⟨hm, good_of_word (rr_good w hm)⟩
theorem rr_blind {av : List Value} : FrameBlind (va_Pc av (rr_B G σ)) := fun a U g mk q => by
  obtain ⟨q0, qP, qK, qT⟩ := q
  exact ⟨q0, qP, va_K.moved (u := U) (U := U.calling g mk a) (Vm.Alike.refl U.vm) qK, qT⟩
theorem rr_callk {st0 : List Value} {a : Array Value} {res : Option Value} {H : Heap} {locs : List Loc} {ls : Array Slot} (hl : lv_has ls nL lv) (hr : va_Run X.1 X.2.1 X.2.2.1 X.2.2.2.1 X.2.2.2.2.1 X.2.2.2.2.2.1 X.2.2.2.2.2.2.1 X.2.2.2.2.2.2.2.1 X.2.2.2.2.2.2.2.2.1 X.2.2.2.2.2.2.2.2.2 H locs 0 0 0 0 (F0 X.2.2.2.2.2.1 pc ls st0) rest (rr_Q G σ1 res a) (fun q => q ∈ G.2.2.1)) (hS : va_S (fun q => q ∈ G.2.2.1) X.2.2.2.2.1.heap H locs) (kk : rr_J X G nL Q σ1 (pc + 3) lv (res.toList ++ rest)) : W X.1 X.2.1 X.2.2.1 X.2.2.2.1 X.2.2.2.2.1 X.2.2.2.2.2.1 X.2.2.2.2.2.2.1 X.2.2.2.2.2.2.2.1 X.2.2.2.2.2.2.2.2.1 X.2.2.2.2.2.2.2.2.2 H locs 0 0 Q (F0 X.2.2.2.2.2.1 pc ls st0) := by
  intro T hT Y
  obtain ⟨v, st₀, t, T', L, h0, Y', hL, e1, e2, ⟨hv, ⟨hP1, hK1, hT1⟩, hz, hk⟩, st⟩ := hr T hT Y
  cases hv
  rw [h0] at hz hk
  obtain ⟨t2, a1, b1⟩ := kk hT1 T'.heap (locs ++ L) ls hl (by rw [e1]; exact hP1) ⟨Nat.le_trans hS.1 (by rw [e1]; exact hz), fun q h1 h2 => by rw [e1, hk q (Nat.lt_of_lt_of_le h1 hS.1) h2]; exact hS.2.1 q h1 h2, fun q hq => by
      rcases List.mem_append.mp hq with h | h
      · exact hS.2.2 q h
      · exact hL q h⟩ T' rfl Y'
  exact ⟨t2, st t2 a1, b1⟩
theorem rr_callV (C : rr_C X G cc nL own ret fr lo) {l : Launch} {y : MethodName} {c0 : ByteArray} {n0 fr0 lo0 index n : Nat} {r0 : Option FieldType} {b : Nat} {As st0 : List Value} {res : Option Value} (ci : Nat) (hll : X.2.1 = l) (hM : rr_Met l G y c0 n0 r0 fr0 lo0 (.ref b :: As) σ σ1 res)
    (q1 : Cond.methodLink own index y ∈ rr_tb) (q2 : Cond.instanceMethod y ∈ rr_tb) (q3 : Cond.selects y.cls y y ∈ rr_tb) (q4 : Cond.initialized y.cls ∈ rr_tb) (q5 : Cond.code y c0 n0 r0 ∈ rr_tb) (hd : y.cls ≠ "java/lang/invoke/MethodHandle" ∧ y.cls ≠ "java/lang/invoke/VarHandle" ∧ (parseMethodDescriptor y.desc).map (fun d => d.parameters.length) = some n)
    (hc : ∃ q : vw_C, rr_cls[ci]? = some q ∧ q.1 = y.cls) (hci : ci < 10) (hb : b ∈ G.2.2.1) (hk : G.2.2.2.1 b = ci) (hR : fr0 + 1 ≤ fr ∧ 8 + (n0 + 11) + lo0 ≤ lo) (hn : As.length = n) (hst : st0 = As.reverse ++ .ref b :: rest) (hcat : (rest.map fun v => v.category).sum ≤ 8) {st1 : List Value} (hs1 : res.toList ++ rest = st1) (hdg : decode cc pc = .ok (.invokevirtual index, 3)) (k : rr_J X G nL Q σ1 (pc + 3) lv st1) : rr_J X G nL Q σ pc lv st0 := by
  subst hs1
  intro hT H locs ls hl hP hS
  subst hll
  obtain ⟨q, hq⟩ := rr_at (σ := σ) hb
  rw [rr_cO hk hci] at hq
  obtain ⟨cq, hc1, hc2⟩ := hc
  have hrec := va_recv C.2.2.2.2.2.1 hP hc1 hq
  rw [hc2] at hrec
  have hRR : X.2.2.2.1.frames = fr ∧ X.2.2.2.1.locals = lo ∧ X.2.2.2.1.cells = 0 ∧ X.2.2.2.1.slots = 0 := by rw [C.2.2.2.2.2.2.2.2.2]; exact ⟨rfl, rfl, rfl, rfl⟩
  have ht := C.2.2.2.2.1
  refine rr_callk hl (va_runV (C := y.cls) (As := As) (rest := rest) (b := b) (n := n) ⟨C.1, C.2.1, C.2.2.1, C.2.2.2.1, ht⟩ hM ⟨callB_of n ht (rr_goodc q5) rfl rfl rfl (ht _ q4) (ht _ q1) hd ⟨by rw [hRR.1]; exact hR.1, by rw [hRR.2.1]; exact hR.2⟩, ht _ q2, ht _ q3⟩ ⟨rr_blind, hrec, fun U hU hW => ⟨rfl, by rw [hU]; exact hP, va_K.moved hW.alike C.2.2.2.2.2.1, hT⟩⟩ rfl hn hl.1 hst (lv_room hcat) hdg ⟨by rw [hRR.2.2.1]; exact Nat.le_refl _, by rw [hRR.2.2.2]; exact Nat.le_refl _⟩) hS k
theorem rr_callS (C : rr_C X G cc nL own ret fr lo) {l : Launch} {y : MethodName} {c0 : ByteArray} {n0 fr0 lo0 index n : Nat} {r0 : Option FieldType} {As st0 : List Value} {res : Option Value} (hll : X.2.1 = l) (hM : rr_Met l G y c0 n0 r0 fr0 lo0 As σ σ1 res)
    (q1 : Cond.methodLink own index y ∈ rr_tb) (q2 : Cond.static y ∈ rr_tb) (q4 : Cond.initialized y.cls ∈ rr_tb) (q5 : Cond.code y c0 n0 r0 ∈ rr_tb) (hd : y.cls ≠ "java/lang/invoke/MethodHandle" ∧ y.cls ≠ "java/lang/invoke/VarHandle" ∧ (parseMethodDescriptor y.desc).map (fun d => d.parameters.length) = some n)
    (hR : fr0 + 1 ≤ fr ∧ 8 + (n0 + 11) + lo0 ≤ lo) (hn : As.length = n) (hst : st0 = As.reverse ++ rest) (hcat : (rest.map fun v => v.category).sum ≤ 8) {st1 : List Value} (hs1 : res.toList ++ rest = st1) (hdg : decode cc pc = .ok (.invokestatic index, 3)) (k : rr_J X G nL Q σ1 (pc + 3) lv st1) : rr_J X G nL Q σ pc lv st0 := by
  subst hs1
  intro hT H locs ls hl hP hS
  subst hll
  have hRR : X.2.2.2.1.frames = fr ∧ X.2.2.2.1.locals = lo ∧ X.2.2.2.1.cells = 0 ∧ X.2.2.2.1.slots = 0 := by rw [C.2.2.2.2.2.2.2.2.2]; exact ⟨rfl, rfl, rfl, rfl⟩
  have ht := C.2.2.2.2.1
  refine rr_callk hl (va_runS (As := As) (rest := rest) (n := n) ⟨C.1, C.2.1, C.2.2.1, C.2.2.2.1, ht⟩ hM ⟨callB_of n ht (rr_goodc q5) rfl rfl rfl (ht _ q4) (ht _ q1) hd ⟨by rw [hRR.1]; exact hR.1, by rw [hRR.2.1]; exact hR.2⟩, ht _ q2⟩ ⟨rr_blind, fun U hU hW => ⟨rfl, by rw [hU]; exact hP, va_K.moved hW.alike C.2.2.2.2.2.1, hT⟩⟩ rfl hn hl.1 hst (lv_room hcat) hdg ⟨by rw [hRR.2.2.1]; exact Nat.le_refl _, by rw [hRR.2.2.2]; exact Nat.le_refl _⟩) hS k
end RWC
theorem rr_gz {α : Type} {x : Int32} {A : Option α} {z : α} (hm : (if x = 0 then none else A) = some z) : ¬ x = 0 ∧ A = some z := by
  by_cases h : x = 0
  · rw [if_pos h] at hm; cases hm
  · rw [if_neg h] at hm; exact ⟨h, hm⟩
theorem rr_gzl {α : Type} {x : Int64} {A : Option α} {z : α} (hm : (if x = 0 then none else A) = some z) : ¬ x = 0 ∧ A = some z := by
  by_cases h : x = 0
  · rw [if_pos h] at hm; cases hm
  · rw [if_neg h] at hm; exact ⟨h, hm⟩
theorem rr_b0_some {α β : Type} {x : Option α} {k : α → Option β} {z : β} (h : Option.bind x k = some z) : ∃ v : α, x = some v ∧ k v = some z := by
  cases x with
  | none => cases h
  | some y => exact ⟨y, rfl, h⟩
theorem rr_if {α : Type} {c : Prop} [Decidable c] {A B : Option α} {z : α} {P : Prop} (hm : (if c then A else B) = some z) (kt : c → A = some z → P) (kf : ¬ c → B = some z → P) : P := by
  by_cases h : c
  · rw [if_pos h] at hm; exact kt h hm
  · rw [if_neg h] at hm; exact kf h hm
theorem rr_jn1 {A0 γ : Type} {k : A0 → Option γ} {b : (A0 → Option γ) → Option γ} {z : γ} {P : Prop} (hm : rr_jn k b = some z) (kk : ∀ j : A0 → Option γ, (∀ (x0 : A0), j x0 = some z → k x0 = some z) → b j = some z → P) : P := kk k (fun _ h => h) hm
theorem rr_jn2 {A0 A1 γ : Type} {k : A0 → A1 → Option γ} {b : (A0 → A1 → Option γ) → Option γ} {z : γ} {P : Prop} (hm : rr_jn k b = some z) (kk : ∀ j : A0 → A1 → Option γ, (∀ (x0 : A0) (x1 : A1), j x0 x1 = some z → k x0 x1 = some z) → b j = some z → P) : P := kk k (fun _ _ h => h) hm
theorem rr_jn3 {A0 A1 A2 γ : Type} {k : A0 → A1 → A2 → Option γ} {b : (A0 → A1 → A2 → Option γ) → Option γ} {z : γ} {P : Prop} (hm : rr_jn k b = some z) (kk : ∀ j : A0 → A1 → A2 → Option γ, (∀ (x0 : A0) (x1 : A1) (x2 : A2), j x0 x1 x2 = some z → k x0 x1 x2 = some z) → b j = some z → P) : P := kk k (fun _ _ _ h => h) hm
theorem rr_jn4 {A0 A1 A2 A3 γ : Type} {k : A0 → A1 → A2 → A3 → Option γ} {b : (A0 → A1 → A2 → A3 → Option γ) → Option γ} {z : γ} {P : Prop} (hm : rr_jn k b = some z) (kk : ∀ j : A0 → A1 → A2 → A3 → Option γ, (∀ (x0 : A0) (x1 : A1) (x2 : A2) (x3 : A3), j x0 x1 x2 x3 = some z → k x0 x1 x2 x3 = some z) → b j = some z → P) : P := kk k (fun _ _ _ _ h => h) hm
theorem rr_jn5 {A0 A1 A2 A3 A4 γ : Type} {k : A0 → A1 → A2 → A3 → A4 → Option γ} {b : (A0 → A1 → A2 → A3 → A4 → Option γ) → Option γ} {z : γ} {P : Prop} (hm : rr_jn k b = some z) (kk : ∀ j : A0 → A1 → A2 → A3 → A4 → Option γ, (∀ (x0 : A0) (x1 : A1) (x2 : A2) (x3 : A3) (x4 : A4), j x0 x1 x2 x3 x4 = some z → k x0 x1 x2 x3 x4 = some z) → b j = some z → P) : P := kk k (fun _ _ _ _ _ h => h) hm
theorem rr_jn6 {A0 A1 A2 A3 A4 A5 γ : Type} {k : A0 → A1 → A2 → A3 → A4 → A5 → Option γ} {b : (A0 → A1 → A2 → A3 → A4 → A5 → Option γ) → Option γ} {z : γ} {P : Prop} (hm : rr_jn k b = some z) (kk : ∀ j : A0 → A1 → A2 → A3 → A4 → A5 → Option γ, (∀ (x0 : A0) (x1 : A1) (x2 : A2) (x3 : A3) (x4 : A4) (x5 : A5), j x0 x1 x2 x3 x4 x5 = some z → k x0 x1 x2 x3 x4 x5 = some z) → b j = some z → P) : P := kk k (fun _ _ _ _ _ _ h => h) hm
theorem rr_jn7 {A0 A1 A2 A3 A4 A5 A6 γ : Type} {k : A0 → A1 → A2 → A3 → A4 → A5 → A6 → Option γ} {b : (A0 → A1 → A2 → A3 → A4 → A5 → A6 → Option γ) → Option γ} {z : γ} {P : Prop} (hm : rr_jn k b = some z) (kk : ∀ j : A0 → A1 → A2 → A3 → A4 → A5 → A6 → Option γ, (∀ (x0 : A0) (x1 : A1) (x2 : A2) (x3 : A3) (x4 : A4) (x5 : A5) (x6 : A6), j x0 x1 x2 x3 x4 x5 x6 = some z → k x0 x1 x2 x3 x4 x5 x6 = some z) → b j = some z → P) : P := kk k (fun _ _ _ _ _ _ _ h => h) hm
section RWO
variable {X : rr_X} {G : rr_G} {nL : Nat} {cc : ByteArray} {own : String} {fr lo : Nat} {σ : rr_M} {pc : Nat} {lv : List (Nat × Value)}
theorem rx_iretR {v r : Int32} (C : rr_C X G cc nL own (some .int) fr lo) (hdg : decode cc pc = .ok (.ireturn, 1)) (hm : some v = some r) : rr_J X G nL (rr_E X G σ (some (.int r))) σ pc lv [.int v] := rx_iret C hdg (by cases hm; rfl)
theorem rx_lretR {v r : Int64} (C : rr_C X G cc nL own (some .long) fr lo) (hdg : decode cc pc = .ok (.lreturn, 1)) (hm : some v = some r) : rr_J X G nL (rr_E X G σ (some (.long r))) σ pc lv [.long v] := rx_lret C hdg (by cases hm; rfl)
theorem rx_zretR {v r : Int32} (C : rr_C X G cc nL own (some .boolean) fr lo) (hdg : decode cc pc = .ok (.ireturn, 1)) (hm : (if rr_b1 v then some v else none) = some r) : rr_J X G nL (rr_E X G σ (some (.int r))) σ pc lv [.int v] := by
  by_cases hb : rr_b1 v = true
  · rw [if_pos hb] at hm
    exact rx_zret C hdg (by rw [if_pos hb]; cases hm; rfl)
  · rw [if_neg hb] at hm
    cases hm
end RWO
