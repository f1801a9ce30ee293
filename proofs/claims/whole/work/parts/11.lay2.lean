/-! OUR LAYER, part 2: a row an instruction -/
section ZR
variable {X : CT} {V : VT} {own nm : String} {cc : ByteArray} {nL d n0 k0 : Nat} {ret : Option FieldType} {o : RR} {pc : Nat} {lv : List (Nat × Value)} {st : List Value} {h : AH}
theorem z_iconst  {n : Int} {v : Int32}  (hv : Int32.ofInt n = v) (hd : decode cc pc = .ok (.iconst n, 1)) (k : zG X V own nm cc nL ret d n0 k0 o (pc + 1) lv (.int v :: st) h) : zG X V own nm cc nL ret d n0 k0 o pc lv st h := zstep k (fun C _ _ _ _ _ ls _ _ hl kk => lv_iconst C.1 C.2.1 hd hv (kk ls hl))
theorem z_bipush  {n : Int} {v : Int32}  (hv : (Int8.ofInt n).toInt32 = v) (hd : decode cc pc = .ok (.bipush n, 2)) (k : zG X V own nm cc nL ret d n0 k0 o (pc + 2) lv (.int v :: st) h) : zG X V own nm cc nL ret d n0 k0 o pc lv st h := zstep k (fun C _ _ _ _ _ ls _ _ hl kk => lv_bipush C.1 C.2.1 hd hv (kk ls hl))
theorem z_sipush  {n : Int} {v : Int32}  (hv : (Int16.ofInt n).toInt32 = v) (hd : decode cc pc = .ok (.sipush n, 3)) (k : zG X V own nm cc nL ret d n0 k0 o (pc + 3) lv (.int v :: st) h) : zG X V own nm cc nL ret d n0 k0 o pc lv st h := zstep k (fun C _ _ _ _ _ ls _ _ hl kk => lv_sipush C.1 C.2.1 hd hv (kk ls hl))
theorem z_lconst  {n : Fin 2} {v : Int64}  (hv : Int64.ofNat (n : Nat) = v) (hd : decode cc pc = .ok (.lconst n, 1)) (k : zG X V own nm cc nL ret d n0 k0 o (pc + 1) lv (.long v :: st) h) : zG X V own nm cc nL ret d n0 k0 o pc lv st h := zstep k (fun C _ _ _ _ _ ls _ _ hl kk => lv_lconst C.1 C.2.1 hd hv (kk ls hl))
theorem z_iadd  {x y : Int32} (hd : decode cc pc = .ok (.iadd, 1)) (k : zG X V own nm cc nL ret d n0 k0 o (pc + 1) lv (.int (x + y) :: st) h) : zG X V own nm cc nL ret d n0 k0 o pc lv (.int y :: .int x :: st) h := zstep k (fun C _ _ _ _ _ ls _ _ hl kk => lv_iadd C.1 C.2.1 hd  (kk ls hl))
theorem z_isub  {x y : Int32} (hd : decode cc pc = .ok (.isub, 1)) (k : zG X V own nm cc nL ret d n0 k0 o (pc + 1) lv (.int (x - y) :: st) h) : zG X V own nm cc nL ret d n0 k0 o pc lv (.int y :: .int x :: st) h := zstep k (fun C _ _ _ _ _ ls _ _ hl kk => lv_isub C.1 C.2.1 hd  (kk ls hl))
theorem z_imul  {x y : Int32} (hd : decode cc pc = .ok (.imul, 1)) (k : zG X V own nm cc nL ret d n0 k0 o (pc + 1) lv (.int (x * y) :: st) h) : zG X V own nm cc nL ret d n0 k0 o pc lv (.int y :: .int x :: st) h := zstep k (fun C _ _ _ _ _ ls _ _ hl kk => lv_imul C.1 C.2.1 hd  (kk ls hl))
theorem z_iand  {x y : Int32} (hd : decode cc pc = .ok (.iand, 1)) (k : zG X V own nm cc nL ret d n0 k0 o (pc + 1) lv (.int (x &&& y) :: st) h) : zG X V own nm cc nL ret d n0 k0 o pc lv (.int y :: .int x :: st) h := zstep k (fun C _ _ _ _ _ ls _ _ hl kk => lv_iand C.1 C.2.1 hd  (kk ls hl))
theorem z_ior  {x y : Int32} (hd : decode cc pc = .ok (.ior, 1)) (k : zG X V own nm cc nL ret d n0 k0 o (pc + 1) lv (.int (x ||| y) :: st) h) : zG X V own nm cc nL ret d n0 k0 o pc lv (.int y :: .int x :: st) h := zstep k (fun C _ _ _ _ _ ls _ _ hl kk => lv_ior C.1 C.2.1 hd  (kk ls hl))
theorem z_ishl  {x y : Int32} (hd : decode cc pc = .ok (.ishl, 1)) (k : zG X V own nm cc nL ret d n0 k0 o (pc + 1) lv (.int (x <<< (y &&& 31)) :: st) h) : zG X V own nm cc nL ret d n0 k0 o pc lv (.int y :: .int x :: st) h := zstep k (fun C _ _ _ _ _ ls _ _ hl kk => lv_ishl C.1 C.2.1 hd  (kk ls hl))
theorem z_ishr  {x y : Int32} (hd : decode cc pc = .ok (.ishr, 1)) (k : zG X V own nm cc nL ret d n0 k0 o (pc + 1) lv (.int (x >>> (y &&& 31)) :: st) h) : zG X V own nm cc nL ret d n0 k0 o pc lv (.int y :: .int x :: st) h := zstep k (fun C _ _ _ _ _ ls _ _ hl kk => lv_ishr C.1 C.2.1 hd  (kk ls hl))
theorem z_ladd  {x y : Int64} (hd : decode cc pc = .ok (.ladd, 1)) (k : zG X V own nm cc nL ret d n0 k0 o (pc + 1) lv (.long (x + y) :: st) h) : zG X V own nm cc nL ret d n0 k0 o pc lv (.long y :: .long x :: st) h := zstep k (fun C _ _ _ _ _ ls _ _ hl kk => lv_ladd C.1 C.2.1 hd  (kk ls hl))
theorem z_lsub  {x y : Int64} (hd : decode cc pc = .ok (.lsub, 1)) (k : zG X V own nm cc nL ret d n0 k0 o (pc + 1) lv (.long (x - y) :: st) h) : zG X V own nm cc nL ret d n0 k0 o pc lv (.long y :: .long x :: st) h := zstep k (fun C _ _ _ _ _ ls _ _ hl kk => lv_lsub C.1 C.2.1 hd  (kk ls hl))
theorem z_lmul  {x y : Int64} (hd : decode cc pc = .ok (.lmul, 1)) (k : zG X V own nm cc nL ret d n0 k0 o (pc + 1) lv (.long (x * y) :: st) h) : zG X V own nm cc nL ret d n0 k0 o pc lv (.long y :: .long x :: st) h := zstep k (fun C _ _ _ _ _ ls _ _ hl kk => lv_lmul C.1 C.2.1 hd  (kk ls hl))
theorem z_land  {x y : Int64} (hd : decode cc pc = .ok (.land, 1)) (k : zG X V own nm cc nL ret d n0 k0 o (pc + 1) lv (.long (x &&& y) :: st) h) : zG X V own nm cc nL ret d n0 k0 o pc lv (.long y :: .long x :: st) h := zstep k (fun C _ _ _ _ _ ls _ _ hl kk => lv_land C.1 C.2.1 hd  (kk ls hl))
theorem z_lor  {x y : Int64} (hd : decode cc pc = .ok (.lor, 1)) (k : zG X V own nm cc nL ret d n0 k0 o (pc + 1) lv (.long (x ||| y) :: st) h) : zG X V own nm cc nL ret d n0 k0 o pc lv (.long y :: .long x :: st) h := zstep k (fun C _ _ _ _ _ ls _ _ hl kk => lv_lor C.1 C.2.1 hd  (kk ls hl))
theorem z_iushr  {x y : Int32} (hd : decode cc pc = .ok (.iushr, 1)) (k : zG X V own nm cc nL ret d n0 k0 o (pc + 1) lv (.int ((x.toUInt32 >>> (y.toUInt32 &&& Int32.toUInt32 31)).toInt32) :: st) h) : zG X V own nm cc nL ret d n0 k0 o pc lv (.int y :: .int x :: st) h := zstep k (fun C _ _ _ _ _ ls _ _ hl kk => lv_iushr C.1 C.2.1 hd rfl (kk ls hl))
theorem z_lushr  {x : Int64} {y : Int32} (hd : decode cc pc = .ok (.lushr, 1)) (k : zG X V own nm cc nL ret d n0 k0 o (pc + 1) lv (.long ((x.toUInt64 >>> (y.toInt64.toUInt64 &&& Int64.toUInt64 63)).toInt64) :: st) h) : zG X V own nm cc nL ret d n0 k0 o pc lv (.int y :: .long x :: st) h := zstep k (fun C _ _ _ _ _ ls _ _ hl kk => lv_lushr C.1 C.2.1 hd rfl (kk ls hl))
theorem z_lshl  {x : Int64} {y : Int32} (hd : decode cc pc = .ok (.lshl, 1)) (k : zG X V own nm cc nL ret d n0 k0 o (pc + 1) lv (.long (x <<< (y.toInt64 &&& 63)) :: st) h) : zG X V own nm cc nL ret d n0 k0 o pc lv (.int y :: .long x :: st) h := zstep k (fun C _ _ _ _ _ ls _ _ hl kk => lv_lshl C.1 C.2.1 hd rfl (kk ls hl))
theorem z_lshr  {x : Int64} {y : Int32} (hd : decode cc pc = .ok (.lshr, 1)) (k : zG X V own nm cc nL ret d n0 k0 o (pc + 1) lv (.long (x >>> (y.toInt64 &&& 63)) :: st) h) : zG X V own nm cc nL ret d n0 k0 o pc lv (.int y :: .long x :: st) h := zstep k (fun C _ _ _ _ _ ls _ _ hl kk => lv_lshr C.1 C.2.1 hd rfl (kk ls hl))
theorem z_i2l  {x : Int32} (hd : decode cc pc = .ok (.i2l, 1)) (k : zG X V own nm cc nL ret d n0 k0 o (pc + 1) lv (.long x.toInt64 :: st) h) : zG X V own nm cc nL ret d n0 k0 o pc lv (.int x :: st) h := zstep k (fun C _ _ _ _ _ ls _ _ hl kk => lv_i2l C.1 C.2.1 hd rfl (kk ls hl))
theorem z_l2i  {x : Int64} (hd : decode cc pc = .ok (.l2i, 1)) (k : zG X V own nm cc nL ret d n0 k0 o (pc + 1) lv (.int x.toInt32 :: st) h) : zG X V own nm cc nL ret d n0 k0 o pc lv (.long x :: st) h := zstep k (fun C _ _ _ _ _ ls _ _ hl kk => lv_l2i C.1 C.2.1 hd rfl (kk ls hl))
theorem z_i2c  {x : Int32} (hd : decode cc pc = .ok (.i2c, 1)) (k : zG X V own nm cc nL ret d n0 k0 o (pc + 1) lv (.int ((x.toUInt32 % 65536).toInt32) :: st) h) : zG X V own nm cc nL ret d n0 k0 o pc lv (.int x :: st) h := zstep k (fun C _ _ _ _ _ ls _ _ hl kk => lv_i2c C.1 C.2.1 hd rfl (kk ls hl))
theorem z_null   (hd : decode cc pc = .ok (.aconst_null, 1)) (k : zG X V own nm cc nL ret d n0 k0 o (pc + 1) lv (.null :: st) h) : zG X V own nm cc nL ret d n0 k0 o pc lv st h := zstep k (fun C _ _ _ _ _ ls _ _ hl kk => lv_null C.1 C.2.1 hd  (kk ls hl))
theorem z_lcmp  {x y : Int64} (hd : decode cc pc = .ok (.lcmp, 1)) (k : zG X V own nm cc nL ret d n0 k0 o (pc + 1) lv (.int (lg_cmp x y) :: st) h) : zG X V own nm cc nL ret d n0 k0 o pc lv (.long y :: .long x :: st) h := zstep k (fun C _ _ _ _ _ ls _ _ hl kk => W.lcmp C.1 C.2.1 hd (kk ls hl))
theorem z_dup  {v : Value} (hc : v.category = 1) (hd : decode cc pc = .ok (.dup, 1)) (k : zG X V own nm cc nL ret d n0 k0 o (pc + 1) lv (v :: v :: st) h) : zG X V own nm cc nL ret d n0 k0 o pc lv (v :: st) h := zstep k (fun C _ _ _ _ _ ls _ _ hl kk => lv_dup C.1 C.2.1 hd ((ztv_cat V v).trans hc) (kk ls hl))
theorem z_pop  {v : Value} (hc : v.category = 1) (hd : decode cc pc = .ok (.pop, 1)) (k : zG X V own nm cc nL ret d n0 k0 o (pc + 1) lv st h) : zG X V own nm cc nL ret d n0 k0 o pc lv (v :: st) h := zstep k (fun C _ _ _ _ _ ls _ _ hl kk => lv_pop C.1 C.2.1 hd ((ztv_cat V v).trans hc) (kk ls hl))
theorem z_dup2  {v w : Value} (hc : v.category = 1) (hc2 : w.category = 1) (hd : decode cc pc = .ok (.dup2, 1)) (k : zG X V own nm cc nL ret d n0 k0 o (pc + 1) lv (v :: w :: v :: w :: st) h) : zG X V own nm cc nL ret d n0 k0 o pc lv (v :: w :: st) h := zstep k (fun C _ _ _ _ _ ls _ _ hl kk => lv_dup2_11 C.1 C.2.1 hd ((ztv_cat V v).trans hc) ((ztv_cat V w).trans hc2) (kk ls hl))
theorem z_iload_n  {k : Fin 4} {i : Nat} {x : Int32} (q : Nat) (hi : (k : Nat) = i) (hk : lv[q]? = some (i, .int x)) (hd : decode cc pc = .ok (.iload_n k, 1)) (kk : zG X V own nm cc nL ret d n0 k0 o (pc + 1) lv (.int x :: st) h) : zG X V own nm cc nL ret d n0 k0 o pc lv st h := zstep kk (fun C _ _ _ _ _ ls _ _ hl kk => lv_iload_n C.1 C.2.1 hd hi (lv_at hl q (zlv hk)) (kk ls hl))
theorem z_iload  {i : Nat} {x : Int32} (q : Nat) (hk : lv[q]? = some (i, .int x)) (hd : decode cc pc = .ok (.iload i, 2)) (kk : zG X V own nm cc nL ret d n0 k0 o (pc + 2) lv (.int x :: st) h) : zG X V own nm cc nL ret d n0 k0 o pc lv st h := zstep kk (fun C _ _ _ _ _ ls _ _ hl kk => lv_iload C.1 C.2.1 hd (lv_at hl q (zlv hk)) (kk ls hl))
theorem z_lload_n  {k : Fin 4} {i : Nat} {x : Int64} (q : Nat) (hi : (k : Nat) = i) (hk : lv[q]? = some (i, .long x)) (hd : decode cc pc = .ok (.lload_n k, 1)) (kk : zG X V own nm cc nL ret d n0 k0 o (pc + 1) lv (.long x :: st) h) : zG X V own nm cc nL ret d n0 k0 o pc lv st h := zstep kk (fun C _ _ _ _ _ ls _ _ hl kk => lv_lload_n C.1 C.2.1 hd hi (lv_at hl q (zlv hk)) (kk ls hl))
theorem z_lload  {i : Nat} {x : Int64} (q : Nat) (hk : lv[q]? = some (i, .long x)) (hd : decode cc pc = .ok (.lload i, 2)) (kk : zG X V own nm cc nL ret d n0 k0 o (pc + 2) lv (.long x :: st) h) : zG X V own nm cc nL ret d n0 k0 o pc lv st h := zstep kk (fun C _ _ _ _ _ ls _ _ hl kk => lv_lload C.1 C.2.1 hd (lv_at hl q (zlv hk)) (kk ls hl))
theorem z_aload_n  {k : Fin 4} {i : Nat} {x : Nat} (q : Nat) (hi : (k : Nat) = i) (hk : lv[q]? = some (i, .ref x)) (hd : decode cc pc = .ok (.aload_n k, 1)) (kk : zG X V own nm cc nL ret d n0 k0 o (pc + 1) lv (.ref x :: st) h) : zG X V own nm cc nL ret d n0 k0 o pc lv st h := zstep kk (fun C _ _ _ _ _ ls _ _ hl kk => lv_aload_n C.1 C.2.1 hd hi (lv_at hl q (zlv hk)) (kk ls hl))
theorem z_aload  {i : Nat} {x : Nat} (q : Nat) (hk : lv[q]? = some (i, .ref x)) (hd : decode cc pc = .ok (.aload i, 2)) (kk : zG X V own nm cc nL ret d n0 k0 o (pc + 2) lv (.ref x :: st) h) : zG X V own nm cc nL ret d n0 k0 o pc lv st h := zstep kk (fun C _ _ _ _ _ ls _ _ hl kk => lv_aload C.1 C.2.1 hd (lv_at hl q (zlv hk)) (kk ls hl))
theorem z_sload_n  {k : Fin 4} {i : Nat} {x : UInt32} (q : Nat) (hi : (k : Nat) = i) (hk : lv[q]? = some (i, .float x)) (hd : decode cc pc = .ok (.aload_n k, 1)) (kk : zG X V own nm cc nL ret d n0 k0 o (pc + 1) lv (.float x :: st) h) : zG X V own nm cc nL ret d n0 k0 o pc lv st h := zstep kk (fun C _ _ _ _ _ ls _ _ hl kk => lv_aload_n C.1 C.2.1 hd hi (lv_at hl q (zlv hk)) (kk ls hl))
theorem z_istore_n  {k : Fin 4} {i : Nat} {x : Int32} {lv' : List (Nat × Value)} (hi : (k : Nat) = i) (hn : i < nL) (hl' : (i, Value.int x) :: lv.filter (fun q => !(q.1 == i) && !(q.1 + 1 == i && q.2.category == 2)) = lv') (hd : decode cc pc = .ok (.istore_n k, 1)) (kk : zG X V own nm cc nL ret d n0 k0 o (pc + 1) lv' st h) : zG X V own nm cc nL ret d n0 k0 o pc lv (.int x :: st) h := by
  refine zstep kk (fun C _ _ _ _ _ ls _ _ hl kk => ?_)
  refine lv_istore_n C.1 C.2.1 hd hi hl hn rfl (fun ls hl => kk ls ?_)
  rw [zfilt (fun q => by simp only [ztv_cat])] at hl
  rw [← hl']
  exact hl
theorem z_istore  {i : Nat} {x : Int32} {lv' : List (Nat × Value)} (hn : i < nL) (hl' : (i, Value.int x) :: lv.filter (fun q => !(q.1 == i) && !(q.1 + 1 == i && q.2.category == 2)) = lv') (hd : decode cc pc = .ok (.istore i, 2)) (kk : zG X V own nm cc nL ret d n0 k0 o (pc + 2) lv' st h) : zG X V own nm cc nL ret d n0 k0 o pc lv (.int x :: st) h := by
  refine zstep kk (fun C _ _ _ _ _ ls _ _ hl kk => ?_)
  refine lv_istore C.1 C.2.1 hd hl hn rfl (fun ls hl => kk ls ?_)
  rw [zfilt (fun q => by simp only [ztv_cat])] at hl
  rw [← hl']
  exact hl
theorem z_lstore_n  {k : Fin 4} {i : Nat} {x : Int64} {lv' : List (Nat × Value)} (hi : (k : Nat) = i) (hn : i + 1 < nL) (hl' : (i, Value.long x) :: lv.filter (fun q => !(q.1 == i) && (!(q.1 == i + 1) && !(q.1 + 1 == i && q.2.category == 2))) = lv') (hd : decode cc pc = .ok (.lstore_n k, 1)) (kk : zG X V own nm cc nL ret d n0 k0 o (pc + 1) lv' st h) : zG X V own nm cc nL ret d n0 k0 o pc lv (.long x :: st) h := by
  refine zstep kk (fun C _ _ _ _ _ ls _ _ hl kk => ?_)
  refine lv_lstore_n C.1 C.2.1 hd hi hl hn rfl (fun ls hl => kk ls ?_)
  rw [zfilt (fun q => by simp only [ztv_cat])] at hl
  rw [← hl']
  exact hl
theorem z_lstore  {i : Nat} {x : Int64} {lv' : List (Nat × Value)} (hn : i + 1 < nL) (hl' : (i, Value.long x) :: lv.filter (fun q => !(q.1 == i) && (!(q.1 == i + 1) && !(q.1 + 1 == i && q.2.category == 2))) = lv') (hd : decode cc pc = .ok (.lstore i, 2)) (kk : zG X V own nm cc nL ret d n0 k0 o (pc + 2) lv' st h) : zG X V own nm cc nL ret d n0 k0 o pc lv (.long x :: st) h := by
  refine zstep kk (fun C _ _ _ _ _ ls _ _ hl kk => ?_)
  refine lv_lstore C.1 C.2.1 hd hl hn rfl (fun ls hl => kk ls ?_)
  rw [zfilt (fun q => by simp only [ztv_cat])] at hl
  rw [← hl']
  exact hl
theorem z_astore_n  {k : Fin 4} {i : Nat} {x : Nat} {lv' : List (Nat × Value)} (hi : (k : Nat) = i) (hn : i < nL) (hl' : (i, Value.ref x) :: lv.filter (fun q => !(q.1 == i) && !(q.1 + 1 == i && q.2.category == 2)) = lv') (hd : decode cc pc = .ok (.astore_n k, 1)) (kk : zG X V own nm cc nL ret d n0 k0 o (pc + 1) lv' st h) : zG X V own nm cc nL ret d n0 k0 o pc lv (.ref x :: st) h := by
  refine zstep kk (fun C _ _ _ _ _ ls _ _ hl kk => ?_)
  refine lv_astore_n C.1 C.2.1 hd hi hl hn rfl (fun ls hl => kk ls ?_)
  rw [zfilt (fun q => by simp only [ztv_cat])] at hl
  rw [← hl']
  exact hl
theorem z_astore  {i : Nat} {x : Nat} {lv' : List (Nat × Value)} (hn : i < nL) (hl' : (i, Value.ref x) :: lv.filter (fun q => !(q.1 == i) && !(q.1 + 1 == i && q.2.category == 2)) = lv') (hd : decode cc pc = .ok (.astore i, 2)) (kk : zG X V own nm cc nL ret d n0 k0 o (pc + 2) lv' st h) : zG X V own nm cc nL ret d n0 k0 o pc lv (.ref x :: st) h := by
  refine zstep kk (fun C _ _ _ _ _ ls _ _ hl kk => ?_)
  refine lv_astore C.1 C.2.1 hd hl hn rfl (fun ls hl => kk ls ?_)
  rw [zfilt (fun q => by simp only [ztv_cat])] at hl
  rw [← hl']
  exact hl
theorem z_iinc  {i : Nat} {n : Int} {x v : Int32} {lv' : List (Nat × Value)} (q : Nat) (hk : lv[q]? = some (i, .int x)) (hv : x + Int32.ofInt n = v) (hn : i < nL) (hl' : (i, Value.int v) :: lv.filter (fun q => !(q.1 == i) && !(q.1 + 1 == i && q.2.category == 2)) = lv') (hd : decode cc pc = .ok (.iinc i n, 3)) (kk : zG X V own nm cc nL ret d n0 k0 o (pc + 3) lv' st h) : zG X V own nm cc nL ret d n0 k0 o pc lv st h := by
  refine zstep kk (fun C _ _ _ _ _ ls _ _ hl kk => ?_)
  refine lv_iinc C.1 C.2.1 hd hl (zlv hk) hv hn rfl (fun ls hl => kk ls ?_)
  rw [zfilt (fun q => by simp only [ztv_cat])] at hl
  rw [← hl']
  exact hl
theorem z_if_eq  {x : Int32} {off : Int} {A B : RR} (tgt : Nat) (ht : (pc : Int) + off = (tgt : Int)) (hd : decode cc pc = .ok (.ifCond .eq off, 3)) (ka : zG X V own nm cc nL ret d n0 k0 A tgt lv st h) (kb : zG X V own nm cc nL ret d n0 k0 B (pc + 3) lv st h) : zG X V own nm cc nL ret d n0 k0 (if x = 0 then A else B) pc lv (.int x :: st) h := by
  by_cases q : x = 0
  · rw [if_pos q]
    exact zstep ka (fun C _ _ _ _ _ ls _ _ hl kk => lv_if_eq C.1 C.2.1 hd ht (fun _ => kk ls hl) (fun n => absurd q n))
  · rw [if_neg q]
    exact zstep kb (fun C _ _ _ _ _ ls _ _ hl kk => lv_if_eq C.1 C.2.1 hd ht (fun n => absurd n q) (fun _ => kk ls hl))
theorem z_icmp_eq  {x y : Int32} {off : Int} {A B : RR} (tgt : Nat) (ht : (pc : Int) + off = (tgt : Int)) (hd : decode cc pc = .ok (.if_icmp .eq off, 3)) (ka : zG X V own nm cc nL ret d n0 k0 A tgt lv st h) (kb : zG X V own nm cc nL ret d n0 k0 B (pc + 3) lv st h) : zG X V own nm cc nL ret d n0 k0 (if x = y then A else B) pc lv (.int y :: .int x :: st) h := by
  by_cases q : x = y
  · rw [if_pos q]
    exact zstep ka (fun C _ _ _ _ _ ls _ _ hl kk => lv_icmp_eq C.1 C.2.1 hd ht (fun _ => kk ls hl) (fun n => absurd q n))
  · rw [if_neg q]
    exact zstep kb (fun C _ _ _ _ _ ls _ _ hl kk => lv_icmp_eq C.1 C.2.1 hd ht (fun n => absurd n q) (fun _ => kk ls hl))
theorem z_if_ne  {x : Int32} {off : Int} {A B : RR} (tgt : Nat) (ht : (pc : Int) + off = (tgt : Int)) (hd : decode cc pc = .ok (.ifCond .ne off, 3)) (ka : zG X V own nm cc nL ret d n0 k0 A (pc + 3) lv st h) (kb : zG X V own nm cc nL ret d n0 k0 B tgt lv st h) : zG X V own nm cc nL ret d n0 k0 (if x = 0 then A else B) pc lv (.int x :: st) h := by
  by_cases q : x = 0
  · rw [if_pos q]
    exact zstep ka (fun C _ _ _ _ _ ls _ _ hl kk => lv_if_ne C.1 C.2.1 hd ht (fun n => absurd q n) (fun _ => kk ls hl))
  · rw [if_neg q]
    exact zstep kb (fun C _ _ _ _ _ ls _ _ hl kk => lv_if_ne C.1 C.2.1 hd ht (fun _ => kk ls hl) (fun n => absurd n q))
theorem z_icmp_ne  {x y : Int32} {off : Int} {A B : RR} (tgt : Nat) (ht : (pc : Int) + off = (tgt : Int)) (hd : decode cc pc = .ok (.if_icmp .ne off, 3)) (ka : zG X V own nm cc nL ret d n0 k0 A (pc + 3) lv st h) (kb : zG X V own nm cc nL ret d n0 k0 B tgt lv st h) : zG X V own nm cc nL ret d n0 k0 (if x = y then A else B) pc lv (.int y :: .int x :: st) h := by
  by_cases q : x = y
  · rw [if_pos q]
    exact zstep ka (fun C _ _ _ _ _ ls _ _ hl kk => lv_icmp_ne C.1 C.2.1 hd ht (fun n => absurd q n) (fun _ => kk ls hl))
  · rw [if_neg q]
    exact zstep kb (fun C _ _ _ _ _ ls _ _ hl kk => lv_icmp_ne C.1 C.2.1 hd ht (fun _ => kk ls hl) (fun n => absurd n q))
theorem z_if_lt  {x : Int32} {off : Int} {A B : RR} (tgt : Nat) (ht : (pc : Int) + off = (tgt : Int)) (hd : decode cc pc = .ok (.ifCond .lt off, 3)) (ka : zG X V own nm cc nL ret d n0 k0 A tgt lv st h) (kb : zG X V own nm cc nL ret d n0 k0 B (pc + 3) lv st h) : zG X V own nm cc nL ret d n0 k0 (if x < 0 then A else B) pc lv (.int x :: st) h := by
  by_cases q : x < 0
  · rw [if_pos q]
    exact zstep ka (fun C _ _ _ _ _ ls _ _ hl kk => lv_if_lt C.1 C.2.1 hd ht (fun _ => kk ls hl) (fun n => absurd q n))
  · rw [if_neg q]
    exact zstep kb (fun C _ _ _ _ _ ls _ _ hl kk => lv_if_lt C.1 C.2.1 hd ht (fun n => absurd n q) (fun _ => kk ls hl))
theorem z_icmp_lt  {x y : Int32} {off : Int} {A B : RR} (tgt : Nat) (ht : (pc : Int) + off = (tgt : Int)) (hd : decode cc pc = .ok (.if_icmp .lt off, 3)) (ka : zG X V own nm cc nL ret d n0 k0 A tgt lv st h) (kb : zG X V own nm cc nL ret d n0 k0 B (pc + 3) lv st h) : zG X V own nm cc nL ret d n0 k0 (if x < y then A else B) pc lv (.int y :: .int x :: st) h := by
  by_cases q : x < y
  · rw [if_pos q]
    exact zstep ka (fun C _ _ _ _ _ ls _ _ hl kk => lv_icmp_lt C.1 C.2.1 hd ht (fun _ => kk ls hl) (fun n => absurd q n))
  · rw [if_neg q]
    exact zstep kb (fun C _ _ _ _ _ ls _ _ hl kk => lv_icmp_lt C.1 C.2.1 hd ht (fun n => absurd n q) (fun _ => kk ls hl))
theorem z_if_ge  {x : Int32} {off : Int} {A B : RR} (tgt : Nat) (ht : (pc : Int) + off = (tgt : Int)) (hd : decode cc pc = .ok (.ifCond .ge off, 3)) (ka : zG X V own nm cc nL ret d n0 k0 A tgt lv st h) (kb : zG X V own nm cc nL ret d n0 k0 B (pc + 3) lv st h) : zG X V own nm cc nL ret d n0 k0 (if 0 ≤ x then A else B) pc lv (.int x :: st) h := by
  by_cases q : 0 ≤ x
  · rw [if_pos q]
    exact zstep ka (fun C _ _ _ _ _ ls _ _ hl kk => lv_if_ge C.1 C.2.1 hd ht (fun _ => kk ls hl) (fun n => absurd q n))
  · rw [if_neg q]
    exact zstep kb (fun C _ _ _ _ _ ls _ _ hl kk => lv_if_ge C.1 C.2.1 hd ht (fun n => absurd n q) (fun _ => kk ls hl))
theorem z_icmp_ge  {x y : Int32} {off : Int} {A B : RR} (tgt : Nat) (ht : (pc : Int) + off = (tgt : Int)) (hd : decode cc pc = .ok (.if_icmp .ge off, 3)) (ka : zG X V own nm cc nL ret d n0 k0 A tgt lv st h) (kb : zG X V own nm cc nL ret d n0 k0 B (pc + 3) lv st h) : zG X V own nm cc nL ret d n0 k0 (if y ≤ x then A else B) pc lv (.int y :: .int x :: st) h := by
  by_cases q : y ≤ x
  · rw [if_pos q]
    exact zstep ka (fun C _ _ _ _ _ ls _ _ hl kk => lv_icmp_ge C.1 C.2.1 hd ht (fun _ => kk ls hl) (fun n => absurd q n))
  · rw [if_neg q]
    exact zstep kb (fun C _ _ _ _ _ ls _ _ hl kk => lv_icmp_ge C.1 C.2.1 hd ht (fun n => absurd n q) (fun _ => kk ls hl))
theorem z_if_gt  {x : Int32} {off : Int} {A B : RR} (tgt : Nat) (ht : (pc : Int) + off = (tgt : Int)) (hd : decode cc pc = .ok (.ifCond .gt off, 3)) (ka : zG X V own nm cc nL ret d n0 k0 A tgt lv st h) (kb : zG X V own nm cc nL ret d n0 k0 B (pc + 3) lv st h) : zG X V own nm cc nL ret d n0 k0 (if 0 < x then A else B) pc lv (.int x :: st) h := by
  by_cases q : 0 < x
  · rw [if_pos q]
    exact zstep ka (fun C _ _ _ _ _ ls _ _ hl kk => lv_if_gt C.1 C.2.1 hd ht (fun _ => kk ls hl) (fun n => absurd q n))
  · rw [if_neg q]
    exact zstep kb (fun C _ _ _ _ _ ls _ _ hl kk => lv_if_gt C.1 C.2.1 hd ht (fun n => absurd n q) (fun _ => kk ls hl))
theorem z_icmp_gt  {x y : Int32} {off : Int} {A B : RR} (tgt : Nat) (ht : (pc : Int) + off = (tgt : Int)) (hd : decode cc pc = .ok (.if_icmp .gt off, 3)) (ka : zG X V own nm cc nL ret d n0 k0 A tgt lv st h) (kb : zG X V own nm cc nL ret d n0 k0 B (pc + 3) lv st h) : zG X V own nm cc nL ret d n0 k0 (if y < x then A else B) pc lv (.int y :: .int x :: st) h := by
  by_cases q : y < x
  · rw [if_pos q]
    exact zstep ka (fun C _ _ _ _ _ ls _ _ hl kk => lv_icmp_gt C.1 C.2.1 hd ht (fun _ => kk ls hl) (fun n => absurd q n))
  · rw [if_neg q]
    exact zstep kb (fun C _ _ _ _ _ ls _ _ hl kk => lv_icmp_gt C.1 C.2.1 hd ht (fun n => absurd n q) (fun _ => kk ls hl))
theorem z_if_le  {x : Int32} {off : Int} {A B : RR} (tgt : Nat) (ht : (pc : Int) + off = (tgt : Int)) (hd : decode cc pc = .ok (.ifCond .le off, 3)) (ka : zG X V own nm cc nL ret d n0 k0 A tgt lv st h) (kb : zG X V own nm cc nL ret d n0 k0 B (pc + 3) lv st h) : zG X V own nm cc nL ret d n0 k0 (if x ≤ 0 then A else B) pc lv (.int x :: st) h := by
  by_cases q : x ≤ 0
  · rw [if_pos q]
    exact zstep ka (fun C _ _ _ _ _ ls _ _ hl kk => lv_if_le C.1 C.2.1 hd ht (fun _ => kk ls hl) (fun n => absurd q n))
  · rw [if_neg q]
    exact zstep kb (fun C _ _ _ _ _ ls _ _ hl kk => lv_if_le C.1 C.2.1 hd ht (fun n => absurd n q) (fun _ => kk ls hl))
theorem z_icmp_le  {x y : Int32} {off : Int} {A B : RR} (tgt : Nat) (ht : (pc : Int) + off = (tgt : Int)) (hd : decode cc pc = .ok (.if_icmp .le off, 3)) (ka : zG X V own nm cc nL ret d n0 k0 A tgt lv st h) (kb : zG X V own nm cc nL ret d n0 k0 B (pc + 3) lv st h) : zG X V own nm cc nL ret d n0 k0 (if x ≤ y then A else B) pc lv (.int y :: .int x :: st) h := by
  by_cases q : x ≤ y
  · rw [if_pos q]
    exact zstep ka (fun C _ _ _ _ _ ls _ _ hl kk => lv_icmp_le C.1 C.2.1 hd ht (fun _ => kk ls hl) (fun n => absurd q n))
  · rw [if_neg q]
    exact zstep kb (fun C _ _ _ _ _ ls _ _ hl kk => lv_icmp_le C.1 C.2.1 hd ht (fun n => absurd n q) (fun _ => kk ls hl))
theorem z_goto  {off : Int} (tgt : Nat) (ht : (pc : Int) + off = (tgt : Int)) (hd : decode cc pc = .ok (.goto off, 3)) (k : zG X V own nm cc nL ret d n0 k0 o tgt lv st h) : zG X V own nm cc nL ret d n0 k0 o pc lv st h := zstep k (fun C _ _ _ _ _ ls _ _ hl kk => lv_goto C.1 C.2.1 hd ht (kk ls hl))
theorem z_idiv  {x y : Int32} {A : RR} (hd : decode cc pc = .ok (.idiv, 1)) (k : zG X V own nm cc nL ret d n0 k0 A (pc + 1) lv (.int (x / y) :: st) h) : zG X V own nm cc nL ret d n0 k0 (if y = 0 then none else A) pc lv (.int y :: .int x :: st) h := by
  by_cases q : y = 0
  · rw [if_pos q]; exact z_none
  · rw [if_neg q]
    exact zstep k (fun C _ _ _ _ _ ls _ _ hl kk => lv_idiv C.1 C.2.1 hd q (kk ls hl))
theorem z_irem  {x y : Int32} {A : RR} (hd : decode cc pc = .ok (.irem, 1)) (k : zG X V own nm cc nL ret d n0 k0 A (pc + 1) lv (.int (x - x / y * y) :: st) h) : zG X V own nm cc nL ret d n0 k0 (if y = 0 then none else A) pc lv (.int y :: .int x :: st) h := by
  by_cases q : y = 0
  · rw [if_pos q]; exact z_none
  · rw [if_neg q]
    exact zstep k (fun C _ _ _ _ _ ls _ _ hl kk => lv_irem C.1 C.2.1 hd q (kk ls hl))
theorem z_ldc  {index : Nat} {v : Int32} (hw : Cond.constant own index v ∈ zWU) (hd : decode cc pc = .ok (.ldc index, 2)) (k : zG X V own nm cc nL ret d n0 k0 o (pc + 2) lv (.int v :: st) h) : zG X V own nm cc nL ret d n0 k0 o pc lv st h := zstep k (fun C _ _ _ _ _ ls _ _ hl kk => lv_ldc C.1 C.2.1 C.2.2.2.1 (C.2.2.2.2.1 _ hw) hd (kk ls hl))
theorem z_ldc2  {index : Nat} {v : Int64} (hw : Cond.constantLong own index v ∈ zWU) (hd : decode cc pc = .ok (.ldc2_w index, 3)) (k : zG X V own nm cc nL ret d n0 k0 o (pc + 3) lv (.long v :: st) h) : zG X V own nm cc nL ret d n0 k0 o pc lv st h := zstep k (fun C _ _ _ _ _ ls _ _ hl kk => lv_ldc2 C.1 C.2.1 C.2.2.2.1 (C.2.2.2.2.1 _ hw) hd (kk ls hl))
theorem z_ldcw  {index : Nat} {v : Int32} (hw : Cond.constant own index v ∈ zWU) (hd : decode cc pc = .ok (.ldc_w index, 3)) (k : zG X V own nm cc nL ret d n0 k0 o (pc + 3) lv (.int v :: st) h) : zG X V own nm cc nL ret d n0 k0 o pc lv st h := zstep k (fun C _ _ _ _ _ ls _ _ hl kk => lv_ldcw C.1 C.2.1 C.2.2.2.1 (C.2.2.2.2.1 _ hw) hd (kk ls hl))
theorem z_ldcs  {index : Nat} {tx : String} (j : Nat) (hj : (UInt32.ofNat j).toNat = j) (hq : (own, index, tx, j) ∈ zstr) (hd : decode cc pc = .ok (.ldc index, 2)) (k : zG X V own nm cc nL ret d n0 k0 o (pc + 2) lv (.float (UInt32.ofNat j) :: st) h) : zG X V own nm cc nL ret d n0 k0 o pc lv st h := by
  refine zstep k (fun C _ _ _ _ _ ls _ _ hl kk => ?_)
  have e : ztS V (.float (UInt32.ofNat j) :: st) = .ref (V.2.2.2.1 j) :: ztS V st := by
    show Value.ref (V.2.2.2.1 (UInt32.ofNat j).toNat) :: _ = _
    rw [hj]
  have kk9 := kk ls hl
  rw [e] at kk9
  exact va_ldcS C.1 C.2.1 C.2.2.2.1 (C.2.2.2.2.2.2.2.2.1.2.1 _ hq) hd kk9
end ZR
