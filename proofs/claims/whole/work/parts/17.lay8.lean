/-! OUR LAYER, part 8: rows that programs print -/
def FU : Nat := 20000
def zcv (b : Bool) (o : RR) (K : Option Value → AH → RR) : RR := if b = true then zca o K else none
def zvQ (v : Option Value) (A : Nat → RR) (B : RR) : RR := match v with
  | some (.ref x) => A x
  | some .null => B
  | _ => none
def zlet (x : Int32) (K : Int32 → RR) : RR := K x
def zletJ (x : Int64) (K : Int64 → RR) : RR := K x
section ZY
variable {X : CT} {V : VT} {own nm : String} {cc : ByteArray} {nL d n0 k0 : Nat} {ret : Option FieldType} {o : RR} {pc : Nat} {lv : List (Nat × Value)} {st : List Value} {h : AH} {a ci idx k : Nat}
theorem z_inc {i : Nat} {n : Int} {x w : Int32} {lv' : List (Nat × Value)} (q : Nat) (hk : lv[q]? = some (i, .int x)) (hw : Int32.ofInt n = w) (hn : i < nL) (hl' : (i, Value.int (x + w)) :: lv.filter (fun q => !(q.1 == i) && !(q.1 + 1 == i && q.2.category == 2)) = lv') (hd : decode cc pc = .ok (.iinc i n, 3)) (kk : zG X V own nm cc nL ret d n0 k0 o (pc + 3) lv' st h) : zG X V own nm cc nL ret d n0 k0 o pc lv st h := z_iinc (v := x + w) q hk (by rw [hw]) hn hl' hd kk
theorem z_cV {y : MethodName} {cc' : ByteArray} {nL' n : Nat} {ret' : Option FieldType} (As : List Value) (hK : zKV own idx y cc' nL' ret' ci n) (hn : As.length = n) (hst : (st.map fun v => v.category).sum ≤ 8) (hd : decode cc pc = .ok (.invokevirtual idx, 3)) {o' : RR} {K : Option Value → AH → RR}
    (hM : zM V y cc' nL' ret' d (.ref a :: As) h o') (kk : ∀ v h', zG X V own nm cc nL ret (d + 1) n0 k0 (K v h') (pc + 3) lv (v.toList ++ st) h') : zG X V own nm cc nL ret (d + 1) n0 k0 (zcv (zob h a ci) o' K) pc lv (As.reverse ++ .ref a :: st) h := z_callV hK hn hst hd hM kk
theorem z_cS {y : MethodName} {cc' : ByteArray} {nL' n : Nat} {ret' : Option FieldType} (As : List Value) (hK : zKS own idx y cc' nL' ret' n) (hn : As.length = n) (hst : (st.map fun v => v.category).sum ≤ 8) (hd : decode cc pc = .ok (.invokestatic idx, 3)) {o' : RR} {K : Option Value → AH → RR}
    (hM : zM V y cc' nL' ret' d As h o') (kk : ∀ v h', zG X V own nm cc nL ret (d + 1) n0 k0 (K v h') (pc + 3) lv (v.toList ++ st) h') : zG X V own nm cc nL ret (d + 1) n0 k0 (zca o' K) pc lv (As.reverse ++ st) h := z_callS hK hn hst hd hM kk
theorem z_cI {y : MethodName} {cc' : ByteArray} {nL' n : Nat} (As : List Value) (hK : zKI own idx y cc' nL' n) (hn : As.length = n) (hst : (st.map fun v => v.category).sum ≤ 8) (hd : decode cc pc = .ok (.invokespecial idx, 3)) {o' : RR} {K : Option Value → AH → RR}
    (hM : zM V y cc' nL' none d (.ref a :: As) h o') (kk : ∀ v h', zG X V own nm cc nL ret (d + 1) n0 k0 (K v h') (pc + 3) lv (v.toList ++ st) h') : zG X V own nm cc nL ret (d + 1) n0 k0 (zca o' K) pc lv (As.reverse ++ .ref a :: st) h := z_callI hK hn hst hd hM kk
theorem z_vQ {v : Option Value} {A : Nat → RR} {B : RR} (k1 : ∀ x, zG X V own nm cc nL ret d n0 k0 (A x) pc lv (.ref x :: st) h) (k2 : zG X V own nm cc nL ret d n0 k0 B pc lv (.null :: st) h) : zG X V own nm cc nL ret d n0 k0 (zvQ v A B) pc lv (v.toList ++ st) h := by
  unfold zvQ; split
  · exact k1 _
  · exact k2
  · exact z_none
theorem z_nload_n {k : Fin 4} {i : Nat} (q : Nat) (hi : (k : Nat) = i) (hk : lv[q]? = some (i, .null)) (hd : decode cc pc = .ok (.aload_n k, 1)) (kk : zG X V own nm cc nL ret d n0 k0 o (pc + 1) lv (.null :: st) h) : zG X V own nm cc nL ret d n0 k0 o pc lv st h := zstep kk (fun C _ _ _ _ _ ls _ _ hl kk => lv_aload_nN C.1 C.2.1 hd hi (lv_at hl q (zlv hk)) (kk ls hl))
theorem z_nstore_n {k : Fin 4} {i : Nat} {lv' : List (Nat × Value)} (hi : (k : Nat) = i) (hn : i < nL) (hl' : (i, Value.null) :: lv.filter (fun q => !(q.1 == i) && !(q.1 + 1 == i && q.2.category == 2)) = lv') (hd : decode cc pc = .ok (.astore_n k, 1)) (kk : zG X V own nm cc nL ret d n0 k0 o (pc + 1) lv' st h) : zG X V own nm cc nL ret d n0 k0 o pc lv (.null :: st) h := by
  refine zstep kk (fun C _ _ _ _ _ ls _ _ hl kk => ?_)
  refine lv_astore_nN C.1 C.2.1 hd hi hl hn rfl (fun ls hl => kk ls ?_)
  rw [zfilt (fun q => by simp only [ztv_cat])] at hl
  rw [← hl']
  exact hl
theorem z_ifnonnull {x : Nat} {off : Int} (tgt : Nat) (ht : (pc : Int) + off = (tgt : Int)) (hd : decode cc pc = .ok (.ifnonnull off, 3)) (k : zG X V own nm cc nL ret d n0 k0 o tgt lv st h) : zG X V own nm cc nL ret d n0 k0 o pc lv (.ref x :: st) h := zstep k (fun C _ _ _ _ _ ls _ _ hl kk => lv_ifnonnull C.1 C.2.1 hd ht (kk ls hl))
theorem z_ifnonnullN {off : Int} (hd : decode cc pc = .ok (.ifnonnull off, 3)) (k : zG X V own nm cc nL ret d n0 k0 o (pc + 3) lv st h) : zG X V own nm cc nL ret d n0 k0 o pc lv (.null :: st) h := zstep k (fun C _ _ _ _ _ ls _ _ hl kk => lv_ifnonnullN C.1 C.2.1 hd (kk ls hl))
theorem z_tabIn {x c : Int32} (q : x = c) {dflt lo hi off : Int} {offs : Array Int} {len : Nat} (tgt : Nat) (h1 : ¬ c.toInt < lo) (h2 : ¬ hi < c.toInt) (ho : offs[(c.toInt - lo).toNat]? = some off) (ht : (pc : Int) + off = (tgt : Int)) (hd : decode cc pc = .ok (.tableswitch dflt lo hi offs, len)) (k : zG X V own nm cc nL ret d n0 k0 o tgt lv st h) : zG X V own nm cc nL ret d n0 k0 o pc lv (.int x :: st) h := by
  subst q
  exact zstep k (fun C _ _ _ _ _ ls _ _ hl kk => lv_tableIn C.1 C.2.1 hd h1 h2 ho ht (kk ls hl))
theorem z_tabOut {x : Int32} {dflt lo hi : Int} {offs : Array Int} {len : Nat} (tgt : Nat) (hx : x.toInt < lo ∨ hi < x.toInt) (ht : (pc : Int) + dflt = (tgt : Int)) (hd : decode cc pc = .ok (.tableswitch dflt lo hi offs, len)) (k : zG X V own nm cc nL ret d n0 k0 o tgt lv st h) : zG X V own nm cc nL ret d n0 k0 o pc lv (.int x :: st) h :=
  zstep k (fun C _ _ _ _ _ ls _ _ hl kk => lv_tableOut C.1 C.2.1 hd hx ht (kk ls hl))
theorem z_look {x : Int32} {dflt off : Int} {ps : Array (Int × Int)} {len : Nat} (tgt : Nat) (hp : (ps.toList.zip (ps.toList.drop 1)).all (fun (a, next) => a.1 < next.1) = true) (ho : Op.lookupswitch.offset ps.toList dflt x.toInt = off) (ht : (pc : Int) + off = (tgt : Int)) (hd : decode cc pc = .ok (.lookupswitch dflt ps, len)) (k : zG X V own nm cc nL ret d n0 k0 o tgt lv st h) : zG X V own nm cc nL ret d n0 k0 o pc lv (.int x :: st) h :=
  zstep k (fun C _ _ _ _ _ ls _ _ hl kk => lv_lookup C.1 C.2.1 hd hp ho ht (kk ls hl))
theorem z_topI {x : Int32} {K : Int32 → RR} (k : ∀ y, zG X V own nm cc nL ret d n0 k0 (K y) pc lv (.int y :: st) h) : zG X V own nm cc nL ret d n0 k0 (zlet x K) pc lv (.int x :: st) h := k x
theorem z_topJ {x : Int64} {K : Int64 → RR} (k : ∀ y, zG X V own nm cc nL ret d n0 k0 (K y) pc lv (.long y :: st) h) : zG X V own nm cc nL ret d n0 k0 (zletJ x K) pc lv (.long x :: st) h := k x
theorem z_mmax {x y : Int32} (hw : Cond.methodLink own idx Lib.Math.max.name ∈ zWU) (hw2 : Cond.static Lib.Math.max.name ∈ zWU) (hw3 : Cond.initialized "java/lang/Math" ∈ zWU) (hw4 : Cond.code Lib.Math.max.name Lib.Math.max.code 2 (some .int) ∈ zWU) (hst : (st.map fun v => v.category).sum ≤ 8) (hd9 : 1 ≤ d) (hd : decode cc pc = .ok (.invokestatic idx, 3)) (k : zG X V own nm cc nL ret d n0 k0 o (pc + 3) lv (.int (if x < y then y else x) :: st) h) : zG X V own nm cc nL ret d n0 k0 o pc lv (.int y :: .int x :: st) h := by
  intro r hr
  obtain ⟨hm, hw9⟩ := k r hr
  refine ⟨hm, fun C mc ms a1 a2 a3 a4 H locs ls cells slots e1 e2 e3 e4 e5 => ?_⟩
  have hts := C.2.2.2.2.1
  exact va_mmax C.1 C.2.1 (by rw [C.2.2.1]; exact e5.1.symm) C.2.2.2.1 (hts _ hw) (hts _ hw2) (hts _ hw3) (hts _ hw4) (by rw [C.2.2.2.2.2.2.1.1]; exact hd9) (by rw [C.2.2.2.2.2.2.1.2, zcats]; omega) (by have := hm.1; omega) (by have := hm.2; omega) hd (hw9 C mc ms a1 a2 a3 a4 H locs ls cells slots e1 e2 e3 e4 e5)
theorem z_mmin {x y : Int32} (hw : Cond.methodLink own idx Lib.Math.min.name ∈ zWU) (hw2 : Cond.static Lib.Math.min.name ∈ zWU) (hw3 : Cond.initialized "java/lang/Math" ∈ zWU) (hw4 : Cond.code Lib.Math.min.name Lib.Math.min.code 2 (some .int) ∈ zWU) (hst : (st.map fun v => v.category).sum ≤ 8) (hd9 : 1 ≤ d) (hd : decode cc pc = .ok (.invokestatic idx, 3)) (k : zG X V own nm cc nL ret d n0 k0 o (pc + 3) lv (.int (if y < x then y else x) :: st) h) : zG X V own nm cc nL ret d n0 k0 o pc lv (.int y :: .int x :: st) h := by
  intro r hr
  obtain ⟨hm, hw9⟩ := k r hr
  refine ⟨hm, fun C mc ms a1 a2 a3 a4 H locs ls cells slots e1 e2 e3 e4 e5 => ?_⟩
  have hts := C.2.2.2.2.1
  exact va_mmin C.1 C.2.1 (by rw [C.2.2.1]; exact e5.1.symm) C.2.2.2.1 (hts _ hw) (hts _ hw2) (hts _ hw3) (hts _ hw4) (by rw [C.2.2.2.2.2.2.1.1]; exact hd9) (by rw [C.2.2.2.2.2.2.1.2, zcats]; omega) (by have := hm.1; omega) (by have := hm.2; omega) hd (hw9 C mc ms a1 a2 a3 a4 H locs ls cells slots e1 e2 e3 e4 e5)
end ZY
