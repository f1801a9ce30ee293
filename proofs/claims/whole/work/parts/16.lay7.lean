/-! OUR LAYER, part 7: throwing, calls, bodies -/
def zRT : List String := ["java/lang/RuntimeException", "java/lang/Exception"]
/-- the words of a throw -/
def zTW (own : String) (ik ic : Nat) (cls : String) (ix : Nat) (rx : ByteArray) : Prop := Bundle.fit cls = true ∧ (∀ n ∈ zRT, Bundle.fit n = true) ∧ Cond.classLink own ik cls ∈ zWU ∧ Cond.initialized cls ∈ zWU ∧ (∀ w ∈ ((Bundle.ownAtomsX own ic cls ix rx zRT).filter vx_no).filter goodWord, w ∈ zWU) ∧ (∀ w ∈ ((Bundle.ownAtomsX own ic cls ix rx zRT).filter vx_no).filter (fun w => !goodWord w), w ∈ zNG) ∧ (∀ w ∈ Cond.classLink own ik cls :: Cond.initialized cls :: (Bundle.ownAtomsX own ic cls ix rx zRT).filter vx_no, vx_ot w = true) ∧ decode rx 0 = .ok (.aload_n 0, 1) ∧ decode rx 1 = .ok (.aload_n 1, 1) ∧ decode rx 2 = .ok (.invokespecial ix, 3) ∧ decode rx 5 = .ok (.return_, 1)
theorem zNG_on : ∀ w ∈ zNG, w.onTables = true := by decide +kernel
section ZX
variable {X : CT} {V : VT} {own nm : String} {cc : ByteArray} {nL d n0 k0 : Nat} {ret : Option FieldType} {o : RR} {pc : Nat} {lv : List (Nat × Value)} {st : List Value} {h : AH} {a ci idx k : Nat}
theorem zcats (V : VT) (st : List Value) : ((ztS V st).map fun v => v.category).sum = (st.map fun v => v.category).sum := by
  rw [List.map_map]; congr 1; apply List.map_congr_left; intro v _; exact ztv_cat V v
theorem z_throw (e : Nat) (he : e < 3) {ik is ic : Nat} (tx : String) (j : Nat) (hq : (own, is, tx, j) ∈ zstr) {ix : Nat} {rx : ByteArray} (hw : zTW own ik ic (zex e) ix rx) (hst : (st.map fun v => v.category).sum ≤ 8) (hd9 : 6 ≤ d)
    (d0 : decode cc pc = .ok (.new ik, 3)) (d3 : decode cc (pc + 3) = .ok (.dup, 1)) (d4 : decode cc (pc + 4) = .ok (.ldc is, 2)) (d6 : decode cc (pc + 6) = .ok (.invokespecial ic, 3)) (d9 : decode cc (pc + 9) = .ok (.athrow, 1)) : zG X V own nm cc nL ret d n0 k0 (some (.inr e, zjnk h 6)) pc lv st h := by
  intro r hr
  cases hr
  refine ⟨⟨Nat.le_succ _, Nat.le_add_right _ _⟩, fun C mc ms a1 a2 a3 a4 H locs ls cells slots e1 e2 e3 e4 e5 => ?_⟩
  obtain ⟨w1, w2, w3, w4, w5, w6, w7, w8, w9, w10, w11⟩ := hw
  have hts := C.2.2.2.2.1
  have hE := C.2.2.2.2.2.2.2.2.1
  have b1 : h.1 + 1 = n0 + mc := a1
  have b2 : h.2.1 + 6 = k0 + ms := a2
  have hR1 := C.2.2.2.2.2.2.1.1
  have hR2 := C.2.2.2.2.2.2.1.2
  exact zthrowX (text := tx) (names := zRT) C.1 C.2.1 C.2.2.2.2.2.2.2.2.2.2.2.2 w8 w9 w10 w11 C.2.2.2.1 w1 w2 (hts _ w3) (hts _ w4) (hE.2.1 _ hq) (vx_hat (fun w hw => hts _ (w5 w hw)) w6 (fun w hw => va_Nw.use (zNG_on w hw) (hE.2.2.2.2.2.2.2.2.2.1 w hw))) w7 hE.2.2.2.2.1 hE.2.2.2.2.2.1 e4 (by rw [C.2.2.1]; exact e5.1) d0 d3 d4 d6 d9 (fun x hx => absurd hx (fun q => C.2.2.2.2.2.2.2.1 x q)) (by rw [hR1]; show 2 + 3 < d; omega) (by rw [hR2, zcats]; show _ + (13 * (2 + 1) + 43) ≤ _; omega) (by omega) (by omega) C.2.2.2.2.2.1
    (fun t hal hz hq9 => ⟨⟨e, rfl, he, rfl⟩, e3.junk hz hq9, (zS.push e4 (by omega) hq9).F rfl⟩) e4.2.2 (by omega) (by omega)
theorem zpre {args : List Value} : FrameBlind (va_Pc (args.map (ztv V)) (fun U => zE V U U.heap ∧ V.2.2.1 ≤ U.heap.size ∧ zRep V h U.heap)) := fun _ U _ _ q => ⟨q.1, zE.warm (State.WarmedH.refl U) q.2.1, q.2.2⟩
theorem zEat (C : zC X V own nm cc nL ret d) {H : Heap} {locs : List Loc} (e3 : zRep V h H) (e4 : va_S (zA V) (xs X).heap H locs) {U : State} (hU : U.heap = H) (hW : (xs X).WarmedH U.vm) : zE V U U.heap ∧ V.2.2.1 ≤ U.heap.size ∧ zRep V h U.heap := by
  rw [hU]
  exact ⟨zE.warm hW (zE.kept e4.2.1 C.2.2.2.2.2.2.2.2.1), by rw [e3.1]; exact Nat.le_add_right _ _, e3⟩
/-- what comes behind a call, out of what it comes to -/
theorem zcall_end {y : MethodName} {args : List Value} {r' r : Ot × AH} {K : Option Value → AH → RR} {rest : List Value} (hm' : h.1 ≤ r'.2.1 ∧ h.2.1 ≤ r'.2.2.1)
    (kk : ∀ v h', zG X V own nm cc nL ret d n0 k0 (K v h') (pc + 3) lv (v.toList ++ st) h') (hr : zca (some r') K = some r) {st0 : List Value}
    (run : zC X V own nm cc nL ret d → ∀ (H : Heap) (locs : List Loc) (ls : Array Slot) (cells slots : Nat), zRep V h H → va_S (zA V) (xs X).heap H locs → lv_has ls nL (ztl V lv) → cells + (r'.2.1 - h.1) ≤ (xR X).cells → slots + (r'.2.2.1 - h.2.1) ≤ (xR X).slots →
      ∃ aa, vx_Run (xp X) V.2.2.2.2.2 (xe X) (xR X) (xs X) (xm X) (xa X) (xb X) (xM X) (xc X) H locs cells slots (r'.2.1 - h.1) (r'.2.2.1 - h.2.1) (F0 (xm X) pc ls (ztS V st0)) (ztS V st) (zQ V r' aa) (zXc V r') (zA V)) :
    (h.1 ≤ r.2.1 ∧ h.2.1 ≤ r.2.2.1) ∧ (zC X V own nm cc nL ret d → ∀ mc ms : Nat, r.2.1 = n0 + mc → r.2.2.1 = k0 + ms → mc ≤ (xR X).cells → ms ≤ (xR X).slots →
    ∀ (H : Heap) (locs : List Loc) (ls : Array Slot) (cells slots : Nat), h.1 = n0 + cells → h.2.1 = k0 + slots → zRep V h H → va_S (zA V) (xs X).heap H locs → lv_has ls nL (ztl V lv) →
      zW V X H locs cells slots (vx_MQ (xb X) (zQ V r) (zXc V r) (xa X) (xs X) mc ms (zA V)) (F0 (xm X) pc ls (ztS V st0))) := by
  obtain ⟨ot, h'⟩ := r'
  have hm1 : h.1 ≤ h'.1 := hm'.1
  have hm2 : h.2.1 ≤ h'.2.1 := hm'.2
  cases ot with
  | inl v =>
    obtain ⟨hm, hw⟩ := kk v h' r hr
    refine ⟨⟨by omega, by omega⟩, fun C mc ms a1 a2 a3 a4 H locs ls cells slots e1 e2 e3 e4 e5 => ?_⟩
    obtain ⟨aa, hrun⟩ := run C H locs ls cells slots e3 e4 e5 (show cells + (h'.1 - h.1) ≤ _ by omega) (show slots + (h'.2.1 - h.2.1) ≤ _ by omega)
    intro T hT Xs
    rcases hrun T hT Xs with ⟨v', st₀, t, T', L, h0, X', hL, f1, f2, ⟨⟨v9, hv9, hoc⟩, hrep, hF⟩, hgo⟩ | ⟨q, st₀, t, T', L, E, ce, h0, X', hL, f1, f2, ⟨⟨k9, hk9, -⟩, -⟩, -⟩
    · cases hv9
      cases hoc
      obtain ⟨-, -, k3⟩ := vx_keep h0 f1 e4 (fun _ _ q => q) (fun _ q => q) hL hF
      obtain ⟨t2, t3, t4⟩ := hw C mc ms a1 a2 a3 a4 T'.heap (locs ++ L) ls (cells + (h'.1 - h.1)) (slots + (h'.2.1 - h.2.1)) (by omega) (by omega) (by rw [f1]; exact hrep) k3 e5 T' rfl X'
      refine ⟨t2, hgo t2 ?_, t4⟩
      have e9 : ztS V (v.toList ++ st) = (v.map (ztv V)).toList ++ ztS V st := by cases v <;> rfl
      rw [e9] at t3
      exact t3
    · cases hk9
  | inr e =>
    cases hr
    refine ⟨⟨hm1, hm2⟩, fun C mc ms a1 a2 a3 a4 H locs ls cells slots e1 e2 e3 e4 e5 => ?_⟩
    have b1 : h'.1 = n0 + mc := a1
    have b2 : h'.2.1 = k0 + ms := a2
    obtain ⟨aa, hrun⟩ := run C H locs ls cells slots e3 e4 e5 (show cells + (h'.1 - h.1) ≤ _ by omega) (show slots + (h'.2.1 - h.2.1) ≤ _ by omega)
    intro T hT Xs
    rcases hrun T hT Xs with ⟨v', st₀, t, T', L, h0, X', hL, f1, f2, ⟨⟨v9, hv9, -⟩, -⟩, -⟩ | ⟨q, st₀, t, T', L, E, ce, h0, X', hL, f1, f2, ⟨hk9, hrep, hF⟩, hce, hcv, hcl, hgo⟩
    · cases hv9
    · obtain ⟨-, -, k3⟩ := vx_keep h0 f1 e4 (fun _ _ q => q) (fun _ q => q) hL hF
      obtain ⟨t2, t3, t4⟩ := vx_out (p := xp X) (l := V.2.2.2.2.2) (e := xe X) (R := xR X) (s := xs X) (m := xm X) (args := xa X) (below := xb X) (meth := xM X) (c := xc X) (H := T'.heap) (locs := locs ++ L) (cells := cells + (h'.1 - h.1)) (slots := slots + (h'.2.1 - h.2.1)) (free := zA V) (ls := ls) (rest := ztS V st) (Qc := zQ V (.inr e, h')) (XC := zXc V (.inr e, h')) (pc := pc) (E := E) (ce := ce) (q := q) (mc := mc) (ms := ms) (fun x hx => absurd hx (fun q => C.2.2.2.2.2.2.2.1 x q)) C.2.2.2.2.2.1 (by rw [f1]; exact hce) hcv hcl
        (fun t' ht' hal => ⟨hk9, by rw [ht', f1]; exact hrep, k3.F ht'⟩) k3.2.2 (by omega) (by omega) T' rfl X'
      exact ⟨t2, hgo.trans t3, t4⟩
theorem z_callV {y : MethodName} {cc' : ByteArray} {nL' n : Nat} {ret' : Option FieldType} {As : List Value} (hK : zKV own idx y cc' nL' ret' ci n) (hn : As.length = n) (hst : (st.map fun v => v.category).sum ≤ 8) (hd : decode cc pc = .ok (.invokevirtual idx, 3)) {o' : RR} {K : Option Value → AH → RR}
    (hM : zM V y cc' nL' ret' d (.ref a :: As) h o') (kk : ∀ v h', zG X V own nm cc nL ret (d + 1) n0 k0 (K v h') (pc + 3) lv (v.toList ++ st) h') : zG X V own nm cc nL ret (d + 1) n0 k0 (if zob h a ci = true then zca o' K else none) pc lv (As.reverse ++ .ref a :: st) h := by
  by_cases q : zob h a ci = true
  · rw [if_pos q]
    obtain ⟨fs, hfs⟩ := zob_spec q
    intro r hr
    cases ho : o' with
    | none => rw [ho] at hr; cases hr
    | some r' =>
      rw [ho] at hr
      obtain ⟨hm', hMet⟩ := hM X r' ho
      refine zcall_end (y := y) (args := []) (rest := []) hm' kk hr (fun C H locs ls cells slots e3 e4 e5 b1 b2 => ?_)
      obtain ⟨⟨w1, w2, w3, w4, w5⟩, w6, w7, ⟨Cn, T, N⟩, hc, hCn⟩ := hK
      have hts := C.2.2.2.2.1
      have hrec := va_recv (q0 := 0) C.2.2.2.2.2.2.2.2.1.1 (zone (e3.2 a _ hfs)) hc rfl
      have hCn' : Cn = y.cls := hCn
      rw [show ((Cn, T, N) : vw_C).1 = y.cls from hCn'] at hrec
      refine ⟨_, vx_runV (As := ztS V As) (rest := ztS V st) (nL := nL) (Ts := zWU) (C := y.cls) (b := V.2.2.1 + a) ⟨C.1, C.2.1, C.2.2.1, C.2.2.2.1, hts⟩ hMet ⟨callB_of n hts (zgood zWU w3 (fun _ h => h)) rfl rfl rfl (hts _ w2) (hts _ w1) w4 ⟨by rw [C.2.2.2.2.2.2.1.1]; exact Nat.le_refl _, by rw [C.2.2.2.2.2.2.1.2]; show 8 + (nL' + 11) + 48 * d ≤ 48 * (d + 1); omega⟩, hts _ w6, hts _ w7⟩ ⟨zpre, hrec, fun U hU hW => ⟨rfl, zEat C e3 e4 hU hW⟩⟩ rfl (by rw [List.length_map]; exact hn) e5.1 ?_ (lv_room (by rw [zcats]; exact hst)) hd ⟨b1, b2⟩⟩
      show (As.reverse ++ Value.ref a :: st).map (ztv V) = _
      rw [List.map_append, List.map_reverse]; rfl
  · rw [if_neg q]; exact z_none
theorem z_callS {y : MethodName} {cc' : ByteArray} {nL' n : Nat} {ret' : Option FieldType} {As : List Value} (hK : zKS own idx y cc' nL' ret' n) (hn : As.length = n) (hst : (st.map fun v => v.category).sum ≤ 8) (hd : decode cc pc = .ok (.invokestatic idx, 3)) {o' : RR} {K : Option Value → AH → RR}
    (hM : zM V y cc' nL' ret' d As h o') (kk : ∀ v h', zG X V own nm cc nL ret (d + 1) n0 k0 (K v h') (pc + 3) lv (v.toList ++ st) h') : zG X V own nm cc nL ret (d + 1) n0 k0 (zca o' K) pc lv (As.reverse ++ st) h := by
  intro r hr
  cases ho : o' with
  | none => rw [ho] at hr; cases hr
  | some r' =>
    rw [ho] at hr
    obtain ⟨hm', hMet⟩ := hM X r' ho
    refine zcall_end (y := y) (args := []) (rest := []) hm' kk hr (fun C H locs ls cells slots e3 e4 e5 b1 b2 => ?_)
    obtain ⟨⟨w1, w2, w3, w4, w5⟩, w6⟩ := hK
    have hts := C.2.2.2.2.1
    refine ⟨_, vx_runS (As := ztS V As) (rest := ztS V st) (nL := nL) (Ts := zWU) ⟨C.1, C.2.1, C.2.2.1, C.2.2.2.1, hts⟩ hMet ⟨callB_of n hts (zgood zWU w3 (fun _ h => h)) rfl rfl rfl (hts _ w2) (hts _ w1) w4 ⟨by rw [C.2.2.2.2.2.2.1.1]; exact Nat.le_refl _, by rw [C.2.2.2.2.2.2.1.2]; show 8 + (nL' + 11) + 48 * d ≤ 48 * (d + 1); omega⟩, hts _ w6⟩ ⟨zpre, fun U hU hW => ⟨rfl, zEat C e3 e4 hU hW⟩⟩ rfl (by rw [List.length_map]; exact hn) e5.1 ?_ (lv_room (by rw [zcats]; exact hst)) hd ⟨b1, b2⟩⟩
    show (As.reverse ++ st).map (ztv V) = _
    rw [List.map_append, List.map_reverse]
theorem z_callI {y : MethodName} {cc' : ByteArray} {nL' n : Nat} {As : List Value} (hK : zKI own idx y cc' nL' n) (hn : As.length = n) (hst : (st.map fun v => v.category).sum ≤ 8) (hd : decode cc pc = .ok (.invokespecial idx, 3)) {o' : RR} {K : Option Value → AH → RR}
    (hM : zM V y cc' nL' none d (.ref a :: As) h o') (kk : ∀ v h', zG X V own nm cc nL ret (d + 1) n0 k0 (K v h') (pc + 3) lv (v.toList ++ st) h') : zG X V own nm cc nL ret (d + 1) n0 k0 (zca o' K) pc lv (As.reverse ++ .ref a :: st) h := by
  intro r hr
  cases ho : o' with
  | none => rw [ho] at hr; cases hr
  | some r' =>
    rw [ho] at hr
    obtain ⟨hm', hMet⟩ := hM X r' ho
    refine zcall_end (y := y) (args := []) (rest := []) hm' kk hr (fun C H locs ls cells slots e3 e4 e5 b1 b2 => ?_)
    obtain ⟨⟨w1, w2, w3, w4, w5⟩, w6, w7⟩ := hK
    have hts := C.2.2.2.2.1
    refine ⟨_, vx_runI (As := ztS V As) (rest := ztS V st) (nL := nL) (Ts := zWU) (b := V.2.2.1 + a) ⟨C.1, C.2.1, C.2.2.1, C.2.2.2.1, hts⟩ hMet ⟨callB_of n hts (zgood zWU w3 (fun _ h => h)) rfl rfl rfl (hts _ w2) (hts _ w1) w4 ⟨by rw [C.2.2.2.2.2.2.1.1]; exact Nat.le_refl _, by rw [C.2.2.2.2.2.2.1.2]; show 8 + (nL' + 11) + 48 * d ≤ 48 * (d + 1); omega⟩, w7, hts _ w6⟩ ⟨zpre, fun U hU hW => ⟨rfl, zEat C e3 e4 hU hW⟩⟩ rfl (by rw [List.length_map]; exact hn) e5.1 ?_ (lv_room (by rw [zcats]; exact hst)) hd ⟨b1, b2⟩⟩
    show (As.reverse ++ Value.ref a :: st).map (ztv V) = _
    rw [List.map_append, List.map_reverse]; rfl
end ZX
theorem zlv_args (V : VT) : ∀ (vs : List Value) (i : Nat), lv_args i (vs.map (ztv V)) = ztl V (lv_args i vs)
  | [], _ => rfl
  | v :: vs, i => by
    have ih := zlv_args V vs
    simp only [List.map_cons, lv_args, ztv_cat]
    first | rw [ih] | simp [ih]
theorem zlg_sl (V : VT) : ∀ vs : List Value, (lg_sl (vs.map (ztv V))).length = (lg_sl vs).length
  | [] => rfl
  | v :: vs => by
    have ih := zlg_sl V vs
    unfold lg_sl at ih ⊢
    rw [List.map_cons, List.flatMap_cons, List.flatMap_cons, List.length_append, List.length_append, ih, ztv_cat]
    split <;> rfl
/-- a body gives its method -/
theorem z_meth {V : VT} {y : MethodName} {cc : ByteArray} {nL d : Nat} {ret : Option FieldType} {args : List Value} {h : AH} {o : RR} (hV : V.2.2.2.2.2.stackTraces = false) (hy : plainName y.cls = true) (ha : (lg_sl args).length ≤ nL) (lv0 : List (Nat × Value)) (hlv : lv_args 0 args = lv0)
    (body : ∀ X : CT, zG X V y.cls y.name cc nL ret d h.1 h.2.1 o 0 lv0 [] h) : zM V y cc nL ret d args h o := by
  intro X0 r hr
  refine ⟨(body X0 r hr).1, ?_⟩
  have hm := (body X0 r hr).1
  refine vx_ofW (cc := cc) (maxL := nL) (ret := ret) hy rfl ?_
  intro p e s m args' below meth c s₁ B hml htab hP
  obtain ⟨rfl, hE, hbs, hR⟩ := hP
  have hts : ∀ w ∈ zWU, w.before (args.map (ztv V)).toArray s = true := fun w hw => atoms_spec (ws := Cond.code y cc nL ret :: zWU) B.pre w (List.mem_cons_of_mem _ hw)
  have hC : zC (p, e, (headSpec (Cond.code y cc nL ret :: zWU) { frames := d, cells := r.2.1 - h.1, slots := r.2.2.1 - h.2.1, locals := 48 * d }).room, s, m, (args.map (ztv V)).toArray, below, meth, c) V y.cls y.name cc nL ret d :=
    ⟨B.exec, B.bytes, hml, findClass_of_methodNamed B.named, hts, B.notSynchronized, ⟨rfl, rfl⟩, htab, hE, hbs, B.returns, (name_of_methodNamed B.named B.method).1, hV⟩
  have hl := lv_entry (args.map (ztv V)) (n := nL) (by rw [zlg_sl]; exact ha)
  rw [zlv_args, hlv] at hl
  rw [lg_entry_eq]
  exact (body _ r hr).2 hC (r.2.1 - h.1) (r.2.2.1 - h.2.1) (by omega) (by omega) (Nat.le_refl _) (Nat.le_refl _) s.heap [] _ 0 0 rfl rfl hR va_S.rf hl
def zKVs (own : String) (idx : Nat) (y : MethodName) (cc : ByteArray) (nL : Nat) (ret : Option FieldType) (n : Nat) : Prop :=
  zKB own idx y cc nL ret n ∧ Cond.instanceMethod y ∈ zWU ∧ Cond.selects "java/lang/String" y y ∈ zWU
