/-! methods with handlers -/
def zD (X : CT) (V : VT) (own : String) (cc : ByteArray) (nL : Nat) (hh : List (Nat × Nat × Nat × Nat)) (d : Nat) : Prop :=
  (xp X).tables.exec = Jvm.exec ∧ (xc X).code = cc ∧ (xc X).maxLocals = nL ∧ (xs X).vm.findClass own = some (xm X).cls ∧ (∀ w ∈ zWU, w.before (xa X) (xs X) = true) ∧ (xM X).locks = false ∧
  ((xR X).frames = d ∧ (xR X).locals = 48 * d) ∧ (xc X).exceptionTable.toList = tableOf hh ∧ zE V (xs X) (xs X).heap ∧ V.2.2.1 ≤ (xs X).heap.size ∧ (xM X).sig.returnType = some .int
def zH (X : CT) (V : VT) (own : String) (cc : ByteArray) (nL : Nat) (hh : List (Nat × Nat × Nat × Nat)) (d n0 k0 : Nat) (o : RR) (pc : Nat) (lv : List (Nat × Value)) (st : List Value) (h : AH) : Prop :=
  ∀ r, o = some r → (h.1 ≤ r.2.1 ∧ h.2.1 ≤ r.2.2.1) ∧ (zD X V own cc nL hh d → ∀ mc ms : Nat, r.2.1 = n0 + mc → r.2.2.1 = k0 + ms → mc ≤ (xR X).cells → ms ≤ (xR X).slots →
    ∀ (H : Heap) (locs : List Loc) (ls : Array Slot) (cells slots : Nat), h.1 = n0 + cells → h.2.1 = k0 + slots → zRep V h H → va_S (zA V) (xs X).heap H locs → lv_has ls nL (ztl V lv) →
      zW V X H locs cells slots (vx_MQ (xb X) (zQ V r) (zXc V r) (xa X) (xs X) mc ms (zA V)) (F0 (xm X) pc ls (ztS V st)))
/-- thrown here -/
def zHX (X : CT) (V : VT) (own : String) (cc : ByteArray) (nL : Nat) (hh : List (Nat × Nat × Nat × Nat)) (d n0 k0 : Nat) (o : RR) (pc : Nat) (lv : List (Nat × Value)) (st : List Value) (h : AH) (e : Nat) : Prop :=
  ∀ r, o = some r → (h.1 ≤ r.2.1 ∧ h.2.1 ≤ r.2.2.1) ∧ (zD X V own cc nL hh d → ∀ mc ms : Nat, r.2.1 = n0 + mc → r.2.2.1 = k0 + ms → mc ≤ (xR X).cells → ms ≤ (xR X).slots →
    ∀ (H : Heap) (locs : List Loc) (ls : Array Slot) (cells slots : Nat) (q : Addr) (ce : Cell), h.1 = n0 + cells → h.2.1 = k0 + slots → zRep V h H → va_S (zA V) (xs X).heap H locs → lv_has ls nL (ztl V lv) → H[q]? = some ce → ce.vm = .none → (xs X).vm.findClass (zex e) = some ce.cls →
      vx_W (xp X) V.2.2.2.2.2 (xe X) (xR X) (xs X) (xm X) (xa X) (xb X) (xM X) (xc X) H locs cells slots (vx_MQ (xb X) (zQ V r) (zXc V r) (xa X) (xs X) mc ms (zA V)) (F0 (xm X) pc ls (ztS V st)) q)
def ztc2 (o : RR) (K : Option Value → AH → RR) (E : Nat → AH → RR) : RR := match o with
  | some (.inl v, h) => K v h
  | some (.inr e, h) => E e h
  | none => none
def zct (b : Bool) (o : RR) (K : Option Value → AH → RR) (E : Nat → AH → RR) : RR := if b = true then ztc2 o K E else none
section YP
variable {X : CT} {V : VT} {own : String} {cc : ByteArray} {nL d n0 k0 : Nat} {hh : List (Nat × Nat × Nat × Nat)} {o : RR} {pc : Nat} {lv : List (Nat × Value)} {st : List Value} {h : AH} {a ci idx : Nat}
theorem ystep {pc' : Nat} {lv' : List (Nat × Value)} {st' : List Value} (k : zH X V own cc nL hh d n0 k0 o pc' lv' st' h)
    (f : zD X V own cc nL hh d → ∀ (H : Heap) (locs : List Loc) (cells slots : Nat) (Q : State → Prop) (ls : Array Slot), va_S (zA V) (xs X).heap H locs → zRep V h H → lv_has ls nL (ztl V lv) → (∀ ls' : Array Slot, lv_has ls' nL (ztl V lv') → zW V X H locs cells slots Q (F0 (xm X) pc' ls' (ztS V st'))) → zW V X H locs cells slots Q (F0 (xm X) pc ls (ztS V st))) : zH X V own cc nL hh d n0 k0 o pc lv st h := by
  intro r hr
  obtain ⟨hm, hw⟩ := k r hr
  exact ⟨hm, fun C mc ms a b c e H locs ls cells slots e1 e2 e3 e4 e5 => f C H locs cells slots _ ls e4 e3 e5 (fun ls' h' => hw C mc ms a b c e H locs ls' cells slots e1 e2 e3 e4 h')⟩
theorem y_none : zH X V own cc nL hh d n0 k0 none pc lv st h := fun _ hr => by cases hr
theorem yx_none {e : Nat} : zHX X V own cc nL hh d n0 k0 none pc lv st h e := fun _ hr => by cases hr
theorem y_iconst {n : Int} {v : Int32} (hv : Int32.ofInt n = v) (hd : decode cc pc = .ok (.iconst n, 1)) (k : zH X V own cc nL hh d n0 k0 o (pc + 1) lv (.int v :: st) h) : zH X V own cc nL hh d n0 k0 o pc lv st h := ystep k (fun C _ _ _ _ _ ls _ _ hl kk => lv_iconst C.1 C.2.1 hd hv (kk ls hl))
theorem y_i2l {x : Int32} (hd : decode cc pc = .ok (.i2l, 1)) (k : zH X V own cc nL hh d n0 k0 o (pc + 1) lv (.long x.toInt64 :: st) h) : zH X V own cc nL hh d n0 k0 o pc lv (.int x :: st) h := ystep k (fun C _ _ _ _ _ ls _ _ hl kk => lv_i2l C.1 C.2.1 hd rfl (kk ls hl))
theorem y_goto {off : Int} (tgt : Nat) (ht : (pc : Int) + off = (tgt : Int)) (hd : decode cc pc = .ok (.goto off, 3)) (k : zH X V own cc nL hh d n0 k0 o tgt lv st h) : zH X V own cc nL hh d n0 k0 o pc lv st h := ystep k (fun C _ _ _ _ _ ls _ _ hl kk => lv_goto C.1 C.2.1 hd ht (kk ls hl))
theorem y_iload_n {k : Fin 4} {i : Nat} {x : Int32} (q : Nat) (hi : (k : Nat) = i) (hk : lv[q]? = some (i, .int x)) (hd : decode cc pc = .ok (.iload_n k, 1)) (kk : zH X V own cc nL hh d n0 k0 o (pc + 1) lv (.int x :: st) h) : zH X V own cc nL hh d n0 k0 o pc lv st h := ystep kk (fun C _ _ _ _ _ ls _ _ hl kk => lv_iload_n C.1 C.2.1 hd hi (lv_at hl q (zlv hk)) (kk ls hl))
theorem y_iload {i : Nat} {x : Int32} (q : Nat) (hk : lv[q]? = some (i, .int x)) (hd : decode cc pc = .ok (.iload i, 2)) (kk : zH X V own cc nL hh d n0 k0 o (pc + 2) lv (.int x :: st) h) : zH X V own cc nL hh d n0 k0 o pc lv st h := ystep kk (fun C _ _ _ _ _ ls _ _ hl kk => lv_iload C.1 C.2.1 hd (lv_at hl q (zlv hk)) (kk ls hl))
theorem y_aload_n {k : Fin 4} {i : Nat} {x : Nat} (q : Nat) (hi : (k : Nat) = i) (hk : lv[q]? = some (i, .ref x)) (hd : decode cc pc = .ok (.aload_n k, 1)) (kk : zH X V own cc nL hh d n0 k0 o (pc + 1) lv (.ref x :: st) h) : zH X V own cc nL hh d n0 k0 o pc lv st h := ystep kk (fun C _ _ _ _ _ ls _ _ hl kk => lv_aload_n C.1 C.2.1 hd hi (lv_at hl q (zlv hk)) (kk ls hl))
theorem y_aload {i : Nat} {x : Nat} (q : Nat) (hk : lv[q]? = some (i, .ref x)) (hd : decode cc pc = .ok (.aload i, 2)) (kk : zH X V own cc nL hh d n0 k0 o (pc + 2) lv (.ref x :: st) h) : zH X V own cc nL hh d n0 k0 o pc lv st h := ystep kk (fun C _ _ _ _ _ ls _ _ hl kk => lv_aload C.1 C.2.1 hd (lv_at hl q (zlv hk)) (kk ls hl))
theorem y_sJ {i : Int32} {x : Int64} (hd : decode cc pc = .ok (.lastore, 1)) {K : AH → RR} (kk : ∀ h', zH X V own cc nL hh d n0 k0 (K h') (pc + 1) lv st h') : zH X V own cc nL hh d n0 k0 ((zsl h a i x).bind K) pc lv (.long x :: .int i :: .ref a :: st) h := by
  intro r hr
  cases hz : zsl h a i x with
  | none => rw [hz] at hr; cases hr
  | some h' =>
    rw [hz] at hr
    obtain ⟨n, f, hh, hin, rfl⟩ := zsl_spec hz
    obtain ⟨hm, hw⟩ := kk _ r hr
    refine ⟨hm, fun C mc ms a1 a2 a3 a4 H locs ls cells slots e1 e2 e3 e4 e5 => ?_⟩
    have hK := C.2.2.2.2.2.2.2.2.1.1
    have hcell : H[V.2.2.1 + a]? = some (arrV (V.2.1 1) n (fun j => .long (f j))) := e3.2 a _ hh
    refine W.last C.1 C.2.1 hcell ((hK.2 1 _ rfl).1 n _) (fun q => by cases q) (by rw [arrV_size]; exact hin) rfl rfl hd fun H1 e z oq => ?_
    refine hw C mc ms a1 a2 a3 a4 H1 _ ls cells slots e1 e2 (e3.put z ?_ oq) (e4.put z oq (Nat.le_add_right _ _)) e5
    show H1[V.2.2.1 + a]? = some (vp_cell _ _)
    rw [e, vp_cell_l, arrV_store]
    congr 2
    funext q
    by_cases hq : q = i.toNatClampNeg
    · subst hq; simp [updV, va_up]
    · simp [updV, va_up, hq]
theorem y_iret {x : Int32} (hd : decode cc pc = .ok (.ireturn, 1)) : zH X V own cc nL hh d n0 k0 (some (.inl (some (.int x)), h)) pc lv [.int x] h := by
  intro r hr
  cases hr
  refine ⟨⟨Nat.le_refl _, Nat.le_refl _⟩, fun C mc ms a1 a2 a3 a4 H locs ls cells slots e1 e2 e3 e4 e5 => ?_⟩
  have em : mc = cells := Nat.add_left_cancel (a1.symm.trans e1)
  have es : ms = slots := Nat.add_left_cancel (a2.symm.trans e2)
  subst em; subst es
  exact vx_ret (W.iret C.1 C.2.1 C.2.2.2.2.2.2.2.2.2.2 (fun t ht hW => ⟨⟨_, rfl, rfl⟩, by rw [ht]; exact e3, e4.F ht⟩) e4.2.2 hd C.2.2.2.2.2.1)
theorem y_vi {v : Option Value} {K : Int32 → RR} (kk : ∀ x, zH X V own cc nL hh d n0 k0 (K x) pc lv (.int x :: st) h) : zH X V own cc nL hh d n0 k0 (zvi v K) pc lv (v.toList ++ st) h := by
  unfold zvi; split
  · exact kk _
  · exact y_none
theorem y_vj {v : Option Value} {K : Int64 → RR} (kk : ∀ x, zH X V own cc nL hh d n0 k0 (K x) pc lv (.long x :: st) h) : zH X V own cc nL hh d n0 k0 (zvj v K) pc lv (v.toList ++ st) h := by
  unfold zvj; split
  · exact kk _
  · exact y_none
/-- the call, and what comes behind it, thrown or not -/
theorem y_cT {y : MethodName} {cc' : ByteArray} {nL' n : Nat} {ret' : Option FieldType} (As : List Value) (hK : zKV own idx y cc' nL' ret' ci n) (hn : As.length = n) (hst : (st.map fun v => v.category).sum ≤ 8) (hd : decode cc pc = .ok (.invokevirtual idx, 3)) {o' : RR} {K : Option Value → AH → RR} {E : Nat → AH → RR}
    (hM : zM V y cc' nL' ret' d (.ref a :: As) h o') (kk : ∀ v h', zH X V own cc nL hh (d + 1) n0 k0 (K v h') (pc + 3) lv (v.toList ++ st) h') (kx : ∀ e h', e < 3 → zHX X V own cc nL hh (d + 1) n0 k0 (E e h') pc lv st h' e) (kx3 : ∀ e h', ¬ e < 3 → E e h' = none) : zH X V own cc nL hh (d + 1) n0 k0 (zct (zob h a ci) o' K E) pc lv (As.reverse ++ .ref a :: st) h := by
  unfold zct
  by_cases q : zob h a ci = true
  · rw [if_pos q]
    obtain ⟨fs, hfs⟩ := zob_spec q
    intro r hr
    cases ho : o' with
    | none => rw [ho] at hr; cases hr
    | some r' =>
      rw [ho] at hr
      obtain ⟨hm', hMet⟩ := hM X r' ho
      obtain ⟨⟨w1, w2, w3, w4, w5⟩, w6, w7, ⟨Cn, T, N⟩, hc, hCn⟩ := hK
      have run : zD X V own cc nL hh (d + 1) → ∀ (H : Heap) (locs : List Loc) (ls : Array Slot) (cells slots : Nat), zRep V h H → va_S (zA V) (xs X).heap H locs → lv_has ls nL (ztl V lv) → cells + (r'.2.1 - h.1) ≤ (xR X).cells → slots + (r'.2.2.1 - h.2.1) ≤ (xR X).slots →
          vx_Run (xp X) V.2.2.2.2.2 (xe X) (xR X) (xs X) (xm X) (xa X) (xb X) (xM X) (xc X) H locs cells slots (r'.2.1 - h.1) (r'.2.2.1 - h.2.1) (F0 (xm X) pc ls (ztS V (As.reverse ++ .ref a :: st))) (ztS V st) (zQ V r' (Value.ref (V.2.2.1 + a) :: ztS V As).toArray) (zXc V r') (zA V) := by
        intro C H locs ls cells slots e3 e4 e5 b1 b2
        have hts := C.2.2.2.2.1
        have hrec := va_recv (q0 := 0) C.2.2.2.2.2.2.2.2.1.1 (zone (e3.2 a _ hfs)) hc rfl
        have hCn' : Cn = y.cls := hCn
        rw [show ((Cn, T, N) : vw_C).1 = y.cls from hCn'] at hrec
        refine vx_runV (As := ztS V As) (rest := ztS V st) (nL := nL) (Ts := zWU) (C := y.cls) (b := V.2.2.1 + a) ⟨C.1, C.2.1, C.2.2.1, C.2.2.2.1, hts⟩ hMet ⟨callB_of n hts (zgood zWU w3 (fun _ h => h)) rfl rfl rfl (hts _ w2) (hts _ w1) w4 ⟨by rw [C.2.2.2.2.2.2.1.1]; exact Nat.le_refl _, by rw [C.2.2.2.2.2.2.1.2]; show 8 + (nL' + 11) + 48 * d ≤ 48 * (d + 1); omega⟩, hts _ w6, hts _ w7⟩ ⟨zpre, hrec, fun U hU hW => ⟨rfl, ?_⟩⟩ rfl (by rw [List.length_map]; exact hn) e5.1 ?_ (lv_room (by rw [zcats]; exact hst)) hd ⟨b1, b2⟩
        · show zE V U U.heap ∧ V.2.2.1 ≤ U.heap.size ∧ zRep V h U.heap
          rw [hU]
          exact ⟨zE.warm hW (zE.kept e4.2.1 C.2.2.2.2.2.2.2.2.1), by rw [e3.1]; exact Nat.le_add_right _ _, e3⟩
        · show (As.reverse ++ Value.ref a :: st).map (ztv V) = _
          rw [List.map_append, List.map_reverse]; rfl
      obtain ⟨ot, h'⟩ := r'
      have hm1 : h.1 ≤ h'.1 := hm'.1
      have hm2 : h.2.1 ≤ h'.2.1 := hm'.2
      cases ot with
      | inl v =>
        obtain ⟨hm, hw⟩ := kk v h' r hr
        refine ⟨⟨by omega, by omega⟩, fun C mc ms a1 a2 a3 a4 H locs ls cells slots e1 e2 e3 e4 e5 => ?_⟩
        have hrun := run C H locs ls cells slots e3 e4 e5 (show cells + (h'.1 - h.1) ≤ _ by omega) (show slots + (h'.2.1 - h.2.1) ≤ _ by omega)
        intro T hT Xs
        rcases hrun T hT Xs with ⟨v', st₀, t, T', L, h0, X', hL, f1, f2, ⟨⟨v9, hv9, hoc⟩, hrep, hF⟩, hgo⟩ | ⟨q, st₀, t, T', L, E, ce, h0, X', hL, f1, f2, ⟨⟨k9, hk9, -⟩, -⟩, -⟩
        · cases hv9
          cases hoc
          obtain ⟨-, -, k3⟩ := vx_keep h0 f1 e4 (fun _ _ q => q) (fun _ q => q) hL hF
          obtain ⟨t2, t3, t4⟩ := hw C mc ms a1 a2 a3 a4 T'.heap (locs ++ L) ls (cells + (h'.1 - h.1)) (slots + (h'.2.1 - h.2.1)) (by omega) (by omega) (by rw [f1]; exact hrep) k3 e5 T' rfl X'
          refine ⟨t2, hgo t2 ?_, t4⟩
          have e9 : ztS V (v.toList ++ st) = (v.map (ztv V)).toList ++ ztS V st := by cases v <;> rfl
          rw [e9] at t3
          exact t3
        · cases hk9
      | inr e =>
        by_cases he : e < 3
        · obtain ⟨hm, hw⟩ := kx e h' he r hr
          refine ⟨⟨by omega, by omega⟩, fun C mc ms a1 a2 a3 a4 H locs ls cells slots e1 e2 e3 e4 e5 => ?_⟩
          have hrun := run C H locs ls cells slots e3 e4 e5 (show cells + (h'.1 - h.1) ≤ _ by omega) (show slots + (h'.2.1 - h.2.1) ≤ _ by omega)
          intro T hT Xs
          rcases hrun T hT Xs with ⟨v', st₀, t, T', L, h0, X', hL, f1, f2, ⟨⟨v9, hv9, -⟩, -⟩, -⟩ | ⟨q, st₀, t, T', L, E, ce, h0, X', hL, f1, f2, ⟨⟨k9, hk9, hk3, hkE⟩, hrep, hF⟩, hce, hcv, hcl, hgo⟩
          · cases hv9
          · cases hk9
            subst hkE
            obtain ⟨-, -, k3⟩ := vx_keep h0 f1 e4 (fun _ _ q => q) (fun _ q => q) hL hF
            obtain ⟨t2, t3, t4⟩ := hw C mc ms a1 a2 a3 a4 T'.heap (locs ++ L) ls (cells + (h'.1 - h.1)) (slots + (h'.2.1 - h.2.1)) q ce (by omega) (by omega) (by rw [f1]; exact hrep) k3 e5 (by rw [f1]; exact hce) hcv hcl T' rfl X'
            exact ⟨t2, hgo.trans t3, t4⟩
        · have hr' : E e h' = some r := hr
          rw [kx3 e h' he] at hr'
          cases hr'
  · rw [if_neg q]; exact y_none
/-- a handler: its row of the table, and the store of what was caught, which nobody asks for -/
theorem y_catch {e hp i len : Nat} (he : e < 3) (pre : List (Nat × Nat × Nat × Nat)) (ps : List Nat) (x : Nat × Nat × Nat × Nat) (suf : List (Nat × Nat × Nat × Nat)) (hsplit : hh = pre ++ x :: suf) (hps : ps.length = pre.length) (hpass : ∀ (j : Nat) (z : Nat × Nat × Nat × Nat) (c : Nat), pre[j]? = some z → ps[j]? = some c → z.2.2.2 ≠ 0 ∧ c < 3 ∧ c ≠ e ∧ Cond.classLink own z.2.2.2 (zex c) ∈ zWU)
    (hx : covers ⟨x.1, x.2.1, x.2.2.1, x.2.2.2⟩ pc = true) (h0 : x.2.2.2 ≠ 0) (hl : Cond.classLink own x.2.2.2 (zex e) ∈ zWU) (hhp : x.2.2.1 = hp) (hi : i < nL) {lv' : List (Nat × Value)} (hl' : lv.filter (fun q => !(q.1 == i) && !(q.1 + 1 == i && q.2.category == 2)) = lv') (hd : (decode cc hp = .ok (.astore i, 2) ∧ len = 2) ∨ (∃ k : Fin 4, decode cc hp = .ok (.astore_n k, 1) ∧ (k : Nat) = i ∧ len = 1))
    (kk : zH X V own cc nL hh d n0 k0 o (hp + len) lv' [] h) : zHX X V own cc nL hh d n0 k0 o pc lv st h e := by
  intro r hr
  obtain ⟨hm, hw⟩ := kk r hr
  refine ⟨hm, fun C mc ms a1 a2 a3 a4 H locs ls cells slots q ce e1 e2 e3 e4 e5 g1 g2 g3 => ?_⟩
  have hts := C.2.2.2.2.1
  have hE := C.2.2.2.2.2.2.2.2.1
  have htab := C.2.2.2.2.2.2.2.1
  subst hhp
  have hcast : va_Nw (.castable (zex e) (zex e)) (xs X) := by
    have h3 := hE.2.2.2.2.2.2.2.2.2.1
    match e, he with
    | 0, _ => exact h3 _ (by simp [zNG])
    | 1, _ => exact h3 _ (by simp [zNG])
    | 2, _ => exact h3 _ (by simp [zNG])
  refine vx_catch (own := own) (name := zex e) (E := zex e) C.2.2.2.1 (tableOf pre) ⟨x.1, x.2.1, x.2.2.1, x.2.2.2⟩ (tableOf suf) ?_ ?_ hx h0 (hts _ hl) (va_Nw.use rfl hcast) g1 g2 g3 ?_
  · rw [htab, hsplit]
    simp [tableOf]
  · intro z hz
    obtain ⟨z', hz', rfl⟩ := List.mem_map.mp hz
    obtain ⟨j, hj⟩ := List.getElem?_of_mem hz'
    have hjl : j < ps.length := by rw [hps]; exact (List.getElem?_eq_some_iff.mp hj).1
    obtain ⟨p1, p2, p3, p4⟩ := hpass j z' _ hj (List.getElem?_eq_getElem hjl)
    exact Or.inr ⟨p1, _, hts _ p4, hE.2.2.2.2.2.2.2.2.1 e _ he p2 (Ne.symm p3)⟩
  · have fin : ∀ ls' : Array Slot, lv_has ls' nL ((i, Value.ref q) :: (ztl V lv).filter (fun q => !(q.1 == i) && !(q.1 + 1 == i && q.2.category == 2))) → lv_has ls' nL (ztl V lv') := by
      intro ls' hl9
      rw [zfilt (fun q => by simp only [ztv_cat])] at hl9
      rw [hl'] at hl9
      exact ⟨hl9.1, hl9.2.1, fun z hz => hl9.2.2 z (List.mem_cons_of_mem _ hz)⟩
    rcases hd with ⟨hd, rfl⟩ | ⟨k, hd, hki, rfl⟩
    · exact lv_astore C.1 C.2.1 hd e5 hi rfl (fun ls' hl9 => hw C mc ms a1 a2 a3 a4 H locs ls' cells slots e1 e2 e3 e4 (fin ls' hl9))
    · exact lv_astore_n C.1 C.2.1 hd hki e5 hi rfl (fun ls' hl9 => hw C mc ms a1 a2 a3 a4 H locs ls' cells slots e1 e2 e3 e4 (fin ls' hl9))
end YP
/-- a method with handlers: what it comes to; it never throws -/
def zMW (V : VT) (y : MethodName) (cc : ByteArray) (nL : Nat) (hh : List (Nat × Nat × Nat × Nat)) (d : Nat) (args : List Value) (h : AH) (o : RR) : Prop :=
  ∀ (_ : CT) (r : Ot × AH), o = some r → (h.1 ≤ r.2.1 ∧ h.2.1 ≤ r.2.2.1) ∧ vx_Met V.2.2.2.2.2 y (Cond.codeWith y cc nL (some .int) hh :: zWU) { frames := d, cells := r.2.1 - h.1, slots := r.2.2.1 - h.2.1, locals := 48 * d }
    (va_Pc (args.map (ztv V)) (fun U => zE V U U.heap ∧ V.2.2.1 ≤ U.heap.size ∧ zRep V h U.heap)) (zQ V r) (zXc V r) (r.2.1 - h.1) (r.2.2.1 - h.2.1) (zA V)
theorem y_meth {V : VT} {y : MethodName} {cc : ByteArray} {nL d : Nat} {hh : List (Nat × Nat × Nat × Nat)} {args : List Value} {h : AH} {o : RR} (hy : plainName y.cls = true) (ha : (lg_sl args).length ≤ nL) (lv0 : List (Nat × Value)) (hlv : lv_args 0 args = lv0)
    (body : ∀ X : CT, zH X V y.cls cc nL hh d h.1 h.2.1 o 0 lv0 [] h) : zMW V y cc nL hh d args h o := by
  intro X0 r hr
  refine ⟨(body X0 r hr).1, ?_⟩
  have hm := (body X0 r hr).1
  refine vx_ofWH (cc := cc) (maxL := nL) (ret := some .int) (hh := hh) hy rfl ?_
  intro p e s m args' below meth c s₁ B hml hP
  obtain ⟨rfl, hE, hbs, hR⟩ := hP
  have hts : ∀ w ∈ zWU, w.before (args.map (ztv V)).toArray s = true := fun w hw => atoms_spec (ws := Cond.codeWith y cc nL (some .int) hh :: zWU) B.pre w (List.mem_cons_of_mem _ hw)
  have htab := vx_table (x := y) B (atoms_spec (ws := Cond.codeWith y cc nL (some .int) hh :: zWU) B.pre _ List.mem_cons_self)
  have hC : zD (p, e, (headSpec (Cond.codeWith y cc nL (some .int) hh :: zWU) { frames := d, cells := r.2.1 - h.1, slots := r.2.2.1 - h.2.1, locals := 48 * d }).room, s, m, (args.map (ztv V)).toArray, below, meth, c) V y.cls cc nL hh d :=
    ⟨B.exec, B.bytes, hml, findClass_of_methodNamed B.named, hts, B.notSynchronized, ⟨rfl, rfl⟩, htab, hE, hbs, B.returns⟩
  have hl := lv_entry (args.map (ztv V)) (n := nL) (by rw [zlg_sl]; exact ha)
  rw [zlv_args, hlv] at hl
  rw [lg_entry_eq]
  exact (body _ r hr).2 hC (r.2.1 - h.1) (r.2.2.1 - h.2.1) (by omega) (by omega) (Nat.le_refl _) (Nat.le_refl _) s.heap [] _ 0 0 rfl rfl hR va_S.rf hl
def zKW (own : String) (idx : Nat) (y : MethodName) (cc : ByteArray) (nL : Nat) (hh : List (Nat × Nat × Nat × Nat)) (n : Nat) : Prop :=
  Cond.methodLink own idx y ∈ zWU ∧ Cond.initialized y.cls ∈ zWU ∧ Cond.codeWith y cc nL (some .int) hh ∈ zWU ∧ (y.cls ≠ "java/lang/invoke/MethodHandle" ∧ y.cls ≠ "java/lang/invoke/VarHandle" ∧ (parseMethodDescriptor y.desc).map (fun d => d.parameters.length) = some n) ∧ nL ≤ 29 ∧ Cond.static y ∈ zWU
section ZV
variable {X : CT} {V : VT} {own nm : String} {cc : ByteArray} {nL d n0 k0 : Nat} {ret : Option FieldType} {o : RR} {pc : Nat} {lv : List (Nat × Value)} {st : List Value} {h : AH} {a ci idx k : Nat}
theorem z_cW {y : MethodName} {cc' : ByteArray} {nL' n : Nat} {hh : List (Nat × Nat × Nat × Nat)} (As : List Value) (hK : zKW own idx y cc' nL' hh n) (hn : As.length = n) (hst : (st.map fun v => v.category).sum ≤ 8) (hd : decode cc pc = .ok (.invokestatic idx, 3)) {o' : RR} {K : Option Value → AH → RR}
    (hM : zMW V y cc' nL' hh d As h o') (kk : ∀ v h', zG X V own nm cc nL ret (d + 1) n0 k0 (K v h') (pc + 3) lv (v.toList ++ st) h') : zG X V own nm cc nL ret (d + 1) n0 k0 (zca o' K) pc lv (As.reverse ++ st) h := by
  intro r hr
  cases ho : o' with
  | none => rw [ho] at hr; cases hr
  | some r' =>
    rw [ho] at hr
    obtain ⟨hm', hMet⟩ := hM X r' ho
    refine zcall_end (y := y) (args := []) (rest := []) hm' kk hr (fun C H locs ls cells slots e3 e4 e5 b1 b2 => ?_)
    obtain ⟨w1, w2, w3, w4, w5, w6⟩ := hK
    have hts := C.2.2.2.2.1
    refine ⟨_, vx_runSX (n := n) (hh := hh) (As := ztS V As) (rest := ztS V st) (nL := nL) (Ts := zWU) ⟨C.1, C.2.1, C.2.2.1, C.2.2.2.1, hts⟩ hMet ⟨⟨rfl, rfl, by rw [C.2.2.2.2.2.2.1.1]; exact Nat.le_refl _, by rw [C.2.2.2.2.2.2.1.2]; show 8 + (nL' + 11) + 48 * d ≤ 48 * (d + 1); omega, pay_in hts (zgood zWU w3 (fun _ h => h)), List.mem_cons_self⟩, hts _ w3, hts _ w2, ⟨w4.1, w4.2.1⟩, fun sig hsig => ?_, hts _ w1, hts _ w6⟩ ⟨zpre, fun U hU hW => ⟨rfl, zEat C e3 e4 hU hW⟩⟩ rfl (by rw [List.length_map]; exact hn) e5.1 ?_ (lv_room (by rw [zcats]; exact hst)) hd ⟨b1, b2⟩⟩
    · have h2 := w4.2.2
      rw [hsig] at h2
      exact (Option.some.inj h2).symm
    · show (As.reverse ++ st).map (ztv V) = _
      rw [List.map_append, List.map_reverse]
end ZV
