/-! texts: the JDK's own methods on our five words -/
def zslen (j : UInt32) : Option Int32 := if j.toNat < 5 then some (nI (zbyt.getD j.toNat []).length) else none
def zschar (j : UInt32) (i : Int32) : Option Int32 := if j.toNat < 5 ∧ ¬ (i < 0 ∨ (zbyt.getD j.toNat []).length ≤ i.toNatClampNeg) then some ((zbyt.getD j.toNat []).getD i.toNatClampNeg 0) else none
theorem zbyt_ok : ∀ i, i < 5 → (∀ k, k < (zbyt.getD i []).length → ((((zbyt.getD i []).getD k 0 &&& 255).toUInt32 % 65536).toInt32 = (zbyt.getD i []).getD k 0 ∧ narrow .char (.int ((zbyt.getD i []).getD k 0)) = .int ((zbyt.getD i []).getD k 0))) ∧ (zbyt.getD i []).length < 8 ∧ (UInt32.ofNat i).toNat = i ∧ (UInt32.ofNat (100 + i)).toNat = 100 + i ∧ nI (zbyt.getD i []).length >>> ((0 : Int32) &&& 31) = nI (zbyt.getD i []).length := by decide +kernel
section ZS
variable {X : CT} {V : VT} {own nm : String} {cc : ByteArray} {nL d n0 k0 : Nat} {ret : Option FieldType} {o : RR} {pc : Nat} {lv : List (Nat × Value)} {st : List Value} {h : AH} {a ci idx k : Nat}
theorem z_eqF {x : Int32} {off : Int} (tgt : Nat) (hx : ¬ x = 0) (ht : (pc : Int) + off = (tgt : Int)) (hd : decode cc pc = .ok (.ifCond .eq off, 3)) (k : zG X V own nm cc nL ret d n0 k0 o (pc + 3) lv st h) : zG X V own nm cc nL ret d n0 k0 o pc lv (.int x :: st) h := zstep k (fun C _ _ _ _ _ ls _ _ hl kk => lv_if_eq C.1 C.2.1 hd ht (fun q => absurd q hx) (fun _ => kk ls hl))
theorem z_neF {x : Int32} {off : Int} (tgt : Nat) (hx : x = 0) (ht : (pc : Int) + off = (tgt : Int)) (hd : decode cc pc = .ok (.ifCond .ne off, 3)) (k : zG X V own nm cc nL ret d n0 k0 o (pc + 3) lv st h) : zG X V own nm cc nL ret d n0 k0 o pc lv (.int x :: st) h := zstep k (fun C _ _ _ _ _ ls _ _ hl kk => lv_if_ne C.1 C.2.1 hd ht (fun q => absurd hx q) (fun _ => kk ls hl))
theorem z_ltF {x : Int32} {off : Int} (tgt : Nat) (hx : ¬ x < 0) (ht : (pc : Int) + off = (tgt : Int)) (hd : decode cc pc = .ok (.ifCond .lt off, 3)) (k : zG X V own nm cc nL ret d n0 k0 o (pc + 3) lv st h) : zG X V own nm cc nL ret d n0 k0 o pc lv (.int x :: st) h := zstep k (fun C _ _ _ _ _ ls _ _ hl kk => lv_if_lt C.1 C.2.1 hd ht (fun q => absurd q hx) (fun _ => kk ls hl))
theorem z_iltT {x y : Int32} {off : Int} (tgt : Nat) (hx : x < y) (ht : (pc : Int) + off = (tgt : Int)) (hd : decode cc pc = .ok (.if_icmp .lt off, 3)) (k : zG X V own nm cc nL ret d n0 k0 o tgt lv st h) : zG X V own nm cc nL ret d n0 k0 o pc lv (.int y :: .int x :: st) h := zstep k (fun C _ _ _ _ _ ls _ _ hl kk => lv_icmp_lt C.1 C.2.1 hd ht (fun _ => kk ls hl) (fun q => absurd hx q))
theorem z_xret {x : Int32} {ty : FieldType} (hret : ret = some ty) (hn : narrow ty (.int x) = .int x) (hd : decode cc pc = .ok (.ireturn, 1)) : zG X V own nm cc nL ret d n0 k0 (some (.inl (some (.int x)), h)) pc lv [.int x] h := by
  intro r hr
  cases hr
  refine ⟨⟨Nat.le_refl _, Nat.le_refl _⟩, fun C mc ms a1 a2 a3 a4 H locs ls cells slots e1 e2 e3 e4 e5 => ?_⟩
  have em : mc = cells := Nat.add_left_cancel (a1.symm.trans e1)
  have es : ms = slots := Nat.add_left_cancel (a2.symm.trans e2)
  subst em; subst es
  exact vx_ret (W.zret C.1 C.2.1 (C.2.2.2.2.2.2.2.2.2.2.1.trans hret) hn (fun t ht hW => ⟨⟨_, rfl, rfl⟩, by rw [ht]; exact e3, e4.F ht⟩) e4.2.2 hd C.2.2.2.2.2.1)
theorem z_sC (hw : Cond.fieldLink own idx "java/lang/String" "COMPACT_STRINGS" "Z" ∈ zWU) (hd : decode cc pc = .ok (.getstatic idx, 3)) (k : zG X V own nm cc nL ret d n0 k0 o (pc + 3) lv (.int 1 :: st) h) : zG X V own nm cc nL ret d n0 k0 o pc lv st h := zstep k (fun C _ _ _ _ _ ls hS _ hl kk => va_gets C.1 C.2.1 C.2.2.2.2.2.2.2.2.1.2.2.2.1 hS C.2.2.2.1 (C.2.2.2.2.1 _ hw) (fun _ q => q) hd (kk ls hl))
theorem z_sF (hw : Cond.fieldLink own idx "jdk/internal/util/Preconditions" "SIOOBE_FORMATTER" "Ljava/util/function/BiFunction;" ∈ zWU) (hd : decode cc pc = .ok (.getstatic idx, 3)) (k : ∀ v, v = .null ∨ v = .float 300 → zG X V own nm cc nL ret d n0 k0 o (pc + 3) lv (v :: st) h) : zG X V own nm cc nL ret d n0 k0 o pc lv st h := by
  intro r hr
  refine ⟨(k .null (Or.inl rfl) r hr).1, fun C mc ms a1 a2 a3 a4 H locs ls cells slots e1 e2 e3 e4 e5 => ?_⟩
  rcases C.2.2.2.2.2.2.2.2.1.2.2.2.2.2.2.2.2.2.2 with hz | hz
  · exact va_gets C.1 C.2.1 hz e4 C.2.2.2.1 (C.2.2.2.2.1 _ hw) (fun _ q => q) hd ((k .null (Or.inl rfl) r hr).2 C mc ms a1 a2 a3 a4 H locs ls cells slots e1 e2 e3 e4 e5)
  · exact va_gets C.1 C.2.1 hz e4 C.2.2.2.1 (C.2.2.2.2.1 _ hw) (fun _ q => q) hd ((k (.float 300) (Or.inr rfl) r hr).2 C mc ms a1 a2 a3 a4 H locs ls cells slots e1 e2 e3 e4 e5)
theorem z_sV {i : Nat} (hi : i < 5) (hw : Cond.fieldLink own idx "java/lang/String" "value" "[B" ∈ zWU) (hd : decode cc pc = .ok (.getfield idx, 3)) (k : zG X V own nm cc nL ret d n0 k0 o (pc + 3) lv (.float (UInt32.ofNat (100 + i)) :: st) h) : zG X V own nm cc nL ret d n0 k0 o pc lv (.float (UInt32.ofNat i) :: st) h := by
  refine zstep k (fun C H locs cells slots Q ls hS _ hl kk => ?_)
  obtain ⟨-, -, h1, h2, -⟩ := zbyt_ok i hi
  have kk9 : zW V X H locs cells slots Q (F0 (xm X) (pc + 3) ls (.ref (V.2.2.2.1 (UInt32.ofNat (100 + i)).toNat) :: ztS V st)) := kk ls hl
  rw [h2] at kk9
  show zW V X H locs cells slots Q (F0 (xm X) pc ls (.ref (V.2.2.2.1 (UInt32.ofNat i).toNat) :: ztS V st))
  rw [h1]
  exact vk_getf C.1 C.2.1 (C.2.2.2.2.2.2.2.2.1.2.2.1 i hi).2.2.1 hS C.2.2.2.1 (C.2.2.2.2.1 _ hw) (fun _ q => q) hd kk9
theorem z_sG {i : Nat} (hi : i < 5) (hw : Cond.fieldLink own idx "java/lang/String" "coder" "B" ∈ zWU) (hd : decode cc pc = .ok (.getfield idx, 3)) (k : zG X V own nm cc nL ret d n0 k0 o (pc + 3) lv (.int 0 :: st) h) : zG X V own nm cc nL ret d n0 k0 o pc lv (.float (UInt32.ofNat i) :: st) h := by
  refine zstep k (fun C H locs cells slots Q ls hS _ hl kk => ?_)
  obtain ⟨-, -, h1, -, -⟩ := zbyt_ok i hi
  show zW V X H locs cells slots Q (F0 (xm X) pc ls (.ref (V.2.2.2.1 (UInt32.ofNat i).toNat) :: ztS V st))
  rw [h1]
  exact vk_getf C.1 C.2.1 (C.2.2.2.2.2.2.2.2.1.2.2.1 i hi).2.1 hS C.2.2.2.1 (C.2.2.2.2.1 _ hw) (fun _ q => q) hd (kk ls hl)
theorem z_sL {i : Nat} (hi : i < 5) (hd : decode cc pc = .ok (.arraylength, 1)) (k : zG X V own nm cc nL ret d n0 k0 o (pc + 1) lv (.int (nI (zbyt.getD i []).length) :: st) h) : zG X V own nm cc nL ret d n0 k0 o pc lv (.float (UInt32.ofNat (100 + i)) :: st) h := by
  refine zstep k (fun C H locs cells slots Q ls hS _ hl kk => ?_)
  obtain ⟨-, -, -, h2, -⟩ := zbyt_ok i hi
  show zW V X H locs cells slots Q (F0 (xm X) pc ls (.ref (V.2.2.2.1 (UInt32.ofNat (100 + i)).toNat) :: ztS V st))
  rw [h2]
  exact va_tlen C.1 C.2.1 (C.2.2.2.2.2.2.2.2.1.2.2.1 i hi).2.2.2 hS rfl hd (kk ls hl)
theorem z_sB {i : Nat} (hi : i < 5) {j : Int32} (hin : vp_in j (zbyt.getD i []).length) (hd : decode cc pc = .ok (.baload, 1)) (k : zG X V own nm cc nL ret d n0 k0 o (pc + 1) lv (.int ((zbyt.getD i []).getD j.toNatClampNeg 0) :: st) h) : zG X V own nm cc nL ret d n0 k0 o pc lv (.int j :: .float (UInt32.ofNat (100 + i)) :: st) h := by
  refine zstep k (fun C H locs cells slots Q ls hS _ hl kk => ?_)
  obtain ⟨-, -, -, h2, -⟩ := zbyt_ok i hi
  show zW V X H locs cells slots Q (F0 (xm X) pc ls (.int j :: .ref (V.2.2.2.1 (UInt32.ofNat (100 + i)).toNat) :: ztS V st))
  rw [h2]
  exact va_tb C.1 C.2.1 (C.2.2.2.2.2.2.2.2.1.2.2.1 i hi).2.2.2 hS hin rfl hd (kk ls hl)
theorem z_cVs {i : Nat} (hi : i < 5) {y : MethodName} {cc' : ByteArray} {nL' n : Nat} {ret' : Option FieldType} (As : List Value) (hK : zKVs own idx y cc' nL' ret' n) (hn : As.length = n) (hst : (st.map fun v => v.category).sum ≤ 8) (hd : decode cc pc = .ok (.invokevirtual idx, 3)) {o' : RR} {K : Option Value → AH → RR}
    (hM : zM V y cc' nL' ret' d (.float (UInt32.ofNat i) :: As) h o') (kk : ∀ v h', zG X V own nm cc nL ret (d + 1) n0 k0 (K v h') (pc + 3) lv (v.toList ++ st) h') : zG X V own nm cc nL ret (d + 1) n0 k0 (zca o' K) pc lv (As.reverse ++ .float (UInt32.ofNat i) :: st) h := by
  intro r hr
  cases ho : o' with
  | none => rw [ho] at hr; cases hr
  | some r' =>
    rw [ho] at hr
    obtain ⟨hm', hMet⟩ := hM X r' ho
    refine zcall_end (y := y) (args := []) (rest := []) hm' kk hr (fun C H locs ls cells slots e3 e4 e5 b1 b2 => ?_)
    obtain ⟨⟨w1, w2, w3, w4, w5⟩, w6, w7⟩ := hK
    obtain ⟨-, -, h1, -, -⟩ := zbyt_ok i hi
    have hts := C.2.2.2.2.1
    obtain ⟨cell, g1, g2, g3, -⟩ := ((zE.kept e4.2.1 C.2.2.2.2.2.2.2.2.1).2.2.1 i hi).1
    rw [← h1] at g1
    refine ⟨_, vx_runV (As := ztS V As) (rest := ztS V st) (nL := nL) (Ts := zWU) (C := "java/lang/String") (b := V.2.2.2.1 (UInt32.ofNat i).toNat) ⟨C.1, C.2.1, C.2.2.1, C.2.2.2.1, hts⟩ hMet ⟨callB_of n hts (zgood zWU w3 (fun _ h => h)) rfl rfl rfl (hts _ w2) (hts _ w1) w4 ⟨by rw [C.2.2.2.2.2.2.1.1]; exact Nat.le_refl _, by rw [C.2.2.2.2.2.2.1.2]; show 8 + (nL' + 11) + 48 * d ≤ 48 * (d + 1); omega⟩, hts _ w6, hts _ w7⟩ ⟨zpre, ⟨cell, g1, g2, g3⟩, fun U hU hW => ⟨rfl, zEat C e3 e4 hU hW⟩⟩ rfl (by rw [List.length_map]; exact hn) e5.1 ?_ (lv_room (by rw [zcats]; exact hst)) hd ⟨b1, b2⟩⟩
    show (As.reverse ++ Value.float (UInt32.ofNat i) :: st).map (ztv V) = _
    rw [List.map_append, List.map_reverse]; rfl
end ZS
theorem mS_coder {V : VT} (hV : V.2.2.2.2.2.stackTraces = false) (d : Nat) {i : Nat} (hi : i < 5) (h : AH) : zM V yJ0_coder_7d493 cJ0_coder_7d493 1 (some .byte) (d + 1) [.float (UInt32.ofNat i)] h (some (.inl (some (.int 0)), h)) := by
  refine z_meth hV (by decide +kernel) (Nat.le_of_ble_eq_true rfl) [(0, .float (UInt32.ofNat i))] rfl (fun X => ?_)
  refine z_sC zw_539 dJ0_coder_7d493_0 ?_
  refine z_eqF 13 (by decide) (by decide) dJ0_coder_7d493_3 ?_
  refine z_sload_n 0 rfl rfl dJ0_coder_7d493_6 ?_
  refine z_sG hi zw_1388 dJ0_coder_7d493_7 ?_
  refine z_goto 14 (by decide) dJ0_coder_7d493_10 ?_
  exact z_xret rfl rfl dJ0_coder_7d493_14
theorem mS_isLatin1 {V : VT} (hV : V.2.2.2.2.2.stackTraces = false) (d : Nat) {i : Nat} (hi : i < 5) (h : AH) : zM V yJ0_isLatin1_aae02 cJ0_isLatin1_aae02 1 (some .boolean) (d + 1) [.float (UInt32.ofNat i)] h (some (.inl (some (.int 1)), h)) := by
  refine z_meth hV (by decide +kernel) (Nat.le_of_ble_eq_true rfl) [(0, .float (UInt32.ofNat i))] rfl (fun X => ?_)
  refine z_sC zw_539 dJ0_isLatin1_aae02_0 ?_
  refine z_eqF 17 (by decide) (by decide) dJ0_isLatin1_aae02_3 ?_
  refine z_sload_n 0 rfl rfl dJ0_isLatin1_aae02_6 ?_
  refine z_sG hi zw_1388 dJ0_isLatin1_aae02_7 ?_
  refine z_neF 17 rfl (by decide) dJ0_isLatin1_aae02_10 ?_
  refine z_iconst (v := 1) (by decide) dJ0_isLatin1_aae02_13 ?_
  refine z_goto 18 (by decide) dJ0_isLatin1_aae02_14 ?_
  exact z_xret rfl rfl dJ0_isLatin1_aae02_18
theorem mJ3_check {V : VT} (hV : V.2.2.2.2.2.stackTraces = false) (d : Nat) {x y : Int32} (h0 : ¬ x < 0) (h1 : x < y) {v : Value} (hv : v = .null ∨ v = .float 300) (h : AH) : zM V yJ3_checkIndex_8e157 cJ3_checkIndex_8e157 3 (some .int) (d + 1) [.int x, .int y, v] h (some (.inl (some (.int x)), h)) := by
  have hc : lv_args 0 [.int x, .int y, v] = [(0, .int x), (1, .int y), (2, v)] := by rcases hv with rfl | rfl <;> rfl
  have hl : (lg_sl [.int x, .int y, v]).length ≤ 3 := by rcases hv with rfl | rfl <;> exact Nat.le_of_ble_eq_true rfl
  refine z_meth hV (by decide +kernel) hl [(0, .int x), (1, .int y), (2, v)] hc (fun X => ?_)
  refine z_iload_n 0 rfl rfl dJ3_checkIndex_8e157_0 ?_
  refine z_ltF 9 h0 (by decide) dJ3_checkIndex_8e157_1 ?_
  refine z_iload_n 0 rfl rfl dJ3_checkIndex_8e157_4 ?_
  refine z_iload_n 1 rfl rfl dJ3_checkIndex_8e157_5 ?_
  refine z_iltT 16 h1 (by decide) dJ3_checkIndex_8e157_6 ?_
  refine z_iload_n 0 rfl rfl dJ3_checkIndex_8e157_16 ?_
  exact z_iret rfl dJ3_checkIndex_8e157_17
theorem mJ0_check {V : VT} (hV : V.2.2.2.2.2.stackTraces = false) (d : Nat) {x y : Int32} (h0 : ¬ x < 0) (h1 : x < y) (h : AH) : zM V yJ0_checkIndex_df160 cJ0_checkIndex_df160 2 none (d + 2) [.int x, .int y] h (some (.inl none, h)) := by
  refine z_meth hV (by decide +kernel) (Nat.le_of_ble_eq_true rfl) [(0, .int x), (1, .int y)] rfl (fun X => ?_)
  refine z_iload_n 0 rfl rfl dJ0_checkIndex_df160_0 ?_
  refine z_iload_n 1 rfl rfl dJ0_checkIndex_df160_1 ?_
  refine z_sF zw_555 dJ0_checkIndex_df160_2 (fun v hv => ?_)
  have e : (some (.inl none, h) : RR) = zca (some (.inl (some (.int x)), h)) (fun v h' => zvi v fun _ => some (.inl none, h')) := rfl
  rw [e]
  refine z_cS (st := []) [.int x, .int y, v] zk_RJ0_1059 rfl (Nat.le_of_ble_eq_true rfl) dJ0_checkIndex_df160_5 (mJ3_check hV d h0 h1 hv h) (fun v' h' => ?_)
  refine z_vi (fun x' => ?_)
  refine z_pop rfl dJ0_checkIndex_df160_8 ?_
  exact z_vret rfl dJ0_checkIndex_df160_9
theorem zin_lt {i : Nat} (hi : i < 5) {j : Int32} (hin : vp_in j (zbyt.getD i []).length) : ¬ j < 0 ∧ j < nI (zbyt.getD i []).length ∧ j.toNatClampNeg < (zbyt.getD i []).length := by
  obtain ⟨-, h2, -⟩ := zbyt_ok i hi
  obtain ⟨k, hk, rfl⟩ := vp_in_of hin (by omega)
  exact ⟨nI_pos (by omega), nI_lt hk (by omega), by rw [nI_clamp (by omega)]; exact hk⟩
theorem mJ1_charAt {V : VT} (hV : V.2.2.2.2.2.stackTraces = false) (d : Nat) {i : Nat} (hi : i < 5) {j : Int32} (hin : vp_in j (zbyt.getD i []).length) (h : AH) : zM V yJ1_charAt_3b067 cJ1_charAt_3b067 2 (some .char) (d + 3) [.float (UInt32.ofNat (100 + i)), .int j] h (some (.inl (some (.int ((zbyt.getD i []).getD j.toNatClampNeg 0))), h)) := by
  obtain ⟨q1, q2, q3⟩ := zin_lt hi hin
  obtain ⟨hb1, hb2⟩ := (zbyt_ok i hi).1 _ q3
  refine z_meth hV (by decide +kernel) (Nat.le_of_ble_eq_true rfl) [(0, .float (UInt32.ofNat (100 + i))), (1, .int j)] rfl (fun X => ?_)
  refine z_iload_n 1 rfl rfl dJ1_charAt_3b067_0 ?_
  refine z_sload_n 0 rfl rfl dJ1_charAt_3b067_1 ?_
  refine z_sL hi dJ1_charAt_3b067_2 ?_
  have e : (some (.inl (some (.int ((zbyt.getD i []).getD j.toNatClampNeg 0))), h) : RR) = zca (some (.inl none, h)) (fun v h' => zvn v (some (.inl (some (.int ((zbyt.getD i []).getD j.toNatClampNeg 0))), h'))) := rfl
  rw [e]
  refine z_cS (st := []) [.int j, .int (nI (zbyt.getD i []).length)] zk_RJ1_9 rfl (Nat.le_of_ble_eq_true rfl) dJ1_charAt_3b067_3 (mJ0_check hV d q1 q2 h) (fun v' h' => ?_)
  refine z_vn ?_
  refine z_sload_n 0 rfl rfl dJ1_charAt_3b067_6 ?_
  refine z_iload_n 1 rfl rfl dJ1_charAt_3b067_7 ?_
  refine z_sB hi hin dJ1_charAt_3b067_8 ?_
  refine z_sipush (v := 255) (by decide) dJ1_charAt_3b067_9 ?_
  refine z_iand dJ1_charAt_3b067_12 ?_
  refine z_i2c dJ1_charAt_3b067_13 ?_
  rw [hb1]
  exact z_xret rfl hb2 dJ1_charAt_3b067_14
theorem mS_length {V : VT} (hV : V.2.2.2.2.2.stackTraces = false) (d : Nat) {i : Nat} (hi : i < 5) (h : AH) : zM V yJ0_length_8abf5 cJ0_length_8abf5 1 (some .int) (d + 2) [.float (UInt32.ofNat i)] h (some (.inl (some (.int (nI (zbyt.getD i []).length))), h)) := by
  refine z_meth hV (by decide +kernel) (Nat.le_of_ble_eq_true rfl) [(0, .float (UInt32.ofNat i))] rfl (fun X => ?_)
  refine z_sload_n 0 rfl rfl dJ0_length_8abf5_0 ?_
  refine z_sV hi zw_1387 dJ0_length_8abf5_1 ?_
  refine z_sL hi dJ0_length_8abf5_4 ?_
  refine z_sload_n 0 rfl rfl dJ0_length_8abf5_5 ?_
  have e : (some (.inl (some (.int (nI (zbyt.getD i []).length))), h) : RR) = zca (some (.inl (some (.int 0)), h)) (fun v h' => zvi v fun c => some (.inl (some (.int (nI (zbyt.getD i []).length >>> (c &&& 31)))), h')) := by
    show _ = (some (.inl (some (.int (nI (zbyt.getD i []).length >>> ((0 : Int32) &&& 31)))), h) : RR)
    rw [(zbyt_ok i hi).2.2.2.2]
  rw [e]
  refine z_cVs hi (st := [.int (nI (zbyt.getD i []).length)]) [] zks_RJ0_335 rfl (Nat.le_of_ble_eq_true rfl) dJ0_length_8abf5_6 (mS_coder hV d hi h) (fun v' h' => ?_)
  refine z_vi (fun c => ?_)
  refine z_ishr dJ0_length_8abf5_9 ?_
  exact z_iret rfl dJ0_length_8abf5_10
theorem mS_charAt {V : VT} (hV : V.2.2.2.2.2.stackTraces = false) (d : Nat) {i : Nat} (hi : i < 5) {j : Int32} (hin : vp_in j (zbyt.getD i []).length) (h : AH) : zM V yJ0_charAt_5068e cJ0_charAt_5068e 2 (some .char) (d + 4) [.float (UInt32.ofNat i), .int j] h (some (.inl (some (.int ((zbyt.getD i []).getD j.toNatClampNeg 0))), h)) := by
  obtain ⟨q1, q2, q3⟩ := zin_lt hi hin
  obtain ⟨hb1, hb2⟩ := (zbyt_ok i hi).1 _ q3
  refine z_meth hV (by decide +kernel) (Nat.le_of_ble_eq_true rfl) [(0, .float (UInt32.ofNat i)), (1, .int j)] rfl (fun X => ?_)
  refine z_sload_n 0 rfl rfl dJ0_charAt_5068e_0 ?_
  generalize hc : (zbyt.getD i []).getD j.toNatClampNeg 0 = c
  have e : (some (.inl (some (.int c)), h) : RR) = zca (some (.inl (some (.int 1)), h)) (fun v h' => zvi v fun b => if b = 0 then none else zca (some (.inl (some (.int c)), h')) (fun v h' => zvi v fun x => if x = c then some (.inl (some (.int x)), h') else none)) := by
    show _ = (if (1 : Int32) = 0 then none else (if c = c then some (.inl (some (.int c)), h) else none) : RR)
    rw [if_neg (by decide), if_pos rfl]
  rw [e]
  refine z_cVs hi (st := []) [] zks_RJ0_492 rfl (Nat.le_of_ble_eq_true rfl) dJ0_charAt_5068e_1 (mS_isLatin1 hV (d + 2) hi h) (fun v' h' => ?_)
  refine z_vi (fun b => ?_)
  refine z_if_eq 16 (by decide) dJ0_charAt_5068e_4 z_none ?_
  refine z_sload_n 0 rfl rfl dJ0_charAt_5068e_7 ?_
  refine z_sV hi zw_1387 dJ0_charAt_5068e_8 ?_
  refine z_iload_n 1 rfl rfl dJ0_charAt_5068e_11 ?_
  refine z_cS (st := []) [.float (UInt32.ofNat (100 + i)), .int j] zk_RJ0_495 rfl (Nat.le_of_ble_eq_true rfl) dJ0_charAt_5068e_12 (by rw [← hc]; exact mJ1_charAt hV d hi hin h') (fun v' h' => ?_)
  refine z_vi (fun x => ?_)
  refine z_if (fun q => ?_) (fun _ => z_none)
  exact z_xret rfl (by rw [q, ← hc]; exact hb2) dJ0_charAt_5068e_15
section ZW
variable {X : CT} {V : VT} {own nm : String} {cc : ByteArray} {nL d n0 k0 : Nat} {ret : Option FieldType} {o : RR} {pc : Nat} {lv : List (Nat × Value)} {st : List Value} {h : AH} {a ci idx k : Nat}
theorem z_slen (hV : V.2.2.2.2.2.stackTraces = false) {j : UInt32} (hK : zKVs own idx yJ0_length_8abf5 cJ0_length_8abf5 1 (some .int) 0) (hd9 : 12 ≤ d) (hst : (st.map fun v => v.category).sum ≤ 8) (hd : decode cc pc = .ok (.invokevirtual idx, 3)) {K : Int32 → RR} (kk : ∀ x, zG X V own nm cc nL ret d n0 k0 (K x) (pc + 3) lv (.int x :: st) h) : zG X V own nm cc nL ret d n0 k0 ((zslen j).bind K) pc lv (.float j :: st) h := by
  unfold zslen
  by_cases hj : j.toNat < 5
  · rw [if_pos hj]
    obtain ⟨d', rfl⟩ : ∃ d', d = d' + 2 + 1 := ⟨d - 3, by omega⟩
    have ej : j = UInt32.ofNat j.toNat := (UInt32.ofNat_toNat).symm
    generalize hL : nI (zbyt.getD j.toNat []).length = L
    have e : ((some L).bind K : RR) = zca (some (.inl (some (.int L)), h)) (fun v h' => @ite RR (v = some (.int L) ∧ h' = h) (Classical.propDecidable _) (K L) none) := by
      show K L = @ite RR (some (Value.int L) = some (.int L) ∧ h = h) (Classical.propDecidable _) (K L) none
      rw [if_pos ⟨rfl, rfl⟩]
    rw [e, ej]
    refine z_cVs hj [] hK rfl hst hd (by rw [← hL]; exact mS_length hV d' hj h) (fun v h' => ?_)
    by_cases q : v = some (.int L) ∧ h' = h
    · rw [if_pos q]
      obtain ⟨rfl, rfl⟩ := q
      exact kk L
    · rw [if_neg q]; exact z_none
  · rw [if_neg hj]; exact z_none
theorem z_schar (hV : V.2.2.2.2.2.stackTraces = false) {j : UInt32} {i : Int32} (hK : zKVs own idx yJ0_charAt_5068e cJ0_charAt_5068e 2 (some .char) 1) (hd9 : 12 ≤ d) (hst : (st.map fun v => v.category).sum ≤ 8) (hd : decode cc pc = .ok (.invokevirtual idx, 3)) {K : Int32 → RR} (kk : ∀ x, zG X V own nm cc nL ret d n0 k0 (K x) (pc + 3) lv (.int x :: st) h) : zG X V own nm cc nL ret d n0 k0 ((zschar j i).bind K) pc lv (.int i :: .float j :: st) h := by
  unfold zschar
  by_cases hj : j.toNat < 5 ∧ ¬ (i < 0 ∨ (zbyt.getD j.toNat []).length ≤ i.toNatClampNeg)
  · rw [if_pos hj]
    obtain ⟨d', rfl⟩ : ∃ d', d = d' + 4 + 1 := ⟨d - 5, by omega⟩
    have ej : j = UInt32.ofNat j.toNat := (UInt32.ofNat_toNat).symm
    generalize hL : (zbyt.getD j.toNat []).getD i.toNatClampNeg 0 = L
    have e : ((some L).bind K : RR) = zca (some (.inl (some (.int L)), h)) (fun v h' => @ite RR (v = some (.int L) ∧ h' = h) (Classical.propDecidable _) (K L) none) := by
      show K L = @ite RR (some (Value.int L) = some (.int L) ∧ h = h) (Classical.propDecidable _) (K L) none
      rw [if_pos ⟨rfl, rfl⟩]
    rw [e, ej]
    refine z_cVs hj.1 [.int i] hK rfl hst hd (by rw [← hL]; exact mS_charAt hV d' hj.1 hj.2 h) (fun v h' => ?_)
    by_cases q : v = some (.int L) ∧ h' = h
    · rw [if_pos q]
      obtain ⟨rfl, rfl⟩ := q
      exact kk L
    · rw [if_neg q]; exact z_none
  · rw [if_neg hj]; exact z_none
end ZW
