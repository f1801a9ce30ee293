/-! OUR LAYER, part 5: making cells, throwing, calls, bodies -/
def zb2 (o : Option (Nat × AH)) (K : Nat → AH → RR) : RR := match o with
  | some (a, h) => K a h
  | none => none
def zca (o : RR) (K : Option Value → AH → RR) : RR := match o with
  | some (.inl v, h) => K v h
  | some (.inr e, h) => some (.inr e, h)
  | none => none
def zvi (v : Option Value) (K : Int32 → RR) : RR := match v with
  | some (.int x) => K x
  | _ => none
def zvj (v : Option Value) (K : Int64 → RR) : RR := match v with
  | some (.long x) => K x
  | _ => none
def zvr (v : Option Value) (K : Nat → RR) : RR := match v with
  | some (.ref x) => K x
  | _ => none
def zvq (v : Option Value) (K : Option Nat → RR) : RR := match v with
  | some (.ref x) => K (some x)
  | some .null => K none
  | _ => none
def zvn (v : Option Value) (K : RR) : RR := match v with
  | none => K
  | _ => none
/-- a method: what it comes to, by the machine -/
def zM (V : VT) (y : MethodName) (cc : ByteArray) (nL : Nat) (ret : Option FieldType) (d : Nat) (args : List Value) (h : AH) (o : RR) : Prop :=
  ∀ (_ : CT) (r : Ot × AH), o = some r → (h.1 ≤ r.2.1 ∧ h.2.1 ≤ r.2.2.1) ∧ vx_Met V.2.2.2.2.2 y (Cond.code y cc nL ret :: zWU) { frames := d, cells := r.2.1 - h.1, slots := r.2.2.1 - h.2.1, locals := 48 * d }
    (va_Pc (args.map (ztv V)) (fun U => zE V U U.heap ∧ V.2.2.1 ≤ U.heap.size ∧ zRep V h U.heap)) (zQ V r) (zXc V r) (r.2.1 - h.1) (r.2.2.1 - h.2.1) (zA V)
/-- calls: what the words say of a callee -/
def zKB (own : String) (idx : Nat) (y : MethodName) (cc : ByteArray) (nL : Nat) (ret : Option FieldType) (n : Nat) : Prop :=
  Cond.methodLink own idx y ∈ zWU ∧ Cond.initialized y.cls ∈ zWU ∧ Cond.code y cc nL ret ∈ zWU ∧ (y.cls ≠ "java/lang/invoke/MethodHandle" ∧ y.cls ≠ "java/lang/invoke/VarHandle" ∧ (parseMethodDescriptor y.desc).map (fun d => d.parameters.length) = some n) ∧ nL ≤ 29
def zKV (own : String) (idx : Nat) (y : MethodName) (cc : ByteArray) (nL : Nat) (ret : Option FieldType) (ci n : Nat) : Prop :=
  zKB own idx y cc nL ret n ∧ Cond.instanceMethod y ∈ zWU ∧ Cond.selects y.cls y y ∈ zWU ∧ ∃ q : vw_C, zcl[ci]? = some q ∧ q.1 = y.cls
def zKS (own : String) (idx : Nat) (y : MethodName) (cc : ByteArray) (nL : Nat) (ret : Option FieldType) (n : Nat) : Prop :=
  zKB own idx y cc nL ret n ∧ Cond.static y ∈ zWU
def zKI (own : String) (idx : Nat) (y : MethodName) (cc : ByteArray) (nL : Nat) (n : Nat) : Prop :=
  zKB own idx y cc nL none n ∧ Cond.instanceMethod y ∈ zWU ∧ y.name = "<init>"
theorem zRep.push {V : VT} {h : AH} {H H1 : Heap} {k : Nat} {e : aE} (hR : zRep V h H) (z : H1.size = H.size + 1) (he : va_at V.1 zcl (V.2.2.1 + h.1, ztc V e) H1) (oq : ∀ q : Nat, q < H.size → H1[q]? = H[q]?) : zRep V (znew h k e) H1 := by
  refine ⟨by rw [z, hR.1]; rfl, fun b e' hb => ?_⟩
  have hb' : (if b = h.1 then some e else h.2.2 b) = some e' := hb
  split at hb'
  · next hab => cases hb'; rw [hab]; exact he
  · next hab => exact (hR.2 b e' hb').kept (oq _ (hR.2 b e' hb').lt)
theorem zRep.junk {V : VT} {h : AH} {H H1 : Heap} {k : Nat} (hR : zRep V h H) (z : H1.size = H.size + 1) (oq : ∀ q : Nat, q < H.size → H1[q]? = H[q]?) : zRep V (zjnk h k) H1 :=
  ⟨by rw [z, hR.1]; rfl, fun b e' hb => (hR.2 b e' hb).kept (oq _ (hR.2 b e' hb).lt)⟩
theorem zS.push {V : VT} {H0 H H1 : Heap} {locs : List Loc} (hS : va_S (zA V) H0 H locs) (z : H.size ≤ H1.size) (oq : ∀ q : Nat, q < H.size → H1[q]? = H[q]?) : va_S (zA V) H0 H1 locs :=
  ⟨Nat.le_trans hS.1 z, fun x h1 h2 => (oq x (Nat.lt_of_lt_of_le h1 hS.1)).trans (hS.2.1 x h1 h2), hS.2.2⟩
section ZN
variable {X : CT} {V : VT} {own nm : String} {cc : ByteArray} {nL d n0 k0 : Nat} {ret : Option FieldType} {o : RR} {pc : Nat} {lv : List (Nat × Value)} {st : List Value} {h : AH} {a ci idx k : Nat}
theorem z_vi {v : Option Value} {K : Int32 → RR} (kk : ∀ x, zG X V own nm cc nL ret d n0 k0 (K x) pc lv (.int x :: st) h) : zG X V own nm cc nL ret d n0 k0 (zvi v K) pc lv (v.toList ++ st) h := by
  unfold zvi; split
  · exact kk _
  · exact z_none
theorem z_vj {v : Option Value} {K : Int64 → RR} (kk : ∀ x, zG X V own nm cc nL ret d n0 k0 (K x) pc lv (.long x :: st) h) : zG X V own nm cc nL ret d n0 k0 (zvj v K) pc lv (v.toList ++ st) h := by
  unfold zvj; split
  · exact kk _
  · exact z_none
theorem z_vr {v : Option Value} {K : Nat → RR} (kk : ∀ x, zG X V own nm cc nL ret d n0 k0 (K x) pc lv (.ref x :: st) h) : zG X V own nm cc nL ret d n0 k0 (zvr v K) pc lv (v.toList ++ st) h := by
  unfold zvr; split
  · exact kk _
  · exact z_none
theorem z_vn {v : Option Value} {K : RR} (kk : zG X V own nm cc nL ret d n0 k0 K pc lv st h) : zG X V own nm cc nL ret d n0 k0 (zvn v K) pc lv (v.toList ++ st) h := by
  unfold zvn; split
  · exact kk
  · exact z_none
theorem z_vq {v : Option Value} {K : Option Nat → RR} (k1 : ∀ x, zG X V own nm cc nL ret d n0 k0 (K (some x)) pc lv (.ref x :: st) h) (k2 : zG X V own nm cc nL ret d n0 k0 (K none) pc lv (.null :: st) h) : zG X V own nm cc nL ret d n0 k0 (zvq v K) pc lv (v.toList ++ st) h := by
  unfold zvq; split
  · exact k1 _
  · exact k2
  · exact z_none
theorem z_nI {n : Int32} (hw : Cond.arrayClass .int ∈ zWU) (hd : decode cc pc = .ok (.newarray .int, 2)) {K : Nat → AH → RR} (kk : ∀ b h', zG X V own nm cc nL ret d n0 k0 (K b h') (pc + 2) lv (.ref b :: st) h') : zG X V own nm cc nL ret d n0 k0 (zb2 (znI h n) K) pc lv (.int n :: st) h := by
  unfold znI
  by_cases q : n < 0 ∨ 100000 < n.toNatClampNeg
  · rw [if_pos q]; exact z_none
  · rw [if_neg q]
    intro r hr
    obtain ⟨hm, hg⟩ := kk h.1 (znew h n.toNatClampNeg (z_i n.toNatClampNeg (fun _ => 0))) r hr
    have hm1 : h.1 + 1 ≤ r.2.1 := hm.1
    have hm2 : h.2.1 + n.toNatClampNeg ≤ r.2.2.1 := hm.2
    refine ⟨⟨by omega, by omega⟩, fun C mc ms a1 a2 a3 a4 H locs ls cells slots e1 e2 e3 e4 e5 => ?_⟩
    have hK := C.2.2.2.2.2.2.2.2.1.1
    refine va_newaK C.1 C.2.1 (atype := .int) (C.2.2.2.2.1 _ hw) rfl hd rfl (fun z => q (Or.inl z)) rfl (by have h9 : componentBytes (newarray.typeOf .int) = 4 := rfl; rw [h9]; omega) (by omega) (by omega) rfl fun H1 cA f1 z1 o1 hAr hNm => ?_
    have hcA : V.2.1 0 = cA := Option.some.inj ((hK.2 0 _ rfl).2.symm.trans hNm)
    have hat : va_at V.1 zcl (V.2.2.1 + h.1, ztc V (z_i n.toNatClampNeg (fun _ => 0))) H1 := by
      show H1[V.2.2.1 + h.1]? = some (vp_cell _ _)
      rw [← e3.1, f1, hcA]; rfl
    have hg9 := hg C mc ms a1 a2 a3 a4 H1 locs ls (cells + 1) (slots + n.toNatClampNeg) (show h.1 + 1 = _ by omega) (show h.2.1 + n.toNatClampNeg = _ by omega) (e3.push z1 hat o1) (zS.push e4 (by omega) o1) e5
    rw [e3.1]
    exact hg9
theorem z_nJ {n : Int32} (hw : Cond.arrayClass .long ∈ zWU) (hd : decode cc pc = .ok (.newarray .long, 2)) {K : Nat → AH → RR} (kk : ∀ b h', zG X V own nm cc nL ret d n0 k0 (K b h') (pc + 2) lv (.ref b :: st) h') : zG X V own nm cc nL ret d n0 k0 (zb2 (znJ h n) K) pc lv (.int n :: st) h := by
  unfold znJ
  by_cases q : n < 0 ∨ 100000 < n.toNatClampNeg
  · rw [if_pos q]; exact z_none
  · rw [if_neg q]
    intro r hr
    obtain ⟨hm, hg⟩ := kk h.1 (znew h n.toNatClampNeg (z_l n.toNatClampNeg (fun _ => 0))) r hr
    have hm1 : h.1 + 1 ≤ r.2.1 := hm.1
    have hm2 : h.2.1 + n.toNatClampNeg ≤ r.2.2.1 := hm.2
    refine ⟨⟨by omega, by omega⟩, fun C mc ms a1 a2 a3 a4 H locs ls cells slots e1 e2 e3 e4 e5 => ?_⟩
    have hK := C.2.2.2.2.2.2.2.2.1.1
    refine va_newaK C.1 C.2.1 (atype := .long) (C.2.2.2.2.1 _ hw) rfl hd rfl (fun z => q (Or.inl z)) rfl (by have h9 : componentBytes (newarray.typeOf .long) = 8 := rfl; rw [h9]; omega) (by omega) (by omega) rfl fun H1 cA f1 z1 o1 hAr hNm => ?_
    have hcA : V.2.1 1 = cA := Option.some.inj ((hK.2 1 _ rfl).2.symm.trans hNm)
    have hat : va_at V.1 zcl (V.2.2.1 + h.1, ztc V (z_l n.toNatClampNeg (fun _ => 0))) H1 := by
      show H1[V.2.2.1 + h.1]? = some (vp_cell _ _)
      rw [← e3.1, f1, hcA]; rfl
    have hg9 := hg C mc ms a1 a2 a3 a4 H1 locs ls (cells + 1) (slots + n.toNatClampNeg) (show h.1 + 1 = _ by omega) (show h.2.1 + n.toNatClampNeg = _ by omega) (e3.push z1 hat o1) (zS.push e4 (by omega) o1) e5
    rw [e3.1]
    exact hg9
theorem z_nS {n : Int32} (hw : Cond.classLink own idx "FieldPerms$State" ∈ zWU) (hd : decode cc pc = .ok (.anewarray idx, 3)) {K : Nat → AH → RR} (kk : ∀ b h', zG X V own nm cc nL ret d n0 k0 (K b h') (pc + 3) lv (.ref b :: st) h') : zG X V own nm cc nL ret d n0 k0 (zb2 (znS h n) K) pc lv (.int n :: st) h := by
  unfold znS
  by_cases q : n < 0 ∨ 100000 < n.toNatClampNeg
  · rw [if_pos q]; exact z_none
  · rw [if_neg q]
    intro r hr
    obtain ⟨hm, hg⟩ := kk h.1 (znew h n.toNatClampNeg (z_r 3 n.toNatClampNeg (fun _ => none))) r hr
    have hm1 : h.1 + 1 ≤ r.2.1 := hm.1
    have hm2 : h.2.1 + n.toNatClampNeg ≤ r.2.2.1 := hm.2
    refine ⟨⟨by omega, by omega⟩, fun C mc ms a1 a2 a3 a4 H locs ls cells slots e1 e2 e3 e4 e5 => ?_⟩
    have hK := C.2.2.2.2.2.2.2.2.1.1
    refine W.anew C.1 C.2.1 C.2.2.2.1 (C.2.2.2.2.1 _ hw) C.2.2.2.2.2.2.2.2.1.2.2.2.2.2.2.1 rfl hd rfl (fun z => q (Or.inl z)) (by omega) (by omega) (by omega) fun cA kA comp g1 g2 g3 g4 => ?_
    obtain ⟨kA', comp', -, -, -, k4⟩ := (hK.2 3 _ rfl).2
    have hcA : V.2.1 3 = cA := Option.some.inj (k4.symm.trans g1)
    have z1 : (H.push ({ cls := cA, slots := Array.replicate n.toNatClampNeg .null, vm := .none } : Cell)).size = H.size + 1 := by simp
    have o1 : ∀ q : Nat, q < H.size → (H.push ({ cls := cA, slots := Array.replicate n.toNatClampNeg .null, vm := .none } : Cell))[q]? = H[q]? := fun q hq => by rw [Array.getElem?_push, if_neg (Nat.ne_of_lt hq)]
    have hat : va_at V.1 zcl (V.2.2.1 + h.1, ztc V (z_r 3 n.toNatClampNeg (fun _ => none))) (H.push ({ cls := cA, slots := Array.replicate n.toNatClampNeg .null, vm := .none } : Cell)) := by
      show (H.push _)[V.2.2.1 + h.1]? = some (vp_cell _ _)
      rw [← e3.1, vp_cell_q, hcA, arrV_new]
      simp [va_rf]
    have hg9 := hg C mc ms a1 a2 a3 a4 _ locs ls (cells + 1) (slots + n.toNatClampNeg) (show h.1 + 1 = _ by omega) (show h.2.1 + n.toNatClampNeg = _ by omega) (e3.push z1 hat o1) (zS.push e4 (by omega) o1) e5
    show zW V X _ _ _ _ _ (F0 (xm X) (pc + 3) ls (.ref H.size :: ztS V st))
    rw [e3.1]
    exact hg9
/-- an object's kind: what the words say -/
def zNO (own : String) (idx ci : Nat) : Prop := ∃ q : vw_C, zcl[ci]? = some q ∧ Cond.classLink own idx q.1 ∈ zWU ∧ Cond.instantiable q.1 q.2.2 ∈ zWU ∧ Cond.initialized q.1 ∈ zWU
theorem z_nO (hw : zNO own idx ci) (hd : decode cc pc = .ok (.new idx, 3)) {K : Nat → AH → RR} (kk : ∀ b h', zG X V own nm cc nL ret d n0 k0 (K b h') (pc + 3) lv (.ref b :: st) h') : zG X V own nm cc nL ret d n0 k0 (zb2 (znO h ci) K) pc lv st h := by
  obtain ⟨⟨Cn, T, N⟩, hc, w1, w2, w3⟩ := hw
  obtain ⟨o1, o2, o3, o4, o5⟩ := zty_ok ci _ hc
  intro r hr
  obtain ⟨hm, hg⟩ := kk h.1 (znew h (zdf ci).length (z_o ci (zdf ci))) r hr
  have hm1 : h.1 + 1 ≤ r.2.1 := hm.1
  have hm2 : h.2.1 + (zdf ci).length ≤ r.2.2.1 := hm.2
  have o4' : (zdf ci).length = N := o4
  refine ⟨⟨by omega, by omega⟩, fun C mc ms a1 a2 a3 a4 H locs ls cells slots e1 e2 e3 e4 e5 => ?_⟩
  have hK := C.2.2.2.2.2.2.2.2.1.1
  have hts := C.2.2.2.2.1
  have hKn := hK.1 ci _ hc
  refine W.newcK C.1 C.2.1 C.2.2.2.1 (hts _ w1) (hts _ w2) (hts _ w3) rfl hd (by omega) (by show slots + N ≤ _; omega) hKn.2.1 rfl fun H1 kC hkC f1 z1 p1 => ?_
  have hat : va_at V.1 zcl (V.2.2.1 + h.1, ztc V (z_o ci (zdf ci))) H1 := by
    refine ⟨_, hc, ?_⟩
    show t_OB (V.2.2.1 + h.1) _ _ _ H1 (vp_V ((zdf ci).map (ztv V)))
    rw [← e3.1]
    refine (u_born (zfty ci) hts o3 hKn hkC f1 o1).to (fun j hj => ?_)
    rw [o5 j hj]
    have hj' : j < (zdf ci).length := by rw [o4]; exact hj
    show (zdf ci).getD j .null = ((zdf ci).map (ztv V)).getD j .null
    rw [List.getD_eq_getElem?_getD, List.getD_eq_getElem?_getD, List.getElem?_map, List.getElem?_eq_getElem hj']
    show (zdf ci)[j] = ztv V ((zdf ci)[j])
    have hall : ∀ v ∈ zdf ci, ztv V v = v := by
      intro v hv
      have hv2 : v = .int 0 ∨ v = .null := by
        have hx : ∀ ci, ∀ v ∈ zdf ci, v = .int 0 ∨ v = .null := by
          intro ci
          unfold zdf
          split <;> decide
        exact hx ci v hv
      rcases hv2 with rfl | rfl <;> rfl
    exact (hall _ (List.getElem_mem hj')).symm
  have hg9 := hg C mc ms a1 a2 a3 a4 H1 locs ls (cells + 1) (slots + (zdf ci).length) (show h.1 + 1 = _ by omega) (show h.2.1 + (zdf ci).length = _ by omega) (e3.push z1 hat p1) (zS.push e4 (by omega) p1) e5
  rw [o4] at hg9
  show zW V X _ _ _ _ _ (F0 (xm X) (pc + 3) ls (.ref H.size :: ztS V st))
  rw [e3.1]
  exact hg9
end ZN
