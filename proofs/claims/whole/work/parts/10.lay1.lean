/-! OUR LAYER, part 1: an abstract heap, its partial steps, and what they say of the machine -/
abbrev aE : Type := (Nat × (Nat → Int32)) ⊕ ((Nat × (Nat → Int64)) ⊕ ((Nat × Nat × (Nat → Option Nat)) ⊕ (Nat × List Value)))
abbrev AH : Type := Nat × Nat × (Nat → Option aE)
abbrev Ot : Type := Option Value ⊕ Nat
abbrev RR : Type := Option (Ot × AH)
/-- numbers of kinds and slots, numbers of array kinds, where our cells begin, the texts' cells, their bytes' cells, the launch -/
abbrev VT : Type := va_G × (Nat → ClassId) × Nat × (Nat → Nat) × (Nat → Nat) × Launch
abbrev CT : Type := Program × Env × Room × State × MethodId × Array Value × List Frame × Method × Code
abbrev z_i (n : Nat) (f : Nat → Int32) : aE := .inl (n, f)
abbrev z_l (n : Nat) (f : Nat → Int64) : aE := .inr (.inl (n, f))
abbrev z_r (t n : Nat) (f : Nat → Option Nat) : aE := .inr (.inr (.inl (t, n, f)))
abbrev z_o (c : Nat) (fs : List Value) : aE := .inr (.inr (.inr (c, fs)))
def zput (h : AH) (a : Nat) (e : aE) : AH := (h.1, h.2.1, fun b => if b = a then some e else h.2.2 b)
def znew (h : AH) (k : Nat) (e : aE) : AH := (h.1 + 1, h.2.1 + k, fun b => if b = h.1 then some e else h.2.2 b)
def zjnk (h : AH) (k : Nat) : AH := (h.1 + 1, h.2.1 + k, h.2.2)
def zmul (h : AH) (n k : Nat) : AH := (h.1 + 1 + n, h.2.1 + n + n * k, fun b => if b = h.1 then some (z_r 2 n (fun i => if i < n then some (h.1 + 1 + i) else none)) else if h.1 < b ∧ b < h.1 + 1 + n then some (z_i k (fun _ => 0)) else h.2.2 b)
def ztv (V : VT) : Value → Value
  | .ref a => .ref (V.2.2.1 + a)
  | .float j => .ref (V.2.2.2.1 j.toNat)
  | v => v
def ztc (V : VT) : aE → va_E
  | .inl (n, f) => .inl (V.2.1 0, n, .inl f)
  | .inr (.inl (n, f)) => .inl (V.2.1 1, n, .inr (.inl f))
  | .inr (.inr (.inl (t, n, f))) => .inl (V.2.1 t, n, .inr (.inr (.inr (.inr (fun i => (f i).map (fun x => V.2.2.1 + x))))))
  | .inr (.inr (.inr (c, fs))) => .inr (c, fs.map (ztv V))
def zcl : List vw_C := [(RX0, TX0, 9), (RX1, TX1, 3), (RX2, TX2, 8), (RX3, TX3, 4), (RX4, TX4, 6), (RX5, TX5, 9), (RX6, TX6, 9), (RX7, TX7, 28)]
def zty (V : VT) : List (ClassId × FieldType) := [(V.2.1 0, .int), (V.2.1 1, .long), (V.2.1 2, .array .int), (V.2.1 3, .object "FieldPerms$State")]
def zA (V : VT) : Nat → Prop := fun q => V.2.2.1 ≤ q
def zRep (V : VT) (h : AH) (H : Heap) : Prop := H.size = V.2.2.1 + h.1 ∧ ∀ (a : Nat) (e : aE), h.2.2 a = some e → va_at V.1 zcl (V.2.2.1 + a, ztc V e) H
-- the words, all of them that stay
def zWU : List Cond := lw_tbl.filter goodWord
theorem zwm (i : Nat) {w : Cond} (h : lw_tbl[i]? = some w) (g : goodWord w = true) : w ∈ zWU := List.mem_filter.mpr ⟨List.mem_of_getElem? h, g⟩
theorem zgood {c : Cond} (big : List Cond) (hc : c ∈ zWU) (hb : ∀ w ∈ zWU, w ∈ big) : GoodIn big (c :: zWU) := fun w hw => by
  have h1 : w ∈ zWU := by
    rcases List.mem_cons.mp hw with h | h
    · rw [h]; exact hc
    · exact h
  exact ⟨hb w h1, good_of_word (List.mem_filter.mp h1).2⟩
-- the texts: whose entry, which text, its number (0 to 4 the words, 5 to 9 what is said)
def zstr : List (String × Nat × String × Nat) := [(RX5, 61, "x", 0), (RX5, 67, "f", 1), (RX5, 69, "poly", 2), (RX5, 71, "field", 3), (RX5, 73, "dickson", 4), (RX7, 172, "x", 0), (RX7, 188, "f", 1), (RX7, 222, "poly", 2), (RX7, 206, "field", 3), (RX7, 190, "dickson", 4), (RX6, 230, "no such polynomial", 5), (RX6, 235, "no such point", 6), (RX6, 239, "a number that is none such", 7), (RX6, 244, "there are six polynomials", 8), (RX6, 247, "it does not permute", 9)]
def zbyt : List (List Int32) := [[120], [102], [112, 111, 108, 121], [102, 105, 101, 108, 100], [100, 105, 99, 107, 115, 111, 110]]
def zex : Nat → String
  | 0 => "java/util/NoSuchElementException"
  | 1 => "java/lang/IllegalArgumentException"
  | _ => "java/lang/IllegalStateException"
def zNG : List Cond := [.declares (Bundle.initS "java/lang/RuntimeException"), .declares (Bundle.initS "java/lang/Exception"), .declares (Bundle.initS Bundle.tN), .castable (zex 0) (zex 0), .castable (zex 1) (zex 1), .castable (zex 2) (zex 2)]
theorem zNG.warm {s U : State} (hW : s.WarmedH U.vm) (h : ∀ w ∈ zNG, va_Nw w s) : ∀ w ∈ zNG, va_Nw w U := by
  intro w hw
  have h0 := h w hw
  simp only [zNG, List.mem_cons, List.not_mem_nil, or_false] at hw
  rcases hw with rfl | rfl | rfl | rfl | rfl | rfl
  · exact va_Nw.warmD hW h0
  · exact va_Nw.warmD hW h0
  · exact va_Nw.warmD hW h0
  · exact va_Nw.warmC hW h0
  · exact va_Nw.warmC hW h0
  · exact va_Nw.warmC hW h0
def zAOA (U : State) : Prop := (Cond.arrayOver (.array .int)).before #[] U = true
/-- what stays: tables, texts, statics -/
def zE (V : VT) (U : State) (H : Heap) : Prop :=
  va_K V.1 zcl (zty V) U ∧ (∀ q ∈ zstr, vk_R q.1 q.2.1 q.2.2.1 (V.2.2.2.1 q.2.2.2) U) ∧
  (∀ i : Nat, i < 5 → va_O "java/lang/String" (V.2.2.2.1 i) (zA V) U H ∧ va_OF "java/lang/String" "coder" "B" (.int 0) (V.2.2.2.1 i) (zA V) U H ∧ va_OF "java/lang/String" "value" "[B" (.ref (V.2.2.2.1 (100 + i))) (V.2.2.2.1 i) (zA V) U H ∧ va_T .byte (V.2.2.2.1 (100 + i)) (zbyt.getD i []).length (fun j => .int ((zbyt.getD i []).getD j 0)) (zA V) U H) ∧
  va_Z "java/lang/String" "COMPACT_STRINGS" "Z" (.int 1) (zA V) U H ∧
  vx_Zq Bundle.tN "UNASSIGNED_STACK" Bundle.steD (zA V) U H ∧ vx_Zq Bundle.tN "SUPPRESSED_SENTINEL" Bundle.listD (zA V) U H ∧
  va_AO "FieldPerms$State" U ∧ zAOA U ∧ (∀ i j : Nat, i < 3 → j < 3 → i ≠ j → va_Nc (zex i) (zex j) U) ∧ (∀ w ∈ zNG, va_Nw w U) ∧
  (va_Z "jdk/internal/util/Preconditions" "SIOOBE_FORMATTER" "Ljava/util/function/BiFunction;" .null (zA V) U H ∨ va_Z "jdk/internal/util/Preconditions" "SIOOBE_FORMATTER" "Ljava/util/function/BiFunction;" (.ref (V.2.2.2.1 300)) (zA V) U H)
theorem zAOA.moved {u U : State} (hvm : u.vm.Alike U.vm) (h : zAOA u) : zAOA U := by
  obtain ⟨comp, c, k, h1, h2, h3, h4, h5⟩ := arrayOverA_spec h
  obtain ⟨k', hk', he⟩ := hvm.2.2 _ _ h3
  have hkind : k'.kind = .array comp (.array .int) := by rw [he]; exact h4
  have f1 : U.vm.findClass (FieldType.array .int).toString = some comp := by rw [hvm.findClass]; exact h1
  have f2 : U.vm.findClass ("[" ++ (FieldType.array .int).toString) = some c := by rw [hvm.findClass]; exact h5
  unfold zAOA Cond.before Cond.holds
  simp only [Cond.value, f1, Option.bind_some, beq_iff_eq]
  rw [Option.bind_eq_some_iff]
  refine ⟨c, (hvm.findIdx?_eq _ (fun _ => rfl)).trans h2, ?_⟩
  simp [hk', hkind, f2]
theorem zNc.moved {C T : String} {u U : State} (hvm : u.vm.Alike U.vm) (h : va_Nc C T u) : va_Nc C T U := by
  first
    | exact va_Nc.moved hvm h
    | (obtain ⟨c, t, h1, h2, h3⟩ := h
       exact ⟨c, t, by rw [hvm.findClass]; exact h1, by rw [hvm.findClass]; exact h2, by rw [hvm.assignable]; exact h3⟩)
theorem zE.warm {V : VT} {s U : State} {H : Heap} (hW : s.WarmedH U.vm) (h : zE V s H) : zE V U H := by
  obtain ⟨h1, h2, h3, h4, h5, h6, h7, h8, h9, h10, h11⟩ := h
  exact ⟨va_K.moved hW.alike h1, fun q hq => vk_R.warm hW (h2 q hq), fun i hi => ⟨va_O.moved hW.alike (h3 i hi).1, va_OF.moved hW.alike (h3 i hi).2.1, va_OF.moved hW.alike (h3 i hi).2.2.1, va_T.moved hW.alike (h3 i hi).2.2.2⟩, va_Z.moved hW.alike h4, vx_Zq.moved hW.alike h5, vx_Zq.moved hW.alike h6, va_AO.moved hW.alike h7, zAOA.moved hW.alike h8, fun i j hi hj hij => zNc.moved hW.alike (h9 i j hi hj hij), zNG.warm hW h10, h11.imp (va_Z.moved hW.alike) (va_Z.moved hW.alike)⟩
theorem zE.kept {V : VT} {U : State} {H H1 : Heap} (hq : ∀ a : Nat, a < H.size → ¬ zA V a → H1[a]? = H[a]?) (h : zE V U H) : zE V U H1 := by
  obtain ⟨h1, h2, h3, h4, h5, h6, h7, h8, h9, h10, h11⟩ := h
  exact ⟨h1, h2, fun i hi => ⟨(h3 i hi).1.kept hq, (h3 i hi).2.1.kept hq, (h3 i hi).2.2.1.kept hq, (h3 i hi).2.2.2.kept hq⟩, h4.kept hq, h5.kept hq, h6.kept hq, h7, h8, h9, h10, h11.imp (fun z => z.kept hq) (fun z => z.kept hq)⟩
-- the machine around a method
abbrev xp (X : CT) : Program := X.1
abbrev xe (X : CT) : Env := X.2.1
abbrev xR (X : CT) : Room := X.2.2.1
abbrev xs (X : CT) : State := X.2.2.2.1
abbrev xm (X : CT) : MethodId := X.2.2.2.2.1
abbrev xa (X : CT) : Array Value := X.2.2.2.2.2.1
abbrev xb (X : CT) : List Frame := X.2.2.2.2.2.2.1
abbrev xM (X : CT) : Method := X.2.2.2.2.2.2.2.1
abbrev xc (X : CT) : Code := X.2.2.2.2.2.2.2.2
abbrev zW (V : VT) (X : CT) (H : Heap) (locs : List Loc) (cells slots : Nat) (Q : State → Prop) (g : JFrame) : Prop := W (xp X) V.2.2.2.2.2 (xe X) (xR X) (xs X) (xm X) (xa X) (xb X) (xM X) (xc X) H locs cells slots Q g
def zC (X : CT) (V : VT) (own nm : String) (cc : ByteArray) (nL : Nat) (ret : Option FieldType) (d : Nat) : Prop :=
  (xp X).tables.exec = Jvm.exec ∧ (xc X).code = cc ∧ (xc X).maxLocals = nL ∧ (xs X).vm.findClass own = some (xm X).cls ∧ (∀ w ∈ zWU, w.before (xa X) (xs X) = true) ∧ (xM X).locks = false ∧
  ((xR X).frames = d ∧ (xR X).locals = 48 * d) ∧ (∀ x ∈ (xc X).exceptionTable.toList, False) ∧ zE V (xs X) (xs X).heap ∧ V.2.2.1 ≤ (xs X).heap.size ∧ (xM X).sig.returnType = ret ∧ (xM X).name = nm ∧ V.2.2.2.2.2.stackTraces = false
def zQ (V : VT) (r : Ot × AH) : Array Value → State → Outcome → State → Prop := fun _ st oc t => (∃ v, r.1 = .inl v ∧ oc = .returned (v.map (ztv V))) ∧ zRep V r.2 t.heap ∧ va_F (zA V) st t
def zXc (V : VT) (r : Ot × AH) : String → State → State → Prop := fun E st t => (∃ k, r.1 = .inr k ∧ k < 3 ∧ E = zex k) ∧ zRep V r.2 t.heap ∧ va_F (zA V) st t
abbrev ztl (V : VT) (lv : List (Nat × Value)) : List (Nat × Value) := lv.map (fun q => (q.1, ztv V q.2))
abbrev ztS (V : VT) (st : List Value) : List Value := st.map (ztv V)
def zG (X : CT) (V : VT) (own nm : String) (cc : ByteArray) (nL : Nat) (ret : Option FieldType) (d n0 k0 : Nat) (o : RR) (pc : Nat) (lv : List (Nat × Value)) (st : List Value) (h : AH) : Prop :=
  ∀ r, o = some r → (h.1 ≤ r.2.1 ∧ h.2.1 ≤ r.2.2.1) ∧ (zC X V own nm cc nL ret d → ∀ mc ms : Nat, r.2.1 = n0 + mc → r.2.2.1 = k0 + ms → mc ≤ (xR X).cells → ms ≤ (xR X).slots →
    ∀ (H : Heap) (locs : List Loc) (ls : Array Slot) (cells slots : Nat), h.1 = n0 + cells → h.2.1 = k0 + slots → zRep V h H → va_S (zA V) (xs X).heap H locs → lv_has ls nL (ztl V lv) →
      zW V X H locs cells slots (vx_MQ (xb X) (zQ V r) (zXc V r) (xa X) (xs X) mc ms (zA V)) (F0 (xm X) pc ls (ztS V st)))
theorem ztv_cat (V : VT) (v : Value) : (ztv V v).category = v.category := by cases v <;> rfl
section ZP
variable {X : CT} {V : VT} {own nm : String} {cc : ByteArray} {nL d n0 k0 : Nat} {ret : Option FieldType} {o : RR} {pc : Nat} {lv : List (Nat × Value)} {st : List Value} {h : AH}
theorem zstep {pc' : Nat} {lv' : List (Nat × Value)} {st' : List Value} (k : zG X V own nm cc nL ret d n0 k0 o pc' lv' st' h)
    (f : zC X V own nm cc nL ret d → ∀ (H : Heap) (locs : List Loc) (cells slots : Nat) (Q : State → Prop) (ls : Array Slot), va_S (zA V) (xs X).heap H locs → zRep V h H → lv_has ls nL (ztl V lv) → (∀ ls' : Array Slot, lv_has ls' nL (ztl V lv') → zW V X H locs cells slots Q (F0 (xm X) pc' ls' (ztS V st'))) → zW V X H locs cells slots Q (F0 (xm X) pc ls (ztS V st))) : zG X V own nm cc nL ret d n0 k0 o pc lv st h := by
  intro r hr
  obtain ⟨hm, hw⟩ := k r hr
  exact ⟨hm, fun C mc ms a b c e H locs ls cells slots e1 e2 e3 e4 e5 => f C H locs cells slots _ ls e4 e3 e5 (fun ls' h' => hw C mc ms a b c e H locs ls' cells slots e1 e2 e3 e4 h')⟩
theorem z_none : zG X V own nm cc nL ret d n0 k0 none pc lv st h := fun _ hr => by cases hr
theorem z_if {c : Prop} [Decidable c] {A B : RR} (ha : c → zG X V own nm cc nL ret d n0 k0 A pc lv st h) (hb : ¬ c → zG X V own nm cc nL ret d n0 k0 B pc lv st h) : zG X V own nm cc nL ret d n0 k0 (if c then A else B) pc lv st h := by
  by_cases q : c
  · rw [if_pos q]; exact ha q
  · rw [if_neg q]; exact hb q
theorem z_sub (ks : List Nat) {lv' : List (Nat × Value)} (hl : lv_pick lv ks = lv') (k : zG X V own nm cc nL ret d n0 k0 o pc lv' st h) : zG X V own nm cc nL ret d n0 k0 o pc lv st h := by
  refine zstep k (fun _ H locs cells slots Q ls _ _ hv kk => kk ls ?_)
  refine lv_sub hv ks ?_
  subst hl
  unfold lv_pick
  show List.filterMap (fun k => (lv.map (fun q => (q.1, ztv V q.2)))[k]?) ks = (List.filterMap (fun k => lv[k]?) ks).map (fun q => (q.1, ztv V q.2))
  rw [List.map_filterMap]
  congr 1
  funext i
  rw [List.getElem?_map]
theorem zlv {k i : Nat} {v : Value} (hk : lv[k]? = some (i, v)) : (ztl V lv)[k]? = some (i, ztv V v) := by
  rw [List.getElem?_map, hk]; rfl
theorem zfilt {p : Nat × Value → Bool} (hp : ∀ q : Nat × Value, p (q.1, ztv V q.2) = p q) : (ztl V lv).filter p = ztl V (lv.filter p) := by
  rw [List.filter_map]
  congr 2
  funext q
  exact hp q
end ZP
