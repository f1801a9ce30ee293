/-! the world at the law's entry, as our layer wants it -/
theorem zeqv {args : Array Value} {s : State} {t u : Term} {a : Nat} (h : (Cond.eq t u).before args s = true) (ht : t.eval args s none [] s = some (.ref a)) : u.eval args s none [] s = some (.ref a) := by
  cases hu : u.eval args s none [] s with
  | none => simp [Cond.before, Cond.holds, Cond.value, ht, hu] at h
  | some w =>
    simp only [Cond.before, Cond.holds, Cond.value, ht, hu] at h
    cases w <;> simp_all
theorem zexv {args : Array Value} {s : State} {t : Term} {nm : String} (h : (Cond.exactly t nm).before args s = true) : ∃ a, t.eval args s none [] s = some (.ref a) := by
  obtain ⟨a, c, cA, kA, q1, -⟩ := Cond.exactly_spec (args := args) (first := s) (o := none) (s := s) (idx := []) (t := t) (cls := nm) h
  exact ⟨a, q1⟩
def ztm : Nat → Term
  | 0 => .string RX5 61
  | 1 => .string RX5 67
  | 2 => .string RX5 69
  | 3 => .string RX5 71
  | _ => .string RX5 73
def zln : List Nat := [1, 1, 4, 5, 7]
abbrev zgn : Cond := Jvm.Cond.and given_1 narrow_1
theorem zg_ex : ∀ i, i < 5 → Cond.exactly (ztm i) "java/lang/String" ∈ flatC zgn := by decide +kernel
theorem zg_co : ∀ i, i < 5 → Cond.eq (.field (ztm i) "java/lang/String" "coder" "B") (.int 0) ∈ flatC zgn := by decide +kernel
theorem zg_ar : ∀ i, i < 5 → Cond.arrayOf (.field (ztm i) "java/lang/String" "value" "[B") .byte ∈ flatC zgn := by decide +kernel
theorem zg_le : ∀ i, i < 5 → Cond.eq (.length (.field (ztm i) "java/lang/String" "value" "[B")) (.int (Int32.ofNat (zln.getD i 0))) ∈ flatC zgn := by decide +kernel
theorem zg_el : ∀ i, i < 5 → ∀ j, j < zln.getD i 0 → Cond.eq (.elem (.field (ztm i) "java/lang/String" "value" "[B") (.int (Int32.ofNat j))) (.int ((zbyt.getD i []).getD j 0)) ∈ flatC zgn := by decide +kernel
theorem zg_ne : ∀ i, i < 5 → ∀ j, j < 5 → i ≠ j → Cond.not (Cond.eq (ztm i) (ztm j)) ∈ flatC zgn ∨ Cond.not (Cond.eq (ztm j) (ztm i)) ∈ flatC zgn := by decide +kernel
theorem zg_nc : ∀ i, i < 3 → ∀ j, j < 3 → i ≠ j → Cond.not (.castable (zex i) (zex j)) ∈ flatC zgn := by decide +kernel
theorem zg_st : ∀ q ∈ zstr, Cond.stringRef q.1 q.2.1 q.2.2.1 ∈ lw_tbl := by decide +kernel
theorem zg_ng : ∀ w ∈ zNG, w ∈ lw_tbl := by decide +kernel
theorem zg_in : ∀ q ∈ zcl, Cond.instantiable q.1 q.2.2 ∈ lw_tbl := by decide +kernel
def zpick {α : Type} (d : α) (l : List α) (i : Nat) : α := l.getD i d
theorem zworld {s : State} {args : Array Value} (b : Nat) (l : Launch) (hts : ∀ w ∈ lw_tbl, w.before args s = true) (hgv : zgn.before args s = true) : ∃ V : VT, V.2.2.1 = s.heap.size ∧ V.2.2.2.1 400 = b ∧ V.2.2.2.2.2 = l ∧ zE V s s.heap := by
  have hs := flat_of_before _ hgv
  have hA : ∀ a : Nat, a < s.heap.size → ¬ (s.heap.size ≤ a) := fun a h => by omega
  -- kinds of ours
  have hk : ∀ c : Nat, ∃ q : ClassId × (Nat → Nat), ∀ r : vw_C, zcl[c]? = some r → u_Kn s r.1 r.2.1 r.2.2 q.1 q.2 := by
    intro c
    cases hc : zcl[c]? with
    | none => exact ⟨(0, fun _ => 0), fun r h => by cases h⟩
    | some r =>
      have hm : r ∈ zcl := List.mem_of_getElem? hc
      obtain ⟨cC, iS, hK⟩ := u_known (ws := lw_tbl) (T := r.2.1) (N := r.2.2) hts (fun w hw => (List.mem_filter.mp (zin_all r hm w hw)).1) (hts _ (zg_in r hm))
      exact ⟨(cC, iS), fun r' h => by cases h; exact hK⟩
  obtain ⟨kd, hkd⟩ := Classical.axiomOfChoice hk
  -- kinds of arrays
  obtain ⟨c0, k0, m0, i1, i2, i3⟩ := Cond.arrayClass_spec (args := args) (first := s) (o := none) (s := s) (idx := []) (type := .int) (hts (Cond.arrayClass .int) (by decide +kernel))
  obtain ⟨c1, k1, m1, j1, j2, j3⟩ := Cond.arrayClass_spec (args := args) (first := s) (o := none) (s := s) (idx := []) (type := .long) (hts (Cond.arrayClass .long) (by decide +kernel))
  have haoA : (Cond.arrayOver (.array .int)).before args s = true := hts _ (by decide +kernel)
  have haoO : (Cond.arrayOver (.object "FieldPerms$State")).before args s = true := hts _ (by decide +kernel)
  obtain ⟨m2, c2, k2, g1, g2, g3, g4, g5⟩ := arrayOverA_spec haoA
  obtain ⟨m3, c3, k3, f1, f2, f3, f4, f5⟩ := Cond.arrayOver_spec haoO
  -- texts
  obtain ⟨adK, adV, hS, hev⟩ := vk_Sof (args := args) (s := s) (N := 5) (tm := ztm) (len := zln) (byt := zbyt) (A := fun q => s.heap.size ≤ q) (by decide) (fun i hi => hs _ (zg_ex i hi)) (fun i hi => hs _ (zg_co i hi)) (fun i hi => hs _ (zg_ar i hi)) (fun i hi => hs _ (zg_le i hi)) (fun i hi j hj => hs _ (zg_el i hi j hj)) (fun i j hi hj hij => (zg_ne i hi j hj hij).imp (fun h => hs _ h) (fun h => hs _ h)) hA
  obtain ⟨a5, h5⟩ := zexv (hs (Cond.exactly (.string RX6 230) "java/lang/String") (by decide +kernel))
  obtain ⟨a6, h6⟩ := zexv (hs (Cond.exactly (.string RX6 235) "java/lang/String") (by decide +kernel))
  obtain ⟨a7, h7⟩ := zexv (hs (Cond.exactly (.string RX6 239) "java/lang/String") (by decide +kernel))
  obtain ⟨a8, h8⟩ := zexv (hs (Cond.exactly (.string RX6 244) "java/lang/String") (by decide +kernel))
  obtain ⟨a9, h9⟩ := zexv (hs (Cond.exactly (.string RX6 247) "java/lang/String") (by decide +kernel))
  have e0 := zeqv (hs (Cond.eq (ztm 0) (.string RX7 172)) (by decide +kernel)) (hev 0 (by decide))
  have e1 := zeqv (hs (Cond.eq (ztm 1) (.string RX7 188)) (by decide +kernel)) (hev 1 (by decide))
  have e2 := zeqv (hs (Cond.eq (ztm 2) (.string RX7 222)) (by decide +kernel)) (hev 2 (by decide))
  have e3 := zeqv (hs (Cond.eq (ztm 3) (.string RX7 206)) (by decide +kernel)) (hev 3 (by decide))
  have e4 := zeqv (hs (Cond.eq (ztm 4) (.string RX7 190)) (by decide +kernel)) (hev 4 (by decide))
  -- statics
  have z1 : va_Z "java/lang/String" "COMPACT_STRINGS" "Z" (.int 1) (fun q => s.heap.size ≤ q) s s.heap := va_Zof (args := args) (hts _ (by decide +kernel)) (hts _ (by decide +kernel)) (va_eqt (hs _ (by decide +kernel))) hA
  have z2 : vx_Zq Bundle.tN "UNASSIGNED_STACK" Bundle.steD (fun q => s.heap.size ≤ q) s s.heap := vx_Zqof (args := args) (hts _ (by decide +kernel)) (hts _ (by decide +kernel)) (hs _ (by decide +kernel)) hA
  have z3 : vx_Zq Bundle.tN "SUPPRESSED_SENTINEL" Bundle.listD (fun q => s.heap.size ≤ q) s s.heap := vx_Zqof (args := args) (hts _ (by decide +kernel)) (hts _ (by decide +kernel)) (hs _ (by decide +kernel)) hA
  have z4 : va_Zq "jdk/internal/util/Preconditions" "SIOOBE_FORMATTER" "Ljava/util/function/BiFunction;" (fun q => s.heap.size ≤ q) s s.heap := va_Zqof (args := args) (hts _ (by decide +kernel)) (hts _ (by decide +kernel)) (hs _ (by decide +kernel)) hA
  obtain ⟨fm, z5⟩ : ∃ fm : Nat, va_Z "jdk/internal/util/Preconditions" "SIOOBE_FORMATTER" "Ljava/util/function/BiFunction;" .null (fun q => s.heap.size ≤ q) s s.heap ∨ va_Z "jdk/internal/util/Preconditions" "SIOOBE_FORMATTER" "Ljava/util/function/BiFunction;" (.ref fm) (fun q => s.heap.size ≤ q) s s.heap := by
    rcases z4 with h | ⟨t, h⟩
    · exact ⟨0, Or.inl h⟩
    · exact ⟨t, Or.inr h⟩
  let ad : Nat → Nat := fun i => if i = 400 then b else if i = 300 then fm else if 100 ≤ i then adV (i - 100) else if i = 5 then a5 else if i = 6 then a6 else if i = 7 then a7 else if i = 8 then a8 else if i = 9 then a9 else adK i
  refine ⟨((fun c => (kd c).1, fun c => (kd c).2), (fun i => match i with | 0 => c0 | 1 => c1 | 2 => c2 | _ => c3), s.heap.size, ad, fun _ => 0, l), rfl, rfl, rfl, ⟨fun c r hr => hkd c r hr, ?_⟩, ?_, ?_, z1, z2, z3, haoO, haoA, ?_, ?_, z5⟩
  · intro k q hq
    match k, hq with
    | 0, hq => cases hq; exact ⟨fun n z => ⟨fun k h => (by cases h), k0, i2, m0, i3⟩, i1⟩
    | 1, hq => cases hq; exact ⟨fun n z => ⟨fun k h => (by cases h), k1, j2, m1, j3⟩, j1⟩
    | 2, hq => cases hq; exact ⟨fun n z => ⟨fun k h => (by cases h), k2, g3, m2, g4⟩, g5⟩
    | 3, hq => cases hq; exact ⟨fun n z => ⟨fun k h => (by cases h), k3, f3, m3, f4⟩, k3, m3, f3, f4, f1, f5⟩
    | (k + 4), hq => cases hq
  · intro q hq
    have hw := hts _ (zg_st q hq)
    simp only [zstr, List.mem_cons, List.not_mem_nil, or_false] at hq
    rcases hq with rfl | rfl | rfl | rfl | rfl | rfl | rfl | rfl | rfl | rfl | rfl | rfl | rfl | rfl | rfl
    · exact vk_R.of hw (hev 0 (by decide))
    · exact vk_R.of hw (hev 1 (by decide))
    · exact vk_R.of hw (hev 2 (by decide))
    · exact vk_R.of hw (hev 3 (by decide))
    · exact vk_R.of hw (hev 4 (by decide))
    · exact vk_R.of hw e0
    · exact vk_R.of hw e1
    · exact vk_R.of hw e2
    · exact vk_R.of hw e3
    · exact vk_R.of hw e4
    · exact vk_R.of hw h5
    · exact vk_R.of hw h6
    · exact vk_R.of hw h7
    · exact vk_R.of hw h8
    · exact vk_R.of hw h9
  · intro i hi
    match i, hi with
    | 0, _ => exact hS.1 0 (by decide)
    | 1, _ => exact hS.1 1 (by decide)
    | 2, _ => exact hS.1 2 (by decide)
    | 3, _ => exact hS.1 3 (by decide)
    | 4, _ => exact hS.1 4 (by decide)
  · intro i j hi hj hij
    exact va_Nc.of (hs _ (zg_nc i hi j hj hij))
  · intro w hw
    have h := hts _ (zg_ng w hw)
    simp only [zNG, List.mem_cons, List.not_mem_nil, or_false] at hw
    rcases hw with rfl | rfl | rfl | rfl | rfl | rfl <;> exact h
theorem ztraces {l : Launch} (h : l.flags = flags0) : l.stackTraces = false := by
  unfold Launch.stackTraces
  rw [h]
  decide +kernel
/-! THE CLAIM OUT OF ONE WALK OF THE LAW'S BODY. Your part is whole_start (and what it stands on); all else here is the same for every law, but numbers. -/
def R_law : String := "FieldPermsLaw"
def lw_P (b : Addr) (xs : List Int32) (args : Array Value) (s : State) : Prop := args = #[.ref b] ∧ s.IntsAt b xs ∧ xs.length ≤ 3072 ∧ (Jvm.Cond.and given_1 narrow_1).before args s = true
def lw_Q (_ : Array Value) (s : State) (o : Outcome) (t : State) : Prop := o = .returned (some (.int 1)) ∧ Framed s o t [] 601024 7293034
def lw_Z (below : List Frame) (a : Array Value) (s : State) : State → Prop := fun t => ∃ o, t.status = .running ∧ Ended t below o ∧ lw_Q a s o t
/-- what holds at the law's entry: the machine, the code, the tables' words (any of lw_tbl by 'hts w (by decide +kernel)'), the script of L ints xs at the cell b, what the Statement gives of the start (any of its parts by flat_of_before) -/
def lw_At (p : Program) (s : State) (m : MethodId) (meth : Method) (c : Code) (b L : Nat) (xs : Nat → Int32) : Prop :=
  p.tables.exec = Jvm.exec ∧ c.code = code ∧ meth.sig.returnType = ret ∧ c.maxLocals = 8 ∧ s.vm.findClass R_law = some m.cls ∧ (∀ w ∈ lw_tbl, w.before #[Value.ref b] s = true) ∧ va_X b L xs s s.heap ∧ b < s.heap.size ∧ meth.locks = false ∧ (Jvm.Cond.and given_1 narrow_1).before #[Value.ref b] s = true ∧ (∀ x ∈ c.exceptionTable.toList, False) ∧ meth.name = "law"
/-- from the entry, by what the pure function says -/
theorem zstart {p : Program} {e : Env} {s : State} {m : MethodId} {below : List Frame} {meth : Method} {c : Code} (l : Launch) (hflags : l.flags = flags0) {b L : Nat} {xs : Nat → Int32} (C0 : lw_At p s m meth c b L xs)
    (hp : ∃ h' : AH, fL_law (L, xs) (0, 0, fun _ => none) = some (.inl (some (.int 1)), h') ∧ h'.1 ≤ 601024 ∧ h'.2.1 ≤ 7293034) : W p l e room_1 s m #[Value.ref b] below meth c s.heap [] 0 0 (lw_Z below #[Value.ref b] s) (entryFrame m ([Value.ref b] : List Value).toArray 8) := by
  obtain ⟨h', hf, hc, hs⟩ := hp
  obtain ⟨hx, hcode, hret, hml, hown, hts, hX, hbl, hlk, hgv, htab, hnm⟩ := C0
  obtain ⟨V, v1, v2, v3, hE⟩ := zworld (args := #[Value.ref b]) b l hts hgv
  have hV : V.2.2.2.2.2.stackTraces = false := by rw [v3]; exact ztraces hflags
  have hz := mL_law (X := (p, e, { frames := 68, cells := h'.1, slots := h'.2.1, locals := 48 * 68 }, s, m, #[Value.ref b], below, meth, c)) (V := V) (d := 0) (n0 := 0) (k0 := 0) hV (L, xs) ⟨by rw [v2]; exact hX, by rw [v2]; exact hbl, by rw [v2]; show ¬ (V.2.2.1 ≤ b); rw [v1]; exact Nat.not_le.mpr hbl⟩ (0, 0, fun _ => none) _ hf
  have hl := lv_entry ([Value.float (UInt32.ofNat 400)].map (ztv V)) (n := 8) (by rw [zlg_sl]; decide)
  rw [zlv_args] at hl
  have hw := hz.2 ⟨hx, hcode, hml, hown, fun w hw => hts w (List.mem_filter.mp hw).1, hlk, ⟨rfl, rfl⟩, htab, hE, by rw [v1]; exact Nat.le_refl _, hret, hnm, hV⟩ h'.1 h'.2.1 (Nat.zero_add _).symm (Nat.zero_add _).symm (Nat.le_refl _) (Nat.le_refl _) s.heap [] _ 0 0 rfl rfl ⟨by rw [v1]; rfl, fun a e h => by cases h⟩ va_S.rf hl
  intro T hT X
  have hroom : s.hasRoom e.platform { frames := 68, cells := h'.1, slots := h'.2.1, locals := 48 * 68 } = true := by
    refine hasRoom_mono (r' := room_1) ?_ ?_ ?_ ?_ X.room
    · show 68 ≤ 2048
      decide
    · show 48 * 68 ≤ 84000
      decide
    · exact hc
    · exact hs
  have X' : Stand p V.2.2.2.2.2 e { frames := 68, cells := h'.1, slots := h'.2.1, locals := 48 * 68 } s m #[Value.ref b] below meth c T [] 0 0 := by
    rw [v3]
    exact ⟨X.admits, X.cas, X.clock, X.frames, hroom, X.hears, X.method, X.code, X.here, X.tail, X.warmed, X.limits, X.bytes, X.same⟩
  obtain ⟨t, st, o, b1, b2, b3⟩ := hw T hT X'
  have ea : ([Value.ref b] : List Value) = [Value.float (UInt32.ofNat 400)].map (ztv V) := by
    show [Value.ref b] = [Value.ref (V.2.2.2.1 400)]
    rw [v2]
  refine ⟨t, ?_, o, b1, b2, ?_⟩
  · rw [ea, lg_entry_eq]
    exact st
  · rcases b3 with ⟨⟨⟨v, hv, ho⟩, -, -⟩, L9, ⟨-, hW, hsame⟩, hfree⟩ | ⟨q, -, E, ce, L9, ⟨⟨k, hk, -⟩, -⟩, -⟩
    · cases hv
      refine ⟨ho, ⟨_, ho⟩, hW, ?_⟩
      obtain ⟨s1, s2, s3, s4, s5, s6⟩ := hsame
      refine ⟨s1, s2, Nat.le_trans s3 (Nat.add_le_add_left hc _), s4, Nat.le_trans s5 hs, fun a cc ha => ?_⟩
      obtain ⟨c', q1, q2, q3, q4⟩ := s6 a cc ha
      refine ⟨c', q1, q2, q3, fun i _ => q4 i (fun hin => ?_)⟩
      have h9 : V.2.2.1 ≤ a := hfree _ hin
      rw [v1] at h9
      have h10 : a < s.heap.size := (Array.getElem?_eq_some_iff.mp ha).1
      exact Nat.lt_irrefl _ (Nat.lt_of_lt_of_le h10 h9)
    · cases hk
