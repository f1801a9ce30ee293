/-! OUR LAYER, part 6: grids, copies, throwing, calls, bodies -/
theorem zouter (c : ClassId) (N h0 : Nat) : ∀ i : Nat, Jvm.Free.Multi.outerC c N h0 i = arrV c N (fun j => va_rf (if j < i then some (h0 + 1 + j) else none))
  | 0 => by
    show ({ cls := c, slots := Array.replicate N .null, vm := .none } : Cell) = _
    rw [arrV_new]
    refine congrArg (arrV c N) (funext fun j => ?_)
    simp [va_rf]
  | i + 1 => by
    show (Jvm.Free.Multi.outerC c N h0 i).setSlot i (.ref (h0 + 1 + i)) = _
    rw [zouter c N h0 i, arrV_store]
    refine congrArg (arrV c N) (funext fun j => ?_)
    by_cases e : j = i
    · subst e
      simp [updV, va_rf]
    · by_cases h : j < i
      · simp [updV, e, h, Nat.lt_succ_of_lt h]
      · simp [updV, e, h, show ¬ j < i + 1 by omega]
theorem zmul_at {h : AH} {n k b : Nat} : (zmul h n k).2.2 b = if b = h.1 then some (z_r 2 n (fun i => if i < n then some (h.1 + 1 + i) else none)) else if h.1 < b ∧ b < h.1 + 1 + n then some (z_i k (fun _ => 0)) else h.2.2 b := rfl
section ZM
variable {X : CT} {V : VT} {own nm : String} {cc : ByteArray} {nL d n0 k0 : Nat} {ret : Option FieldType} {o : RR} {pc : Nat} {lv : List (Nat × Value)} {st : List Value} {h : AH} {a ci idx k : Nat}
theorem z_nM {n k : Int32} (hw : Cond.classLink own idx "[[I" ∈ zWU) (hw2 : Cond.arrayClass .int ∈ zWU) (hd : decode cc pc = .ok (.multianewarray idx 2, 4)) {K : Nat → AH → RR} (kk : ∀ b h', zG X V own nm cc nL ret d n0 k0 (K b h') (pc + 4) lv (.ref b :: st) h') : zG X V own nm cc nL ret d n0 k0 (zb2 (znM h n k) K) pc lv (.int k :: .int n :: st) h := by
  unfold znM
  by_cases q : n < 0 ∨ k < 0 ∨ 100000 < n.toNatClampNeg ∨ 100000 < k.toNatClampNeg
  · rw [if_pos q]; exact z_none
  · rw [if_neg q]
    have q1 : ¬ n < 0 := fun z => q (Or.inl z)
    have q2 : ¬ k < 0 := fun z => q (Or.inr (Or.inl z))
    have q3 : n.toNatClampNeg ≤ 100000 := Nat.not_lt.mp fun z => q (Or.inr (Or.inr (Or.inl z)))
    have q4 : k.toNatClampNeg ≤ 100000 := Nat.not_lt.mp fun z => q (Or.inr (Or.inr (Or.inr z)))
    generalize hN : n.toNatClampNeg = N' at *
    generalize hKk : k.toNatClampNeg = K' at *
    intro r hr
    obtain ⟨hm, hg⟩ := kk h.1 (zmul h N' K') r hr
    have hm1 : h.1 + 1 + N' ≤ r.2.1 := hm.1
    have hm2 : h.2.1 + N' + N' * K' ≤ r.2.2.1 := hm.2
    refine ⟨⟨by omega, by omega⟩, fun C mc ms a1 a2 a3 a4 H locs ls cells slots e1 e2 e3 e4 e5 => ?_⟩
    have hK := C.2.2.2.2.2.2.2.2.1.1
    have hts := C.2.2.2.2.1
    intro T hT Xs
    obtain ⟨vm₁, cA, comp, -, fA, fC, hO, -, X', step⟩ := Xs.multianewarray2F C.1 (ty := .int) C.2.2.2.1 (hts _ hw) C.2.2.2.2.2.2.2.2.1.2.2.2.2.2.2.2.1 (hts _ hw2) (g := F0 (xm X) pc ls (.int k :: .int n :: ztS V st)) rfl (by rw [C.2.1]; exact hd) rfl q1 q2 (by rw [hN]; omega) (by rw [hKk]; show K' * 4 ≤ _; omega) (by rw [hKk]; omega) rfl rfl (by rw [hN]; omega) (by rw [hN, hKk]; omega)
    rw [hN, hKk] at X' step
    generalize hF : Jvm.Free.Multi.fill (T.setVm vm₁) cA comp N' K' (defaultValue .int) N' = F at X' step
    have hTh : (T.setVm vm₁).heap = H := hT
    obtain ⟨f1, f2, -, -⟩ := Jvm.Free.Multi.fill_facts (T.setVm vm₁) cA comp N' K' (defaultValue .int) N'
    rw [hF, hTh] at f1 f2
    have hold : ∀ x : Nat, x < H.size → F.heap[x]? = H[x]? := fun x hx => by
      have := Jvm.Free.Multi.fill_old (T.setVm vm₁) cA comp N' K' (defaultValue .int) (a := x) (by rw [hTh]; exact hx) N'
      rw [hF, hTh] at this
      exact this
    have hrow : ∀ j : Nat, j < N' → F.heap[H.size + 1 + j]? = some (arrV comp K' (fun _ => .int 0)) := fun j hj => by
      have := Jvm.Free.Multi.fill_inner (T.setVm vm₁) cA comp N' K' (defaultValue .int) N' j hj
      rw [hF, hTh] at this
      rw [this]
      exact congrArg some (arrV_new comp K' (.int 0))
    rw [zouter] at f2
    have hcA : V.2.1 2 = cA := Option.some.inj ((hK.2 2 _ rfl).2.symm.trans fA)
    have hcC : V.2.1 0 = comp := Option.some.inj ((hK.2 0 _ rfl).2.symm.trans fC)
    have hrep : zRep V (zmul h N' K') F.heap := by
      refine ⟨by rw [f1, e3.1]; show _ = V.2.2.1 + (h.1 + 1 + N'); omega, fun b e' hb => ?_⟩
      rw [zmul_at] at hb
      split at hb
      · next hb0 =>
        cases hb
        show F.heap[V.2.2.1 + b]? = some (vp_cell _ _)
        rw [hb0, ← e3.1, f2, vp_cell_q, hcA]
        congr 2
        funext j
        by_cases hj : j < N'
        · simp only [hj, if_true, Option.map_some]
          congr 2
          rw [e3.1]; omega
        · simp [hj]
      · next hb0 =>
        split at hb
        · next hb1 =>
          cases hb
          show F.heap[V.2.2.1 + b]? = some (vp_cell _ _)
          have := hrow (b - h.1 - 1) (by omega)
          rw [show H.size + 1 + (b - h.1 - 1) = V.2.2.1 + b by rw [e3.1]; omega] at this
          rw [this, hcC]
          rfl
        · exact (e3.2 b e' hb).kept (hold _ (e3.2 b e' hb).lt)
    obtain ⟨t, b1, b2⟩ := hg C mc ms a1 a2 a3 a4 F.heap locs ls (cells + 1 + N') (slots + N' + N' * K') (show h.1 + 1 + N' = _ by omega) (show h.2.1 + N' + N' * K' = _ by omega) hrep (zS.push e4 (by rw [f1]; omega) hold) e5 F rfl X'
    refine ⟨t, step t ?_, b2⟩
    have e : T.heap.size = V.2.2.1 + h.1 := by rw [hT, e3.1]
    rw [e]
    exact b1
theorem z_cp {a0 a1 : Nat} {sp dp n : Int32} (hw : Cond.methodLink own idx arraycopyName ∈ zWU) (hw2 : Cond.native arraycopyName ∈ zWU) (hw3 : Cond.static arraycopyName ∈ zWU) (hw4 : Cond.initialized "java/lang/System" ∈ zWU) (hst : (st.map fun v => v.category).sum ≤ 8) (hd9 : 1 ≤ d) (hd : decode cc pc = .ok (.invokestatic idx, 3)) {K : AH → RR} (kk : ∀ h', zG X V own nm cc nL ret d n0 k0 (K h') (pc + 3) lv st h') : zG X V own nm cc nL ret d n0 k0 ((zcp h a0 sp a1 dp n).bind K) pc lv (.int n :: .int dp :: .ref a1 :: .int sp :: .ref a0 :: st) h := by
  intro r hr
  cases hz : zcp h a0 sp a1 dp n with
  | none => rw [hz] at hr; cases hr
  | some h' =>
    rw [hz] at hr
    obtain ⟨c0, f, c1, g, hh0, hh1, hc, rfl⟩ := zcp_spec hz
    obtain ⟨hm, hg⟩ := kk _ r hr
    refine ⟨hm, fun C mc ms b1 b2 b3 b4 H locs ls cells slots e1 e2 e3 e4 e5 => ?_⟩
    have hK := C.2.2.2.2.2.2.2.2.1.1
    have hts := C.2.2.2.2.1
    have h1 : ¬ sp < 0 := fun z => hc (Or.inl z)
    have h2 : ¬ dp < 0 := fun z => hc (Or.inr (Or.inl z))
    have h3 : ¬ n < 0 := fun z => hc (Or.inr (Or.inr (Or.inl z)))
    have h4 : sp.toNatClampNeg + n.toNatClampNeg ≤ c0 := Nat.not_lt.mp fun z => hc (Or.inr (Or.inr (Or.inr (Or.inl z))))
    have h5 : dp.toNatClampNeg + n.toNatClampNeg ≤ c1 := Nat.not_lt.mp fun z => hc (Or.inr (Or.inr (Or.inr (Or.inr z))))
    have nn : ∀ z : Int32, ¬ z < 0 → z.toInt = (z.toNatClampNeg : Int) := by
      intro z hz
      have hz0 : (0 : Int) ≤ z.toInt := by
        have := Int32.not_lt.mp hz
        simpa using Int32.le_iff_toInt_le.mp this
      show z.toInt = ((z.toInt.toNat : Nat) : Int)
      omega
    intro T hT Xs
    have hc0 : H[V.2.2.1 + a0]? = some (vp_cell (V.2.1 0) (c0, .inl f)) := e3.2 a0 _ hh0
    have hc1 : H[V.2.2.1 + a1]? = some (vp_cell (V.2.1 0) (c1, .inl g)) := e3.2 a1 _ hh1
    obtain ⟨-, kk0, hk0, cm0, hkk0⟩ := (hK.2 0 _ rfl).1 c0 (fun j => .int (f j))
    obtain ⟨-, kk1, hk1, cm1, hkk1⟩ := (hK.2 0 _ rfl).1 c1 (fun j => .int (g j))
    obtain ⟨vm', X', step⟩ := Xs.arraycopy C.1 C.2.2.2.1 (hts _ hw) (hts _ hw2) (hts _ hw3) (hts _ hw4) (src := V.2.2.1 + a0) (dst := V.2.2.1 + a1) (cs := vp_cell (V.2.1 0) (c0, .inl f)) (cd := vp_cell (V.2.1 0) (c1, .inl g)) (srcPos := sp) (destPos := dp) (n := n) (by rw [hT]; exact hc0) (by rw [hT]; exact hc1)
      (fun _ h => by cases h) (fun _ h => by cases h) (fun h => by cases h) (fun h => by cases h) hk0 hk1 hkk0 hkk1 (by rfl) h1 h2 h3
      (by rw [nn sp h1, nn n h3]; show ¬ _ > ((arrV (V.2.1 0) c0 (fun j => .int (f j))).slots.size : Int); rw [arrV_size]; omega)
      (by rw [nn dp h2, nn n h3]; show ¬ _ > ((arrV (V.2.1 0) c1 (fun j => .int (g j))).slots.size : Int); rw [arrV_size]; omega)
      (fun vm₁ _ i hi => by
        have e : (vp_cell (V.2.1 0) (c0, .inl f)).slots.getD (sp.toNatClampNeg + i) .null = .int (f (sp.toNatClampNeg + i)) := by
          show (arrV (V.2.1 0) c0 (fun j => .int (f j))).slots.getD _ _ = _
          rw [Array.getD_eq_getD_getElem?, arrV_read _ _ (by omega)]
          rfl
        refine ⟨?_, ?_⟩
        · rw [e]; rfl
        · rw [e]; exact trivial)
      (g := F0 (xm X) pc ls (.int n :: .int dp :: .ref (V.2.2.1 + a1) :: .int sp :: .ref (V.2.2.1 + a0) :: ztS V st)) rfl (by show ls.size = _; rw [e5.1, C.2.2.1]) (rest := ztS V st) rfl (by rw [C.2.1]; exact hd) (by rw [C.2.2.2.2.2.2.1.1]; exact hd9)
      (by
        have hs : ((ztS V st).map fun v => v.category).sum = (st.map fun v => v.category).sum := by
          rw [List.map_map]; congr 1; apply List.map_congr_left; intro v _; exact ztv_cat V v
        have hnf : nativeFrameWords "java/lang/System" "arraycopy" 5 + 11 ≤ 40 := by decide +kernel
        rw [C.2.2.2.2.2.2.1.2]
        show 2 * 0 + _ + _ ≤ _
        omega)
    have x1 : copied (vp_cell (V.2.1 0) (c0, .inl f)) (vp_cell (V.2.1 0) (c1, .inl g)) sp dp n = vp_cell (V.2.1 0) (c1, .inl (va_cpy f g sp.toNatClampNeg dp.toNatClampNeg n.toNatClampNeg)) := va_copied (fun z => .int z) (V.2.1 0) (V.2.1 0) f g h4
    rw [x1] at X' step
    have hl : V.2.2.1 + a1 < H.size := (Array.getElem?_eq_some_iff.mp hc1).1
    have hheap : ((T.setVm vm').setCell (V.2.2.1 + a1) (vp_cell (V.2.1 0) (c1, .inl (va_cpy f g sp.toNatClampNeg dp.toNatClampNeg n.toNatClampNeg)))).heap = H.setIfInBounds (V.2.2.1 + a1) (vp_cell (V.2.1 0) (c1, .inl (va_cpy f g sp.toNatClampNeg dp.toNatClampNeg n.toNatClampNeg))) := by rw [← hT]; rfl
    have oq : ∀ q : Nat, q ≠ V.2.2.1 + a1 → (H.setIfInBounds (V.2.2.1 + a1) (vp_cell (V.2.1 0) (c1, .inl (va_cpy f g sp.toNatClampNeg dp.toNatClampNeg n.toNatClampNeg))))[q]? = H[q]? := fun q hq => by simp [Array.getElem?_setIfInBounds, Ne.symm hq]
    obtain ⟨t, t1, t2⟩ := hg C mc ms b1 b2 b3 b4 _ _ ls cells slots e1 e2 (e3.put (H1 := H.setIfInBounds (V.2.2.1 + a1) (vp_cell (V.2.1 0) (c1, .inl (va_cpy f g sp.toNatClampNeg dp.toNatClampNeg n.toNatClampNeg)))) (by simp) (show (H.setIfInBounds (V.2.2.1 + a1) _)[V.2.2.1 + a1]? = some _ by simp [Array.getElem?_setIfInBounds, hl]) oq) ⟨by simp; exact e4.1, fun q g1 g2 => by
        rw [oq q (fun e => g2 (by rw [e]; exact Nat.le_add_right _ _))]
        exact e4.2.1 q g1 g2, fun q hq => by
        rcases List.mem_append.mp hq with h | h
        · exact e4.2.2 q h
        · obtain ⟨z, -, hz⟩ := List.mem_map.mp h
          rw [← hz]
          exact Nat.le_add_right _ _⟩ e5 _ hheap X'
    exact ⟨t, step t t1, t2⟩
theorem z_objInit (hw : Cond.methodLink own idx Lib.objectInit ∈ zWU) (hw2 : Cond.instanceMethod Lib.objectInit ∈ zWU) (hw3 : Cond.code Lib.objectInit ⟨#[0xb1]⟩ 1 none ∈ zWU) (hst : (st.map fun v => v.category).sum ≤ 8) (hd9 : 1 ≤ d) (hd : decode cc pc = .ok (.invokespecial idx, 3)) (kk : zG X V own nm cc nL ret d n0 k0 o (pc + 3) lv st h) : zG X V own nm cc nL ret d n0 k0 o pc lv (.ref a :: st) h := by
  refine zstep kk (fun C H locs cells slots Q ls _ _ hl kk => ?_)
  have hts := C.2.2.2.2.1
  have hs : ((ztS V st).map fun v => v.category).sum = (st.map fun v => v.category).sum := by
    rw [List.map_map]; congr 1; apply List.map_congr_left; intro v _; exact ztv_cat V v
  exact W.objInit C.1 C.2.1 C.2.2.2.1 (hts _ hw) (hts _ hw2) (hts _ hw3) rfl (by rw [C.2.2.1]; exact hl.1) rfl hd (by rw [C.2.2.2.2.2.2.1.1]; exact hd9) (by rw [C.2.2.2.2.2.2.1.2]; show 2 * 0 + ((ztS V st).map fun v => v.category).sum + 12 ≤ _; omega) (kk ls hl)
end ZM
