/-! the script: rows for its length and its numbers -/
abbrev SC : Type := Nat × (Nat → Int32)
def zSc (X : CT) (V : VT) (S : SC) : Prop := va_X (V.2.2.2.1 400) S.1 S.2 (xs X) (xs X).heap ∧ V.2.2.2.1 400 < (xs X).heap.size ∧ ¬ zA V (V.2.2.2.1 400)
def zsc (S : SC) (i : Int32) : Option Int32 := if i < 0 ∨ S.1 ≤ i.toNatClampNeg then none else some (S.2 i.toNatClampNeg)
section ZS
variable {X : CT} {V : VT} {own nm : String} {cc : ByteArray} {nL d n0 k0 : Nat} {ret : Option FieldType} {o : RR} {pc : Nat} {lv : List (Nat × Value)} {st : List Value} {h : AH} {S : SC}
theorem z_xI {i : Int32} (hS : zSc X V S) (hd : decode cc pc = .ok (.iaload, 1)) {K : Int32 → RR} (kk : ∀ x, zG X V own nm cc nL ret d n0 k0 (K x) (pc + 1) lv (.int x :: st) h) : zG X V own nm cc nL ret d n0 k0 ((zsc S i).bind K) pc lv (.int i :: .float (UInt32.ofNat 400) :: st) h := by
  intro r hr
  unfold zsc at hr
  by_cases q : i < 0 ∨ S.1 ≤ i.toNatClampNeg
  · rw [if_pos q] at hr; cases hr
  · rw [if_neg q] at hr
    obtain ⟨hm, hw⟩ := kk _ r hr
    exact ⟨hm, fun C mc ms a1 a2 a3 a4 H locs ls cells slots e1 e2 e3 e4 e5 => va_sld C.1 C.2.1 hS.1 hS.2.1 hS.2.2 e4 q hd (hw C mc ms a1 a2 a3 a4 H locs ls cells slots e1 e2 e3 e4 e5)⟩
theorem z_xL (hS : zSc X V S) (hd : decode cc pc = .ok (.arraylength, 1)) (kk : zG X V own nm cc nL ret d n0 k0 o (pc + 1) lv (.int (Int32.ofNat S.1) :: st) h) : zG X V own nm cc nL ret d n0 k0 o pc lv (.float (UInt32.ofNat 400) :: st) h := by
  intro r hr
  obtain ⟨hm, hw⟩ := kk r hr
  exact ⟨hm, fun C mc ms a1 a2 a3 a4 H locs ls cells slots e1 e2 e3 e4 e5 => va_slen C.1 C.2.1 hS.1 hS.2.1 hS.2.2 e4 hd (hw C mc ms a1 a2 a3 a4 H locs ls cells slots e1 e2 e3 e4 e5)⟩
end ZS
