/-! OUR LAYER, part 4: rows over cells, ends -/
section ZK
variable {X : CT} {V : VT} {own nm : String} {cc : ByteArray} {nL d n0 k0 : Nat} {ret : Option FieldType} {o : RR} {pc : Nat} {lv : List (Nat × Value)} {st : List Value} {h : AH} {a ci idx k : Nat}
theorem z_gI (hF : zFL own idx ci k) (hd : decode cc pc = .ok (.getfield idx, 3)) {K : Int32 → RR} (kk : ∀ x, zG X V own nm cc nL ret d n0 k0 (K x) (pc + 3) lv (.int x :: st) h) : zG X V own nm cc nL ret d n0 k0 ((zgI h a ci k).bind K) pc lv (.ref a :: st) h := by
  intro r hr
  cases hz : zgI h a ci k with
  | none => rw [hz] at hr; cases hr
  | some x =>
    rw [hz] at hr
    obtain ⟨fs, hh, hv⟩ := zgI_spec hz
    obtain ⟨hm, hw⟩ := kk x r hr
    exact ⟨hm, fun C mc ms a1 a2 a3 a4 H locs ls cells slots e1 e2 e3 e4 e5 => zgetW C hF hd e3 hh hv (hw C mc ms a1 a2 a3 a4 H locs ls cells slots e1 e2 e3 e4 e5)⟩
theorem z_gR (hF : zFL own idx ci k) (hd : decode cc pc = .ok (.getfield idx, 3)) {K : Nat → RR} (kk : ∀ x, zG X V own nm cc nL ret d n0 k0 (K x) (pc + 3) lv (.ref x :: st) h) : zG X V own nm cc nL ret d n0 k0 ((zgR h a ci k).bind K) pc lv (.ref a :: st) h := by
  intro r hr
  cases hz : zgR h a ci k with
  | none => rw [hz] at hr; cases hr
  | some x =>
    rw [hz] at hr
    obtain ⟨fs, hh, hv⟩ := zgR_spec hz
    obtain ⟨hm, hw⟩ := kk x r hr
    exact ⟨hm, fun C mc ms a1 a2 a3 a4 H locs ls cells slots e1 e2 e3 e4 e5 => zgetW C hF hd e3 hh hv (hw C mc ms a1 a2 a3 a4 H locs ls cells slots e1 e2 e3 e4 e5)⟩
theorem z_pI (hF : zFL own idx ci k) (hW : zFW own nm ci k) (hty : zfty ci k = .int) (hd : decode cc pc = .ok (.putfield idx, 3)) {x : Int32} {K : AH → RR} (kk : ∀ h', zG X V own nm cc nL ret d n0 k0 (K h') (pc + 3) lv st h') : zG X V own nm cc nL ret d n0 k0 ((zpf h a ci k (.int x)).bind K) pc lv (.int x :: .ref a :: st) h := by
  intro r hr
  cases hz : zpf h a ci k (.int x) with
  | none => rw [hz] at hr; cases hr
  | some h' =>
    rw [hz] at hr
    obtain ⟨fs, hh, hl, rfl⟩ := zpf_spec hz
    obtain ⟨hm, hw⟩ := kk _ r hr
    exact ⟨hm, fun C mc ms a1 a2 a3 a4 H locs ls cells slots e1 e2 e3 e4 e5 => zputW C hF hW hd (v := .int x) (by rw [hty]; exact vp_nar_int x) (by rw [hty]; rfl) e3 e4 hh hl (fun H1 locs1 r1 s1 => hw C mc ms a1 a2 a3 a4 H1 locs1 ls cells slots e1 e2 r1 s1 e5)⟩
theorem zref_ok {t : FieldType} (ht : (∃ n, t = .object n) ∨ ∃ u, t = .array u) (b : Nat) : narrow t (.ref b) = .ref b ∧ fits t (.ref b) = true := by
  rcases ht with ⟨n, rfl⟩ | ⟨u, rfl⟩ <;> exact ⟨rfl, rfl⟩
theorem z_pR (hF : zFL own idx ci k) (hW : zFW own nm ci k) (hty : (∃ n, zfty ci k = .object n) ∨ ∃ u, zfty ci k = .array u) (hd : decode cc pc = .ok (.putfield idx, 3)) {x : Nat} {K : AH → RR} (kk : ∀ h', zG X V own nm cc nL ret d n0 k0 (K h') (pc + 3) lv st h') : zG X V own nm cc nL ret d n0 k0 ((zpf h a ci k (.ref x)).bind K) pc lv (.ref x :: .ref a :: st) h := by
  intro r hr
  cases hz : zpf h a ci k (.ref x) with
  | none => rw [hz] at hr; cases hr
  | some h' =>
    rw [hz] at hr
    obtain ⟨fs, hh, hl, rfl⟩ := zpf_spec hz
    obtain ⟨hm, hw⟩ := kk _ r hr
    exact ⟨hm, fun C mc ms a1 a2 a3 a4 H locs ls cells slots e1 e2 e3 e4 e5 => zputW C hF hW hd (v := .ref x) (zref_ok hty _).1 (zref_ok hty _).2 e3 e4 hh hl (fun H1 locs1 r1 s1 => hw C mc ms a1 a2 a3 a4 H1 locs1 ls cells slots e1 e2 r1 s1 e5)⟩
theorem z_aI {i : Int32} (hd : decode cc pc = .ok (.iaload, 1)) {K : Int32 → RR} (kk : ∀ x, zG X V own nm cc nL ret d n0 k0 (K x) (pc + 1) lv (.int x :: st) h) : zG X V own nm cc nL ret d n0 k0 ((zai h a i).bind K) pc lv (.int i :: .ref a :: st) h := by
  intro r hr
  cases hz : zai h a i with
  | none => rw [hz] at hr; cases hr
  | some x =>
    rw [hz] at hr
    obtain ⟨n, f, hh, hin, rfl⟩ := zai_spec hz
    obtain ⟨hm, hw⟩ := kk _ r hr
    exact ⟨hm, fun C mc ms a1 a2 a3 a4 H locs ls cells slots e1 e2 e3 e4 e5 => va_iald (D := V.1) (cl := zcl) (tys := zty V) (ws := [(V.2.2.1 + a, _)]) C.1 C.2.1 C.2.2.2.2.2.2.2.2.1.1 (zone (e3.2 a _ hh)) 0 0 rfl rfl hin hd (hw C mc ms a1 a2 a3 a4 H locs ls cells slots e1 e2 e3 e4 e5)⟩
theorem z_aJ {i : Int32} (hd : decode cc pc = .ok (.laload, 1)) {K : Int64 → RR} (kk : ∀ x, zG X V own nm cc nL ret d n0 k0 (K x) (pc + 1) lv (.long x :: st) h) : zG X V own nm cc nL ret d n0 k0 ((zal h a i).bind K) pc lv (.int i :: .ref a :: st) h := by
  intro r hr
  cases hz : zal h a i with
  | none => rw [hz] at hr; cases hr
  | some x =>
    rw [hz] at hr
    obtain ⟨n, f, hh, hin, rfl⟩ := zal_spec hz
    obtain ⟨hm, hw⟩ := kk _ r hr
    exact ⟨hm, fun C mc ms a1 a2 a3 a4 H locs ls cells slots e1 e2 e3 e4 e5 => va_lald (D := V.1) (cl := zcl) (tys := zty V) (ws := [(V.2.2.1 + a, _)]) C.1 C.2.1 C.2.2.2.2.2.2.2.2.1.1 (zone (e3.2 a _ hh)) 0 1 rfl rfl hin hd (hw C mc ms a1 a2 a3 a4 H locs ls cells slots e1 e2 e3 e4 e5)⟩
theorem z_aR {i : Int32} (hd : decode cc pc = .ok (.aaload, 1)) {K : Nat → RR} (kk : ∀ x, zG X V own nm cc nL ret d n0 k0 (K x) (pc + 1) lv (.ref x :: st) h) : zG X V own nm cc nL ret d n0 k0 ((zar h a i).bind K) pc lv (.int i :: .ref a :: st) h := by
  intro r hr
  cases hz : zar h a i with
  | none => rw [hz] at hr; cases hr
  | some x =>
    rw [hz] at hr
    obtain ⟨t, n, f, hh, ht, hin, hf⟩ := zar_spec hz
    obtain ⟨hm, hw⟩ := kk _ r hr
    refine ⟨hm, fun C mc ms a1 a2 a3 a4 H locs ls cells slots e1 e2 e3 e4 e5 => ?_⟩
    have hlt : i.toNatClampNeg < n := Nat.not_le.mp fun q => hin (Or.inr q)
    have hcell : H[V.2.2.1 + a]? = some (arrV (V.2.1 t) n (fun j => va_rf ((f j).map (fun x => V.2.2.1 + x)))) := e3.2 a _ hh
    have hK := C.2.2.2.2.2.2.2.2.1.1
    have hv : va_rf ((f i.toNatClampNeg).map (fun x => V.2.2.1 + x)) = .ref (V.2.2.1 + x) := by rw [hf]; rfl
    have hA : ∃ ty : FieldType, ty.isReference = true ∧ ArrOfT (xs X) (V.2.1 t) ty := by
      rcases ht with rfl | rfl
      · exact ⟨_, rfl, (hK.2 2 _ rfl).1⟩
      · exact ⟨_, rfl, (hK.2 3 _ rfl).1⟩
    obtain ⟨ty, t1, t2⟩ := hA
    exact W.aald (v := .ref (V.2.2.1 + x)) (ty := ty) C.1 C.2.1 hcell (t2 n _) t1 (fun q => by cases q) (by rw [arrV_size]; exact hin) (by rw [arrV_read _ _ hlt, hv]) rfl rfl hd (hw C mc ms a1 a2 a3 a4 H locs ls cells slots e1 e2 e3 e4 e5)
theorem z_sI {i : Int32} {x : Int32} (hd : decode cc pc = .ok (.iastore, 1)) {K : AH → RR} (kk : ∀ h', zG X V own nm cc nL ret d n0 k0 (K h') (pc + 1) lv st h') : zG X V own nm cc nL ret d n0 k0 ((zsi h a i x).bind K) pc lv (.int x :: .int i :: .ref a :: st) h := by
  intro r hr
  cases hz : zsi h a i x with
  | none => rw [hz] at hr; cases hr
  | some h' =>
    rw [hz] at hr
    obtain ⟨n, f, hh, hin, rfl⟩ := zsi_spec hz
    obtain ⟨hm, hw⟩ := kk _ r hr
    refine ⟨hm, fun C mc ms a1 a2 a3 a4 H locs ls cells slots e1 e2 e3 e4 e5 => ?_⟩
    have hK := C.2.2.2.2.2.2.2.2.1.1
    have hcell : H[V.2.2.1 + a]? = some (arrV (V.2.1 0) n (fun j => .int (f j))) := e3.2 a _ hh
    refine W.iast C.1 C.2.1 hcell ((hK.2 0 _ rfl).1 n _) (fun q => by cases q) (by rw [arrV_size]; exact hin) rfl rfl hd fun H1 e z oq => ?_
    refine hw C mc ms a1 a2 a3 a4 H1 _ ls cells slots e1 e2 (e3.put z ?_ oq) (e4.put z oq (Nat.le_add_right _ _)) e5
    show H1[V.2.2.1 + a]? = some (vp_cell _ _)
    rw [e, vp_cell_i, arrV_store]
    congr 2
    funext q
    by_cases hq : q = i.toNatClampNeg
    · subst hq; simp [updV, va_up]
    · simp [updV, va_up, hq]
theorem z_sJ {i : Int32} {x : Int64} (hd : decode cc pc = .ok (.lastore, 1)) {K : AH → RR} (kk : ∀ h', zG X V own nm cc nL ret d n0 k0 (K h') (pc + 1) lv st h') : zG X V own nm cc nL ret d n0 k0 ((zsl h a i x).bind K) pc lv (.long x :: .int i :: .ref a :: st) h := by
  intro r hr
  cases hz : zsl h a i x with
  | none => rw [hz] at hr; cases hr
  | some h' =>
    rw [hz] at hr
    obtain ⟨n, f, hh, hin, rfl⟩ := zsl_spec hz
    obtain ⟨hm, hw⟩ := kk _ r hr
    refine ⟨hm, fun C mc ms a1 a2 a3 a4 H locs ls cells slots e1 e2 e3 e4 e5 => ?_⟩
    have hK := C.2.2.2.2.2.2.2.2.1.1
    have hcell : H[V.2.2.1 + a]? = some (arrV (V.2.1 1) n (fun j => .long (f j))) := e3.2 a _ hh
    refine W.last C.1 C.2.1 hcell ((hK.2 1 _ rfl).1 n _) (fun q => by cases q) (by rw [arrV_size]; exact hin) rfl rfl hd fun H1 e z oq => ?_
    refine hw C mc ms a1 a2 a3 a4 H1 _ ls cells slots e1 e2 (e3.put z ?_ oq) (e4.put z oq (Nat.le_add_right _ _)) e5
    show H1[V.2.2.1 + a]? = some (vp_cell _ _)
    rw [e, vp_cell_l, arrV_store]
    congr 2
    funext q
    by_cases hq : q = i.toNatClampNeg
    · subst hq; simp [updV, va_up]
    · simp [updV, va_up, hq]
theorem z_sR {i : Int32} {b : Nat} (hd : decode cc pc = .ok (.aastore, 1)) {K : AH → RR} (kk : ∀ h', zG X V own nm cc nL ret d n0 k0 (K h') (pc + 1) lv st h') : zG X V own nm cc nL ret d n0 k0 ((zsr h a i b).bind K) pc lv (.ref b :: .int i :: .ref a :: st) h := by
  intro r hr
  cases hz : zsr h a i b with
  | none => rw [hz] at hr; cases hr
  | some h' =>
    rw [hz] at hr
    obtain ⟨n, f, hh, hb, hin, rfl⟩ := zsr_spec hz
    obtain ⟨fs, hfs⟩ := zob_spec hb
    obtain ⟨hm, hw⟩ := kk _ r hr
    refine ⟨hm, fun C mc ms a1 a2 a3 a4 H locs ls cells slots e1 e2 e3 e4 e5 => ?_⟩
    have hK := C.2.2.2.2.2.2.2.2.1.1
    have hlt : i.toNatClampNeg < n := Nat.not_le.mp fun q => hin (Or.inr q)
    have h0 : ¬ i < 0 := fun q => hin (Or.inl q)
    have hcell : H[V.2.2.1 + a]? = some (arrV (V.2.1 3) n (fun j => va_rf ((f j).map (fun x => V.2.2.1 + x)))) := e3.2 a _ hh
    obtain ⟨r', hr', cellV, g1, g2, g3, -⟩ := e3.2 b _ hfs
    have hcls := (hK.1 3 _ rfl).2
    obtain ⟨kA, comp, k1, k2, k3, -⟩ := (hK.2 3 _ rfl).2
    have hcomp : comp = V.1.1 3 := Option.some.inj (k3.symm.trans hcls.1)
    subst hcomp
    obtain ⟨kC, hkC, -⟩ := id hcls.2
    refine W.aast C.1 C.2.1 hcell (fun q h => by cases h) (fun h => by cases h) k1 k2 rfl hkC ⟨h0, by rw [arrV_size]; exact hlt⟩ g1 (fun q h => by rw [g3] at h; cases h) (by rw [g2]; exact hkC) (by rw [g2]; exact va_assign hcls) rfl rfl hd fun H1 e z oq => ?_
    refine hw C mc ms a1 a2 a3 a4 H1 _ ls cells slots e1 e2 (e3.put z ?_ oq) (e4.put z oq (Nat.le_add_right _ _)) e5
    show H1[V.2.2.1 + a]? = some (vp_cell _ _)
    rw [e, vp_cell_q, arrV_store]
    congr 2
    funext q
    by_cases hq : q = i.toNatClampNeg
    · subst hq; simp [updV, va_up, va_rf]
    · simp [updV, va_up, hq]
theorem z_len (hd : decode cc pc = .ok (.arraylength, 1)) {K : Nat → RR} (kk : ∀ n, zG X V own nm cc nL ret d n0 k0 (K n) (pc + 1) lv (.int (Int32.ofNat n) :: st) h) : zG X V own nm cc nL ret d n0 k0 ((zlen h a).bind K) pc lv (.ref a :: st) h := by
  intro r hr
  cases hz : zlen h a with
  | none => rw [hz] at hr; cases hr
  | some n =>
    rw [hz] at hr
    obtain ⟨hm, hw⟩ := kk n r hr
    refine ⟨hm, fun C mc ms a1 a2 a3 a4 H locs ls cells slots e1 e2 e3 e4 e5 => ?_⟩
    have hK := C.2.2.2.2.2.2.2.2.1.1
    unfold zlen at hz
    split at hz
    · next n' f hh =>
      cases hz
      exact va_alen (D := V.1) (cl := zcl) (tys := zty V) (ws := [(V.2.2.1 + a, _)]) C.1 C.2.1 hK (zone (e3.2 a _ hh)) 0 0 rfl rfl rfl hd (hw C mc ms a1 a2 a3 a4 H locs ls cells slots e1 e2 e3 e4 e5)
    · next n' f hh =>
      cases hz
      exact va_alen (D := V.1) (cl := zcl) (tys := zty V) (ws := [(V.2.2.1 + a, _)]) C.1 C.2.1 hK (zone (e3.2 a _ hh)) 0 1 rfl rfl rfl hd (hw C mc ms a1 a2 a3 a4 H locs ls cells slots e1 e2 e3 e4 e5)
    · cases hz
theorem z_iret {x : Int32} (hret : ret = some .int) (hd : decode cc pc = .ok (.ireturn, 1)) : zG X V own nm cc nL ret d n0 k0 (some (.inl (some (.int x)), h)) pc lv [.int x] h := by
  intro r hr
  cases hr
  refine ⟨⟨Nat.le_refl _, Nat.le_refl _⟩, fun C mc ms a1 a2 a3 a4 H locs ls cells slots e1 e2 e3 e4 e5 => ?_⟩
  have em : mc = cells := Nat.add_left_cancel (a1.symm.trans e1)
  have es : ms = slots := Nat.add_left_cancel (a2.symm.trans e2)
  subst em; subst es
  exact vx_ret (W.iret C.1 C.2.1 (C.2.2.2.2.2.2.2.2.2.2.1.trans hret) (fun t ht hW => ⟨⟨_, rfl, rfl⟩, by rw [ht]; exact e3, e4.F ht⟩) e4.2.2 hd C.2.2.2.2.2.1)
theorem z_lret {x : Int64} (hret : ret = some .long) (hd : decode cc pc = .ok (.lreturn, 1)) : zG X V own nm cc nL ret d n0 k0 (some (.inl (some (.long x)), h)) pc lv [.long x] h := by
  intro r hr
  cases hr
  refine ⟨⟨Nat.le_refl _, Nat.le_refl _⟩, fun C mc ms a1 a2 a3 a4 H locs ls cells slots e1 e2 e3 e4 e5 => ?_⟩
  have em : mc = cells := Nat.add_left_cancel (a1.symm.trans e1)
  have es : ms = slots := Nat.add_left_cancel (a2.symm.trans e2)
  subst em; subst es
  exact vx_ret (W.lret C.1 C.2.1 (C.2.2.2.2.2.2.2.2.2.2.1.trans hret) (fun t ht hW => ⟨⟨_, rfl, rfl⟩, by rw [ht]; exact e3, e4.F ht⟩) e4.2.2 hd C.2.2.2.2.2.1)
theorem z_vret (hret : ret = none) (hd : decode cc pc = .ok (.return_, 1)) : zG X V own nm cc nL ret d n0 k0 (some (.inl none, h)) pc lv [] h := by
  intro r hr
  cases hr
  refine ⟨⟨Nat.le_refl _, Nat.le_refl _⟩, fun C mc ms a1 a2 a3 a4 H locs ls cells slots e1 e2 e3 e4 e5 => ?_⟩
  have em : mc = cells := Nat.add_left_cancel (a1.symm.trans e1)
  have es : ms = slots := Nat.add_left_cancel (a2.symm.trans e2)
  subst em; subst es
  exact vx_ret (W.vret C.1 C.2.1 (C.2.2.2.2.2.2.2.2.2.2.1.trans hret) (fun t ht hW => ⟨⟨_, rfl, rfl⟩, by rw [ht]; exact e3, e4.F ht⟩) e4.2.2 hd C.2.2.2.2.2.1)
theorem z_aret {x : Nat} {rt : FieldType} (hret : ret = some rt) (hrt : (∃ n, rt = .object n) ∨ ∃ t, rt = .array t) (hd : decode cc pc = .ok (.areturn, 1)) : zG X V own nm cc nL ret d n0 k0 (some (.inl (some (.ref x)), h)) pc lv [.ref x] h := by
  intro r hr
  cases hr
  refine ⟨⟨Nat.le_refl _, Nat.le_refl _⟩, fun C mc ms a1 a2 a3 a4 H locs ls cells slots e1 e2 e3 e4 e5 => ?_⟩
  have em : mc = cells := Nat.add_left_cancel (a1.symm.trans e1)
  have es : ms = slots := Nat.add_left_cancel (a2.symm.trans e2)
  subst em; subst es
  exact vx_ret (W.aret C.1 C.2.1 (C.2.2.2.2.2.2.2.2.2.2.1.trans hret) hrt (Or.inr ⟨_, rfl⟩) (fun t ht hW => ⟨⟨_, rfl, rfl⟩, by rw [ht]; exact e3, e4.F ht⟩) e4.2.2 hd C.2.2.2.2.2.1)
theorem z_nret {rt : FieldType} (hret : ret = some rt) (hrt : (∃ n, rt = .object n) ∨ ∃ t, rt = .array t) (hd : decode cc pc = .ok (.areturn, 1)) : zG X V own nm cc nL ret d n0 k0 (some (.inl (some .null), h)) pc lv [.null] h := by
  intro r hr
  cases hr
  refine ⟨⟨Nat.le_refl _, Nat.le_refl _⟩, fun C mc ms a1 a2 a3 a4 H locs ls cells slots e1 e2 e3 e4 e5 => ?_⟩
  have em : mc = cells := Nat.add_left_cancel (a1.symm.trans e1)
  have es : ms = slots := Nat.add_left_cancel (a2.symm.trans e2)
  subst em; subst es
  exact vx_ret (W.aret C.1 C.2.1 (C.2.2.2.2.2.2.2.2.2.2.1.trans hret) hrt (Or.inl rfl) (fun t ht hW => ⟨⟨_, rfl, rfl⟩, by rw [ht]; exact e3, e4.F ht⟩) e4.2.2 hd C.2.2.2.2.2.1)
def zbr (x : Int32) (h : AH) : RR := if x = 0 ∨ x = 1 then some (.inl (some (.int x)), h) else none
theorem z_zret {x : Int32} (hret : ret = some .boolean) (hd : decode cc pc = .ok (.ireturn, 1)) : zG X V own nm cc nL ret d n0 k0 (zbr x h) pc lv [.int x] h := by
  unfold zbr
  by_cases q : x = 0 ∨ x = 1
  · rw [if_pos q]
    have hn : narrow .boolean (.int x) = .int x := by rcases q with rfl | rfl <;> rfl
    intro r hr
    cases hr
    refine ⟨⟨Nat.le_refl _, Nat.le_refl _⟩, fun C mc ms a1 a2 a3 a4 H locs ls cells slots e1 e2 e3 e4 e5 => ?_⟩
    have em : mc = cells := Nat.add_left_cancel (a1.symm.trans e1)
    have es : ms = slots := Nat.add_left_cancel (a2.symm.trans e2)
    subst em; subst es
    exact vx_ret (W.zret C.1 C.2.1 (C.2.2.2.2.2.2.2.2.2.2.1.trans hret) hn (fun t ht hW => ⟨⟨_, rfl, rfl⟩, by rw [ht]; exact e3, e4.F ht⟩) e4.2.2 hd C.2.2.2.2.2.1)
  · rw [if_neg q]; exact z_none
end ZK
