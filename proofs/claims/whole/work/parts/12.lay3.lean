/-! OUR LAYER, part 3: cells -/
def zfd (h : AH) (a ci k : Nat) : Option Value := match h.2.2 a with
  | some (.inr (.inr (.inr (c, fs)))) => if c = ci then fs[k]? else none
  | _ => none
def zgI (h : AH) (a ci k : Nat) : Option Int32 := match zfd h a ci k with
  | some (.int x) => some x
  | _ => none
def zgR (h : AH) (a ci k : Nat) : Option Nat := match zfd h a ci k with
  | some (.ref x) => some x
  | _ => none
def zpf (h : AH) (a ci k : Nat) (v : Value) : Option AH := match h.2.2 a with
  | some (.inr (.inr (.inr (c, fs)))) => if c = ci ∧ k < fs.length then some (zput h a (z_o ci (fs.set k v))) else none
  | _ => none
def zob (h : AH) (a ci : Nat) : Bool := match h.2.2 a with
  | some (.inr (.inr (.inr (c, _)))) => c == ci
  | _ => false
def zlen (h : AH) (a : Nat) : Option Nat := match h.2.2 a with
  | some (.inl (n, _)) => some n
  | some (.inr (.inl (n, _))) => some n
  | _ => none
def zai (h : AH) (a : Nat) (i : Int32) : Option Int32 := match h.2.2 a with
  | some (.inl (n, f)) => if i < 0 ∨ n ≤ i.toNatClampNeg then none else some (f i.toNatClampNeg)
  | _ => none
def zal (h : AH) (a : Nat) (i : Int32) : Option Int64 := match h.2.2 a with
  | some (.inr (.inl (n, f))) => if i < 0 ∨ n ≤ i.toNatClampNeg then none else some (f i.toNatClampNeg)
  | _ => none
def zar (h : AH) (a : Nat) (i : Int32) : Option Nat := match h.2.2 a with
  | some (.inr (.inr (.inl (t, n, f)))) => if (t = 2 ∨ t = 3) ∧ ¬ (i < 0 ∨ n ≤ i.toNatClampNeg) then f i.toNatClampNeg else none
  | _ => none
def zsi (h : AH) (a : Nat) (i x : Int32) : Option AH := match h.2.2 a with
  | some (.inl (n, f)) => if i < 0 ∨ n ≤ i.toNatClampNeg then none else some (zput h a (z_i n (va_up f i.toNatClampNeg x)))
  | _ => none
def zsl (h : AH) (a : Nat) (i : Int32) (x : Int64) : Option AH := match h.2.2 a with
  | some (.inr (.inl (n, f))) => if i < 0 ∨ n ≤ i.toNatClampNeg then none else some (zput h a (z_l n (va_up f i.toNatClampNeg x)))
  | _ => none
def zsr (h : AH) (a : Nat) (i : Int32) (b : Nat) : Option AH := match h.2.2 a with
  | some (.inr (.inr (.inl (t, n, f)))) => if t = 3 ∧ zob h b 3 = true ∧ ¬ (i < 0 ∨ n ≤ i.toNatClampNeg) then some (zput h a (z_r 3 n (va_up f i.toNatClampNeg (some b)))) else none
  | _ => none
def znI (h : AH) (n : Int32) : Option (Nat × AH) := if n < 0 ∨ 100000 < n.toNatClampNeg then none else some (h.1, znew h n.toNatClampNeg (z_i n.toNatClampNeg (fun _ => 0)))
def znJ (h : AH) (n : Int32) : Option (Nat × AH) := if n < 0 ∨ 100000 < n.toNatClampNeg then none else some (h.1, znew h n.toNatClampNeg (z_l n.toNatClampNeg (fun _ => 0)))
def znS (h : AH) (n : Int32) : Option (Nat × AH) := if n < 0 ∨ 100000 < n.toNatClampNeg then none else some (h.1, znew h n.toNatClampNeg (z_r 3 n.toNatClampNeg (fun _ => none)))
def znM (h : AH) (n k : Int32) : Option (Nat × AH) := if n < 0 ∨ k < 0 ∨ 100000 < n.toNatClampNeg ∨ 100000 < k.toNatClampNeg then none else some (h.1, zmul h n.toNatClampNeg k.toNatClampNeg)
def zdf : Nat → List Value
  | 0 => [.int 0, .int 0, .int 0, .int 0, .null, .null, .null, .null, .null]
  | 1 => [.int 0, .int 0, .null]
  | 2 => [.int 0, .int 0, .null, .null, .null, .null, .null, .null]
  | 3 => [.int 0, .int 0, .int 0, .null]
  | 4 => [.int 0, .null, .null, .null, .null, .null]
  | 5 => [.int 0, .int 0, .int 0, .int 0, .null, .null, .null, .null, .int 0]
  | 6 => [.null, .null, .null, .null, .null, .null, .null, .null, .int 0]
  | _ => [.int 0, .null, .int 0, .int 0, .int 0, .int 0, .int 0, .int 0, .null, .null, .null, .null, .int 0, .int 0, .int 0, .int 0, .int 0, .null, .null, .null, .null, .null, .int 0, .int 0, .null, .null, .null, .null]
def znO (h : AH) (ci : Nat) : Option (Nat × AH) := some (h.1, znew h (zdf ci).length (z_o ci (zdf ci)))
-- arraycopy of ints
def zcp (h : AH) (a0 : Nat) (sp : Int32) (a1 : Nat) (dp n : Int32) : Option AH := match h.2.2 a0, h.2.2 a1 with
  | some (.inl (n0, f)), some (.inl (n1, g)) => if sp < 0 ∨ dp < 0 ∨ n < 0 ∨ n0 < sp.toNatClampNeg + n.toNatClampNeg ∨ n1 < dp.toNatClampNeg + n.toNatClampNeg then none else some (zput h a1 (z_i n1 (va_cpy f g sp.toNatClampNeg dp.toNatClampNeg n.toNatClampNeg)))
  | _, _ => none
-- what they say
theorem zfd_spec {h : AH} {a ci k : Nat} {v : Value} (e : zfd h a ci k = some v) : ∃ fs, h.2.2 a = some (z_o ci fs) ∧ fs[k]? = some v := by
  unfold zfd at e
  split at e
  · next c fs hh =>
    split at e
    · next hc => exact ⟨fs, by rw [hh, hc], e⟩
    · cases e
  · cases e
theorem zgI_spec {h : AH} {a ci k : Nat} {x : Int32} (e : zgI h a ci k = some x) : ∃ fs, h.2.2 a = some (z_o ci fs) ∧ fs[k]? = some (.int x) := by
  unfold zgI at e
  split at e
  · next y hh => cases e; exact zfd_spec hh
  · cases e
theorem zgR_spec {h : AH} {a ci k x : Nat} (e : zgR h a ci k = some x) : ∃ fs, h.2.2 a = some (z_o ci fs) ∧ fs[k]? = some (.ref x) := by
  unfold zgR at e
  split at e
  · next y hh => cases e; exact zfd_spec hh
  · cases e
theorem zpf_spec {h h' : AH} {a ci k : Nat} {v : Value} (e : zpf h a ci k v = some h') : ∃ fs, h.2.2 a = some (z_o ci fs) ∧ k < fs.length ∧ h' = zput h a (z_o ci (fs.set k v)) := by
  unfold zpf at e
  split at e
  · next c fs hh =>
    split at e
    · next hc => cases e; exact ⟨fs, by rw [hh, hc.1], hc.2, rfl⟩
    · cases e
  · cases e
theorem zob_spec {h : AH} {a ci : Nat} (e : zob h a ci = true) : ∃ fs, h.2.2 a = some (z_o ci fs) := by
  unfold zob at e
  split at e
  · next c fs hh => exact ⟨fs, by rw [hh, beq_iff_eq.mp e]⟩
  · cases e
theorem zai_spec {h : AH} {a : Nat} {i x : Int32} (e : zai h a i = some x) : ∃ n f, h.2.2 a = some (z_i n f) ∧ vp_in i n ∧ x = f i.toNatClampNeg := by
  unfold zai at e
  split at e
  · next n f hh =>
    split at e
    · cases e
    · next hc => exact ⟨n, f, hh, hc, (Option.some.inj e).symm⟩
  · cases e
theorem zal_spec {h : AH} {a : Nat} {i : Int32} {x : Int64} (e : zal h a i = some x) : ∃ n f, h.2.2 a = some (z_l n f) ∧ vp_in i n ∧ x = f i.toNatClampNeg := by
  unfold zal at e
  split at e
  · next n f hh =>
    split at e
    · cases e
    · next hc => exact ⟨n, f, hh, hc, (Option.some.inj e).symm⟩
  · cases e
theorem zar_spec {h : AH} {a x : Nat} {i : Int32} (e : zar h a i = some x) : ∃ t n f, h.2.2 a = some (z_r t n f) ∧ (t = 2 ∨ t = 3) ∧ vp_in i n ∧ f i.toNatClampNeg = some x := by
  unfold zar at e
  split at e
  · next t n f hh =>
    split at e
    · next hc => exact ⟨t, n, f, hh, hc.1, hc.2, e⟩
    · cases e
  · cases e
theorem zsi_spec {h h' : AH} {a : Nat} {i x : Int32} (e : zsi h a i x = some h') : ∃ n f, h.2.2 a = some (z_i n f) ∧ vp_in i n ∧ h' = zput h a (z_i n (va_up f i.toNatClampNeg x)) := by
  unfold zsi at e
  split at e
  · next n f hh =>
    split at e
    · cases e
    · next hc => exact ⟨n, f, hh, hc, (Option.some.inj e).symm⟩
  · cases e
theorem zsl_spec {h h' : AH} {a : Nat} {i : Int32} {x : Int64} (e : zsl h a i x = some h') : ∃ n f, h.2.2 a = some (z_l n f) ∧ vp_in i n ∧ h' = zput h a (z_l n (va_up f i.toNatClampNeg x)) := by
  unfold zsl at e
  split at e
  · next n f hh =>
    split at e
    · cases e
    · next hc => exact ⟨n, f, hh, hc, (Option.some.inj e).symm⟩
  · cases e
theorem zsr_spec {h h' : AH} {a b : Nat} {i : Int32} (e : zsr h a i b = some h') : ∃ n f, h.2.2 a = some (z_r 3 n f) ∧ zob h b 3 = true ∧ vp_in i n ∧ h' = zput h a (z_r 3 n (va_up f i.toNatClampNeg (some b))) := by
  unfold zsr at e
  split at e
  · next t n f hh =>
    split at e
    · next hc => exact ⟨n, f, by rw [hh, hc.1], hc.2.1, hc.2.2, (Option.some.inj e).symm⟩
    · cases e
  · cases e
theorem zcp_spec {h h' : AH} {a0 a1 : Nat} {sp dp n : Int32} (e : zcp h a0 sp a1 dp n = some h') : ∃ n0 f n1 g, h.2.2 a0 = some (z_i n0 f) ∧ h.2.2 a1 = some (z_i n1 g) ∧ ¬ (sp < 0 ∨ dp < 0 ∨ n < 0 ∨ n0 < sp.toNatClampNeg + n.toNatClampNeg ∨ n1 < dp.toNatClampNeg + n.toNatClampNeg) ∧ h' = zput h a1 (z_i n1 (va_cpy f g sp.toNatClampNeg dp.toNatClampNeg n.toNatClampNeg)) := by
  unfold zcp at e
  split at e
  · next n0 f n1 g h1 h2 =>
    split at e
    · cases e
    · next hc => exact ⟨n0, f, n1, g, h1, h2, hc, (Option.some.inj e).symm⟩
  · cases e
-- the kinds of cells, and their words
theorem zin_all : ∀ q ∈ zcl, ∀ w ∈ u_ws q.1 q.2.1 q.2.2, w ∈ zWU := by decide +kernel
def zfty (ci : Nat) : Nat → FieldType := match ci with
  | 0 => tyX0
  | 1 => tyX1
  | 2 => tyX2
  | 3 => tyX3
  | 4 => tyX4
  | 5 => tyX5
  | 6 => tyX6
  | _ => tyX7
theorem zty_ok : ∀ (ci : Nat) (q : vw_C), zcl[ci]? = some q → (∀ k, k < q.2.2 → parseFieldDescriptor (q.2.1 k).2.2.1 = some (zfty ci k)) ∧ (∀ a, a < q.2.2 → ∀ b, b < q.2.2 → a ≠ b → (q.2.1 a).2.1 ≠ (q.2.1 b).2.1) ∧ (∀ w ∈ u_ws q.1 q.2.1 q.2.2, w ∈ zWU) ∧ (zdf ci).length = q.2.2 ∧ (∀ j, j < q.2.2 → defaultValue (zfty ci j) = vp_V (zdf ci) j) := by
  intro ci q hq
  have hm := zin_all q (List.mem_of_getElem? hq)
  match ci, hq with
  | 0, hq => cases hq; exact ⟨tyX0_ok, nmX0, hm, rfl, by decide +kernel⟩
  | 1, hq => cases hq; exact ⟨tyX1_ok, nmX1, hm, rfl, by decide +kernel⟩
  | 2, hq => cases hq; exact ⟨tyX2_ok, nmX2, hm, rfl, by decide +kernel⟩
  | 3, hq => cases hq; exact ⟨tyX3_ok, nmX3, hm, rfl, by decide +kernel⟩
  | 4, hq => cases hq; exact ⟨tyX4_ok, nmX4, hm, rfl, by decide +kernel⟩
  | 5, hq => cases hq; exact ⟨tyX5_ok, nmX5, hm, rfl, by decide +kernel⟩
  | 6, hq => cases hq; exact ⟨tyX6_ok, nmX6, hm, rfl, by decide +kernel⟩
  | 7, hq => cases hq; exact ⟨tyX7_ok, nmX7, hm, rfl, by decide +kernel⟩
  | n + 8, hq => simp [zcl] at hq
/-- a field's entry of a pool: whose cells, which place -/
def zFL (own : String) (idx ci k : Nat) : Prop := ∃ q : vw_C, zcl[ci]? = some q ∧ k < q.2.2 ∧ Cond.fieldLink own idx (q.2.1 k).1 (q.2.1 k).2.1 (q.2.1 k).2.2.1 ∈ zWU
/-- who may write there -/
def zFW (own nm : String) (ci k : Nat) : Prop := ∃ q : vw_C, zcl[ci]? = some q ∧ ((q.2.1 k).2.2.2 = false ∨ ((q.2.1 k).2.2.2 = true ∧ nm = "<init>" ∧ (q.2.1 k).1 = own))
theorem zput_at {h : AH} {a b : Nat} {e : aE} : (zput h a e).2.2 b = if b = a then some e else h.2.2 b := rfl
theorem zRep.put {V : VT} {h : AH} {H H1 : Heap} {a : Nat} {e : aE} (hR : zRep V h H) (z : H1.size = H.size) (he : va_at V.1 zcl (V.2.2.1 + a, ztc V e) H1) (oq : ∀ q : Nat, q ≠ V.2.2.1 + a → H1[q]? = H[q]?) : zRep V (zput h a e) H1 := by
  refine ⟨z.trans hR.1, fun b e' hb => ?_⟩
  rw [zput_at] at hb
  split at hb
  · next hab => cases hb; rw [hab]; exact he
  · next hab => exact (hR.2 b e' hb).kept (oq _ (by show V.2.2.1 + b ≠ V.2.2.1 + a; omega))
section ZH
variable {X : CT} {V : VT} {own nm : String} {cc : ByteArray} {nL d n0 k0 : Nat} {ret : Option FieldType} {pc : Nat} {lv : List (Nat × Value)} {st : List Value} {h : AH} {H : Heap} {locs : List Loc} {cells slots : Nat} {Q : State → Prop} {ls : Array Slot} {rest : List Value} {a ci idx k : Nat}
theorem zone {e : va_E} {q : Nat} {D : va_G} {cl : List vw_C} (hh : va_at D cl (q, e) H) : va_P D cl [(q, e)] H := fun i p hp => by
  have h0 : i < 1 := (List.getElem?_eq_some_iff.mp hp).1
  rw [show i = 0 by omega] at hp
  cases hp
  exact hh
theorem zgetW (C : zC X V own nm cc nL ret d) (hF : zFL own idx ci k) (hd : decode cc pc = .ok (.getfield idx, 3)) {fs : List Value} {v : Value} (hR : zRep V h H) (hh : h.2.2 a = some (z_o ci fs)) (hv : fs[k]? = some v)
    (kk : zW V X H locs cells slots Q (F0 (xm X) (pc + 3) ls (ztv V v :: rest))) : zW V X H locs cells slots Q (F0 (xm X) pc ls (.ref (V.2.2.1 + a) :: rest)) := by
  obtain ⟨⟨Cn, T, N⟩, hc, hk, hl⟩ := hF
  exact va_get (D := V.1) (cl := zcl) (tys := zty V) (ws := [(V.2.2.1 + a, .inr (ci, fs.map (ztv V)))]) C.1 C.2.1 C.2.2.2.2.1 (zty_ok ci _ hc).2.2.1 C.2.2.2.1 C.2.2.2.2.2.2.2.2.1.1 (zone (hR.2 a _ hh)) 0 rfl hc k hk (C.2.2.2.2.1 _ hl) (fun _ q => q) (by rw [List.getElem?_map, hv]; rfl) hd kk
theorem zputW (C : zC X V own nm cc nL ret d) (hF : zFL own idx ci k) (hw : zFW own nm ci k) (hd : decode cc pc = .ok (.putfield idx, 3)) {fs : List Value} {v : Value} (hn : narrow (zfty ci k) (ztv V v) = ztv V v) (hfit : fits (zfty ci k) (ztv V v) = true) (hR : zRep V h H) (hS0 : va_S (zA V) (xs X).heap H locs) (hh : h.2.2 a = some (z_o ci fs)) (hl : k < fs.length)
    (kk : ∀ (H1 : Heap) (locs1 : List Loc), zRep V (zput h a (z_o ci (fs.set k v))) H1 → va_S (zA V) (xs X).heap H1 locs1 → zW V X H1 locs1 cells slots Q (F0 (xm X) (pc + 3) ls rest)) : zW V X H locs cells slots Q (F0 (xm X) pc ls (ztv V v :: .ref (V.2.2.1 + a) :: rest)) := by
  obtain ⟨⟨Cn, T, N⟩, hc, hk, hlk⟩ := hF
  obtain ⟨q9, hc9, hw9⟩ := hw
  cases Option.some.inj (hc.symm.trans hc9)
  obtain ⟨o1, o2, o3, -, -⟩ := zty_ok ci _ hc
  have hts := C.2.2.2.2.1
  have hown := C.2.2.2.1
  have hK := C.2.2.2.2.2.2.2.2.1.1
  have hap := va_apart (own := own) hts o3 (zfty ci) o1 o2 hK hc
  obtain ⟨r, h1, cell, q1, q2, q3, q4⟩ := hR.2 a _ hh
  have hr : r = (Cn, T, N) := Option.some.inj (h1.symm.trans hc)
  subst hr
  obtain ⟨hS, hfc, kC, hkC, hkind⟩ := hK.1 ci _ hc
  obtain ⟨cf, kf, fi, f, hi, hsl⟩ := hS k hk
  have hlay := hts _ (o3 _ (u_in_lay hk))
  unfold u_lay at hlay
  have hst := (u_facts hfc hkC (u_lays hts o3 hk) hi).1
  have hlM : k < (fs.map (ztv V)).length := by rw [List.length_map]; exact hl
  have key : ∀ H' : Heap, H'[V.2.2.1 + a]? = some (cell.setSlot (V.1.2 ci k) (ztv V v)) → H'.size = H.size → (∀ q, q ≠ V.2.2.1 + a → H'[q]? = H[q]?) → ∀ j : Nat, zW V X H' (locs ++ [⟨V.2.2.1 + a, j⟩]) cells slots Q (F0 (xm X) (pc + 3) ls rest) := by
    intro H' e1 e2 e3 j
    refine kk H' _ (hR.put e2 ?_ e3) (hS0.put e2 e3 (Nat.le_add_right _ _))
    show va_at V.1 zcl (V.2.2.1 + a, .inr (ci, (fs.set k v).map (ztv V))) H'
    rw [List.map_set]
    exact ⟨_, hc, t_OB.to (V := updV (vp_V (fs.map (ztv V))) k (ztv V v)) ⟨_, e1, q2, q3, t_set q4 hap hk (ztv V v)⟩ (fun j _ => vp_updV_set hlM (ztv V v) j)⟩
  rcases hw9 with hfin | ⟨hfin, hin2, hdecl⟩
  · rw [if_neg (by rw [hfin]; decide)] at hlay
    have h6 := u_store hfc hkC hkind hlay hi (o1 k hk) hn hfit
    refine W.putK C.1 C.2.1 (f := f) ⟨hown, hts _ hlk, ⟨_, _, _, hi⟩, hst⟩ (by rw [q2]; exact h6) q1 q3 (by rw [hsl]; exact k2_hasslot (q4 k hk)) rfl rfl hd fun H' e1 e2 e3 => ?_
    rw [hsl] at e1
    exact key H' e1 e2 e3 _
  · rw [if_pos hfin] at hlay
    have hcf : (xm X).cls = cf := by
      obtain ⟨_, _, c', _, _, _, -, -, hf', -, -, -, hown2, -⟩ := Cond.laysFinal_spec hlay
      have e1 : c' = cf := by have := hi.symm.trans hf'; simp at this; exact this.1.symm
      have hown3 : (xs X).vm.findClass own = some c' := by rw [← hdecl]; exact hown2
      rw [← e1]; exact Option.some.inj (hown.symm.trans hown3)
    have h6 := u_fits hfc hkC hkind (Or.inr hlay) hi (o1 k hk) hn hfit
    refine W.putFinK C.1 C.2.1 hown (hts _ hlk) hi hst hcf (by rw [C.2.2.2.2.2.2.2.2.2.2.2.1]; exact hin2) (by rw [q2]; exact h6) q1 q3 (by rw [hsl]; exact k2_hasslot (q4 k hk)) rfl rfl hd fun H' e1 e2 e3 => ?_
    rw [hsl] at e1
    exact key H' e1 e2 e3 _
end ZH
