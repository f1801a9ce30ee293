/-! the law's loop -/
theorem l_six {L i : Nat} (hL : L ≤ 3072) (hi : i ≤ 4000) : (Int32.ofNat L - 6 < nI i) ↔ L < i + 6 := by
  have e : (Int32.ofNat L - 6).toInt = (L : Int) - 6 := by
    by_cases c : 6 ≤ L
    · have : Int32.ofNat L - 6 = nI (L - 6) := pk_sub (a := L) (b := 6) c
      rw [this, nI_toInt (by omega)]
      omega
    · have h6 : ∀ k, k < 6 → (Int32.ofNat k - 6).toInt = (k : Int) - 6 := by decide
      exact h6 L (by omega)
  rw [Int32.lt_iff_toInt_lt, e, nI_toInt (by omega)]
  omega
theorem l_zs {L i : Nat} {xs : Nat → Int32} (hL : L ≤ 3072) (hi : i < L) : zsc (L, xs) (nI i) = some (xs i) := by
  unfold zsc
  show (if nI i < 0 ∨ L ≤ (nI i).toNatClampNeg then none else some (xs (nI i).toNatClampNeg)) = _
  rw [nI_clamp (by omega), if_neg]
  rintro (h | h)
  · exact nI_pos (by omega) h
  · omega
theorem gT_int (G : GS) (n : Nat) {es : Nat → Prop} : zP es (gT G n) := by
  unfold gT
  cases pText G.2.2.1.2 n with
  | inl e => exact zP_i
  | inr σ => exact zP_i
section QLB
variable {L : Nat} {xs : Nat → Int32}
/-- a step of the law: what it goes on with -/
def stepL (L : Nat) (xs : Nat → Int32) (k i : Nat) (A : AS) (o : RR) : Prop := ∃ A' S' G', o = fL_law_23 (L, xs) k 0 119 270 (nI i + 6) (qH A' S') ∧ CI G' S' ∧ MI G' S' ∧ A.1 ≤ A'.1 ∧ A'.1 ≤ A.1 + 152 ∧ A'.2.1 ≤ A.2.1 + 9728
theorem stepL_of {k i : Nat} {A A' : AS} {S' : SS} {z : OC} {o : RR} (e : o = fL_law_23 (L, xs) k 0 119 270 (nI i + 6) (qH A' S')) (h : LO A z A' S') : stepL L xs k i A o := ⟨A', S', z.2, e, h⟩
theorem sl_feed {A : AS} {S : SS} {G : GS} {k i : Nat} (hC : CI G S) (hM : MI G S) (a1 a2 a3 a4 a5 : Int32) : stepL L xs k i A (bothI (fX6_feed 0 a1 a2 a3 a4 a5 (qH A S)) (fun h => fX7_feed 119 a1 a2 a3 a4 a5 h) (fun h => fL_law_23 (L, xs) k 0 119 270 (nI i + 6) h) (qH A S)) := by
  obtain ⟨A', S', e1, e2⟩ := L_I (T := tcA) (om := fun h => fX7_feed 119 a1 a2 a3 a4 a5 h) hM (oc_feed hC a1 a2 a3 a4 a5) (fun S1 h => om_feed h a1 a2 a3 a4 a5) (by split <;> exact zP_i) (fun h => fL_law_23 (L, xs) k 0 119 270 (nI i + 6) h)
  exact stepL_of e1 e2
theorem sl_text {A : AS} {S : SS} {G : GS} {k i : Nat} (hA : 271 ≤ A.1) (hC : CI G S) (hM : MI G S) (a1 : Int32) : stepL L xs k i A (bothB (fX6_text 0 a1 (qH A S)) (fun e h1 => if e = 1 then some (.inl (some (.int 1)), h1) else none) (fun h => fX7_text 119 a1 h) (fun h => fL_law_23 (L, xs) k 0 119 270 (nI i + 6) h) (qH A S)) := by
  have hn : ∀ e, (oN G 0 G.2.2.1.1 a1 fun n => gT G n).1 = .inl e → ∀ (A1 : AS) (S1 : SS), 271 ≤ A1.1 → MI G S1 → mOK tcC (.int 0) A1 S1 (fX7_text 119 a1 (qH A1 S1)) (oN G 0 G.2.2.1.1 a1 fun n => gT G n) := by
    intro e he A1 S1 h1 h2
    have hc : ¬ (okI (G.2.2.1.1 + 1) a1 = true ∧ 0 ≤ a1.toNatClampNeg) := by
      intro hc
      unfold oN at he
      rw [if_pos hc] at he
      exact (gT_int (es := fun _ => False) G a1.toNatClampNeg).1 e he
    have h9 := h2.2.2.2.1.1
    have h7 : (us S1 119 0 0).1 119 2 = nI G.2.2.1.1 := (mi_0 (v := 0) h2).2.2.2.1.2.1
    have z0 : (us S1 119 0 0).1 119 0 = 0 := by rw [us_at, if_pos rfl]
    have mi1 : MI G (us S1 119 0 0) := mi_0 h2
    unfold oN
    rw [if_neg hc]
    have hb := m_bad1 (A := A1) (S := us S1 119 0 0) (w := 1) (j := 1) z0 (by decide) (by decide)
    have e1 : (us S1 119 0 0).2.1 120 1 = G.2.2.2.1 1 := mi1.2.2.2.2.1 1 (by decide)
    have hr := mi_ref (j := 1) (mi_0 (v := nI 1) mi1)
    rw [← e1] at hr
    refine ⟨_, hr, ((eqo.us (by decide)).tr (eqo.us (by decide))).tr (eqo.ua (by decide)), by rw [ua_s, us_at, if_pos rfl]; rfl, ?_⟩
    show fX7_text 119 a1 (qH A1 S1) = _
    unfold fX7_text fX7_text_25
    rw [pi_119_0, q_bs, gi_119_2, q_bs, h7, m_isN (l := 0) (h9 := (nI G.2.2.1.1).toInt64) (lo := 0) (hi := G.2.2.1.1) rfl rfl (Nat.zero_le _) (by omega), q_cal, q_vi, if_neg hc, if_pos rfl, ob_119, q_cv]
    rw [show fX7_bad 119 1 1 1 (qH A1 (us S1 119 0 0)) = _ from hb, q_cal, q_vi, if_neg (by decide)]
  obtain ⟨A', S', e1, e2⟩ := L_T (E := fun e h1 => if e = 1 then some (.inl (some (.int 1)), h1) else none) (om := fun h => fX7_text 119 a1 h) hA hM (oc_text hC a1) (fun A1 S1 h1 h2 => om_text h1 h2 a1) (zP_N (fun _ => rfl) (fun n => gT_int G n)) hn (fun h => fL_law_23 (L, xs) k 0 119 270 (nI i + 6) h)
  exact stepL_of e1 e2
theorem sl_fault {A : AS} {S : SS} {G : GS} {k i : Nat} (hC : CI G S) (hM : MI G S) : stepL L xs k i A (bothI (fX6_fault 0 (qH A S)) (fun h => fX7_fault 119 h) (fun h => fL_law_23 (L, xs) k 0 119 270 (nI i + 6) h) (qH A S)) := by
  obtain ⟨A', S', e1, e2⟩ := L_I (T := tcA) (om := fun h => fX7_fault 119 h) hM (oc_fault hC) (fun S1 h => om_fault h) (zP_i) (fun h => fL_law_23 (L, xs) k 0 119 270 (nI i + 6) h)
  exact stepL_of e1 e2
theorem sl_value {A : AS} {S : SS} {G : GS} {k i : Nat} (hA : 271 ≤ A.1) (hC : CI G S) (hM : MI G S) (a1 a2 a3 : Int32) : stepL L xs k i A (bothB (fX6_value 0 a1 a2 a3 (qH A S)) (fun e h1 => if e = 0 then some (.inl (some (.int 1)), h1) else none) (fun h => fX7_value 119 a1 a2 a3 h) (fun h => fL_law_23 (L, xs) k 0 119 270 (nI i + 6) h) (qH A S)) := by
  obtain ⟨A', S', e1, e2⟩ := L_B (T := tcA) (E := fun e h1 => if e = 0 then some (.inl (some (.int 1)), h1) else none) (om := fun h => fX7_value 119 a1 a2 a3 h) hM (oc_value hC a1 a2 a3) (fun A1 S1 h => om_value h a1 a2 a3) (zP_P ⟨fun _ => rfl, by decide, by decide⟩ fun _ => zP_Q ⟨fun _ => rfl, by decide, by decide⟩ fun _ => zP_Q ⟨fun _ => rfl, by decide, by decide⟩ fun _ => zP_i) (fun h => fL_law_23 (L, xs) k 0 119 270 (nI i + 6) h)
  exact stepL_of e1 e2
theorem sl_after {A : AS} {S : SS} {G : GS} {k i : Nat} (hA : 271 ≤ A.1) (hC : CI G S) (hM : MI G S) (a1 a2 : Int32) : stepL L xs k i A (bothB (fX6_after 0 a1 a2 (qH A S)) (fun e h1 => if e = 0 then some (.inl (some (.int 1)), h1) else if e = 2 then some (.inl (some (.int 2)), h1) else none) (fun h => fX7_after 119 a1 a2 h) (fun h => fL_law_23 (L, xs) k 0 119 270 (nI i + 6) h) (qH A S)) := by
  obtain ⟨A', S', e1, e2⟩ := L_B (T := tcB) (E := fun e h1 => if e = 0 then some (.inl (some (.int 1)), h1) else if e = 2 then some (.inl (some (.int 2)), h1) else none) (om := fun h => fX7_after 119 a1 a2 h) hM (oc_after hC a1 a2) (fun A1 S1 h => om_after h a1 a2) (zP_P ⟨fun _ => rfl, by decide, by decide⟩ fun _ => zP_P ⟨fun _ => rfl, by decide, by decide⟩ fun _ => zP_R ⟨fun _ => rfl, by decide, by decide⟩ zP_i) (fun h => fL_law_23 (L, xs) k 0 119 270 (nI i + 6) h)
  exact stepL_of e1 e2
theorem sl_again {A : AS} {S : SS} {G : GS} {k i : Nat} (hA : 271 ≤ A.1) (hC : CI G S) (hM : MI G S) (a1 a2 : Int32) : stepL L xs k i A (bothB (fX6_again 0 a1 a2 (qH A S)) (fun e h1 => if e = 0 then some (.inl (some (.int 1)), h1) else if e = 1 then some (.inl (some (.int 2)), h1) else if e = 2 then some (.inl (some (.int 3)), h1) else none) (fun h => fX7_again 119 a1 a2 h) (fun h => fL_law_23 (L, xs) k 0 119 270 (nI i + 6) h) (qH A S)) := by
  obtain ⟨A', S', e1, e2⟩ := L_B (T := tcA) (E := fun e h1 => if e = 0 then some (.inl (some (.int 1)), h1) else if e = 1 then some (.inl (some (.int 2)), h1) else if e = 2 then some (.inl (some (.int 3)), h1) else none) (om := fun h => fX7_again 119 a1 a2 h) hM (oc_again hC a1 a2) (fun A1 S1 h => om_again h a1 a2) (zP_P ⟨fun _ => rfl, by decide, by decide⟩ fun _ => zP_N ⟨fun _ => rfl, by decide, by decide⟩ fun _ => zP_R ⟨fun _ => rfl, by decide, by decide⟩ zP_i) (fun h => fL_law_23 (L, xs) k 0 119 270 (nI i + 6) h)
  exact stepL_of e1 e2
theorem sl_back {A : AS} {S : SS} {G : GS} {k i : Nat} (hA : 271 ≤ A.1) (hC : CI G S) (hM : MI G S) (a1 : Int32) : stepL L xs k i A (bothB (fX6_back 0 a1 (qH A S)) (fun e h1 => if e = 0 then some (.inl (some (.int 1)), h1) else if e = 2 then some (.inl (some (.int 2)), h1) else none) (fun h => fX7_back 119 a1 h) (fun h => fL_law_23 (L, xs) k 0 119 270 (nI i + 6) h) (qH A S)) := by
  obtain ⟨A', S', e1, e2⟩ := L_B (T := tcB) (E := fun e h1 => if e = 0 then some (.inl (some (.int 1)), h1) else if e = 2 then some (.inl (some (.int 2)), h1) else none) (om := fun h => fX7_back 119 a1 h) hM (oc_back hC a1) (fun A1 S1 h => om_back h a1) (zP_P ⟨fun _ => rfl, by decide, by decide⟩ fun _ => zP_R ⟨fun _ => rfl, by decide, by decide⟩ (zP_M ⟨fun _ => rfl, by decide, by decide⟩ zP_i)) (fun h => fL_law_23 (L, xs) k 0 119 270 (nI i + 6) h)
  exact stepL_of e1 e2
theorem sl_drop {A : AS} {S : SS} {G : GS} {k i : Nat} (hA : 271 ≤ A.1) (hC : CI G S) (hM : MI G S) (a1 : Int32) : stepL L xs k i A (bothB (fX6_drop 0 a1 (qH A S)) (fun e h1 => if e = 0 then some (.inl (some (.int 1)), h1) else none) (fun h => fX7_drop 119 a1 h) (fun h => fL_law_23 (L, xs) k 0 119 270 (nI i + 6) h) (qH A S)) := by
  obtain ⟨A', S', e1, e2⟩ := L_B (T := tcA) (E := fun e h1 => if e = 0 then some (.inl (some (.int 1)), h1) else none) (om := fun h => fX7_drop 119 a1 h) hM (oc_drop hC a1) (fun A1 S1 h => om_drop h a1) (zP_P ⟨fun _ => rfl, by decide, by decide⟩ fun _ => zP_i) (fun h => fL_law_23 (L, xs) k 0 119 270 (nI i + 6) h)
  exact stepL_of e1 e2
theorem sl_undo {A : AS} {S : SS} {G : GS} {k i : Nat} (hC : CI G S) (hM : MI G S) : stepL L xs k i A (bothI (fX6_undo 0 (qH A S)) (fun h => fX7_undo 119 h) (fun h => fL_law_23 (L, xs) k 0 119 270 (nI i + 6) h) (qH A S)) := by
  obtain ⟨A', S', e1, e2⟩ := L_I (T := tcA) (om := fun h => fX7_undo 119 h) hM (oc_undo hC) (fun S1 h => om_undo h) (by unfold gU; split <;> exact zP_i) (fun h => fL_law_23 (L, xs) k 0 119 270 (nI i + 6) h)
  exact stepL_of e1 e2
theorem sl_told {A : AS} {S : SS} {G : GS} {k i : Nat} (hA : 271 ≤ A.1) (hC : CI G S) (hM : MI G S) (a1 : Int32) : stepL L xs k i A (bothB (fX6_told 0 a1 (qH A S)) (fun e h1 => if e = 1 then some (.inl (some (.int 1)), h1) else none) (fun h => fX7_told 119 a1 h) (fun h => fL_law_23 (L, xs) k 0 119 270 (nI i + 6) h) (qH A S)) := by
  obtain ⟨A', S', e1, e2⟩ := L_B (T := tcC) (E := fun e h1 => if e = 1 then some (.inl (some (.int 1)), h1) else none) (om := fun h => fX7_told 119 a1 h) hM (oc_told hC a1) (fun A1 S1 h => om_told h a1) (zP_N ⟨fun _ => rfl, by decide, by decide⟩ fun _ => zP_i) (fun h => fL_law_23 (L, xs) k 0 119 270 (nI i + 6) h)
  exact stepL_of e1 e2
theorem sl_points {A : AS} {S : SS} {G : GS} {k i : Nat} (hA : 271 ≤ A.1) (hC : CI G S) (hM : MI G S) (a1 a2 a3 : Int32) : stepL L xs k i A (bothB (fX6_points 0 a1 a2 a3 (qH A S)) (fun e h1 => if e = 0 then some (.inl (some (.int 1)), h1) else if e = 1 then some (.inl (some (.int 2)), h1) else none) (fun h => fX7_points 119 a1 a2 a3 h) (fun h => fL_law_23 (L, xs) k 0 119 270 (nI i + 6) h) (qH A S)) := by
  obtain ⟨A', S', e1, e2⟩ := L_B (T := tcA) (E := fun e h1 => if e = 0 then some (.inl (some (.int 1)), h1) else if e = 1 then some (.inl (some (.int 2)), h1) else none) (om := fun h => fX7_points 119 a1 a2 a3 h) hM (oc_points hC a1 a2 a3) (fun A1 S1 h => om_points h a1 a2 a3) (zP_Q ⟨fun _ => rfl, by decide, by decide⟩ fun _ => zP_Q ⟨fun _ => rfl, by decide, by decide⟩ fun _ => zP_N ⟨fun _ => rfl, by decide, by decide⟩ fun _ => zP_i) (fun h => fL_law_23 (L, xs) k 0 119 270 (nI i + 6) h)
  exact stepL_of e1 e2
theorem sl_at {A : AS} {S : SS} {G : GS} {k i : Nat} (hA : 271 ≤ A.1) (hC : CI G S) (hM : MI G S) (a1 a2 : Int32) : stepL L xs k i A (bothB (fX6_at 0 a1 a2 (qH A S)) (fun e h1 => if e = 0 then some (.inl (some (.int 1)), h1) else none) (fun h => fX7_at 119 a1 a2 h) (fun h => fL_law_23 (L, xs) k 0 119 270 (nI i + 6) h) (qH A S)) := by
  obtain ⟨A', S', e1, e2⟩ := L_B (T := tcA) (E := fun e h1 => if e = 0 then some (.inl (some (.int 1)), h1) else none) (om := fun h => fX7_at 119 a1 a2 h) hM (oc_at hC a1 a2) (fun A1 S1 h => om_at h a1 a2) (zP_P ⟨fun _ => rfl, by decide, by decide⟩ fun _ => zP_Q ⟨fun _ => rfl, by decide, by decide⟩ fun _ => zP_i) (fun h => fL_law_23 (L, xs) k 0 119 270 (nI i + 6) h)
  exact stepL_of e1 e2
theorem sl_coefficient {A : AS} {S : SS} {G : GS} {k i : Nat} (hA : 271 ≤ A.1) (hC : CI G S) (hM : MI G S) (a1 a2 : Int32) : stepL L xs k i A (bothB (fX6_coefficient 0 a1 a2 (qH A S)) (fun e h1 => if e = 0 then some (.inl (some (.int 1)), h1) else if e = 1 then some (.inl (some (.int 2)), h1) else none) (fun h => fX7_coefficient 119 a1 a2 h) (fun h => fL_law_23 (L, xs) k 0 119 270 (nI i + 6) h) (qH A S)) := by
  obtain ⟨A', S', e1, e2⟩ := L_B (T := tcA) (E := fun e h1 => if e = 0 then some (.inl (some (.int 1)), h1) else if e = 1 then some (.inl (some (.int 2)), h1) else none) (om := fun h => fX7_coefficient 119 a1 a2 h) hM (oc_coef hC a1 a2) (fun A1 S1 h => om_coef h a1 a2) (zP_P ⟨fun _ => rfl, by decide, by decide⟩ fun _ => zP_N ⟨fun _ => rfl, by decide, by decide⟩ fun _ => zP_i) (fun h => fL_law_23 (L, xs) k 0 119 270 (nI i + 6) h)
  exact stepL_of e1 e2
theorem sl_degree {A : AS} {S : SS} {G : GS} {k i : Nat} (hA : 271 ≤ A.1) (hC : CI G S) (hM : MI G S) (a1 : Int32) : stepL L xs k i A (bothB (fX6_degree 0 a1 (qH A S)) (fun e h1 => if e = 0 then some (.inl (some (.int 1)), h1) else none) (fun h => fX7_degree 119 a1 h) (fun h => fL_law_23 (L, xs) k 0 119 270 (nI i + 6) h) (qH A S)) := by
  obtain ⟨A', S', e1, e2⟩ := L_B (T := tcA) (E := fun e h1 => if e = 0 then some (.inl (some (.int 1)), h1) else none) (om := fun h => fX7_degree 119 a1 h) hM (oc_degree hC a1) (fun A1 S1 h => om_degree h a1) (zP_P ⟨fun _ => rfl, by decide, by decide⟩ fun _ => zP_i) (fun h => fL_law_23 (L, xs) k 0 119 270 (nI i + 6) h)
  exact stepL_of e1 e2
theorem sl_taken {A : AS} {S : SS} {G : GS} {k i : Nat} (hA : 271 ≤ A.1) (hC : CI G S) (hM : MI G S) (a1 a2 : Int32) : stepL L xs k i A (bothB (fX6_taken 0 a1 a2 (qH A S)) (fun e h1 => if e = 0 then some (.inl (some (.int 1)), h1) else none) (fun h => fX7_taken 119 a1 a2 h) (fun h => fL_law_23 (L, xs) k 0 119 270 (nI i + 6) h) (qH A S)) := by
  obtain ⟨A', S', e1, e2⟩ := L_B (T := tcA) (E := fun e h1 => if e = 0 then some (.inl (some (.int 1)), h1) else none) (om := fun h => fX7_taken 119 a1 a2 h) hM (oc_taken hC a1 a2) (fun A1 S1 h => om_taken h a1 a2) (zP_P ⟨fun _ => rfl, by decide, by decide⟩ fun _ => zP_Q ⟨fun _ => rfl, by decide, by decide⟩ fun _ => zP_i) (fun h => fL_law_23 (L, xs) k 0 119 270 (nI i + 6) h)
  exact stepL_of e1 e2
theorem sl_image {A : AS} {S : SS} {G : GS} {k i : Nat} (hA : 271 ≤ A.1) (hC : CI G S) (hM : MI G S) (a1 : Int32) : stepL L xs k i A (bothB (fX6_image 0 a1 (qH A S)) (fun e h1 => if e = 0 then some (.inl (some (.int 1)), h1) else none) (fun h => fX7_image 119 a1 h) (fun h => fL_law_23 (L, xs) k 0 119 270 (nI i + 6) h) (qH A S)) := by
  obtain ⟨A', S', e1, e2⟩ := L_B (T := tcA) (E := fun e h1 => if e = 0 then some (.inl (some (.int 1)), h1) else none) (om := fun h => fX7_image 119 a1 h) hM (oc_image hC a1) (fun A1 S1 h => om_image h a1) (zP_P ⟨fun _ => rfl, by decide, by decide⟩ fun _ => zP_i) (fun h => fL_law_23 (L, xs) k 0 119 270 (nI i + 6) h)
  exact stepL_of e1 e2
theorem sl_permutes {A : AS} {S : SS} {G : GS} {k i : Nat} (hA : 271 ≤ A.1) (hC : CI G S) (hM : MI G S) (a1 : Int32) : stepL L xs k i A (bothB (fX6_permutes 0 a1 (qH A S)) (fun e h1 => if e = 0 then some (.inl (some (.int 1)), h1) else none) (fun h => fX7_permutes 119 a1 h) (fun h => fL_law_23 (L, xs) k 0 119 270 (nI i + 6) h) (qH A S)) := by
  obtain ⟨A', S', e1, e2⟩ := L_B (T := tcA) (E := fun e h1 => if e = 0 then some (.inl (some (.int 1)), h1) else none) (om := fun h => fX7_permutes 119 a1 h) hM (oc_permutes hC a1) (fun A1 S1 h => om_permutes h a1) (zP_P ⟨fun _ => rfl, by decide, by decide⟩ fun _ => zP_i) (fun h => fL_law_23 (L, xs) k 0 119 270 (nI i + 6) h)
  exact stepL_of e1 e2
theorem sl_powers {A : AS} {S : SS} {G : GS} {k i : Nat} (hA : 271 ≤ A.1) (hC : CI G S) (hM : MI G S) (a1 : Int32) : stepL L xs k i A (bothB (fX6_powers 0 a1 (qH A S)) (fun e h1 => if e = 0 then some (.inl (some (.int 1)), h1) else none) (fun h => fX7_powers 119 a1 h) (fun h => fL_law_23 (L, xs) k 0 119 270 (nI i + 6) h) (qH A S)) := by
  obtain ⟨A', S', e1, e2⟩ := L_B (T := tcA) (E := fun e h1 => if e = 0 then some (.inl (some (.int 1)), h1) else none) (om := fun h => fX7_powers 119 a1 h) hM (oc_powers hC a1) (fun A1 S1 h => om_powers h a1) (zP_P ⟨fun _ => rfl, by decide, by decide⟩ fun _ => zP_i) (fun h => fL_law_23 (L, xs) k 0 119 270 (nI i + 6) h)
  exact stepL_of e1 e2
theorem sl_cycles {A : AS} {S : SS} {G : GS} {k i : Nat} (hA : 271 ≤ A.1) (hC : CI G S) (hM : MI G S) (a1 a2 : Int32) : stepL L xs k i A (bothB (fX6_cycles 0 a1 a2 (qH A S)) (fun e h1 => if e = 0 then some (.inl (some (.int 1)), h1) else if e = 1 then some (.inl (some (.int 2)), h1) else if e = 2 then some (.inl (some (.int 3)), h1) else none) (fun h => fX7_cycles 119 a1 a2 h) (fun h => fL_law_23 (L, xs) k 0 119 270 (nI i + 6) h) (qH A S)) := by
  obtain ⟨A', S', e1, e2⟩ := L_B (T := tcA) (E := fun e h1 => if e = 0 then some (.inl (some (.int 1)), h1) else if e = 1 then some (.inl (some (.int 2)), h1) else if e = 2 then some (.inl (some (.int 3)), h1) else none) (om := fun h => fX7_cycles 119 a1 a2 h) hM (oc_cycles hC a1 a2) (fun A1 S1 h => om_cycles h a1 a2) (zP_P ⟨fun _ => rfl, by decide, by decide⟩ fun _ => zP_N ⟨fun _ => rfl, by decide, by decide⟩ fun _ => zP_M ⟨fun _ => rfl, by decide, by decide⟩ zP_i) (fun h => fL_law_23 (L, xs) k 0 119 270 (nI i + 6) h)
  exact stepL_of e1 e2
theorem sl_order {A : AS} {S : SS} {G : GS} {k i : Nat} (hA : 271 ≤ A.1) (hC : CI G S) (hM : MI G S) (a1 : Int32) : stepL L xs k i A (bothB (fX6_order 0 a1 (qH A S)) (fun e h1 => if e = 0 then some (.inl (some (.int 1)), h1) else if e = 2 then some (.inl (some (.int 2)), h1) else none) (fun h => fX7_order 119 a1 h) (fun h => fL_law_23 (L, xs) k 0 119 270 (nI i + 6) h) (qH A S)) := by
  obtain ⟨A', S', e1, e2⟩ := L_B (T := tcB) (E := fun e h1 => if e = 0 then some (.inl (some (.int 1)), h1) else if e = 2 then some (.inl (some (.int 2)), h1) else none) (om := fun h => fX7_order 119 a1 h) hM (oc_order hC a1) (fun A1 S1 h => om_order h a1) (zP_P ⟨fun _ => rfl, by decide, by decide⟩ fun _ => zP_M ⟨fun _ => rfl, by decide, by decide⟩ zP_i) (fun h => fL_law_23 (L, xs) k 0 119 270 (nI i + 6) h)
  exact stepL_of e1 e2
theorem sl_even {A : AS} {S : SS} {G : GS} {k i : Nat} (hA : 271 ≤ A.1) (hC : CI G S) (hM : MI G S) (a1 : Int32) : stepL L xs k i A (bothB (fX6_even 0 a1 (qH A S)) (fun e h1 => if e = 0 then some (.inl (some (.int 1)), h1) else if e = 2 then some (.inl (some (.int 2)), h1) else none) (fun h => fX7_even 119 a1 h) (fun h => fL_law_23 (L, xs) k 0 119 270 (nI i + 6) h) (qH A S)) := by
  obtain ⟨A', S', e1, e2⟩ := L_B (T := tcB) (E := fun e h1 => if e = 0 then some (.inl (some (.int 1)), h1) else if e = 2 then some (.inl (some (.int 2)), h1) else none) (om := fun h => fX7_even 119 a1 h) hM (oc_even hC a1) (fun A1 S1 h => om_even h a1) (zP_P ⟨fun _ => rfl, by decide, by decide⟩ fun _ => zP_M ⟨fun _ => rfl, by decide, by decide⟩ zP_i) (fun h => fL_law_23 (L, xs) k 0 119 270 (nI i + 6) h)
  exact stepL_of e1 e2
theorem sl_orbit {A : AS} {S : SS} {G : GS} {k i : Nat} (hA : 271 ≤ A.1) (hC : CI G S) (hM : MI G S) (a1 : Int32) : stepL L xs k i A (bothB (fX6_orbit 0 a1 (qH A S)) (fun e h1 => if e = 0 then some (.inl (some (.int 1)), h1) else none) (fun h => fX7_orbit 119 a1 h) (fun h => fL_law_23 (L, xs) k 0 119 270 (nI i + 6) h) (qH A S)) := by
  obtain ⟨A', S', e1, e2⟩ := L_B (T := tcA) (E := fun e h1 => if e = 0 then some (.inl (some (.int 1)), h1) else none) (om := fun h => fX7_orbit 119 a1 h) hM (oc_orbit hC a1) (fun A1 S1 h => om_orbit h a1) (zP_Q ⟨fun _ => rfl, by decide, by decide⟩ fun _ => zP_i) (fun h => fL_law_23 (L, xs) k 0 119 270 (nI i + 6) h)
  exact stepL_of e1 e2
theorem sl_orbits {A : AS} {S : SS} {G : GS} {k i : Nat} (hC : CI G S) (hM : MI G S) : stepL L xs k i A (bothI (fX6_orbits 0 (qH A S)) (fun h => fX7_orbits 119 h) (fun h => fL_law_23 (L, xs) k 0 119 270 (nI i + 6) h) (qH A S)) := by
  obtain ⟨A', S', e1, e2⟩ := L_I (T := tcA) (om := fun h => fX7_orbits 119 h) hM (oc_orbits hC) (fun S1 h => om_orbits h) (zP_i) (fun h => fL_law_23 (L, xs) k 0 119 270 (nI i + 6) h)
  exact stepL_of e1 e2
theorem sl_spread {A : AS} {S : SS} {G : GS} {k i : Nat} (hA : 271 ≤ A.1) (hC : CI G S) (hM : MI G S) (a1 : Int32) : stepL L xs k i A (bothB (fX6_spread 0 a1 (qH A S)) (fun e h1 => if e = 0 then some (.inl (some (.int 1)), h1) else none) (fun h => fX7_spread 119 a1 h) (fun h => fL_law_23 (L, xs) k 0 119 270 (nI i + 6) h) (qH A S)) := by
  obtain ⟨A', S', e1, e2⟩ := L_B (T := tcA) (E := fun e h1 => if e = 0 then some (.inl (some (.int 1)), h1) else none) (om := fun h => fX7_spread 119 a1 h) hM (oc_spread hC a1) (fun A1 S1 h => om_spread h a1) (zP_P ⟨fun _ => rfl, by decide, by decide⟩ fun _ => zP_i) (fun h => fL_law_23 (L, xs) k 0 119 270 (nI i + 6) h)
  exact stepL_of e1 e2
theorem sl_monomials {A : AS} {S : SS} {G : GS} {k i : Nat} (hC : CI G S) (hM : MI G S) : stepL L xs k i A (bothJ (fX6_monomials 0 (qH A S)) (fun h => fX7_monomials 119 h) (fun h => fL_law_23 (L, xs) k 0 119 270 (nI i + 6) h) (qH A S)) := by
  obtain ⟨A', S', e1, e2⟩ := L_J (T := tcA) (om := fun h => fX7_monomials 119 h) hM (oc_mono hC) (fun S1 h => om_mono h) (fun h => fL_law_23 (L, xs) k 0 119 270 (nI i + 6) h)
  exact stepL_of e1 e2
theorem sl_dicksons {A : AS} {S : SS} {G : GS} {k i : Nat} (hA : 271 ≤ A.1) (hC : CI G S) (hM : MI G S) (a1 : Int32) : stepL L xs k i A (bothD (fX6_dicksons 0 a1 (qH A S)) (fun e h1 => if e = 0 then some (.inl (some (.int 1)), h1) else none) (fun h => fX7_dicksons 119 a1 h) (fun h => fL_law_23 (L, xs) k 0 119 270 (nI i + 6) h) (qH A S)) := by
  have hz : (∀ e, (oQ G a1 fun a => ((.inr (.long (lN (bst (fun m => pmB (qF G.1.1) (fun x => dk G.1.1 a x m)) 63))), G) : OC)).1 = .inl e → (∀ h1 : AH, (fun (e : Nat) (h1 : AH) => (if e = 0 then some (.inl (some (.int 1)), h1) else none : RR)) e h1 = some (.inl (some (.int (nI (tcA e)))), h1)) ∧ 0 < tcA e ∧ tcA e < 4) ∧ ∀ v, (oQ G a1 fun a => ((.inr (.long (lN (bst (fun m => pmB (qF G.1.1) (fun x => dk G.1.1 a x m)) 63))), G) : OC)).1 = .inr v → ∃ x, v = .long x := by
    unfold oQ
    constructor
    · intro e he
      split at he
      · cases he
      · cases he
        exact ⟨fun _ => rfl, by decide, by decide⟩
    · intro v hv
      split at hv
      · cases hv
        exact ⟨_, rfl⟩
      · cases hv
  obtain ⟨A', S', e1, e2⟩ := L_D (T := tcA) (E := fun e h1 => if e = 0 then some (.inl (some (.int 1)), h1) else none) (om := fun h => fX7_dicksons 119 a1 h) hM (oc_dick hC a1) (fun A1 S1 h => om_dick h a1) hz (fun h => fL_law_23 (L, xs) k 0 119 270 (nI i + 6) h)
  exact stepL_of e1 e2
theorem sl_binomials {A : AS} {S : SS} {G : GS} {k i : Nat} (hA : 271 ≤ A.1) (hC : CI G S) (hM : MI G S) (a1 : Int32) : stepL L xs k i A (bothB (fX6_binomials 0 a1 (qH A S)) (fun e h1 => if e = 1 then some (.inl (some (.int 1)), h1) else none) (fun h => fX7_binomials 119 a1 h) (fun h => fL_law_23 (L, xs) k 0 119 270 (nI i + 6) h) (qH A S)) := by
  obtain ⟨A', S', e1, e2⟩ := L_B (T := tcC) (E := fun e h1 => if e = 1 then some (.inl (some (.int 1)), h1) else none) (om := fun h => fX7_binomials 119 a1 h) hM (oc_bin hC a1) (fun A1 S1 h => om_bin h a1) (zP_N ⟨fun _ => rfl, by decide, by decide⟩ fun _ => zP_i) (fun h => fL_law_23 (L, xs) k 0 119 270 (nI i + 6) h)
  exact stepL_of e1 e2
theorem sl_print {A : AS} {S : SS} {G : GS} {k i : Nat} (hC : CI G S) (hM : MI G S) : stepL L xs k i A (bothJ (fX6_print 0 (qH A S)) (fun h => fX7_print 119 h) (fun h => fL_law_23 (L, xs) k 0 119 270 (nI i + 6) h) (qH A S)) := by
  obtain ⟨A', S', e1, e2⟩ := L_J (T := tcA) (om := fun h => fX7_print 119 h) hM (oc_print hC) (fun S1 h => om_print h) (fun h => fL_law_23 (L, xs) k 0 119 270 (nI i + 6) h)
  exact stepL_of e1 e2
theorem sl_status {A : AS} {S : SS} {G : GS} {k i : Nat} (hC : CI G S) (hM : MI G S) (a1 : Int32) : stepL L xs k i A (bothI (fX6_status 0 a1 (qH A S)) (fun h => fX7_status 119 a1 h) (fun h => fL_law_23 (L, xs) k 0 119 270 (nI i + 6) h) (qH A S)) := by
  obtain ⟨A', S', e1, e2⟩ := L_I (T := tcA) (om := fun h => fX7_status 119 a1 h) hM (oc_status hC a1) (fun S1 h => om_status h a1) (zP_i) (fun h => fL_law_23 (L, xs) k 0 119 270 (nI i + 6) h)
  exact stepL_of e1 e2
theorem l_step {A : AS} {S : SS} {G : GS} {k i : Nat} (hL : L ≤ 3072) (hi : i + 6 ≤ L) (hA : 271 ≤ A.1) (hC : CI G S) (hM : MI G S) : stepL L xs k i A (fL_law_23 (L, xs) (k + 1) 0 119 270 (nI i) (qH A S)) := by
  have z0 := l_zs (xs := xs) hL (show i < L by omega)
  have z1 : zsc (L, xs) (nI i + 1) = some (xs (i + 1)) := by
    rw [nI_1]; exact l_zs hL (by omega)
  have z2 : zsc (L, xs) (nI i + 2) = some (xs (i + 2)) := by
    rw [show nI i + 2 = nI (i + 2) from nI_add i 2]; exact l_zs hL (by omega)
  have z3 : zsc (L, xs) (nI i + 3) = some (xs (i + 3)) := by
    rw [show nI i + 3 = nI (i + 3) from nI_add i 3]; exact l_zs hL (by omega)
  have z4 : zsc (L, xs) (nI i + 4) = some (xs (i + 4)) := by
    rw [show nI i + 4 = nI (i + 4) from nI_add i 4]; exact l_zs hL (by omega)
  have z5 : zsc (L, xs) (nI i + 5) = some (xs (i + 5)) := by
    rw [show nI i + 5 = nI (i + 5) from nI_add i 5]; exact l_zs hL (by omega)
  rw [fL_law_23, if_neg (fun h => by have := (l_six hL (by omega)).mp h; omega), z0, q_bs]
  generalize xs i &&& 31 = w
  by_cases c0 : w = 0
  · rw [if_pos c0]
    simp only [z1, z2, z3, z4, z5, q_bs]
    exact sl_feed hC hM (xs (i + 1)) (xs (i + 2)) (xs (i + 3)) (xs (i + 4)) (xs (i + 5))
  rw [if_neg c0]
  by_cases c1 : w = 1
  · rw [if_pos c1]
    simp only [z1, q_bs]
    exact sl_text hA hC hM (xs (i + 1))
  rw [if_neg c1]
  by_cases c2 : w = 2
  · rw [if_pos c2]
    exact sl_fault hC hM
  rw [if_neg c2]
  by_cases c3 : w = 3
  · rw [if_pos c3]
    simp only [z1, z2, z3, q_bs]
    exact sl_value hA hC hM (xs (i + 1)) (xs (i + 2)) (xs (i + 3))
  rw [if_neg c3]
  by_cases c4 : w = 4
  · rw [if_pos c4]
    simp only [z1, z2, q_bs]
    exact sl_after hA hC hM (xs (i + 1)) (xs (i + 2))
  rw [if_neg c4]
  by_cases c5 : w = 5
  · rw [if_pos c5]
    simp only [z1, z2, q_bs]
    exact sl_again hA hC hM (xs (i + 1)) (xs (i + 2))
  rw [if_neg c5]
  by_cases c6 : w = 6
  · rw [if_pos c6]
    simp only [z1, q_bs]
    exact sl_back hA hC hM (xs (i + 1))
  rw [if_neg c6]
  by_cases c7 : w = 7
  · rw [if_pos c7]
    simp only [z1, q_bs]
    exact sl_drop hA hC hM (xs (i + 1))
  rw [if_neg c7]
  by_cases c8 : w = 8
  · rw [if_pos c8]
    exact sl_undo hC hM
  rw [if_neg c8]
  by_cases c9 : w = 9
  · rw [if_pos c9]
    simp only [z1, q_bs]
    exact sl_told hA hC hM (xs (i + 1))
  rw [if_neg c9]
  by_cases c10 : w = 10
  · rw [if_pos c10]
    simp only [z1, z2, z3, q_bs]
    exact sl_points hA hC hM (xs (i + 1)) (xs (i + 2)) (xs (i + 3))
  rw [if_neg c10]
  by_cases c11 : w = 11
  · rw [if_pos c11]
    simp only [z1, z2, q_bs]
    exact sl_at hA hC hM (xs (i + 1)) (xs (i + 2))
  rw [if_neg c11]
  by_cases c12 : w = 12
  · rw [if_pos c12]
    simp only [z1, z2, q_bs]
    exact sl_coefficient hA hC hM (xs (i + 1)) (xs (i + 2))
  rw [if_neg c12]
  by_cases c13 : w = 13
  · rw [if_pos c13]
    simp only [z1, q_bs]
    exact sl_degree hA hC hM (xs (i + 1))
  rw [if_neg c13]
  by_cases c14 : w = 14
  · rw [if_pos c14]
    simp only [z1, z2, q_bs]
    exact sl_taken hA hC hM (xs (i + 1)) (xs (i + 2))
  rw [if_neg c14]
  by_cases c15 : w = 15
  · rw [if_pos c15]
    simp only [z1, q_bs]
    exact sl_image hA hC hM (xs (i + 1))
  rw [if_neg c15]
  by_cases c16 : w = 16
  · rw [if_pos c16]
    simp only [z1, q_bs]
    exact sl_permutes hA hC hM (xs (i + 1))
  rw [if_neg c16]
  by_cases c17 : w = 17
  · rw [if_pos c17]
    simp only [z1, q_bs]
    exact sl_powers hA hC hM (xs (i + 1))
  rw [if_neg c17]
  by_cases c18 : w = 18
  · rw [if_pos c18]
    simp only [z1, z2, q_bs]
    exact sl_cycles hA hC hM (xs (i + 1)) (xs (i + 2))
  rw [if_neg c18]
  by_cases c19 : w = 19
  · rw [if_pos c19]
    simp only [z1, q_bs]
    exact sl_order hA hC hM (xs (i + 1))
  rw [if_neg c19]
  by_cases c20 : w = 20
  · rw [if_pos c20]
    simp only [z1, q_bs]
    exact sl_even hA hC hM (xs (i + 1))
  rw [if_neg c20]
  by_cases c21 : w = 21
  · rw [if_pos c21]
    simp only [z1, q_bs]
    exact sl_orbit hA hC hM (xs (i + 1))
  rw [if_neg c21]
  by_cases c22 : w = 22
  · rw [if_pos c22]
    exact sl_orbits hC hM
  rw [if_neg c22]
  by_cases c23 : w = 23
  · rw [if_pos c23]
    simp only [z1, q_bs]
    exact sl_spread hA hC hM (xs (i + 1))
  rw [if_neg c23]
  by_cases c24 : w = 24
  · rw [if_pos c24]
    exact sl_monomials hC hM
  rw [if_neg c24]
  by_cases c25 : w = 25
  · rw [if_pos c25]
    simp only [z1, q_bs]
    exact sl_dicksons hA hC hM (xs (i + 1))
  rw [if_neg c25]
  by_cases c26 : w = 26
  · rw [if_pos c26]
    simp only [z1, q_bs]
    exact sl_binomials hA hC hM (xs (i + 1))
  rw [if_neg c26]
  by_cases c27 : w = 27
  · rw [if_pos c27]
    exact sl_print hC hM
  rw [if_neg c27]
  by_cases c28 : w = 28
  · rw [if_pos c28]
    simp only [z1, q_bs]
    exact sl_status hC hM (xs (i + 1))
  rw [if_neg c28]
  exact ⟨A, S, G, rfl, hC, hM, Nat.le_refl _, by omega, by omega⟩
theorem l_loop (hL : L ≤ 3072) : ∀ d j k A S G, j + d = L / 6 → d < k → 271 ≤ A.1 → CI G S → MI G S → ∃ A' S', fL_law_23 (L, xs) k 0 119 270 (nI (6 * j)) (qH A S) = some (.inl (some (.int 1)), qH A' S') ∧ A'.1 ≤ A.1 + 152 * d ∧ A'.2.1 ≤ A.2.1 + 9728 * d := by
  intro d
  induction d with
  | zero =>
    intro j k A S G h1 h2 hA hC hM
    obtain ⟨k, rfl⟩ : ∃ k', k = k' + 1 := ⟨k - 1, by omega⟩
    refine ⟨A, S, ?_, by omega, by omega⟩
    rw [fL_law_23, if_pos ((l_six hL (by omega)).mpr (by omega)), z_br1]
  | succ d ih =>
    intro j k A S G h1 h2 hA hC hM
    obtain ⟨k, rfl⟩ : ∃ k', k = k' + 1 := ⟨k - 1, by omega⟩
    obtain ⟨A1, S1, G1, e1, a1, a2, a3, a4, a5⟩ := l_step (xs := xs) (k := k) (i := 6 * j) hL (by omega) hA hC hM
    obtain ⟨A2, S2, b1, b2, b3⟩ := ih (j + 1) k A1 S1 G1 (by omega) (by omega) (by omega) a1 a2
    refine ⟨A2, S2, ?_, by omega, by omega⟩
    rw [e1, show nI (6 * j) + 6 = nI (6 * j + 6) from nI_add (6 * j) 6, show 6 * j + 6 = 6 * (j + 1) by omega]
    exact b1
end QLB
