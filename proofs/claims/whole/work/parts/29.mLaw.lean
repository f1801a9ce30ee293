/-! printed by a program of ours (wip/whole/lawgen.py) out of the code -/
def fL_text (a0 : Nat) (a1 : Int32) (a2 : Nat) (h : AH) : RR :=
  zct (zob h a0 6) (fX6_text a0 a1 h) (fun v h1 => zvi v fun x => (zsl h1 a2 0 x.toInt64).bind fun h2 => some (.inl (some (.int 0)), h2)) (fun e h1 => if e = 1 then some (.inl (some (.int 1)), h1) else none)
set_option maxRecDepth 20000 in
theorem mL_text {V : VT} (hV : V.2.2.2.2.2.stackTraces = false) (d : Nat) (a0 : Nat) (a1 : Int32) (a2 : Nat) (h : AH) : zMW V yL_text cL_text 4 [(0, 9, 12, 13)] (d + 67) [.ref a0, .int a1, .ref a2] h (fL_text a0 a1 a2 h) := by
  refine y_meth (by decide +kernel) (Nat.le_of_ble_eq_true rfl) [(0, .ref a0), (1, .int a1), (2, .ref a2)] rfl (fun X => ?_)
  show zH X V RL cL_text 4 [(0, 9, 12, 13)] (d + 67) h.1 h.2.1 (fL_text a0 a1 a2 h) 0 [(0, .ref a0), (1, .int a1), (2, .ref a2)] [] h
  unfold fL_text
  refine y_aload_n 2 rfl rfl dL_text_0 ?_
  refine y_iconst (v := 0) (by decide) dL_text_1 ?_
  refine y_aload_n 0 rfl rfl dL_text_2 ?_
  refine y_iload_n 1 rfl rfl dL_text_3 ?_
  refine y_cT (st := [.int 0, .ref a2]) [.int a1] zk_RL_7 rfl (Nat.le_of_ble_eq_true rfl) dL_text_4 (mX6_text hV (d + 0) a0 a1 h) (fun v h1 => ?_) (fun e h1 he => ?_) (fun e h1 he => ?_)
  · refine y_vi (fun x => ?_)
    refine y_i2l dL_text_7 ?_
    refine y_sJ dL_text_8 (fun h2 => ?_)
    refine y_goto 15 (by decide) dL_text_9 ?_
    refine y_iconst (v := 0) (by decide) dL_text_15 ?_
    exact y_iret dL_text_16
  · by_cases q0 : e = 1
    · subst q0
      rw [if_pos rfl]
      refine y_catch (by decide) [] [] (0, 9, 12, 13) [] rfl rfl (fun j z c h1 _ => by cases h1) (by decide) (by decide) zw_427 rfl (i := 3) (by decide) (lv' := [(0, .ref a0), (1, .int a1), (2, .ref a2)]) rfl (Or.inr ⟨_, dL_text_12, rfl, rfl⟩) ?_
      refine y_iconst (v := 1) (by decide) dL_text_13 ?_
      exact y_iret dL_text_14
    · rw [if_neg q0]
      exact yx_none
  · rw [if_neg (by omega)]

def fL_value (a0 : Nat) (a1 : Int32) (a2 : Int32) (a3 : Int32) (a4 : Nat) (h : AH) : RR :=
  zct (zob h a0 6) (fX6_value a0 a1 a2 a3 h) (fun v h1 => zvi v fun x => (zsl h1 a4 0 x.toInt64).bind fun h2 => some (.inl (some (.int 0)), h2)) (fun e h1 => if e = 0 then some (.inl (some (.int 1)), h1) else none)
set_option maxRecDepth 20000 in
theorem mL_value {V : VT} (hV : V.2.2.2.2.2.stackTraces = false) (d : Nat) (a0 : Nat) (a1 : Int32) (a2 : Int32) (a3 : Int32) (a4 : Nat) (h : AH) : zMW V yL_value cL_value 6 [(0, 12, 15, 19)] (d + 8) [.ref a0, .int a1, .int a2, .int a3, .ref a4] h (fL_value a0 a1 a2 a3 a4 h) := by
  refine y_meth (by decide +kernel) (Nat.le_of_ble_eq_true rfl) [(0, .ref a0), (1, .int a1), (2, .int a2), (3, .int a3), (4, .ref a4)] rfl (fun X => ?_)
  show zH X V RL cL_value 6 [(0, 12, 15, 19)] (d + 8) h.1 h.2.1 (fL_value a0 a1 a2 a3 a4 h) 0 [(0, .ref a0), (1, .int a1), (2, .int a2), (3, .int a3), (4, .ref a4)] [] h
  unfold fL_value
  refine y_aload 4 rfl dL_value_0 ?_
  refine y_iconst (v := 0) (by decide) dL_value_2 ?_
  refine y_aload_n 0 rfl rfl dL_value_3 ?_
  refine y_iload_n 1 rfl rfl dL_value_4 ?_
  refine y_iload_n 2 rfl rfl dL_value_5 ?_
  refine y_iload_n 3 rfl rfl dL_value_6 ?_
  refine y_cT (st := [.int 0, .ref a4]) [.int a1, .int a2, .int a3] zk_RL_15 rfl (Nat.le_of_ble_eq_true rfl) dL_value_7 (mX6_value hV (d + 0) a0 a1 a2 a3 h) (fun v h1 => ?_) (fun e h1 he => ?_) (fun e h1 he => ?_)
  · refine y_vi (fun x => ?_)
    refine y_i2l dL_value_10 ?_
    refine y_sJ dL_value_11 (fun h2 => ?_)
    refine y_goto 19 (by decide) dL_value_12 ?_
    refine y_iconst (v := 0) (by decide) dL_value_19 ?_
    exact y_iret dL_value_20
  · by_cases q0 : e = 0
    · subst q0
      rw [if_pos rfl]
      refine y_catch (by decide) [] [] (0, 12, 15, 19) [] rfl rfl (fun j z c h1 _ => by cases h1) (by decide) (by decide) zw_676 rfl (i := 5) (by decide) (lv' := [(0, .ref a0), (1, .int a1), (2, .int a2), (3, .int a3), (4, .ref a4)]) rfl (Or.inl ⟨dL_value_15, rfl⟩) ?_
      refine y_iconst (v := 1) (by decide) dL_value_17 ?_
      exact y_iret dL_value_18
    · rw [if_neg q0]
      exact yx_none
  · rw [if_neg (by omega)]

def fL_after (a0 : Nat) (a1 : Int32) (a2 : Int32) (a3 : Nat) (h : AH) : RR :=
  zct (zob h a0 6) (fX6_after a0 a1 a2 h) (fun v h1 => zvi v fun x => (zsl h1 a3 0 x.toInt64).bind fun h2 => some (.inl (some (.int 0)), h2)) (fun e h1 => if e = 0 then some (.inl (some (.int 1)), h1) else if e = 2 then some (.inl (some (.int 2)), h1) else none)
set_option maxRecDepth 20000 in
theorem mL_after {V : VT} (hV : V.2.2.2.2.2.stackTraces = false) (d : Nat) (a0 : Nat) (a1 : Int32) (a2 : Int32) (a3 : Nat) (h : AH) : zMW V yL_after cL_after 5 [(0, 10, 13, 19), (0, 10, 17, 25)] (d + 8) [.ref a0, .int a1, .int a2, .ref a3] h (fL_after a0 a1 a2 a3 h) := by
  refine y_meth (by decide +kernel) (Nat.le_of_ble_eq_true rfl) [(0, .ref a0), (1, .int a1), (2, .int a2), (3, .ref a3)] rfl (fun X => ?_)
  show zH X V RL cL_after 5 [(0, 10, 13, 19), (0, 10, 17, 25)] (d + 8) h.1 h.2.1 (fL_after a0 a1 a2 a3 h) 0 [(0, .ref a0), (1, .int a1), (2, .int a2), (3, .ref a3)] [] h
  unfold fL_after
  refine y_aload_n 3 rfl rfl dL_after_0 ?_
  refine y_iconst (v := 0) (by decide) dL_after_1 ?_
  refine y_aload_n 0 rfl rfl dL_after_2 ?_
  refine y_iload_n 1 rfl rfl dL_after_3 ?_
  refine y_iload_n 2 rfl rfl dL_after_4 ?_
  refine y_cT (st := [.int 0, .ref a3]) [.int a1, .int a2] zk_RL_21 rfl (Nat.le_of_ble_eq_true rfl) dL_after_5 (mX6_after hV (d + 0) a0 a1 a2 h) (fun v h1 => ?_) (fun e h1 he => ?_) (fun e h1 he => ?_)
  · refine y_vi (fun x => ?_)
    refine y_i2l dL_after_8 ?_
    refine y_sJ dL_after_9 (fun h2 => ?_)
    refine y_goto 21 (by decide) dL_after_10 ?_
    refine y_iconst (v := 0) (by decide) dL_after_21 ?_
    exact y_iret dL_after_22
  · by_cases q0 : e = 0
    · subst q0
      rw [if_pos rfl]
      refine y_catch (by decide) [] [] (0, 10, 13, 19) [(0, 10, 17, 25)] rfl rfl (fun j z c h1 _ => by cases h1) (by decide) (by decide) zw_676 rfl (i := 4) (by decide) (lv' := [(0, .ref a0), (1, .int a1), (2, .int a2), (3, .ref a3)]) rfl (Or.inl ⟨dL_after_13, rfl⟩) ?_
      refine y_iconst (v := 1) (by decide) dL_after_15 ?_
      exact y_iret dL_after_16
    · rw [if_neg q0]
      by_cases q1 : e = 2
      · subst q1
        rw [if_pos rfl]
        refine y_catch (by decide) [(0, 10, 13, 19)] [0] (0, 10, 17, 25) [] rfl rfl (fun j z c h1 h2 => match j, z, c, h1, h2 with | 0, z, c, h1, h2 => by obtain rfl : (0, 10, 13, 19) = z := Option.some.inj h1; obtain rfl : 0 = c := Option.some.inj h2; exact ⟨by decide, by decide, by decide, zw_676⟩ | (_ + 1), _, _, h1, _ => by cases h1) (by decide) (by decide) zw_709 rfl (i := 4) (by decide) (lv' := [(0, .ref a0), (1, .int a1), (2, .int a2), (3, .ref a3)]) rfl (Or.inl ⟨dL_after_17, rfl⟩) ?_
        refine y_iconst (v := 2) (by decide) dL_after_19 ?_
        exact y_iret dL_after_20
      · rw [if_neg q1]
        exact yx_none
  · rw [if_neg (by omega), if_neg (by omega)]

def fL_again (a0 : Nat) (a1 : Int32) (a2 : Int32) (a3 : Nat) (h : AH) : RR :=
  zct (zob h a0 6) (fX6_again a0 a1 a2 h) (fun v h1 => zvi v fun x => (zsl h1 a3 0 x.toInt64).bind fun h2 => some (.inl (some (.int 0)), h2)) (fun e h1 => if e = 0 then some (.inl (some (.int 1)), h1) else if e = 1 then some (.inl (some (.int 2)), h1) else if e = 2 then some (.inl (some (.int 3)), h1) else none)
set_option maxRecDepth 20000 in
theorem mL_again {V : VT} (hV : V.2.2.2.2.2.stackTraces = false) (d : Nat) (a0 : Nat) (a1 : Int32) (a2 : Int32) (a3 : Nat) (h : AH) : zMW V yL_again cL_again 5 [(0, 10, 13, 19), (0, 10, 17, 13), (0, 10, 21, 25)] (d + 8) [.ref a0, .int a1, .int a2, .ref a3] h (fL_again a0 a1 a2 a3 h) := by
  refine y_meth (by decide +kernel) (Nat.le_of_ble_eq_true rfl) [(0, .ref a0), (1, .int a1), (2, .int a2), (3, .ref a3)] rfl (fun X => ?_)
  show zH X V RL cL_again 5 [(0, 10, 13, 19), (0, 10, 17, 13), (0, 10, 21, 25)] (d + 8) h.1 h.2.1 (fL_again a0 a1 a2 a3 h) 0 [(0, .ref a0), (1, .int a1), (2, .int a2), (3, .ref a3)] [] h
  unfold fL_again
  refine y_aload_n 3 rfl rfl dL_again_0 ?_
  refine y_iconst (v := 0) (by decide) dL_again_1 ?_
  refine y_aload_n 0 rfl rfl dL_again_2 ?_
  refine y_iload_n 1 rfl rfl dL_again_3 ?_
  refine y_iload_n 2 rfl rfl dL_again_4 ?_
  refine y_cT (st := [.int 0, .ref a3]) [.int a1, .int a2] zk_RL_27 rfl (Nat.le_of_ble_eq_true rfl) dL_again_5 (mX6_again hV (d + 0) a0 a1 a2 h) (fun v h1 => ?_) (fun e h1 he => ?_) (fun e h1 he => ?_)
  · refine y_vi (fun x => ?_)
    refine y_i2l dL_again_8 ?_
    refine y_sJ dL_again_9 (fun h2 => ?_)
    refine y_goto 25 (by decide) dL_again_10 ?_
    refine y_iconst (v := 0) (by decide) dL_again_25 ?_
    exact y_iret dL_again_26
  · by_cases q0 : e = 0
    · subst q0
      rw [if_pos rfl]
      refine y_catch (by decide) [] [] (0, 10, 13, 19) [(0, 10, 17, 13), (0, 10, 21, 25)] rfl rfl (fun j z c h1 _ => by cases h1) (by decide) (by decide) zw_676 rfl (i := 4) (by decide) (lv' := [(0, .ref a0), (1, .int a1), (2, .int a2), (3, .ref a3)]) rfl (Or.inl ⟨dL_again_13, rfl⟩) ?_
      refine y_iconst (v := 1) (by decide) dL_again_15 ?_
      exact y_iret dL_again_16
    · rw [if_neg q0]
      by_cases q1 : e = 1
      · subst q1
        rw [if_pos rfl]
        refine y_catch (by decide) [(0, 10, 13, 19)] [0] (0, 10, 17, 13) [(0, 10, 21, 25)] rfl rfl (fun j z c h1 h2 => match j, z, c, h1, h2 with | 0, z, c, h1, h2 => by obtain rfl : (0, 10, 13, 19) = z := Option.some.inj h1; obtain rfl : 0 = c := Option.some.inj h2; exact ⟨by decide, by decide, by decide, zw_676⟩ | (_ + 1), _, _, h1, _ => by cases h1) (by decide) (by decide) zw_427 rfl (i := 4) (by decide) (lv' := [(0, .ref a0), (1, .int a1), (2, .int a2), (3, .ref a3)]) rfl (Or.inl ⟨dL_again_17, rfl⟩) ?_
        refine y_iconst (v := 2) (by decide) dL_again_19 ?_
        exact y_iret dL_again_20
      · rw [if_neg q1]
        by_cases q2 : e = 2
        · subst q2
          rw [if_pos rfl]
          refine y_catch (by decide) [(0, 10, 13, 19), (0, 10, 17, 13)] [0, 1] (0, 10, 21, 25) [] rfl rfl (fun j z c h1 h2 => match j, z, c, h1, h2 with | 0, z, c, h1, h2 => by obtain rfl : (0, 10, 13, 19) = z := Option.some.inj h1; obtain rfl : 0 = c := Option.some.inj h2; exact ⟨by decide, by decide, by decide, zw_676⟩ | 1, z, c, h1, h2 => by obtain rfl : (0, 10, 17, 13) = z := Option.some.inj h1; obtain rfl : 1 = c := Option.some.inj h2; exact ⟨by decide, by decide, by decide, zw_427⟩ | (_ + 2), _, _, h1, _ => by cases h1) (by decide) (by decide) zw_709 rfl (i := 4) (by decide) (lv' := [(0, .ref a0), (1, .int a1), (2, .int a2), (3, .ref a3)]) rfl (Or.inl ⟨dL_again_21, rfl⟩) ?_
          refine y_iconst (v := 3) (by decide) dL_again_23 ?_
          exact y_iret dL_again_24
        · rw [if_neg q2]
          exact yx_none
  · rw [if_neg (by omega), if_neg (by omega), if_neg (by omega)]

def fL_back (a0 : Nat) (a1 : Int32) (a2 : Nat) (h : AH) : RR :=
  zct (zob h a0 6) (fX6_back a0 a1 h) (fun v h1 => zvi v fun x => (zsl h1 a2 0 x.toInt64).bind fun h2 => some (.inl (some (.int 0)), h2)) (fun e h1 => if e = 0 then some (.inl (some (.int 1)), h1) else if e = 2 then some (.inl (some (.int 2)), h1) else none)
set_option maxRecDepth 20000 in
theorem mL_back {V : VT} (hV : V.2.2.2.2.2.stackTraces = false) (d : Nat) (a0 : Nat) (a1 : Int32) (a2 : Nat) (h : AH) : zMW V yL_back cL_back 4 [(0, 9, 12, 19), (0, 9, 15, 25)] (d + 8) [.ref a0, .int a1, .ref a2] h (fL_back a0 a1 a2 h) := by
  refine y_meth (by decide +kernel) (Nat.le_of_ble_eq_true rfl) [(0, .ref a0), (1, .int a1), (2, .ref a2)] rfl (fun X => ?_)
  show zH X V RL cL_back 4 [(0, 9, 12, 19), (0, 9, 15, 25)] (d + 8) h.1 h.2.1 (fL_back a0 a1 a2 h) 0 [(0, .ref a0), (1, .int a1), (2, .ref a2)] [] h
  unfold fL_back
  refine y_aload_n 2 rfl rfl dL_back_0 ?_
  refine y_iconst (v := 0) (by decide) dL_back_1 ?_
  refine y_aload_n 0 rfl rfl dL_back_2 ?_
  refine y_iload_n 1 rfl rfl dL_back_3 ?_
  refine y_cT (st := [.int 0, .ref a2]) [.int a1] zk_RL_30 rfl (Nat.le_of_ble_eq_true rfl) dL_back_4 (mX6_back hV (d + 0) a0 a1 h) (fun v h1 => ?_) (fun e h1 he => ?_) (fun e h1 he => ?_)
  · refine y_vi (fun x => ?_)
    refine y_i2l dL_back_7 ?_
    refine y_sJ dL_back_8 (fun h2 => ?_)
    refine y_goto 18 (by decide) dL_back_9 ?_
    refine y_iconst (v := 0) (by decide) dL_back_18 ?_
    exact y_iret dL_back_19
  · by_cases q0 : e = 0
    · subst q0
      rw [if_pos rfl]
      refine y_catch (by decide) [] [] (0, 9, 12, 19) [(0, 9, 15, 25)] rfl rfl (fun j z c h1 _ => by cases h1) (by decide) (by decide) zw_676 rfl (i := 3) (by decide) (lv' := [(0, .ref a0), (1, .int a1), (2, .ref a2)]) rfl (Or.inr ⟨_, dL_back_12, rfl, rfl⟩) ?_
      refine y_iconst (v := 1) (by decide) dL_back_13 ?_
      exact y_iret dL_back_14
    · rw [if_neg q0]
      by_cases q1 : e = 2
      · subst q1
        rw [if_pos rfl]
        refine y_catch (by decide) [(0, 9, 12, 19)] [0] (0, 9, 15, 25) [] rfl rfl (fun j z c h1 h2 => match j, z, c, h1, h2 with | 0, z, c, h1, h2 => by obtain rfl : (0, 9, 12, 19) = z := Option.some.inj h1; obtain rfl : 0 = c := Option.some.inj h2; exact ⟨by decide, by decide, by decide, zw_676⟩ | (_ + 1), _, _, h1, _ => by cases h1) (by decide) (by decide) zw_709 rfl (i := 3) (by decide) (lv' := [(0, .ref a0), (1, .int a1), (2, .ref a2)]) rfl (Or.inr ⟨_, dL_back_15, rfl, rfl⟩) ?_
        refine y_iconst (v := 2) (by decide) dL_back_16 ?_
        exact y_iret dL_back_17
      · rw [if_neg q1]
        exact yx_none
  · rw [if_neg (by omega), if_neg (by omega)]

def fL_drop (a0 : Nat) (a1 : Int32) (a2 : Nat) (h : AH) : RR :=
  zct (zob h a0 6) (fX6_drop a0 a1 h) (fun v h1 => zvi v fun x => (zsl h1 a2 0 x.toInt64).bind fun h2 => some (.inl (some (.int 0)), h2)) (fun e h1 => if e = 0 then some (.inl (some (.int 1)), h1) else none)
set_option maxRecDepth 20000 in
theorem mL_drop {V : VT} (hV : V.2.2.2.2.2.stackTraces = false) (d : Nat) (a0 : Nat) (a1 : Int32) (a2 : Nat) (h : AH) : zMW V yL_drop cL_drop 4 [(0, 9, 12, 19)] (d + 8) [.ref a0, .int a1, .ref a2] h (fL_drop a0 a1 a2 h) := by
  refine y_meth (by decide +kernel) (Nat.le_of_ble_eq_true rfl) [(0, .ref a0), (1, .int a1), (2, .ref a2)] rfl (fun X => ?_)
  show zH X V RL cL_drop 4 [(0, 9, 12, 19)] (d + 8) h.1 h.2.1 (fL_drop a0 a1 a2 h) 0 [(0, .ref a0), (1, .int a1), (2, .ref a2)] [] h
  unfold fL_drop
  refine y_aload_n 2 rfl rfl dL_drop_0 ?_
  refine y_iconst (v := 0) (by decide) dL_drop_1 ?_
  refine y_aload_n 0 rfl rfl dL_drop_2 ?_
  refine y_iload_n 1 rfl rfl dL_drop_3 ?_
  refine y_cT (st := [.int 0, .ref a2]) [.int a1] zk_RL_33 rfl (Nat.le_of_ble_eq_true rfl) dL_drop_4 (mX6_drop hV (d + 0) a0 a1 h) (fun v h1 => ?_) (fun e h1 he => ?_) (fun e h1 he => ?_)
  · refine y_vi (fun x => ?_)
    refine y_i2l dL_drop_7 ?_
    refine y_sJ dL_drop_8 (fun h2 => ?_)
    refine y_goto 15 (by decide) dL_drop_9 ?_
    refine y_iconst (v := 0) (by decide) dL_drop_15 ?_
    exact y_iret dL_drop_16
  · by_cases q0 : e = 0
    · subst q0
      rw [if_pos rfl]
      refine y_catch (by decide) [] [] (0, 9, 12, 19) [] rfl rfl (fun j z c h1 _ => by cases h1) (by decide) (by decide) zw_676 rfl (i := 3) (by decide) (lv' := [(0, .ref a0), (1, .int a1), (2, .ref a2)]) rfl (Or.inr ⟨_, dL_drop_12, rfl, rfl⟩) ?_
      refine y_iconst (v := 1) (by decide) dL_drop_13 ?_
      exact y_iret dL_drop_14
    · rw [if_neg q0]
      exact yx_none
  · rw [if_neg (by omega)]

def fL_told (a0 : Nat) (a1 : Int32) (a2 : Nat) (h : AH) : RR :=
  zct (zob h a0 6) (fX6_told a0 a1 h) (fun v h1 => zvi v fun x => (zsl h1 a2 0 x.toInt64).bind fun h2 => some (.inl (some (.int 0)), h2)) (fun e h1 => if e = 1 then some (.inl (some (.int 1)), h1) else none)
set_option maxRecDepth 20000 in
theorem mL_told {V : VT} (hV : V.2.2.2.2.2.stackTraces = false) (d : Nat) (a0 : Nat) (a1 : Int32) (a2 : Nat) (h : AH) : zMW V yL_told cL_told 4 [(0, 9, 12, 13)] (d + 8) [.ref a0, .int a1, .ref a2] h (fL_told a0 a1 a2 h) := by
  refine y_meth (by decide +kernel) (Nat.le_of_ble_eq_true rfl) [(0, .ref a0), (1, .int a1), (2, .ref a2)] rfl (fun X => ?_)
  show zH X V RL cL_told 4 [(0, 9, 12, 13)] (d + 8) h.1 h.2.1 (fL_told a0 a1 a2 h) 0 [(0, .ref a0), (1, .int a1), (2, .ref a2)] [] h
  unfold fL_told
  refine y_aload_n 2 rfl rfl dL_told_0 ?_
  refine y_iconst (v := 0) (by decide) dL_told_1 ?_
  refine y_aload_n 0 rfl rfl dL_told_2 ?_
  refine y_iload_n 1 rfl rfl dL_told_3 ?_
  refine y_cT (st := [.int 0, .ref a2]) [.int a1] zk_RL_36 rfl (Nat.le_of_ble_eq_true rfl) dL_told_4 (mX6_told hV (d + 0) a0 a1 h) (fun v h1 => ?_) (fun e h1 he => ?_) (fun e h1 he => ?_)
  · refine y_vi (fun x => ?_)
    refine y_i2l dL_told_7 ?_
    refine y_sJ dL_told_8 (fun h2 => ?_)
    refine y_goto 15 (by decide) dL_told_9 ?_
    refine y_iconst (v := 0) (by decide) dL_told_15 ?_
    exact y_iret dL_told_16
  · by_cases q0 : e = 1
    · subst q0
      rw [if_pos rfl]
      refine y_catch (by decide) [] [] (0, 9, 12, 13) [] rfl rfl (fun j z c h1 _ => by cases h1) (by decide) (by decide) zw_427 rfl (i := 3) (by decide) (lv' := [(0, .ref a0), (1, .int a1), (2, .ref a2)]) rfl (Or.inr ⟨_, dL_told_12, rfl, rfl⟩) ?_
      refine y_iconst (v := 1) (by decide) dL_told_13 ?_
      exact y_iret dL_told_14
    · rw [if_neg q0]
      exact yx_none
  · rw [if_neg (by omega)]

def fL_points (a0 : Nat) (a1 : Int32) (a2 : Int32) (a3 : Int32) (a4 : Nat) (h : AH) : RR :=
  zct (zob h a0 6) (fX6_points a0 a1 a2 a3 h) (fun v h1 => zvi v fun x => (zsl h1 a4 0 x.toInt64).bind fun h2 => some (.inl (some (.int 0)), h2)) (fun e h1 => if e = 0 then some (.inl (some (.int 1)), h1) else if e = 1 then some (.inl (some (.int 2)), h1) else none)
set_option maxRecDepth 20000 in
theorem mL_points {V : VT} (hV : V.2.2.2.2.2.stackTraces = false) (d : Nat) (a0 : Nat) (a1 : Int32) (a2 : Int32) (a3 : Int32) (a4 : Nat) (h : AH) : zMW V yL_points cL_points 6 [(0, 12, 15, 19), (0, 12, 19, 13)] (d + 8) [.ref a0, .int a1, .int a2, .int a3, .ref a4] h (fL_points a0 a1 a2 a3 a4 h) := by
  refine y_meth (by decide +kernel) (Nat.le_of_ble_eq_true rfl) [(0, .ref a0), (1, .int a1), (2, .int a2), (3, .int a3), (4, .ref a4)] rfl (fun X => ?_)
  show zH X V RL cL_points 6 [(0, 12, 15, 19), (0, 12, 19, 13)] (d + 8) h.1 h.2.1 (fL_points a0 a1 a2 a3 a4 h) 0 [(0, .ref a0), (1, .int a1), (2, .int a2), (3, .int a3), (4, .ref a4)] [] h
  unfold fL_points
  refine y_aload 4 rfl dL_points_0 ?_
  refine y_iconst (v := 0) (by decide) dL_points_2 ?_
  refine y_aload_n 0 rfl rfl dL_points_3 ?_
  refine y_iload_n 1 rfl rfl dL_points_4 ?_
  refine y_iload_n 2 rfl rfl dL_points_5 ?_
  refine y_iload_n 3 rfl rfl dL_points_6 ?_
  refine y_cT (st := [.int 0, .ref a4]) [.int a1, .int a2, .int a3] zk_RL_39 rfl (Nat.le_of_ble_eq_true rfl) dL_points_7 (mX6_points hV (d + 0) a0 a1 a2 a3 h) (fun v h1 => ?_) (fun e h1 he => ?_) (fun e h1 he => ?_)
  · refine y_vi (fun x => ?_)
    refine y_i2l dL_points_10 ?_
    refine y_sJ dL_points_11 (fun h2 => ?_)
    refine y_goto 23 (by decide) dL_points_12 ?_
    refine y_iconst (v := 0) (by decide) dL_points_23 ?_
    exact y_iret dL_points_24
  · by_cases q0 : e = 0
    · subst q0
      rw [if_pos rfl]
      refine y_catch (by decide) [] [] (0, 12, 15, 19) [(0, 12, 19, 13)] rfl rfl (fun j z c h1 _ => by cases h1) (by decide) (by decide) zw_676 rfl (i := 5) (by decide) (lv' := [(0, .ref a0), (1, .int a1), (2, .int a2), (3, .int a3), (4, .ref a4)]) rfl (Or.inl ⟨dL_points_15, rfl⟩) ?_
      refine y_iconst (v := 1) (by decide) dL_points_17 ?_
      exact y_iret dL_points_18
    · rw [if_neg q0]
      by_cases q1 : e = 1
      · subst q1
        rw [if_pos rfl]
        refine y_catch (by decide) [(0, 12, 15, 19)] [0] (0, 12, 19, 13) [] rfl rfl (fun j z c h1 h2 => match j, z, c, h1, h2 with | 0, z, c, h1, h2 => by obtain rfl : (0, 12, 15, 19) = z := Option.some.inj h1; obtain rfl : 0 = c := Option.some.inj h2; exact ⟨by decide, by decide, by decide, zw_676⟩ | (_ + 1), _, _, h1, _ => by cases h1) (by decide) (by decide) zw_427 rfl (i := 5) (by decide) (lv' := [(0, .ref a0), (1, .int a1), (2, .int a2), (3, .int a3), (4, .ref a4)]) rfl (Or.inl ⟨dL_points_19, rfl⟩) ?_
        refine y_iconst (v := 2) (by decide) dL_points_21 ?_
        exact y_iret dL_points_22
      · rw [if_neg q1]
        exact yx_none
  · rw [if_neg (by omega), if_neg (by omega)]

def fL_at (a0 : Nat) (a1 : Int32) (a2 : Int32) (a3 : Nat) (h : AH) : RR :=
  zct (zob h a0 6) (fX6_at a0 a1 a2 h) (fun v h1 => zvi v fun x => (zsl h1 a3 0 x.toInt64).bind fun h2 => some (.inl (some (.int 0)), h2)) (fun e h1 => if e = 0 then some (.inl (some (.int 1)), h1) else none)
set_option maxRecDepth 20000 in
theorem mL_at {V : VT} (hV : V.2.2.2.2.2.stackTraces = false) (d : Nat) (a0 : Nat) (a1 : Int32) (a2 : Int32) (a3 : Nat) (h : AH) : zMW V yL_at cL_at 5 [(0, 10, 13, 19)] (d + 8) [.ref a0, .int a1, .int a2, .ref a3] h (fL_at a0 a1 a2 a3 h) := by
  refine y_meth (by decide +kernel) (Nat.le_of_ble_eq_true rfl) [(0, .ref a0), (1, .int a1), (2, .int a2), (3, .ref a3)] rfl (fun X => ?_)
  show zH X V RL cL_at 5 [(0, 10, 13, 19)] (d + 8) h.1 h.2.1 (fL_at a0 a1 a2 a3 h) 0 [(0, .ref a0), (1, .int a1), (2, .int a2), (3, .ref a3)] [] h
  unfold fL_at
  refine y_aload_n 3 rfl rfl dL_at_0 ?_
  refine y_iconst (v := 0) (by decide) dL_at_1 ?_
  refine y_aload_n 0 rfl rfl dL_at_2 ?_
  refine y_iload_n 1 rfl rfl dL_at_3 ?_
  refine y_iload_n 2 rfl rfl dL_at_4 ?_
  refine y_cT (st := [.int 0, .ref a3]) [.int a1, .int a2] zk_RL_42 rfl (Nat.le_of_ble_eq_true rfl) dL_at_5 (mX6_at hV (d + 0) a0 a1 a2 h) (fun v h1 => ?_) (fun e h1 he => ?_) (fun e h1 he => ?_)
  · refine y_vi (fun x => ?_)
    refine y_i2l dL_at_8 ?_
    refine y_sJ dL_at_9 (fun h2 => ?_)
    refine y_goto 17 (by decide) dL_at_10 ?_
    refine y_iconst (v := 0) (by decide) dL_at_17 ?_
    exact y_iret dL_at_18
  · by_cases q0 : e = 0
    · subst q0
      rw [if_pos rfl]
      refine y_catch (by decide) [] [] (0, 10, 13, 19) [] rfl rfl (fun j z c h1 _ => by cases h1) (by decide) (by decide) zw_676 rfl (i := 4) (by decide) (lv' := [(0, .ref a0), (1, .int a1), (2, .int a2), (3, .ref a3)]) rfl (Or.inl ⟨dL_at_13, rfl⟩) ?_
      refine y_iconst (v := 1) (by decide) dL_at_15 ?_
      exact y_iret dL_at_16
    · rw [if_neg q0]
      exact yx_none
  · rw [if_neg (by omega)]

def fL_coefficient (a0 : Nat) (a1 : Int32) (a2 : Int32) (a3 : Nat) (h : AH) : RR :=
  zct (zob h a0 6) (fX6_coefficient a0 a1 a2 h) (fun v h1 => zvi v fun x => (zsl h1 a3 0 x.toInt64).bind fun h2 => some (.inl (some (.int 0)), h2)) (fun e h1 => if e = 0 then some (.inl (some (.int 1)), h1) else if e = 1 then some (.inl (some (.int 2)), h1) else none)
set_option maxRecDepth 20000 in
theorem mL_coefficient {V : VT} (hV : V.2.2.2.2.2.stackTraces = false) (d : Nat) (a0 : Nat) (a1 : Int32) (a2 : Int32) (a3 : Nat) (h : AH) : zMW V yL_coefficient cL_coefficient 5 [(0, 10, 13, 19), (0, 10, 17, 13)] (d + 8) [.ref a0, .int a1, .int a2, .ref a3] h (fL_coefficient a0 a1 a2 a3 h) := by
  refine y_meth (by decide +kernel) (Nat.le_of_ble_eq_true rfl) [(0, .ref a0), (1, .int a1), (2, .int a2), (3, .ref a3)] rfl (fun X => ?_)
  show zH X V RL cL_coefficient 5 [(0, 10, 13, 19), (0, 10, 17, 13)] (d + 8) h.1 h.2.1 (fL_coefficient a0 a1 a2 a3 h) 0 [(0, .ref a0), (1, .int a1), (2, .int a2), (3, .ref a3)] [] h
  unfold fL_coefficient
  refine y_aload_n 3 rfl rfl dL_coefficient_0 ?_
  refine y_iconst (v := 0) (by decide) dL_coefficient_1 ?_
  refine y_aload_n 0 rfl rfl dL_coefficient_2 ?_
  refine y_iload_n 1 rfl rfl dL_coefficient_3 ?_
  refine y_iload_n 2 rfl rfl dL_coefficient_4 ?_
  refine y_cT (st := [.int 0, .ref a3]) [.int a1, .int a2] zk_RL_45 rfl (Nat.le_of_ble_eq_true rfl) dL_coefficient_5 (mX6_coefficient hV (d + 0) a0 a1 a2 h) (fun v h1 => ?_) (fun e h1 he => ?_) (fun e h1 he => ?_)
  · refine y_vi (fun x => ?_)
    refine y_i2l dL_coefficient_8 ?_
    refine y_sJ dL_coefficient_9 (fun h2 => ?_)
    refine y_goto 21 (by decide) dL_coefficient_10 ?_
    refine y_iconst (v := 0) (by decide) dL_coefficient_21 ?_
    exact y_iret dL_coefficient_22
  · by_cases q0 : e = 0
    · subst q0
      rw [if_pos rfl]
      refine y_catch (by decide) [] [] (0, 10, 13, 19) [(0, 10, 17, 13)] rfl rfl (fun j z c h1 _ => by cases h1) (by decide) (by decide) zw_676 rfl (i := 4) (by decide) (lv' := [(0, .ref a0), (1, .int a1), (2, .int a2), (3, .ref a3)]) rfl (Or.inl ⟨dL_coefficient_13, rfl⟩) ?_
      refine y_iconst (v := 1) (by decide) dL_coefficient_15 ?_
      exact y_iret dL_coefficient_16
    · rw [if_neg q0]
      by_cases q1 : e = 1
      · subst q1
        rw [if_pos rfl]
        refine y_catch (by decide) [(0, 10, 13, 19)] [0] (0, 10, 17, 13) [] rfl rfl (fun j z c h1 h2 => match j, z, c, h1, h2 with | 0, z, c, h1, h2 => by obtain rfl : (0, 10, 13, 19) = z := Option.some.inj h1; obtain rfl : 0 = c := Option.some.inj h2; exact ⟨by decide, by decide, by decide, zw_676⟩ | (_ + 1), _, _, h1, _ => by cases h1) (by decide) (by decide) zw_427 rfl (i := 4) (by decide) (lv' := [(0, .ref a0), (1, .int a1), (2, .int a2), (3, .ref a3)]) rfl (Or.inl ⟨dL_coefficient_17, rfl⟩) ?_
        refine y_iconst (v := 2) (by decide) dL_coefficient_19 ?_
        exact y_iret dL_coefficient_20
      · rw [if_neg q1]
        exact yx_none
  · rw [if_neg (by omega), if_neg (by omega)]

def fL_degree (a0 : Nat) (a1 : Int32) (a2 : Nat) (h : AH) : RR :=
  zct (zob h a0 6) (fX6_degree a0 a1 h) (fun v h1 => zvi v fun x => (zsl h1 a2 0 x.toInt64).bind fun h2 => some (.inl (some (.int 0)), h2)) (fun e h1 => if e = 0 then some (.inl (some (.int 1)), h1) else none)
set_option maxRecDepth 20000 in
theorem mL_degree {V : VT} (hV : V.2.2.2.2.2.stackTraces = false) (d : Nat) (a0 : Nat) (a1 : Int32) (a2 : Nat) (h : AH) : zMW V yL_degree cL_degree 4 [(0, 9, 12, 19)] (d + 8) [.ref a0, .int a1, .ref a2] h (fL_degree a0 a1 a2 h) := by
  refine y_meth (by decide +kernel) (Nat.le_of_ble_eq_true rfl) [(0, .ref a0), (1, .int a1), (2, .ref a2)] rfl (fun X => ?_)
  show zH X V RL cL_degree 4 [(0, 9, 12, 19)] (d + 8) h.1 h.2.1 (fL_degree a0 a1 a2 h) 0 [(0, .ref a0), (1, .int a1), (2, .ref a2)] [] h
  unfold fL_degree
  refine y_aload_n 2 rfl rfl dL_degree_0 ?_
  refine y_iconst (v := 0) (by decide) dL_degree_1 ?_
  refine y_aload_n 0 rfl rfl dL_degree_2 ?_
  refine y_iload_n 1 rfl rfl dL_degree_3 ?_
  refine y_cT (st := [.int 0, .ref a2]) [.int a1] zk_RL_48 rfl (Nat.le_of_ble_eq_true rfl) dL_degree_4 (mX6_degree hV (d + 0) a0 a1 h) (fun v h1 => ?_) (fun e h1 he => ?_) (fun e h1 he => ?_)
  · refine y_vi (fun x => ?_)
    refine y_i2l dL_degree_7 ?_
    refine y_sJ dL_degree_8 (fun h2 => ?_)
    refine y_goto 15 (by decide) dL_degree_9 ?_
    refine y_iconst (v := 0) (by decide) dL_degree_15 ?_
    exact y_iret dL_degree_16
  · by_cases q0 : e = 0
    · subst q0
      rw [if_pos rfl]
      refine y_catch (by decide) [] [] (0, 9, 12, 19) [] rfl rfl (fun j z c h1 _ => by cases h1) (by decide) (by decide) zw_676 rfl (i := 3) (by decide) (lv' := [(0, .ref a0), (1, .int a1), (2, .ref a2)]) rfl (Or.inr ⟨_, dL_degree_12, rfl, rfl⟩) ?_
      refine y_iconst (v := 1) (by decide) dL_degree_13 ?_
      exact y_iret dL_degree_14
    · rw [if_neg q0]
      exact yx_none
  · rw [if_neg (by omega)]

def fL_taken (a0 : Nat) (a1 : Int32) (a2 : Int32) (a3 : Nat) (h : AH) : RR :=
  zct (zob h a0 6) (fX6_taken a0 a1 a2 h) (fun v h1 => zvi v fun x => (zsl h1 a3 0 x.toInt64).bind fun h2 => some (.inl (some (.int 0)), h2)) (fun e h1 => if e = 0 then some (.inl (some (.int 1)), h1) else none)
set_option maxRecDepth 20000 in
theorem mL_taken {V : VT} (hV : V.2.2.2.2.2.stackTraces = false) (d : Nat) (a0 : Nat) (a1 : Int32) (a2 : Int32) (a3 : Nat) (h : AH) : zMW V yL_taken cL_taken 5 [(0, 10, 13, 19)] (d + 8) [.ref a0, .int a1, .int a2, .ref a3] h (fL_taken a0 a1 a2 a3 h) := by
  refine y_meth (by decide +kernel) (Nat.le_of_ble_eq_true rfl) [(0, .ref a0), (1, .int a1), (2, .int a2), (3, .ref a3)] rfl (fun X => ?_)
  show zH X V RL cL_taken 5 [(0, 10, 13, 19)] (d + 8) h.1 h.2.1 (fL_taken a0 a1 a2 a3 h) 0 [(0, .ref a0), (1, .int a1), (2, .int a2), (3, .ref a3)] [] h
  unfold fL_taken
  refine y_aload_n 3 rfl rfl dL_taken_0 ?_
  refine y_iconst (v := 0) (by decide) dL_taken_1 ?_
  refine y_aload_n 0 rfl rfl dL_taken_2 ?_
  refine y_iload_n 1 rfl rfl dL_taken_3 ?_
  refine y_iload_n 2 rfl rfl dL_taken_4 ?_
  refine y_cT (st := [.int 0, .ref a3]) [.int a1, .int a2] zk_RL_51 rfl (Nat.le_of_ble_eq_true rfl) dL_taken_5 (mX6_taken hV (d + 0) a0 a1 a2 h) (fun v h1 => ?_) (fun e h1 he => ?_) (fun e h1 he => ?_)
  · refine y_vi (fun x => ?_)
    refine y_i2l dL_taken_8 ?_
    refine y_sJ dL_taken_9 (fun h2 => ?_)
    refine y_goto 17 (by decide) dL_taken_10 ?_
    refine y_iconst (v := 0) (by decide) dL_taken_17 ?_
    exact y_iret dL_taken_18
  · by_cases q0 : e = 0
    · subst q0
      rw [if_pos rfl]
      refine y_catch (by decide) [] [] (0, 10, 13, 19) [] rfl rfl (fun j z c h1 _ => by cases h1) (by decide) (by decide) zw_676 rfl (i := 4) (by decide) (lv' := [(0, .ref a0), (1, .int a1), (2, .int a2), (3, .ref a3)]) rfl (Or.inl ⟨dL_taken_13, rfl⟩) ?_
      refine y_iconst (v := 1) (by decide) dL_taken_15 ?_
      exact y_iret dL_taken_16
    · rw [if_neg q0]
      exact yx_none
  · rw [if_neg (by omega)]

def fL_image (a0 : Nat) (a1 : Int32) (a2 : Nat) (h : AH) : RR :=
  zct (zob h a0 6) (fX6_image a0 a1 h) (fun v h1 => zvi v fun x => (zsl h1 a2 0 x.toInt64).bind fun h2 => some (.inl (some (.int 0)), h2)) (fun e h1 => if e = 0 then some (.inl (some (.int 1)), h1) else none)
set_option maxRecDepth 20000 in
theorem mL_image {V : VT} (hV : V.2.2.2.2.2.stackTraces = false) (d : Nat) (a0 : Nat) (a1 : Int32) (a2 : Nat) (h : AH) : zMW V yL_image cL_image 4 [(0, 9, 12, 19)] (d + 8) [.ref a0, .int a1, .ref a2] h (fL_image a0 a1 a2 h) := by
  refine y_meth (by decide +kernel) (Nat.le_of_ble_eq_true rfl) [(0, .ref a0), (1, .int a1), (2, .ref a2)] rfl (fun X => ?_)
  show zH X V RL cL_image 4 [(0, 9, 12, 19)] (d + 8) h.1 h.2.1 (fL_image a0 a1 a2 h) 0 [(0, .ref a0), (1, .int a1), (2, .ref a2)] [] h
  unfold fL_image
  refine y_aload_n 2 rfl rfl dL_image_0 ?_
  refine y_iconst (v := 0) (by decide) dL_image_1 ?_
  refine y_aload_n 0 rfl rfl dL_image_2 ?_
  refine y_iload_n 1 rfl rfl dL_image_3 ?_
  refine y_cT (st := [.int 0, .ref a2]) [.int a1] zk_RL_54 rfl (Nat.le_of_ble_eq_true rfl) dL_image_4 (mX6_image hV (d + 0) a0 a1 h) (fun v h1 => ?_) (fun e h1 he => ?_) (fun e h1 he => ?_)
  · refine y_vi (fun x => ?_)
    refine y_i2l dL_image_7 ?_
    refine y_sJ dL_image_8 (fun h2 => ?_)
    refine y_goto 15 (by decide) dL_image_9 ?_
    refine y_iconst (v := 0) (by decide) dL_image_15 ?_
    exact y_iret dL_image_16
  · by_cases q0 : e = 0
    · subst q0
      rw [if_pos rfl]
      refine y_catch (by decide) [] [] (0, 9, 12, 19) [] rfl rfl (fun j z c h1 _ => by cases h1) (by decide) (by decide) zw_676 rfl (i := 3) (by decide) (lv' := [(0, .ref a0), (1, .int a1), (2, .ref a2)]) rfl (Or.inr ⟨_, dL_image_12, rfl, rfl⟩) ?_
      refine y_iconst (v := 1) (by decide) dL_image_13 ?_
      exact y_iret dL_image_14
    · rw [if_neg q0]
      exact yx_none
  · rw [if_neg (by omega)]

def fL_permutes (a0 : Nat) (a1 : Int32) (a2 : Nat) (h : AH) : RR :=
  zct (zob h a0 6) (fX6_permutes a0 a1 h) (fun v h1 => zvi v fun x => (zsl h1 a2 0 x.toInt64).bind fun h2 => some (.inl (some (.int 0)), h2)) (fun e h1 => if e = 0 then some (.inl (some (.int 1)), h1) else none)
set_option maxRecDepth 20000 in
theorem mL_permutes {V : VT} (hV : V.2.2.2.2.2.stackTraces = false) (d : Nat) (a0 : Nat) (a1 : Int32) (a2 : Nat) (h : AH) : zMW V yL_permutes cL_permutes 4 [(0, 9, 12, 19)] (d + 8) [.ref a0, .int a1, .ref a2] h (fL_permutes a0 a1 a2 h) := by
  refine y_meth (by decide +kernel) (Nat.le_of_ble_eq_true rfl) [(0, .ref a0), (1, .int a1), (2, .ref a2)] rfl (fun X => ?_)
  show zH X V RL cL_permutes 4 [(0, 9, 12, 19)] (d + 8) h.1 h.2.1 (fL_permutes a0 a1 a2 h) 0 [(0, .ref a0), (1, .int a1), (2, .ref a2)] [] h
  unfold fL_permutes
  refine y_aload_n 2 rfl rfl dL_permutes_0 ?_
  refine y_iconst (v := 0) (by decide) dL_permutes_1 ?_
  refine y_aload_n 0 rfl rfl dL_permutes_2 ?_
  refine y_iload_n 1 rfl rfl dL_permutes_3 ?_
  refine y_cT (st := [.int 0, .ref a2]) [.int a1] zk_RL_57 rfl (Nat.le_of_ble_eq_true rfl) dL_permutes_4 (mX6_permutes hV (d + 0) a0 a1 h) (fun v h1 => ?_) (fun e h1 he => ?_) (fun e h1 he => ?_)
  · refine y_vi (fun x => ?_)
    refine y_i2l dL_permutes_7 ?_
    refine y_sJ dL_permutes_8 (fun h2 => ?_)
    refine y_goto 15 (by decide) dL_permutes_9 ?_
    refine y_iconst (v := 0) (by decide) dL_permutes_15 ?_
    exact y_iret dL_permutes_16
  · by_cases q0 : e = 0
    · subst q0
      rw [if_pos rfl]
      refine y_catch (by decide) [] [] (0, 9, 12, 19) [] rfl rfl (fun j z c h1 _ => by cases h1) (by decide) (by decide) zw_676 rfl (i := 3) (by decide) (lv' := [(0, .ref a0), (1, .int a1), (2, .ref a2)]) rfl (Or.inr ⟨_, dL_permutes_12, rfl, rfl⟩) ?_
      refine y_iconst (v := 1) (by decide) dL_permutes_13 ?_
      exact y_iret dL_permutes_14
    · rw [if_neg q0]
      exact yx_none
  · rw [if_neg (by omega)]

def fL_powers (a0 : Nat) (a1 : Int32) (a2 : Nat) (h : AH) : RR :=
  zct (zob h a0 6) (fX6_powers a0 a1 h) (fun v h1 => zvi v fun x => (zsl h1 a2 0 x.toInt64).bind fun h2 => some (.inl (some (.int 0)), h2)) (fun e h1 => if e = 0 then some (.inl (some (.int 1)), h1) else none)
set_option maxRecDepth 20000 in
theorem mL_powers {V : VT} (hV : V.2.2.2.2.2.stackTraces = false) (d : Nat) (a0 : Nat) (a1 : Int32) (a2 : Nat) (h : AH) : zMW V yL_powers cL_powers 4 [(0, 9, 12, 19)] (d + 8) [.ref a0, .int a1, .ref a2] h (fL_powers a0 a1 a2 h) := by
  refine y_meth (by decide +kernel) (Nat.le_of_ble_eq_true rfl) [(0, .ref a0), (1, .int a1), (2, .ref a2)] rfl (fun X => ?_)
  show zH X V RL cL_powers 4 [(0, 9, 12, 19)] (d + 8) h.1 h.2.1 (fL_powers a0 a1 a2 h) 0 [(0, .ref a0), (1, .int a1), (2, .ref a2)] [] h
  unfold fL_powers
  refine y_aload_n 2 rfl rfl dL_powers_0 ?_
  refine y_iconst (v := 0) (by decide) dL_powers_1 ?_
  refine y_aload_n 0 rfl rfl dL_powers_2 ?_
  refine y_iload_n 1 rfl rfl dL_powers_3 ?_
  refine y_cT (st := [.int 0, .ref a2]) [.int a1] zk_RL_60 rfl (Nat.le_of_ble_eq_true rfl) dL_powers_4 (mX6_powers hV (d + 0) a0 a1 h) (fun v h1 => ?_) (fun e h1 he => ?_) (fun e h1 he => ?_)
  · refine y_vi (fun x => ?_)
    refine y_i2l dL_powers_7 ?_
    refine y_sJ dL_powers_8 (fun h2 => ?_)
    refine y_goto 15 (by decide) dL_powers_9 ?_
    refine y_iconst (v := 0) (by decide) dL_powers_15 ?_
    exact y_iret dL_powers_16
  · by_cases q0 : e = 0
    · subst q0
      rw [if_pos rfl]
      refine y_catch (by decide) [] [] (0, 9, 12, 19) [] rfl rfl (fun j z c h1 _ => by cases h1) (by decide) (by decide) zw_676 rfl (i := 3) (by decide) (lv' := [(0, .ref a0), (1, .int a1), (2, .ref a2)]) rfl (Or.inr ⟨_, dL_powers_12, rfl, rfl⟩) ?_
      refine y_iconst (v := 1) (by decide) dL_powers_13 ?_
      exact y_iret dL_powers_14
    · rw [if_neg q0]
      exact yx_none
  · rw [if_neg (by omega)]

def fL_cycles (a0 : Nat) (a1 : Int32) (a2 : Int32) (a3 : Nat) (h : AH) : RR :=
  zct (zob h a0 6) (fX6_cycles a0 a1 a2 h) (fun v h1 => zvi v fun x => (zsl h1 a3 0 x.toInt64).bind fun h2 => some (.inl (some (.int 0)), h2)) (fun e h1 => if e = 0 then some (.inl (some (.int 1)), h1) else if e = 1 then some (.inl (some (.int 2)), h1) else if e = 2 then some (.inl (some (.int 3)), h1) else none)
set_option maxRecDepth 20000 in
theorem mL_cycles {V : VT} (hV : V.2.2.2.2.2.stackTraces = false) (d : Nat) (a0 : Nat) (a1 : Int32) (a2 : Int32) (a3 : Nat) (h : AH) : zMW V yL_cycles cL_cycles 5 [(0, 10, 13, 19), (0, 10, 17, 13), (0, 10, 21, 25)] (d + 8) [.ref a0, .int a1, .int a2, .ref a3] h (fL_cycles a0 a1 a2 a3 h) := by
  refine y_meth (by decide +kernel) (Nat.le_of_ble_eq_true rfl) [(0, .ref a0), (1, .int a1), (2, .int a2), (3, .ref a3)] rfl (fun X => ?_)
  show zH X V RL cL_cycles 5 [(0, 10, 13, 19), (0, 10, 17, 13), (0, 10, 21, 25)] (d + 8) h.1 h.2.1 (fL_cycles a0 a1 a2 a3 h) 0 [(0, .ref a0), (1, .int a1), (2, .int a2), (3, .ref a3)] [] h
  unfold fL_cycles
  refine y_aload_n 3 rfl rfl dL_cycles_0 ?_
  refine y_iconst (v := 0) (by decide) dL_cycles_1 ?_
  refine y_aload_n 0 rfl rfl dL_cycles_2 ?_
  refine y_iload_n 1 rfl rfl dL_cycles_3 ?_
  refine y_iload_n 2 rfl rfl dL_cycles_4 ?_
  refine y_cT (st := [.int 0, .ref a3]) [.int a1, .int a2] zk_RL_63 rfl (Nat.le_of_ble_eq_true rfl) dL_cycles_5 (mX6_cycles hV (d + 0) a0 a1 a2 h) (fun v h1 => ?_) (fun e h1 he => ?_) (fun e h1 he => ?_)
  · refine y_vi (fun x => ?_)
    refine y_i2l dL_cycles_8 ?_
    refine y_sJ dL_cycles_9 (fun h2 => ?_)
    refine y_goto 25 (by decide) dL_cycles_10 ?_
    refine y_iconst (v := 0) (by decide) dL_cycles_25 ?_
    exact y_iret dL_cycles_26
  · by_cases q0 : e = 0
    · subst q0
      rw [if_pos rfl]
      refine y_catch (by decide) [] [] (0, 10, 13, 19) [(0, 10, 17, 13), (0, 10, 21, 25)] rfl rfl (fun j z c h1 _ => by cases h1) (by decide) (by decide) zw_676 rfl (i := 4) (by decide) (lv' := [(0, .ref a0), (1, .int a1), (2, .int a2), (3, .ref a3)]) rfl (Or.inl ⟨dL_cycles_13, rfl⟩) ?_
      refine y_iconst (v := 1) (by decide) dL_cycles_15 ?_
      exact y_iret dL_cycles_16
    · rw [if_neg q0]
      by_cases q1 : e = 1
      · subst q1
        rw [if_pos rfl]
        refine y_catch (by decide) [(0, 10, 13, 19)] [0] (0, 10, 17, 13) [(0, 10, 21, 25)] rfl rfl (fun j z c h1 h2 => match j, z, c, h1, h2 with | 0, z, c, h1, h2 => by obtain rfl : (0, 10, 13, 19) = z := Option.some.inj h1; obtain rfl : 0 = c := Option.some.inj h2; exact ⟨by decide, by decide, by decide, zw_676⟩ | (_ + 1), _, _, h1, _ => by cases h1) (by decide) (by decide) zw_427 rfl (i := 4) (by decide) (lv' := [(0, .ref a0), (1, .int a1), (2, .int a2), (3, .ref a3)]) rfl (Or.inl ⟨dL_cycles_17, rfl⟩) ?_
        refine y_iconst (v := 2) (by decide) dL_cycles_19 ?_
        exact y_iret dL_cycles_20
      · rw [if_neg q1]
        by_cases q2 : e = 2
        · subst q2
          rw [if_pos rfl]
          refine y_catch (by decide) [(0, 10, 13, 19), (0, 10, 17, 13)] [0, 1] (0, 10, 21, 25) [] rfl rfl (fun j z c h1 h2 => match j, z, c, h1, h2 with | 0, z, c, h1, h2 => by obtain rfl : (0, 10, 13, 19) = z := Option.some.inj h1; obtain rfl : 0 = c := Option.some.inj h2; exact ⟨by decide, by decide, by decide, zw_676⟩ | 1, z, c, h1, h2 => by obtain rfl : (0, 10, 17, 13) = z := Option.some.inj h1; obtain rfl : 1 = c := Option.some.inj h2; exact ⟨by decide, by decide, by decide, zw_427⟩ | (_ + 2), _, _, h1, _ => by cases h1) (by decide) (by decide) zw_709 rfl (i := 4) (by decide) (lv' := [(0, .ref a0), (1, .int a1), (2, .int a2), (3, .ref a3)]) rfl (Or.inl ⟨dL_cycles_21, rfl⟩) ?_
          refine y_iconst (v := 3) (by decide) dL_cycles_23 ?_
          exact y_iret dL_cycles_24
        · rw [if_neg q2]
          exact yx_none
  · rw [if_neg (by omega), if_neg (by omega), if_neg (by omega)]

def fL_order (a0 : Nat) (a1 : Int32) (a2 : Nat) (h : AH) : RR :=
  zct (zob h a0 6) (fX6_order a0 a1 h) (fun v h1 => zvi v fun x => (zsl h1 a2 0 x.toInt64).bind fun h2 => some (.inl (some (.int 0)), h2)) (fun e h1 => if e = 0 then some (.inl (some (.int 1)), h1) else if e = 2 then some (.inl (some (.int 2)), h1) else none)
set_option maxRecDepth 20000 in
theorem mL_order {V : VT} (hV : V.2.2.2.2.2.stackTraces = false) (d : Nat) (a0 : Nat) (a1 : Int32) (a2 : Nat) (h : AH) : zMW V yL_order cL_order 4 [(0, 9, 12, 19), (0, 9, 15, 25)] (d + 8) [.ref a0, .int a1, .ref a2] h (fL_order a0 a1 a2 h) := by
  refine y_meth (by decide +kernel) (Nat.le_of_ble_eq_true rfl) [(0, .ref a0), (1, .int a1), (2, .ref a2)] rfl (fun X => ?_)
  show zH X V RL cL_order 4 [(0, 9, 12, 19), (0, 9, 15, 25)] (d + 8) h.1 h.2.1 (fL_order a0 a1 a2 h) 0 [(0, .ref a0), (1, .int a1), (2, .ref a2)] [] h
  unfold fL_order
  refine y_aload_n 2 rfl rfl dL_order_0 ?_
  refine y_iconst (v := 0) (by decide) dL_order_1 ?_
  refine y_aload_n 0 rfl rfl dL_order_2 ?_
  refine y_iload_n 1 rfl rfl dL_order_3 ?_
  refine y_cT (st := [.int 0, .ref a2]) [.int a1] zk_RL_66 rfl (Nat.le_of_ble_eq_true rfl) dL_order_4 (mX6_order hV (d + 0) a0 a1 h) (fun v h1 => ?_) (fun e h1 he => ?_) (fun e h1 he => ?_)
  · refine y_vi (fun x => ?_)
    refine y_i2l dL_order_7 ?_
    refine y_sJ dL_order_8 (fun h2 => ?_)
    refine y_goto 18 (by decide) dL_order_9 ?_
    refine y_iconst (v := 0) (by decide) dL_order_18 ?_
    exact y_iret dL_order_19
  · by_cases q0 : e = 0
    · subst q0
      rw [if_pos rfl]
      refine y_catch (by decide) [] [] (0, 9, 12, 19) [(0, 9, 15, 25)] rfl rfl (fun j z c h1 _ => by cases h1) (by decide) (by decide) zw_676 rfl (i := 3) (by decide) (lv' := [(0, .ref a0), (1, .int a1), (2, .ref a2)]) rfl (Or.inr ⟨_, dL_order_12, rfl, rfl⟩) ?_
      refine y_iconst (v := 1) (by decide) dL_order_13 ?_
      exact y_iret dL_order_14
    · rw [if_neg q0]
      by_cases q1 : e = 2
      · subst q1
        rw [if_pos rfl]
        refine y_catch (by decide) [(0, 9, 12, 19)] [0] (0, 9, 15, 25) [] rfl rfl (fun j z c h1 h2 => match j, z, c, h1, h2 with | 0, z, c, h1, h2 => by obtain rfl : (0, 9, 12, 19) = z := Option.some.inj h1; obtain rfl : 0 = c := Option.some.inj h2; exact ⟨by decide, by decide, by decide, zw_676⟩ | (_ + 1), _, _, h1, _ => by cases h1) (by decide) (by decide) zw_709 rfl (i := 3) (by decide) (lv' := [(0, .ref a0), (1, .int a1), (2, .ref a2)]) rfl (Or.inr ⟨_, dL_order_15, rfl, rfl⟩) ?_
        refine y_iconst (v := 2) (by decide) dL_order_16 ?_
        exact y_iret dL_order_17
      · rw [if_neg q1]
        exact yx_none
  · rw [if_neg (by omega), if_neg (by omega)]

def fL_even (a0 : Nat) (a1 : Int32) (a2 : Nat) (h : AH) : RR :=
  zct (zob h a0 6) (fX6_even a0 a1 h) (fun v h1 => zvi v fun x => (zsl h1 a2 0 x.toInt64).bind fun h2 => some (.inl (some (.int 0)), h2)) (fun e h1 => if e = 0 then some (.inl (some (.int 1)), h1) else if e = 2 then some (.inl (some (.int 2)), h1) else none)
set_option maxRecDepth 20000 in
theorem mL_even {V : VT} (hV : V.2.2.2.2.2.stackTraces = false) (d : Nat) (a0 : Nat) (a1 : Int32) (a2 : Nat) (h : AH) : zMW V yL_even cL_even 4 [(0, 9, 12, 19), (0, 9, 15, 25)] (d + 8) [.ref a0, .int a1, .ref a2] h (fL_even a0 a1 a2 h) := by
  refine y_meth (by decide +kernel) (Nat.le_of_ble_eq_true rfl) [(0, .ref a0), (1, .int a1), (2, .ref a2)] rfl (fun X => ?_)
  show zH X V RL cL_even 4 [(0, 9, 12, 19), (0, 9, 15, 25)] (d + 8) h.1 h.2.1 (fL_even a0 a1 a2 h) 0 [(0, .ref a0), (1, .int a1), (2, .ref a2)] [] h
  unfold fL_even
  refine y_aload_n 2 rfl rfl dL_even_0 ?_
  refine y_iconst (v := 0) (by decide) dL_even_1 ?_
  refine y_aload_n 0 rfl rfl dL_even_2 ?_
  refine y_iload_n 1 rfl rfl dL_even_3 ?_
  refine y_cT (st := [.int 0, .ref a2]) [.int a1] zk_RL_69 rfl (Nat.le_of_ble_eq_true rfl) dL_even_4 (mX6_even hV (d + 0) a0 a1 h) (fun v h1 => ?_) (fun e h1 he => ?_) (fun e h1 he => ?_)
  · refine y_vi (fun x => ?_)
    refine y_i2l dL_even_7 ?_
    refine y_sJ dL_even_8 (fun h2 => ?_)
    refine y_goto 18 (by decide) dL_even_9 ?_
    refine y_iconst (v := 0) (by decide) dL_even_18 ?_
    exact y_iret dL_even_19
  · by_cases q0 : e = 0
    · subst q0
      rw [if_pos rfl]
      refine y_catch (by decide) [] [] (0, 9, 12, 19) [(0, 9, 15, 25)] rfl rfl (fun j z c h1 _ => by cases h1) (by decide) (by decide) zw_676 rfl (i := 3) (by decide) (lv' := [(0, .ref a0), (1, .int a1), (2, .ref a2)]) rfl (Or.inr ⟨_, dL_even_12, rfl, rfl⟩) ?_
      refine y_iconst (v := 1) (by decide) dL_even_13 ?_
      exact y_iret dL_even_14
    · rw [if_neg q0]
      by_cases q1 : e = 2
      · subst q1
        rw [if_pos rfl]
        refine y_catch (by decide) [(0, 9, 12, 19)] [0] (0, 9, 15, 25) [] rfl rfl (fun j z c h1 h2 => match j, z, c, h1, h2 with | 0, z, c, h1, h2 => by obtain rfl : (0, 9, 12, 19) = z := Option.some.inj h1; obtain rfl : 0 = c := Option.some.inj h2; exact ⟨by decide, by decide, by decide, zw_676⟩ | (_ + 1), _, _, h1, _ => by cases h1) (by decide) (by decide) zw_709 rfl (i := 3) (by decide) (lv' := [(0, .ref a0), (1, .int a1), (2, .ref a2)]) rfl (Or.inr ⟨_, dL_even_15, rfl, rfl⟩) ?_
        refine y_iconst (v := 2) (by decide) dL_even_16 ?_
        exact y_iret dL_even_17
      · rw [if_neg q1]
        exact yx_none
  · rw [if_neg (by omega), if_neg (by omega)]

def fL_orbit (a0 : Nat) (a1 : Int32) (a2 : Nat) (h : AH) : RR :=
  zct (zob h a0 6) (fX6_orbit a0 a1 h) (fun v h1 => zvi v fun x => (zsl h1 a2 0 x.toInt64).bind fun h2 => some (.inl (some (.int 0)), h2)) (fun e h1 => if e = 0 then some (.inl (some (.int 1)), h1) else none)
set_option maxRecDepth 20000 in
theorem mL_orbit {V : VT} (hV : V.2.2.2.2.2.stackTraces = false) (d : Nat) (a0 : Nat) (a1 : Int32) (a2 : Nat) (h : AH) : zMW V yL_orbit cL_orbit 4 [(0, 9, 12, 19)] (d + 8) [.ref a0, .int a1, .ref a2] h (fL_orbit a0 a1 a2 h) := by
  refine y_meth (by decide +kernel) (Nat.le_of_ble_eq_true rfl) [(0, .ref a0), (1, .int a1), (2, .ref a2)] rfl (fun X => ?_)
  show zH X V RL cL_orbit 4 [(0, 9, 12, 19)] (d + 8) h.1 h.2.1 (fL_orbit a0 a1 a2 h) 0 [(0, .ref a0), (1, .int a1), (2, .ref a2)] [] h
  unfold fL_orbit
  refine y_aload_n 2 rfl rfl dL_orbit_0 ?_
  refine y_iconst (v := 0) (by decide) dL_orbit_1 ?_
  refine y_aload_n 0 rfl rfl dL_orbit_2 ?_
  refine y_iload_n 1 rfl rfl dL_orbit_3 ?_
  refine y_cT (st := [.int 0, .ref a2]) [.int a1] zk_RL_72 rfl (Nat.le_of_ble_eq_true rfl) dL_orbit_4 (mX6_orbit hV (d + 0) a0 a1 h) (fun v h1 => ?_) (fun e h1 he => ?_) (fun e h1 he => ?_)
  · refine y_vi (fun x => ?_)
    refine y_i2l dL_orbit_7 ?_
    refine y_sJ dL_orbit_8 (fun h2 => ?_)
    refine y_goto 15 (by decide) dL_orbit_9 ?_
    refine y_iconst (v := 0) (by decide) dL_orbit_15 ?_
    exact y_iret dL_orbit_16
  · by_cases q0 : e = 0
    · subst q0
      rw [if_pos rfl]
      refine y_catch (by decide) [] [] (0, 9, 12, 19) [] rfl rfl (fun j z c h1 _ => by cases h1) (by decide) (by decide) zw_676 rfl (i := 3) (by decide) (lv' := [(0, .ref a0), (1, .int a1), (2, .ref a2)]) rfl (Or.inr ⟨_, dL_orbit_12, rfl, rfl⟩) ?_
      refine y_iconst (v := 1) (by decide) dL_orbit_13 ?_
      exact y_iret dL_orbit_14
    · rw [if_neg q0]
      exact yx_none
  · rw [if_neg (by omega)]

def fL_spread (a0 : Nat) (a1 : Int32) (a2 : Nat) (h : AH) : RR :=
  zct (zob h a0 6) (fX6_spread a0 a1 h) (fun v h1 => zvi v fun x => (zsl h1 a2 0 x.toInt64).bind fun h2 => some (.inl (some (.int 0)), h2)) (fun e h1 => if e = 0 then some (.inl (some (.int 1)), h1) else none)
set_option maxRecDepth 20000 in
theorem mL_spread {V : VT} (hV : V.2.2.2.2.2.stackTraces = false) (d : Nat) (a0 : Nat) (a1 : Int32) (a2 : Nat) (h : AH) : zMW V yL_spread cL_spread 4 [(0, 9, 12, 19)] (d + 8) [.ref a0, .int a1, .ref a2] h (fL_spread a0 a1 a2 h) := by
  refine y_meth (by decide +kernel) (Nat.le_of_ble_eq_true rfl) [(0, .ref a0), (1, .int a1), (2, .ref a2)] rfl (fun X => ?_)
  show zH X V RL cL_spread 4 [(0, 9, 12, 19)] (d + 8) h.1 h.2.1 (fL_spread a0 a1 a2 h) 0 [(0, .ref a0), (1, .int a1), (2, .ref a2)] [] h
  unfold fL_spread
  refine y_aload_n 2 rfl rfl dL_spread_0 ?_
  refine y_iconst (v := 0) (by decide) dL_spread_1 ?_
  refine y_aload_n 0 rfl rfl dL_spread_2 ?_
  refine y_iload_n 1 rfl rfl dL_spread_3 ?_
  refine y_cT (st := [.int 0, .ref a2]) [.int a1] zk_RL_75 rfl (Nat.le_of_ble_eq_true rfl) dL_spread_4 (mX6_spread hV (d + 0) a0 a1 h) (fun v h1 => ?_) (fun e h1 he => ?_) (fun e h1 he => ?_)
  · refine y_vi (fun x => ?_)
    refine y_i2l dL_spread_7 ?_
    refine y_sJ dL_spread_8 (fun h2 => ?_)
    refine y_goto 15 (by decide) dL_spread_9 ?_
    refine y_iconst (v := 0) (by decide) dL_spread_15 ?_
    exact y_iret dL_spread_16
  · by_cases q0 : e = 0
    · subst q0
      rw [if_pos rfl]
      refine y_catch (by decide) [] [] (0, 9, 12, 19) [] rfl rfl (fun j z c h1 _ => by cases h1) (by decide) (by decide) zw_676 rfl (i := 3) (by decide) (lv' := [(0, .ref a0), (1, .int a1), (2, .ref a2)]) rfl (Or.inr ⟨_, dL_spread_12, rfl, rfl⟩) ?_
      refine y_iconst (v := 1) (by decide) dL_spread_13 ?_
      exact y_iret dL_spread_14
    · rw [if_neg q0]
      exact yx_none
  · rw [if_neg (by omega)]

def fL_dicksons (a0 : Nat) (a1 : Int32) (a2 : Nat) (h : AH) : RR :=
  zct (zob h a0 6) (fX6_dicksons a0 a1 h) (fun v h1 => zvj v fun x => (zsl h1 a2 0 x).bind fun h2 => some (.inl (some (.int 0)), h2)) (fun e h1 => if e = 0 then some (.inl (some (.int 1)), h1) else none)
set_option maxRecDepth 20000 in
theorem mL_dicksons {V : VT} (hV : V.2.2.2.2.2.stackTraces = false) (d : Nat) (a0 : Nat) (a1 : Int32) (a2 : Nat) (h : AH) : zMW V yL_dicksons cL_dicksons 4 [(0, 8, 11, 19)] (d + 8) [.ref a0, .int a1, .ref a2] h (fL_dicksons a0 a1 a2 h) := by
  refine y_meth (by decide +kernel) (Nat.le_of_ble_eq_true rfl) [(0, .ref a0), (1, .int a1), (2, .ref a2)] rfl (fun X => ?_)
  show zH X V RL cL_dicksons 4 [(0, 8, 11, 19)] (d + 8) h.1 h.2.1 (fL_dicksons a0 a1 a2 h) 0 [(0, .ref a0), (1, .int a1), (2, .ref a2)] [] h
  unfold fL_dicksons
  refine y_aload_n 2 rfl rfl dL_dicksons_0 ?_
  refine y_iconst (v := 0) (by decide) dL_dicksons_1 ?_
  refine y_aload_n 0 rfl rfl dL_dicksons_2 ?_
  refine y_iload_n 1 rfl rfl dL_dicksons_3 ?_
  refine y_cT (st := [.int 0, .ref a2]) [.int a1] zk_RL_78 rfl (Nat.le_of_ble_eq_true rfl) dL_dicksons_4 (mX6_dicksons hV (d + 0) a0 a1 h) (fun v h1 => ?_) (fun e h1 he => ?_) (fun e h1 he => ?_)
  · refine y_vj (fun x => ?_)
    refine y_sJ dL_dicksons_7 (fun h2 => ?_)
    refine y_goto 14 (by decide) dL_dicksons_8 ?_
    refine y_iconst (v := 0) (by decide) dL_dicksons_14 ?_
    exact y_iret dL_dicksons_15
  · by_cases q0 : e = 0
    · subst q0
      rw [if_pos rfl]
      refine y_catch (by decide) [] [] (0, 8, 11, 19) [] rfl rfl (fun j z c h1 _ => by cases h1) (by decide) (by decide) zw_676 rfl (i := 3) (by decide) (lv' := [(0, .ref a0), (1, .int a1), (2, .ref a2)]) rfl (Or.inr ⟨_, dL_dicksons_11, rfl, rfl⟩) ?_
      refine y_iconst (v := 1) (by decide) dL_dicksons_12 ?_
      exact y_iret dL_dicksons_13
    · rw [if_neg q0]
      exact yx_none
  · rw [if_neg (by omega)]

def fL_binomials (a0 : Nat) (a1 : Int32) (a2 : Nat) (h : AH) : RR :=
  zct (zob h a0 6) (fX6_binomials a0 a1 h) (fun v h1 => zvi v fun x => (zsl h1 a2 0 x.toInt64).bind fun h2 => some (.inl (some (.int 0)), h2)) (fun e h1 => if e = 1 then some (.inl (some (.int 1)), h1) else none)
set_option maxRecDepth 20000 in
theorem mL_binomials {V : VT} (hV : V.2.2.2.2.2.stackTraces = false) (d : Nat) (a0 : Nat) (a1 : Int32) (a2 : Nat) (h : AH) : zMW V yL_binomials cL_binomials 4 [(0, 9, 12, 13)] (d + 8) [.ref a0, .int a1, .ref a2] h (fL_binomials a0 a1 a2 h) := by
  refine y_meth (by decide +kernel) (Nat.le_of_ble_eq_true rfl) [(0, .ref a0), (1, .int a1), (2, .ref a2)] rfl (fun X => ?_)
  show zH X V RL cL_binomials 4 [(0, 9, 12, 13)] (d + 8) h.1 h.2.1 (fL_binomials a0 a1 a2 h) 0 [(0, .ref a0), (1, .int a1), (2, .ref a2)] [] h
  unfold fL_binomials
  refine y_aload_n 2 rfl rfl dL_binomials_0 ?_
  refine y_iconst (v := 0) (by decide) dL_binomials_1 ?_
  refine y_aload_n 0 rfl rfl dL_binomials_2 ?_
  refine y_iload_n 1 rfl rfl dL_binomials_3 ?_
  refine y_cT (st := [.int 0, .ref a2]) [.int a1] zk_RL_82 rfl (Nat.le_of_ble_eq_true rfl) dL_binomials_4 (mX6_binomials hV (d + 0) a0 a1 h) (fun v h1 => ?_) (fun e h1 he => ?_) (fun e h1 he => ?_)
  · refine y_vi (fun x => ?_)
    refine y_i2l dL_binomials_7 ?_
    refine y_sJ dL_binomials_8 (fun h2 => ?_)
    refine y_goto 15 (by decide) dL_binomials_9 ?_
    refine y_iconst (v := 0) (by decide) dL_binomials_15 ?_
    exact y_iret dL_binomials_16
  · by_cases q0 : e = 1
    · subst q0
      rw [if_pos rfl]
      refine y_catch (by decide) [] [] (0, 9, 12, 13) [] rfl rfl (fun j z c h1 _ => by cases h1) (by decide) (by decide) zw_427 rfl (i := 3) (by decide) (lv' := [(0, .ref a0), (1, .int a1), (2, .ref a2)]) rfl (Or.inr ⟨_, dL_binomials_12, rfl, rfl⟩) ?_
      refine y_iconst (v := 1) (by decide) dL_binomials_13 ?_
      exact y_iret dL_binomials_14
    · rw [if_neg q0]
      exact yx_none
  · rw [if_neg (by omega)]

