/-! printed by a program of ours (wip/whole/drive.py) out of the code -/
def fX7_undo (a0 : Nat) (h : AH) : RR :=
  (zpf h a0 7 0 (.int 0)).bind fun h1 =>
  (zgI h1 a0 7 12).bind fun x2 =>
  if x2 = 0 then (
    some (.inl (some (.int (-1))), h1))
  else
  (zgI h1 a0 7 12).bind fun x3 =>
  (zpf h1 a0 7 12 (.int (x3 - 1))).bind fun h4 =>
  (zgR h4 a0 7 11).bind fun x5 =>
  (zgI h4 a0 7 12).bind fun x6 =>
  (zar h4 x5 x6).bind fun x7 =>
  (zgR h4 a0 7 9).bind fun x8 =>
  zca (fX7_copies x7 x8 h4) fun v9 h10 =>
  zvn v9 <|
  (zgI h10 a0 7 12).bind fun x11 =>
  some (.inl (some (.int x11)), h10)
set_option maxRecDepth 20000 in
theorem mX7_undo {V : VT} (hV : V.2.2.2.2.2.stackTraces = false) (d : Nat) (a0 : Nat) (h : AH) : zM V yX7_undo cX7_undo 1 (some .int) (d + 2) [.ref a0] h (fX7_undo a0 h) := by
  refine z_meth hV (by decide +kernel) (Nat.le_of_ble_eq_true rfl) [(0, .ref a0)] rfl (fun X => ?_)
  show zG X V RX7 "undo" cX7_undo 1 (some .int) (d + 2) h.1 h.2.1 (fX7_undo a0 h) 0 [(0, .ref a0)] [] h
  unfold fX7_undo
  refine z_aload_n 0 rfl rfl dX7_undo_0 ?_
  refine z_iconst (v := 0) (by decide) dX7_undo_1 ?_
  refine z_pI zf_RX7_58 zq_7_0 rfl dX7_undo_2 (fun h1 => ?_)
  refine z_aload_n 0 rfl rfl dX7_undo_5 ?_
  refine z_gI zf_RX7_234 dX7_undo_6 (fun x2 => ?_)
  refine z_if_ne 14 (by decide) dX7_undo_9 ?_ ?_
  · refine z_iconst (v := (-1)) (by decide) dX7_undo_12 ?_
    exact z_iret rfl dX7_undo_13
  · refine z_aload_n 0 rfl rfl dX7_undo_14 ?_
    refine z_dup rfl dX7_undo_15 ?_
    refine z_gI zf_RX7_234 dX7_undo_16 (fun x3 => ?_)
    refine z_iconst (v := 1) (by decide) dX7_undo_19 ?_
    refine z_isub dX7_undo_20 ?_
    refine z_pI zf_RX7_234 zq_7_12 rfl dX7_undo_21 (fun h4 => ?_)
    refine z_aload_n 0 rfl rfl dX7_undo_24 ?_
    refine z_gR zf_RX7_28 dX7_undo_25 (fun x5 => ?_)
    refine z_aload_n 0 rfl rfl dX7_undo_28 ?_
    refine z_gI zf_RX7_234 dX7_undo_29 (fun x6 => ?_)
    refine z_aR dX7_undo_32 (fun x7 => ?_)
    refine z_aload_n 0 rfl rfl dX7_undo_33 ?_
    refine z_gR zf_RX7_20 dX7_undo_34 (fun x8 => ?_)
    refine z_cS (st := []) [.ref x7, .ref x8] zk_RX7_230 rfl (Nat.le_of_ble_eq_true rfl) dX7_undo_37 (mX7_copies hV (d + 0) x7 x8 h4) (fun v9 h10 => ?_)
    refine z_vn ?_
    refine z_aload_n 0 rfl rfl dX7_undo_40 ?_
    refine z_gI zf_RX7_234 dX7_undo_41 (fun x11 => ?_)
    exact z_iret rfl dX7_undo_44
def fX7_begins (a0 : Nat) (h : AH) : RR :=
  (zpf h a0 7 0 (.int 0)).bind fun h1 =>
  (zgR h1 a0 7 9).bind fun x2 =>
  zcv (zob h1 a0 7) (fX7_lays a0 x2 h1) fun v3 h4 =>
  zvn v3 <|
  some (.inl none, h4)
set_option maxRecDepth 20000 in
theorem mX7_begins {V : VT} (hV : V.2.2.2.2.2.stackTraces = false) (d : Nat) (a0 : Nat) (h : AH) : zM V yX7_begins cX7_begins 1 none (d + 5) [.ref a0] h (fX7_begins a0 h) := by
  refine z_meth hV (by decide +kernel) (Nat.le_of_ble_eq_true rfl) [(0, .ref a0)] rfl (fun X => ?_)
  show zG X V RX7 "begins" cX7_begins 1 none (d + 5) h.1 h.2.1 (fX7_begins a0 h) 0 [(0, .ref a0)] [] h
  unfold fX7_begins
  refine z_aload_n 0 rfl rfl dX7_begins_0 ?_
  refine z_iconst (v := 0) (by decide) dX7_begins_1 ?_
  refine z_pI zf_RX7_58 zq_7_0 rfl dX7_begins_2 (fun h1 => ?_)
  refine z_aload_n 0 rfl rfl dX7_begins_5 ?_
  refine z_aload_n 0 rfl rfl dX7_begins_6 ?_
  refine z_gR zf_RX7_20 dX7_begins_7 (fun x2 => ?_)
  refine z_cV (st := []) [.ref x2] zk_RX7_211 rfl (Nat.le_of_ble_eq_true rfl) dX7_begins_10 (mX7_lays hV (d + 0) a0 x2 h1) (fun v3 h4 => ?_)
  refine z_vn ?_
  exact z_vret rfl dX7_begins_13
def fX7_isPoly (a0 : Nat) (a1 : Int32) (h : AH) : RR :=
  (zgR h a0 7 9).bind fun x1 =>
  (zai h x1 2).bind fun x2 =>
  zca (fX7_in a1.toInt64 0 ((x2 - 1).toInt64) h) fun v3 h4 =>
  zvi v3 fun x5 =>
  zbr x5 h4
set_option maxRecDepth 20000 in
theorem mX7_isPoly {V : VT} (hV : V.2.2.2.2.2.stackTraces = false) (d : Nat) (a0 : Nat) (a1 : Int32) (h : AH) : zM V yX7_isPoly cX7_isPoly 2 (some .boolean) (d + 2) [.ref a0, .int a1] h (fX7_isPoly a0 a1 h) := by
  refine z_meth hV (by decide +kernel) (Nat.le_of_ble_eq_true rfl) [(0, .ref a0), (1, .int a1)] rfl (fun X => ?_)
  show zG X V RX7 "isPoly" cX7_isPoly 2 (some .boolean) (d + 2) h.1 h.2.1 (fX7_isPoly a0 a1 h) 0 [(0, .ref a0), (1, .int a1)] [] h
  unfold fX7_isPoly
  refine z_iload_n 1 rfl rfl dX7_isPoly_0 ?_
  refine z_i2l dX7_isPoly_1 ?_
  refine z_lconst (v := 0) (by decide) dX7_isPoly_2 ?_
  refine z_aload_n 0 rfl rfl dX7_isPoly_3 ?_
  refine z_gR zf_RX7_20 dX7_isPoly_4 (fun x1 => ?_)
  refine z_iconst (v := 2) (by decide) dX7_isPoly_7 ?_
  refine z_aI dX7_isPoly_8 (fun x2 => ?_)
  refine z_iconst (v := 1) (by decide) dX7_isPoly_9 ?_
  refine z_isub dX7_isPoly_10 ?_
  refine z_i2l dX7_isPoly_11 ?_
  refine z_cS (st := []) [.long a1.toInt64, .long 0, .long ((x2 - 1).toInt64)] zk_RX7_154 rfl (Nat.le_of_ble_eq_true rfl) dX7_isPoly_12 (mX7_in hV (d + 0) a1.toInt64 0 ((x2 - 1).toInt64) h) (fun v3 h4 => ?_)
  refine z_vi (fun x5 => ?_)
  exact z_zret rfl dX7_isPoly_15
def fX7_isPoint (a0 : Nat) (a1 : Int32) (h : AH) : RR :=
  (zgI h a0 7 15).bind fun x1 =>
  zca (fX7_in a1.toInt64 0 ((x1 - 1).toInt64) h) fun v2 h3 =>
  zvi v2 fun x4 =>
  zbr x4 h3
set_option maxRecDepth 20000 in
theorem mX7_isPoint {V : VT} (hV : V.2.2.2.2.2.stackTraces = false) (d : Nat) (a0 : Nat) (a1 : Int32) (h : AH) : zM V yX7_isPoint cX7_isPoint 2 (some .boolean) (d + 2) [.ref a0, .int a1] h (fX7_isPoint a0 a1 h) := by
  refine z_meth hV (by decide +kernel) (Nat.le_of_ble_eq_true rfl) [(0, .ref a0), (1, .int a1)] rfl (fun X => ?_)
  show zG X V RX7 "isPoint" cX7_isPoint 2 (some .boolean) (d + 2) h.1 h.2.1 (fX7_isPoint a0 a1 h) 0 [(0, .ref a0), (1, .int a1)] [] h
  unfold fX7_isPoint
  refine z_iload_n 1 rfl rfl dX7_isPoint_0 ?_
  refine z_i2l dX7_isPoint_1 ?_
  refine z_lconst (v := 0) (by decide) dX7_isPoint_2 ?_
  refine z_aload_n 0 rfl rfl dX7_isPoint_3 ?_
  refine z_gI zf_RX7_92 dX7_isPoint_4 (fun x1 => ?_)
  refine z_iconst (v := 1) (by decide) dX7_isPoint_7 ?_
  refine z_isub dX7_isPoint_8 ?_
  refine z_i2l dX7_isPoint_9 ?_
  refine z_cS (st := []) [.long a1.toInt64, .long 0, .long ((x1 - 1).toInt64)] zk_RX7_154 rfl (Nat.le_of_ble_eq_true rfl) dX7_isPoint_10 (mX7_in hV (d + 0) a1.toInt64 0 ((x1 - 1).toInt64) h) (fun v2 h3 => ?_)
  refine z_vi (fun x4 => ?_)
  exact z_zret rfl dX7_isPoint_13
def fX7_of (a0 : Nat) (a1 : Int32) (a2 : Int32) (h : AH) : RR :=
  (zgR h a0 7 9).bind fun x1 =>
  (zai h x1 (((3 : Int32) + ((64 : Int32) * a1)) + a2)).bind fun x2 =>
  some (.inl (some (.int x2)), h)
set_option maxRecDepth 20000 in
theorem mX7_of {V : VT} (hV : V.2.2.2.2.2.stackTraces = false) (d : Nat) (a0 : Nat) (a1 : Int32) (a2 : Int32) (h : AH) : zM V yX7_of cX7_of 3 (some .int) (d + 1) [.ref a0, .int a1, .int a2] h (fX7_of a0 a1 a2 h) := by
  refine z_meth hV (by decide +kernel) (Nat.le_of_ble_eq_true rfl) [(0, .ref a0), (1, .int a1), (2, .int a2)] rfl (fun X => ?_)
  show zG X V RX7 "of" cX7_of 3 (some .int) (d + 1) h.1 h.2.1 (fX7_of a0 a1 a2 h) 0 [(0, .ref a0), (1, .int a1), (2, .int a2)] [] h
  unfold fX7_of
  refine z_aload_n 0 rfl rfl dX7_of_0 ?_
  refine z_gR zf_RX7_20 dX7_of_1 (fun x1 => ?_)
  refine z_iconst (v := 3) (by decide) dX7_of_4 ?_
  refine z_bipush (v := 64) (by decide) dX7_of_5 ?_
  refine z_iload_n 1 rfl rfl dX7_of_7 ?_
  refine z_imul dX7_of_8 ?_
  refine z_iadd dX7_of_9 ?_
  refine z_iload_n 2 rfl rfl dX7_of_10 ?_
  refine z_iadd dX7_of_11 ?_
  refine z_aI dX7_of_12 (fun x2 => ?_)
  exact z_iret rfl dX7_of_13
def fX7_takesValues_2 : Nat → Nat → Int32 → Int32 → AH → RR
  | 0, _, _, _, _ => none
  | k + 1, l0, l1, l2, h =>
  (zgI h l0 7 15).bind fun x1 =>
  if x1 ≤ l2 then (
    some (.inl none, h))
  else
  (zgR h l0 7 24).bind fun x2 =>
  zcv (zob h l0 7) (fX7_of l0 l1 l2 h) fun v3 h4 =>
  zvi v3 fun x5 =>
  (zsi h4 x2 l2 x5).bind fun h6 =>
  fX7_takesValues_2 k l0 l1 (l2 + 1) h6
set_option maxRecDepth 20000 in
theorem rX7_takesValues_2 {X : CT} {V : VT} {d n0 k0 : Nat} (hV : V.2.2.2.2.2.stackTraces = false) (fu : Nat) : ∀ (l0 : Nat) (l1 : Int32) (l2 : Int32) (h : AH), zG X V RX7 "takesValues" cX7_takesValues 3 none (d + 2) n0 k0 (fX7_takesValues_2 fu l0 l1 l2 h) 2 [(0, .ref l0), (1, .int l1), (2, .int l2)] [] h := by
  induction fu with
  | zero => intros; exact z_none
  | succ k ih =>
    intro l0 l1 l2 h
    rw [fX7_takesValues_2]
    refine z_iload_n 2 rfl rfl dX7_takesValues_2 ?_
    refine z_aload_n 0 rfl rfl dX7_takesValues_3 ?_
    refine z_gI zf_RX7_92 dX7_takesValues_4 (fun x1 => ?_)
    refine z_icmp_ge 28 (by decide) dX7_takesValues_7 ?_ ?_
    · exact z_vret rfl dX7_takesValues_28
    · refine z_aload_n 0 rfl rfl dX7_takesValues_10 ?_
      refine z_gR zf_RX7_46 dX7_takesValues_11 (fun x2 => ?_)
      refine z_iload_n 2 rfl rfl dX7_takesValues_14 ?_
      refine z_aload_n 0 rfl rfl dX7_takesValues_15 ?_
      refine z_iload_n 1 rfl rfl dX7_takesValues_16 ?_
      refine z_iload_n 2 rfl rfl dX7_takesValues_17 ?_
      refine z_cV (st := [.int l2, .ref x2]) [.int l1, .int l2] zk_RX7_237 rfl (Nat.le_of_ble_eq_true rfl) dX7_takesValues_18 (mX7_of hV (d + 0) l0 l1 l2 h) (fun v3 h4 => ?_)
      refine z_vi (fun x5 => ?_)
      refine z_sI dX7_takesValues_21 (fun h6 => ?_)
      refine z_inc (w := 1) (lv' := [(2, .int (l2 + 1)), (0, .ref l0), (1, .int l1)]) 2 rfl (by decide) (by decide) rfl dX7_takesValues_22 ?_
      refine z_goto 2 (by decide) dX7_takesValues_25 ?_
      exact z_sub [1, 2, 0] rfl (ih l0 l1 (l2 + 1) h6)
def fX7_takesValues (a0 : Nat) (a1 : Int32) (h : AH) : RR :=
  fX7_takesValues_2 FU a0 a1 0 h
set_option maxRecDepth 20000 in
theorem mX7_takesValues {V : VT} (hV : V.2.2.2.2.2.stackTraces = false) (d : Nat) (a0 : Nat) (a1 : Int32) (h : AH) : zM V yX7_takesValues cX7_takesValues 3 none (d + 2) [.ref a0, .int a1] h (fX7_takesValues a0 a1 h) := by
  refine z_meth hV (by decide +kernel) (Nat.le_of_ble_eq_true rfl) [(0, .ref a0), (1, .int a1)] rfl (fun X => ?_)
  show zG X V RX7 "takesValues" cX7_takesValues 3 none (d + 2) h.1 h.2.1 (fX7_takesValues a0 a1 h) 0 [(0, .ref a0), (1, .int a1)] [] h
  unfold fX7_takesValues
  refine z_iconst (v := 0) (by decide) dX7_takesValues_0 ?_
  refine z_istore_n (lv' := [(2, .int 0), (0, .ref a0), (1, .int a1)]) rfl (by decide) rfl dX7_takesValues_1 ?_
  exact z_sub [1, 2, 0] rfl (rX7_takesValues_2 hV FU a0 a1 0 h)
def fX7_comes_6 : Nat → Nat → Int32 → AH → RR
  | 0, _, _, _ => none
  | k + 1, l0, l1, h =>
  (zgI h l0 7 15).bind fun x1 =>
  if x1 ≤ l1 then (
    (zgR h l0 7 9).bind fun x2 =>
    (zai h x2 2).bind fun x3 =>
    (zsi h x2 2 (x3 + 1)).bind fun h4 =>
    (zgR h4 l0 7 9).bind fun x5 =>
    (zai h4 x5 2).bind fun x6 =>
    some (.inl (some (.int (x6 - 1))), h4))
  else
  (zgR h l0 7 9).bind fun x7 =>
  (zgR h l0 7 9).bind fun x8 =>
  (zai h x8 2).bind fun x9 =>
  (zgR h l0 7 24).bind fun x10 =>
  (zai h x10 l1).bind fun x11 =>
  (zsi h x7 (((3 : Int32) + ((64 : Int32) * x9)) + l1) x11).bind fun h12 =>
  fX7_comes_6 k l0 (l1 + 1) h12
set_option maxRecDepth 20000 in
theorem rX7_comes_6 {X : CT} {V : VT} {d n0 k0 : Nat} (hV : V.2.2.2.2.2.stackTraces = false) (fu : Nat) : ∀ (l0 : Nat) (l1 : Int32) (h : AH), zG X V RX7 "comes" cX7_comes 2 (some .int) (d + 3) n0 k0 (fX7_comes_6 fu l0 l1 h) 6 [(0, .ref l0), (1, .int l1)] [] h := by
  induction fu with
  | zero => intros; exact z_none
  | succ k ih =>
    intro l0 l1 h
    rw [fX7_comes_6]
    refine z_iload_n 1 rfl rfl dX7_comes_6 ?_
    refine z_aload_n 0 rfl rfl dX7_comes_7 ?_
    refine z_gI zf_RX7_92 dX7_comes_8 (fun x1 => ?_)
    refine z_icmp_ge 44 (by decide) dX7_comes_11 ?_ ?_
    · refine z_aload_n 0 rfl rfl dX7_comes_44 ?_
      refine z_gR zf_RX7_20 dX7_comes_45 (fun x2 => ?_)
      refine z_iconst (v := 2) (by decide) dX7_comes_48 ?_
      refine z_dup2 rfl rfl dX7_comes_49 ?_
      refine z_aI dX7_comes_50 (fun x3 => ?_)
      refine z_iconst (v := 1) (by decide) dX7_comes_51 ?_
      refine z_iadd dX7_comes_52 ?_
      refine z_sI dX7_comes_53 (fun h4 => ?_)
      refine z_aload_n 0 rfl rfl dX7_comes_54 ?_
      refine z_gR zf_RX7_20 dX7_comes_55 (fun x5 => ?_)
      refine z_iconst (v := 2) (by decide) dX7_comes_58 ?_
      refine z_aI dX7_comes_59 (fun x6 => ?_)
      refine z_iconst (v := 1) (by decide) dX7_comes_60 ?_
      refine z_isub dX7_comes_61 ?_
      exact z_iret rfl dX7_comes_62
    · refine z_aload_n 0 rfl rfl dX7_comes_14 ?_
      refine z_gR zf_RX7_20 dX7_comes_15 (fun x7 => ?_)
      refine z_iconst (v := 3) (by decide) dX7_comes_18 ?_
      refine z_bipush (v := 64) (by decide) dX7_comes_19 ?_
      refine z_aload_n 0 rfl rfl dX7_comes_21 ?_
      refine z_gR zf_RX7_20 dX7_comes_22 (fun x8 => ?_)
      refine z_iconst (v := 2) (by decide) dX7_comes_25 ?_
      refine z_aI dX7_comes_26 (fun x9 => ?_)
      refine z_imul dX7_comes_27 ?_
      refine z_iadd dX7_comes_28 ?_
      refine z_iload_n 1 rfl rfl dX7_comes_29 ?_
      refine z_iadd dX7_comes_30 ?_
      refine z_aload_n 0 rfl rfl dX7_comes_31 ?_
      refine z_gR zf_RX7_46 dX7_comes_32 (fun x10 => ?_)
      refine z_iload_n 1 rfl rfl dX7_comes_35 ?_
      refine z_aI dX7_comes_36 (fun x11 => ?_)
      refine z_sI dX7_comes_37 (fun h12 => ?_)
      refine z_inc (w := 1) (lv' := [(1, .int (l1 + 1)), (0, .ref l0)]) 1 rfl (by decide) (by decide) rfl dX7_comes_38 ?_
      refine z_goto 6 (by decide) dX7_comes_41 ?_
      exact z_sub [1, 0] rfl (ih l0 (l1 + 1) h12)
def fX7_comes (a0 : Nat) (h : AH) : RR :=
  zcv (zob h a0 7) (fX7_remembers a0 h) fun v1 h2 =>
  zvn v1 <|
  fX7_comes_6 FU a0 0 h2
set_option maxRecDepth 20000 in
theorem mX7_comes {V : VT} (hV : V.2.2.2.2.2.stackTraces = false) (d : Nat) (a0 : Nat) (h : AH) : zM V yX7_comes cX7_comes 2 (some .int) (d + 3) [.ref a0] h (fX7_comes a0 h) := by
  refine z_meth hV (by decide +kernel) (Nat.le_of_ble_eq_true rfl) [(0, .ref a0)] rfl (fun X => ?_)
  show zG X V RX7 "comes" cX7_comes 2 (some .int) (d + 3) h.1 h.2.1 (fX7_comes a0 h) 0 [(0, .ref a0)] [] h
  unfold fX7_comes
  refine z_aload_n 0 rfl rfl dX7_comes_0 ?_
  refine z_cV (st := []) [] zk_RX7_227 rfl (Nat.le_of_ble_eq_true rfl) dX7_comes_1 (mX7_remembers hV (d + 0) a0 h) (fun v1 h2 => ?_)
  refine z_vn ?_
  refine z_iconst (v := 0) (by decide) dX7_comes_4 ?_
  refine z_istore_n (lv' := [(1, .int 0), (0, .ref a0)]) rfl (by decide) rfl dX7_comes_5 ?_
  exact z_sub [1, 0] rfl (rX7_comes_6 hV FU a0 0 h2)
def fX7_isFull (a0 : Nat) (h : AH) : RR :=
  (zgR h a0 7 9).bind fun x1 =>
  (zai h x1 2).bind fun x2 =>
  if x2 = 6 then (
    zbr 1 h)
  else
  zbr 0 h
set_option maxRecDepth 20000 in
theorem mX7_isFull {V : VT} (hV : V.2.2.2.2.2.stackTraces = false) (d : Nat) (a0 : Nat) (h : AH) : zM V yX7_isFull cX7_isFull 1 (some .boolean) (d + 1) [.ref a0] h (fX7_isFull a0 h) := by
  refine z_meth hV (by decide +kernel) (Nat.le_of_ble_eq_true rfl) [(0, .ref a0)] rfl (fun X => ?_)
  show zG X V RX7 "isFull" cX7_isFull 1 (some .boolean) (d + 1) h.1 h.2.1 (fX7_isFull a0 h) 0 [(0, .ref a0)] [] h
  unfold fX7_isFull
  refine z_aload_n 0 rfl rfl dX7_isFull_0 ?_
  refine z_gR zf_RX7_20 dX7_isFull_1 (fun x1 => ?_)
  refine z_iconst (v := 2) (by decide) dX7_isFull_4 ?_
  refine z_aI dX7_isFull_5 (fun x2 => ?_)
  refine z_bipush (v := 6) (by decide) dX7_isFull_6 ?_
  refine z_icmp_ne 15 (by decide) dX7_isFull_8 ?_ ?_
  · refine z_iconst (v := 1) (by decide) dX7_isFull_11 ?_
    refine z_goto 16 (by decide) dX7_isFull_12 ?_
    exact z_zret rfl dX7_isFull_16
  · refine z_iconst (v := 0) (by decide) dX7_isFull_15 ?_
    exact z_zret rfl dX7_isFull_16
def fX7_value_34 (l0 : Nat) (l1 : Int32) (l2 : Int32) (l3 : Int32) (s0 : Int32) (s1 : Nat) (h : AH) : RR :=
  zcv (zob h s1 7) (fX7_bad s1 s0 1 0 h) fun v1 h2 =>
  zvi v1 fun x3 =>
  if x3 = 0 then (
    zcv (zob h2 l0 7) (fX7_remembers l0 h2) fun v4 h5 =>
    zvn v4 <|
    zcv (zob h5 l0 7) (fX7_of l0 l1 l2 h5) fun v6 h7 =>
    zvi v6 fun x8 =>
    (zgR h7 l0 7 9).bind fun x9 =>
    (zsi h7 x9 (((3 : Int32) + ((64 : Int32) * l1)) + l2) l3).bind fun h10 =>
    some (.inl (some (.int x8)), h10))
  else
  some (.inl (some (.int 0)), h2)
set_option maxRecDepth 20000 in
theorem rX7_value_34 {X : CT} {V : VT} {d n0 k0 : Nat} (hV : V.2.2.2.2.2.stackTraces = false) (l0 : Nat) (l1 : Int32) (l2 : Int32) (l3 : Int32) (s0 : Int32) (s1 : Nat) (h : AH) : zG X V RX7 "value" cX7_value 5 (some .int) (d + 6) n0 k0 (fX7_value_34 l0 l1 l2 l3 s0 s1 h) 34 [(0, .ref l0), (1, .int l1), (2, .int l2), (3, .int l3)] [.int s0, .ref s1] h := by
  unfold fX7_value_34
  refine z_iconst (v := 1) (by decide) dX7_value_34 ?_
  refine z_iconst (v := 0) (by decide) dX7_value_35 ?_
  refine z_cV (st := []) [.int s0, .int 1, .int 0] zk_RX7_215 rfl (Nat.le_of_ble_eq_true rfl) dX7_value_36 (mX7_bad hV (d + 4) s1 s0 1 0 h) (fun v1 h2 => ?_)
  refine z_vi (fun x3 => ?_)
  refine z_if_eq 44 (by decide) dX7_value_39 ?_ ?_
  · refine z_aload_n 0 rfl rfl dX7_value_44 ?_
    refine z_cV (st := []) [] zk_RX7_227 rfl (Nat.le_of_ble_eq_true rfl) dX7_value_45 (mX7_remembers hV (d + 3) l0 h2) (fun v4 h5 => ?_)
    refine z_vn ?_
    refine z_aload_n 0 rfl rfl dX7_value_48 ?_
    refine z_iload_n 1 rfl rfl dX7_value_49 ?_
    refine z_iload_n 2 rfl rfl dX7_value_50 ?_
    refine z_cV (st := []) [.int l1, .int l2] zk_RX7_237 rfl (Nat.le_of_ble_eq_true rfl) dX7_value_51 (mX7_of hV (d + 4) l0 l1 l2 h5) (fun v6 h7 => ?_)
    refine z_vi (fun x8 => ?_)
    refine z_istore (lv' := [(4, .int x8), (0, .ref l0), (1, .int l1), (2, .int l2), (3, .int l3)]) (by decide) rfl dX7_value_54 ?_
    refine z_aload_n 1 rfl rfl dX7_value_56 ?_
    refine z_gR zf_RX7_20 dX7_value_57 (fun x9 => ?_)
    refine z_iconst (v := 3) (by decide) dX7_value_60 ?_
    refine z_bipush (v := 64) (by decide) dX7_value_61 ?_
    refine z_iload_n 2 rfl rfl dX7_value_63 ?_
    refine z_imul dX7_value_64 ?_
    refine z_iadd dX7_value_65 ?_
    refine z_iload_n 3 rfl rfl dX7_value_66 ?_
    refine z_iadd dX7_value_67 ?_
    refine z_iload_n 4 rfl rfl dX7_value_68 ?_
    refine z_sI dX7_value_69 (fun h10 => ?_)
    refine z_iload 0 rfl dX7_value_70 ?_
    exact z_iret rfl dX7_value_72
  · refine z_iconst (v := 0) (by decide) dX7_value_42 ?_
    exact z_iret rfl dX7_value_43
def fX7_value_29 (l0 : Nat) (l1 : Int32) (l2 : Int32) (l3 : Int32) (s0 : Nat) (h : AH) : RR :=
  fX7_value_34 l0 l1 l2 l3 1 s0 h
set_option maxRecDepth 20000 in
theorem rX7_value_29 {X : CT} {V : VT} {d n0 k0 : Nat} (hV : V.2.2.2.2.2.stackTraces = false) (l0 : Nat) (l1 : Int32) (l2 : Int32) (l3 : Int32) (s0 : Nat) (h : AH) : zG X V RX7 "value" cX7_value 5 (some .int) (d + 6) n0 k0 (fX7_value_29 l0 l1 l2 l3 s0 h) 29 [(0, .ref l0), (1, .int l1), (2, .int l2), (3, .int l3)] [.ref s0] h := by
  unfold fX7_value_29
  refine z_iconst (v := 1) (by decide) dX7_value_29 ?_
  refine z_goto 34 (by decide) dX7_value_30 ?_
  exact z_sub [0, 1, 2, 3] rfl (rX7_value_34 hV l0 l1 l2 l3 1 s0 h)
def fX7_value (a0 : Nat) (a1 : Int32) (a2 : Int32) (a3 : Int32) (h : AH) : RR :=
  zcv (zob h a0 7) (fX7_begins a0 h) fun v1 h2 =>
  zvn v1 <|
  zcv (zob h2 a0 7) (fX7_isPoly a0 a1 h2) fun v3 h4 =>
  zvi v3 fun x5 =>
  if x5 = 0 then (
    fX7_value_29 a0 a1 a2 a3 a0 h4)
  else
  zcv (zob h4 a0 7) (fX7_isPoint a0 a2 h4) fun v6 h7 =>
  zvi v6 fun x8 =>
  if x8 = 0 then (
    fX7_value_29 a0 a1 a2 a3 a0 h7)
  else
  zcv (zob h7 a0 7) (fX7_isPoint a0 a3 h7) fun v9 h10 =>
  zvi v9 fun x11 =>
  if x11 = 0 then (
    fX7_value_29 a0 a1 a2 a3 a0 h10)
  else
  fX7_value_34 a0 a1 a2 a3 0 a0 h10
set_option maxRecDepth 20000 in
theorem mX7_value {V : VT} (hV : V.2.2.2.2.2.stackTraces = false) (d : Nat) (a0 : Nat) (a1 : Int32) (a2 : Int32) (a3 : Int32) (h : AH) : zM V yX7_value cX7_value 5 (some .int) (d + 6) [.ref a0, .int a1, .int a2, .int a3] h (fX7_value a0 a1 a2 a3 h) := by
  refine z_meth hV (by decide +kernel) (Nat.le_of_ble_eq_true rfl) [(0, .ref a0), (1, .int a1), (2, .int a2), (3, .int a3)] rfl (fun X => ?_)
  show zG X V RX7 "value" cX7_value 5 (some .int) (d + 6) h.1 h.2.1 (fX7_value a0 a1 a2 a3 h) 0 [(0, .ref a0), (1, .int a1), (2, .int a2), (3, .int a3)] [] h
  unfold fX7_value
  refine z_aload_n 0 rfl rfl dX7_value_0 ?_
  refine z_cV (st := []) [] zk_RX7_240 rfl (Nat.le_of_ble_eq_true rfl) dX7_value_1 (mX7_begins hV (d + 0) a0 h) (fun v1 h2 => ?_)
  refine z_vn ?_
  refine z_aload_n 0 rfl rfl dX7_value_4 ?_
  refine z_aload_n 0 rfl rfl dX7_value_5 ?_
  refine z_iload_n 1 rfl rfl dX7_value_6 ?_
  refine z_cV (st := [.ref a0]) [.int a1] zk_RX7_243 rfl (Nat.le_of_ble_eq_true rfl) dX7_value_7 (mX7_isPoly hV (d + 3) a0 a1 h2) (fun v3 h4 => ?_)
  refine z_vi (fun x5 => ?_)
  refine z_if_eq 29 (by decide) dX7_value_10 ?_ ?_
  · exact z_sub [0, 1, 2, 3] rfl (rX7_value_29 hV a0 a1 a2 a3 a0 h4)
  · refine z_aload_n 0 rfl rfl dX7_value_13 ?_
    refine z_iload_n 2 rfl rfl dX7_value_14 ?_
    refine z_cV (st := [.ref a0]) [.int a2] zk_RX7_246 rfl (Nat.le_of_ble_eq_true rfl) dX7_value_15 (mX7_isPoint hV (d + 3) a0 a2 h4) (fun v6 h7 => ?_)
    refine z_vi (fun x8 => ?_)
    refine z_if_eq 29 (by decide) dX7_value_18 ?_ ?_
    · exact z_sub [0, 1, 2, 3] rfl (rX7_value_29 hV a0 a1 a2 a3 a0 h7)
    · refine z_aload_n 0 rfl rfl dX7_value_21 ?_
      refine z_iload_n 3 rfl rfl dX7_value_22 ?_
      refine z_cV (st := [.ref a0]) [.int a3] zk_RX7_246 rfl (Nat.le_of_ble_eq_true rfl) dX7_value_23 (mX7_isPoint hV (d + 3) a0 a3 h7) (fun v9 h10 => ?_)
      refine z_vi (fun x11 => ?_)
      refine z_if_ne 33 (by decide) dX7_value_26 ?_ ?_
      · exact z_sub [0, 1, 2, 3] rfl (rX7_value_29 hV a0 a1 a2 a3 a0 h10)
      · refine z_iconst (v := 0) (by decide) dX7_value_33 ?_
        exact z_sub [0, 1, 2, 3] rfl (rX7_value_34 hV a0 a1 a2 a3 0 a0 h10)
def fX7_after_51 : Nat → Nat → Int32 → Int32 → Int32 → AH → RR
  | 0, _, _, _, _, _ => none
  | k + 1, l0, l1, l2, l3, h =>
  (zgI h l0 7 15).bind fun x1 =>
  if x1 ≤ l3 then (
    zcv (zob h l0 7) (fX7_comes l0 h) fun v2 h3 =>
    zvi v2 fun x4 =>
    some (.inl (some (.int x4)), h3))
  else
  (zgR h l0 7 24).bind fun x5 =>
  zcv (zob h l0 7) (fX7_of l0 l2 l3 h) fun v6 h7 =>
  zvi v6 fun x8 =>
  zcv (zob h7 l0 7) (fX7_of l0 l1 x8 h7) fun v9 h10 =>
  zvi v9 fun x11 =>
  (zsi h10 x5 l3 x11).bind fun h12 =>
  fX7_after_51 k l0 l1 l2 (l3 + 1) h12
set_option maxRecDepth 20000 in
theorem rX7_after_51 {X : CT} {V : VT} {d n0 k0 : Nat} (hV : V.2.2.2.2.2.stackTraces = false) (fu : Nat) : ∀ (l0 : Nat) (l1 : Int32) (l2 : Int32) (l3 : Int32) (h : AH), zG X V RX7 "after" cX7_after 4 (some .int) (d + 6) n0 k0 (fX7_after_51 fu l0 l1 l2 l3 h) 51 [(0, .ref l0), (1, .int l1), (2, .int l2), (3, .int l3)] [] h := by
  induction fu with
  | zero => intros; exact z_none
  | succ k ih =>
    intro l0 l1 l2 l3 h
    rw [fX7_after_51]
    refine z_iload_n 3 rfl rfl dX7_after_51 ?_
    refine z_aload_n 0 rfl rfl dX7_after_52 ?_
    refine z_gI zf_RX7_92 dX7_after_53 (fun x1 => ?_)
    refine z_icmp_ge 82 (by decide) dX7_after_56 ?_ ?_
    · refine z_aload_n 0 rfl rfl dX7_after_82 ?_
      refine z_cV (st := []) [] zk_RX7_252 rfl (Nat.le_of_ble_eq_true rfl) dX7_after_83 (mX7_comes hV (d + 2) l0 h) (fun v2 h3 => ?_)
      refine z_vi (fun x4 => ?_)
      exact z_iret rfl dX7_after_86
    · refine z_aload_n 0 rfl rfl dX7_after_59 ?_
      refine z_gR zf_RX7_46 dX7_after_60 (fun x5 => ?_)
      refine z_iload_n 3 rfl rfl dX7_after_63 ?_
      refine z_aload_n 0 rfl rfl dX7_after_64 ?_
      refine z_iload_n 1 rfl rfl dX7_after_65 ?_
      refine z_aload_n 0 rfl rfl dX7_after_66 ?_
      refine z_iload_n 2 rfl rfl dX7_after_67 ?_
      refine z_iload_n 3 rfl rfl dX7_after_68 ?_
      refine z_cV (st := [.int l1, .ref l0, .int l3, .ref x5]) [.int l2, .int l3] zk_RX7_237 rfl (Nat.le_of_ble_eq_true rfl) dX7_after_69 (mX7_of hV (d + 4) l0 l2 l3 h) (fun v6 h7 => ?_)
      refine z_vi (fun x8 => ?_)
      refine z_cV (st := [.int l3, .ref x5]) [.int l1, .int x8] zk_RX7_237 rfl (Nat.le_of_ble_eq_true rfl) dX7_after_72 (mX7_of hV (d + 4) l0 l1 x8 h7) (fun v9 h10 => ?_)
      refine z_vi (fun x11 => ?_)
      refine z_sI dX7_after_75 (fun h12 => ?_)
      refine z_inc (w := 1) (lv' := [(3, .int (l3 + 1)), (0, .ref l0), (1, .int l1), (2, .int l2)]) 3 rfl (by decide) (by decide) rfl dX7_after_76 ?_
      refine z_goto 51 (by decide) dX7_after_79 ?_
      exact z_sub [1, 2, 3, 0] rfl (ih l0 l1 l2 (l3 + 1) h12)
def fX7_after_26 (l0 : Nat) (l1 : Int32) (l2 : Int32) (s0 : Int32) (s1 : Nat) (h : AH) : RR :=
  zcv (zob h s1 7) (fX7_bad s1 s0 1 0 h) fun v1 h2 =>
  zvi v1 fun x3 =>
  if x3 = 0 then (
    zcv (zob h2 l0 7) (fX7_isFull l0 h2) fun v4 h5 =>
    zvi v4 fun x6 =>
    zcv (zob h5 l0 7) (fX7_bad l0 x6 2 2 h5) fun v7 h8 =>
    zvi v7 fun x9 =>
    if x9 = 0 then (
      fX7_after_51 FU l0 l1 l2 0 h8)
    else
    some (.inl (some (.int 0)), h8))
  else
  some (.inl (some (.int 0)), h2)
set_option maxRecDepth 20000 in
theorem rX7_after_26 {X : CT} {V : VT} {d n0 k0 : Nat} (hV : V.2.2.2.2.2.stackTraces = false) (l0 : Nat) (l1 : Int32) (l2 : Int32) (s0 : Int32) (s1 : Nat) (h : AH) : zG X V RX7 "after" cX7_after 4 (some .int) (d + 6) n0 k0 (fX7_after_26 l0 l1 l2 s0 s1 h) 26 [(0, .ref l0), (1, .int l1), (2, .int l2)] [.int s0, .ref s1] h := by
  unfold fX7_after_26
  refine z_iconst (v := 1) (by decide) dX7_after_26 ?_
  refine z_iconst (v := 0) (by decide) dX7_after_27 ?_
  refine z_cV (st := []) [.int s0, .int 1, .int 0] zk_RX7_215 rfl (Nat.le_of_ble_eq_true rfl) dX7_after_28 (mX7_bad hV (d + 4) s1 s0 1 0 h) (fun v1 h2 => ?_)
  refine z_vi (fun x3 => ?_)
  refine z_if_ne 47 (by decide) dX7_after_31 ?_ ?_
  · refine z_aload_n 0 rfl rfl dX7_after_34 ?_
    refine z_aload_n 0 rfl rfl dX7_after_35 ?_
    refine z_cV (st := [.ref l0]) [] zk_RX7_249 rfl (Nat.le_of_ble_eq_true rfl) dX7_after_36 (mX7_isFull hV (d + 4) l0 h2) (fun v4 h5 => ?_)
    refine z_vi (fun x6 => ?_)
    refine z_iconst (v := 2) (by decide) dX7_after_39 ?_
    refine z_iconst (v := 2) (by decide) dX7_after_40 ?_
    refine z_cV (st := []) [.int x6, .int 2, .int 2] zk_RX7_215 rfl (Nat.le_of_ble_eq_true rfl) dX7_after_41 (mX7_bad hV (d + 4) l0 x6 2 2 h5) (fun v7 h8 => ?_)
    refine z_vi (fun x9 => ?_)
    refine z_if_eq 49 (by decide) dX7_after_44 ?_ ?_
    · refine z_iconst (v := 0) (by decide) dX7_after_49 ?_
      refine z_istore_n (lv' := [(3, .int 0), (0, .ref l0), (1, .int l1), (2, .int l2)]) rfl (by decide) rfl dX7_after_50 ?_
      exact z_sub [1, 2, 3, 0] rfl (rX7_after_51 hV FU l0 l1 l2 0 h8)
    · refine z_iconst (v := 0) (by decide) dX7_after_47 ?_
      exact z_iret rfl dX7_after_48
  · refine z_iconst (v := 0) (by decide) dX7_after_47 ?_
    exact z_iret rfl dX7_after_48
def fX7_after_21 (l0 : Nat) (l1 : Int32) (l2 : Int32) (s0 : Nat) (h : AH) : RR :=
  fX7_after_26 l0 l1 l2 1 s0 h
set_option maxRecDepth 20000 in
theorem rX7_after_21 {X : CT} {V : VT} {d n0 k0 : Nat} (hV : V.2.2.2.2.2.stackTraces = false) (l0 : Nat) (l1 : Int32) (l2 : Int32) (s0 : Nat) (h : AH) : zG X V RX7 "after" cX7_after 4 (some .int) (d + 6) n0 k0 (fX7_after_21 l0 l1 l2 s0 h) 21 [(0, .ref l0), (1, .int l1), (2, .int l2)] [.ref s0] h := by
  unfold fX7_after_21
  refine z_iconst (v := 1) (by decide) dX7_after_21 ?_
  refine z_goto 26 (by decide) dX7_after_22 ?_
  exact z_sub [0, 1, 2] rfl (rX7_after_26 hV l0 l1 l2 1 s0 h)
def fX7_after (a0 : Nat) (a1 : Int32) (a2 : Int32) (h : AH) : RR :=
  zcv (zob h a0 7) (fX7_begins a0 h) fun v1 h2 =>
  zvn v1 <|
  zcv (zob h2 a0 7) (fX7_isPoly a0 a1 h2) fun v3 h4 =>
  zvi v3 fun x5 =>
  if x5 = 0 then (
    fX7_after_21 a0 a1 a2 a0 h4)
  else
  zcv (zob h4 a0 7) (fX7_isPoly a0 a2 h4) fun v6 h7 =>
  zvi v6 fun x8 =>
  if x8 = 0 then (
    fX7_after_21 a0 a1 a2 a0 h7)
  else
  fX7_after_26 a0 a1 a2 0 a0 h7
set_option maxRecDepth 20000 in
theorem mX7_after {V : VT} (hV : V.2.2.2.2.2.stackTraces = false) (d : Nat) (a0 : Nat) (a1 : Int32) (a2 : Int32) (h : AH) : zM V yX7_after cX7_after 4 (some .int) (d + 6) [.ref a0, .int a1, .int a2] h (fX7_after a0 a1 a2 h) := by
  refine z_meth hV (by decide +kernel) (Nat.le_of_ble_eq_true rfl) [(0, .ref a0), (1, .int a1), (2, .int a2)] rfl (fun X => ?_)
  show zG X V RX7 "after" cX7_after 4 (some .int) (d + 6) h.1 h.2.1 (fX7_after a0 a1 a2 h) 0 [(0, .ref a0), (1, .int a1), (2, .int a2)] [] h
  unfold fX7_after
  refine z_aload_n 0 rfl rfl dX7_after_0 ?_
  refine z_cV (st := []) [] zk_RX7_240 rfl (Nat.le_of_ble_eq_true rfl) dX7_after_1 (mX7_begins hV (d + 0) a0 h) (fun v1 h2 => ?_)
  refine z_vn ?_
  refine z_aload_n 0 rfl rfl dX7_after_4 ?_
  refine z_aload_n 0 rfl rfl dX7_after_5 ?_
  refine z_iload_n 1 rfl rfl dX7_after_6 ?_
  refine z_cV (st := [.ref a0]) [.int a1] zk_RX7_243 rfl (Nat.le_of_ble_eq_true rfl) dX7_after_7 (mX7_isPoly hV (d + 3) a0 a1 h2) (fun v3 h4 => ?_)
  refine z_vi (fun x5 => ?_)
  refine z_if_eq 21 (by decide) dX7_after_10 ?_ ?_
  · exact z_sub [0, 1, 2] rfl (rX7_after_21 hV a0 a1 a2 a0 h4)
  · refine z_aload_n 0 rfl rfl dX7_after_13 ?_
    refine z_iload_n 2 rfl rfl dX7_after_14 ?_
    refine z_cV (st := [.ref a0]) [.int a2] zk_RX7_243 rfl (Nat.le_of_ble_eq_true rfl) dX7_after_15 (mX7_isPoly hV (d + 3) a0 a2 h4) (fun v6 h7 => ?_)
    refine z_vi (fun x8 => ?_)
    refine z_if_ne 25 (by decide) dX7_after_18 ?_ ?_
    · exact z_sub [0, 1, 2] rfl (rX7_after_21 hV a0 a1 a2 a0 h7)
    · refine z_iconst (v := 0) (by decide) dX7_after_25 ?_
      exact z_sub [0, 1, 2] rfl (rX7_after_26 hV a0 a1 a2 0 a0 h7)
def fX7_putsBehind_29 : Nat → Nat → Nat → Int32 → AH → RR
  | 0, _, _, _, _ => none
  | k + 1, l0, l1, l3, h =>
  (zgI h l0 7 15).bind fun x1 =>
  if x1 ≤ l3 then (
    some (.inl none, h))
  else
  (zgR h l0 7 26).bind fun x2 =>
  (zai h x2 l3).bind fun x3 =>
  (zsi h l1 l3 x3).bind fun h4 =>
  fX7_putsBehind_29 k l0 l1 (l3 + 1) h4
set_option maxRecDepth 20000 in
theorem rX7_putsBehind_29 {X : CT} {V : VT} {d n0 k0 : Nat} (hV : V.2.2.2.2.2.stackTraces = false) (fu : Nat) : ∀ (l0 : Nat) (l1 : Nat) (l3 : Int32) (h : AH), zG X V RX7 "putsBehind" cX7_putsBehind 4 none (d + 1) n0 k0 (fX7_putsBehind_29 fu l0 l1 l3 h) 29 [(0, .ref l0), (1, .ref l1), (3, .int l3)] [] h := by
  induction fu with
  | zero => intros; exact z_none
  | succ k ih =>
    intro l0 l1 l3 h
    rw [fX7_putsBehind_29]
    refine z_iload_n 2 rfl rfl dX7_putsBehind_29 ?_
    refine z_aload_n 0 rfl rfl dX7_putsBehind_30 ?_
    refine z_gI zf_RX7_92 dX7_putsBehind_31 (fun x1 => ?_)
    refine z_icmp_ge 52 (by decide) dX7_putsBehind_34 ?_ ?_
    · exact z_vret rfl dX7_putsBehind_52
    · refine z_aload_n 1 rfl rfl dX7_putsBehind_37 ?_
      refine z_iload_n 2 rfl rfl dX7_putsBehind_38 ?_
      refine z_aload_n 0 rfl rfl dX7_putsBehind_39 ?_
      refine z_gR zf_RX7_52 dX7_putsBehind_40 (fun x2 => ?_)
      refine z_iload_n 2 rfl rfl dX7_putsBehind_43 ?_
      refine z_aI dX7_putsBehind_44 (fun x3 => ?_)
      refine z_sI dX7_putsBehind_45 (fun h4 => ?_)
      refine z_inc (w := 1) (lv' := [(3, .int (l3 + 1)), (0, .ref l0), (1, .ref l1)]) 2 rfl (by decide) (by decide) rfl dX7_putsBehind_46 ?_
      refine z_goto 29 (by decide) dX7_putsBehind_49 ?_
      exact z_sub [1, 2, 0] rfl (ih l0 l1 (l3 + 1) h4)
def fX7_putsBehind_2 : Nat → Nat → Nat → Nat → Int32 → AH → RR
  | 0, _, _, _, _, _ => none
  | k + 1, l0, l1, l2, l3, h =>
  (zgI h l0 7 15).bind fun x1 =>
  if x1 ≤ l3 then (
    fX7_putsBehind_29 FU l0 l1 0 h)
  else
  (zgR h l0 7 26).bind fun x2 =>
  (zai h l1 l3).bind fun x3 =>
  (zai h l2 x3).bind fun x4 =>
  (zsi h x2 l3 x4).bind fun h5 =>
  fX7_putsBehind_2 k l0 l1 l2 (l3 + 1) h5
set_option maxRecDepth 20000 in
theorem rX7_putsBehind_2 {X : CT} {V : VT} {d n0 k0 : Nat} (hV : V.2.2.2.2.2.stackTraces = false) (fu : Nat) : ∀ (l0 : Nat) (l1 : Nat) (l2 : Nat) (l3 : Int32) (h : AH), zG X V RX7 "putsBehind" cX7_putsBehind 4 none (d + 1) n0 k0 (fX7_putsBehind_2 fu l0 l1 l2 l3 h) 2 [(0, .ref l0), (1, .ref l1), (2, .ref l2), (3, .int l3)] [] h := by
  induction fu with
  | zero => intros; exact z_none
  | succ k ih =>
    intro l0 l1 l2 l3 h
    rw [fX7_putsBehind_2]
    refine z_iload_n 3 rfl rfl dX7_putsBehind_2 ?_
    refine z_aload_n 0 rfl rfl dX7_putsBehind_3 ?_
    refine z_gI zf_RX7_92 dX7_putsBehind_4 (fun x1 => ?_)
    refine z_icmp_ge 27 (by decide) dX7_putsBehind_7 ?_ ?_
    · refine z_iconst (v := 0) (by decide) dX7_putsBehind_27 ?_
      refine z_istore_n (lv' := [(3, .int 0), (0, .ref l0), (1, .ref l1), (2, .ref l2)]) rfl (by decide) rfl dX7_putsBehind_28 ?_
      exact z_sub [1, 2, 0] rfl (rX7_putsBehind_29 hV FU l0 l1 0 h)
    · refine z_aload_n 0 rfl rfl dX7_putsBehind_10 ?_
      refine z_gR zf_RX7_52 dX7_putsBehind_11 (fun x2 => ?_)
      refine z_iload_n 3 rfl rfl dX7_putsBehind_14 ?_
      refine z_aload_n 2 rfl rfl dX7_putsBehind_15 ?_
      refine z_aload_n 1 rfl rfl dX7_putsBehind_16 ?_
      refine z_iload_n 3 rfl rfl dX7_putsBehind_17 ?_
      refine z_aI dX7_putsBehind_18 (fun x3 => ?_)
      refine z_aI dX7_putsBehind_19 (fun x4 => ?_)
      refine z_sI dX7_putsBehind_20 (fun h5 => ?_)
      refine z_inc (w := 1) (lv' := [(3, .int (l3 + 1)), (0, .ref l0), (1, .ref l1), (2, .ref l2)]) 3 rfl (by decide) (by decide) rfl dX7_putsBehind_21 ?_
      refine z_goto 2 (by decide) dX7_putsBehind_24 ?_
      exact z_sub [1, 2, 3, 0] rfl (ih l0 l1 l2 (l3 + 1) h5)
def fX7_putsBehind (a0 : Nat) (a1 : Nat) (a2 : Nat) (h : AH) : RR :=
  fX7_putsBehind_2 FU a0 a1 a2 0 h
set_option maxRecDepth 20000 in
theorem mX7_putsBehind {V : VT} (hV : V.2.2.2.2.2.stackTraces = false) (d : Nat) (a0 : Nat) (a1 : Nat) (a2 : Nat) (h : AH) : zM V yX7_putsBehind cX7_putsBehind 4 none (d + 1) [.ref a0, .ref a1, .ref a2] h (fX7_putsBehind a0 a1 a2 h) := by
  refine z_meth hV (by decide +kernel) (Nat.le_of_ble_eq_true rfl) [(0, .ref a0), (1, .ref a1), (2, .ref a2)] rfl (fun X => ?_)
  show zG X V RX7 "putsBehind" cX7_putsBehind 4 none (d + 1) h.1 h.2.1 (fX7_putsBehind a0 a1 a2 h) 0 [(0, .ref a0), (1, .ref a1), (2, .ref a2)] [] h
  unfold fX7_putsBehind
  refine z_iconst (v := 0) (by decide) dX7_putsBehind_0 ?_
  refine z_istore_n (lv' := [(3, .int 0), (0, .ref a0), (1, .ref a1), (2, .ref a2)]) rfl (by decide) rfl dX7_putsBehind_1 ?_
  exact z_sub [1, 2, 3, 0] rfl (rX7_putsBehind_2 hV FU a0 a1 a2 0 h)
def fX7_again_127 (K104 : Nat → Int32 → AH → RR) (l0 : Nat) (l3 : Int32) (h : AH) : RR :=
  (zgR h l0 7 25).bind fun x1 =>
  (zgR h l0 7 25).bind fun x2 =>
  zcv (zob h l0 7) (fX7_putsBehind l0 x1 x2 h) fun v3 h4 =>
  zvn v3 <|
  if (2 : Int32) = 0 then none else
  K104 l0 (l3 / 2) h4
set_option maxRecDepth 20000 in
theorem rX7_again_127 {X : CT} {V : VT} {d n0 k0 : Nat} (hV : V.2.2.2.2.2.stackTraces = false) (K104 : Nat → Int32 → AH → RR) (hK104 : ∀ l0 l3  h, zG X V RX7 "again" cX7_again 4 (some .int) (d + 6) n0 k0 (K104 l0 l3 h) 104 [(0, .ref l0), (3, .int l3)] [] h) (l0 : Nat) (l3 : Int32) (h : AH) : zG X V RX7 "again" cX7_again 4 (some .int) (d + 6) n0 k0 (fX7_again_127 K104 l0 l3 h) 127 [(0, .ref l0), (3, .int l3)] [] h := by
  unfold fX7_again_127
  refine z_aload_n 0 rfl rfl dX7_again_127 ?_
  refine z_aload_n 0 rfl rfl dX7_again_128 ?_
  refine z_gR zf_RX7_49 dX7_again_129 (fun x1 => ?_)
  refine z_aload_n 0 rfl rfl dX7_again_132 ?_
  refine z_gR zf_RX7_49 dX7_again_133 (fun x2 => ?_)
  refine z_cV (st := []) [.ref x1, .ref x2] zk_RX7_257 rfl (Nat.le_of_ble_eq_true rfl) dX7_again_136 (mX7_putsBehind hV (d + 4) l0 x1 x2 h) (fun v3 h4 => ?_)
  refine z_vn ?_
  refine z_iload_n 1 rfl rfl dX7_again_139 ?_
  refine z_iconst (v := 2) (by decide) dX7_again_140 ?_
  refine z_idiv dX7_again_141 ?_
  refine z_istore_n (lv' := [(3, .int (l3 / 2)), (0, .ref l0)]) rfl (by decide) rfl dX7_again_142 ?_
  refine z_goto 104 (by decide) dX7_again_143 ?_
  exact z_sub [1, 0] rfl (hK104 l0 (l3 / 2) h4)
def fX7_again_104 : Nat → Nat → Int32 → AH → RR
  | 0, _, _, _ => none
  | k + 1, l0, l3, h =>
  if l3 ≤ 0 then (
    zcv (zob h l0 7) (fX7_comes l0 h) fun v1 h2 =>
    zvi v1 fun x3 =>
    some (.inl (some (.int x3)), h2))
  else
  if (2 : Int32) = 0 then none else
  if (l3 - l3 / 2 * 2) = 1 then (
    (zgR h l0 7 24).bind fun x4 =>
    (zgR h l0 7 25).bind fun x5 =>
    zcv (zob h l0 7) (fX7_putsBehind l0 x4 x5 h) fun v6 h7 =>
    zvn v6 <|
    fX7_again_127 (fun p0 p3 h => fX7_again_104 k p0 p3 h) l0 l3 h7)
  else
  fX7_again_127 (fun p0 p3 h => fX7_again_104 k p0 p3 h) l0 l3 h
set_option maxRecDepth 20000 in
theorem rX7_again_104 {X : CT} {V : VT} {d n0 k0 : Nat} (hV : V.2.2.2.2.2.stackTraces = false) (fu : Nat) : ∀ (l0 : Nat) (l3 : Int32) (h : AH), zG X V RX7 "again" cX7_again 4 (some .int) (d + 6) n0 k0 (fX7_again_104 fu l0 l3 h) 104 [(0, .ref l0), (3, .int l3)] [] h := by
  induction fu with
  | zero => intros; exact z_none
  | succ k ih =>
    intro l0 l3 h
    rw [fX7_again_104]
    refine z_iload_n 1 rfl rfl dX7_again_104 ?_
    refine z_if_le 146 (by decide) dX7_again_105 ?_ ?_
    · refine z_aload_n 0 rfl rfl dX7_again_146 ?_
      refine z_cV (st := []) [] zk_RX7_252 rfl (Nat.le_of_ble_eq_true rfl) dX7_again_147 (mX7_comes hV (d + 2) l0 h) (fun v1 h2 => ?_)
      refine z_vi (fun x3 => ?_)
      exact z_iret rfl dX7_again_150
    · refine z_iload_n 1 rfl rfl dX7_again_108 ?_
      refine z_iconst (v := 2) (by decide) dX7_again_109 ?_
      refine z_irem dX7_again_110 ?_
      refine z_iconst (v := 1) (by decide) dX7_again_111 ?_
      refine z_icmp_ne 127 (by decide) dX7_again_112 ?_ ?_
      · refine z_aload_n 0 rfl rfl dX7_again_115 ?_
        refine z_aload_n 0 rfl rfl dX7_again_116 ?_
        refine z_gR zf_RX7_46 dX7_again_117 (fun x4 => ?_)
        refine z_aload_n 0 rfl rfl dX7_again_120 ?_
        refine z_gR zf_RX7_49 dX7_again_121 (fun x5 => ?_)
        refine z_cV (st := []) [.ref x4, .ref x5] zk_RX7_257 rfl (Nat.le_of_ble_eq_true rfl) dX7_again_124 (mX7_putsBehind hV (d + 4) l0 x4 x5 h) (fun v6 h7 => ?_)
        refine z_vn ?_
        exact z_sub [0, 1] rfl (rX7_again_127 hV (fun p0 p3 h => fX7_again_104 k p0 p3 h) ih l0 l3 h7)
      · exact z_sub [0, 1] rfl (rX7_again_127 hV (fun p0 p3 h => fX7_again_104 k p0 p3 h) ih l0 l3 h)
def fX7_again_69 : Nat → Nat → Int32 → Int32 → Int32 → AH → RR
  | 0, _, _, _, _, _ => none
  | k + 1, l0, l1, l2, l3, h =>
  (zgI h l0 7 15).bind fun x1 =>
  if x1 ≤ l3 then (
    fX7_again_104 FU l0 l2 h)
  else
  (zgR h l0 7 24).bind fun x2 =>
  (zsi h x2 l3 l3).bind fun h3 =>
  (zgR h3 l0 7 25).bind fun x4 =>
  zcv (zob h3 l0 7) (fX7_of l0 l1 l3 h3) fun v5 h6 =>
  zvi v5 fun x7 =>
  (zsi h6 x4 l3 x7).bind fun h8 =>
  fX7_again_69 k l0 l1 l2 (l3 + 1) h8
set_option maxRecDepth 20000 in
theorem rX7_again_69 {X : CT} {V : VT} {d n0 k0 : Nat} (hV : V.2.2.2.2.2.stackTraces = false) (fu : Nat) : ∀ (l0 : Nat) (l1 : Int32) (l2 : Int32) (l3 : Int32) (h : AH), zG X V RX7 "again" cX7_again 4 (some .int) (d + 6) n0 k0 (fX7_again_69 fu l0 l1 l2 l3 h) 69 [(0, .ref l0), (1, .int l1), (2, .int l2), (3, .int l3)] [] h := by
  induction fu with
  | zero => intros; exact z_none
  | succ k ih =>
    intro l0 l1 l2 l3 h
    rw [fX7_again_69]
    refine z_iload_n 3 rfl rfl dX7_again_69 ?_
    refine z_aload_n 0 rfl rfl dX7_again_70 ?_
    refine z_gI zf_RX7_92 dX7_again_71 (fun x1 => ?_)
    refine z_icmp_ge 102 (by decide) dX7_again_74 ?_ ?_
    · refine z_iload_n 2 rfl rfl dX7_again_102 ?_
      refine z_istore_n (lv' := [(3, .int l2), (0, .ref l0), (1, .int l1), (2, .int l2)]) rfl (by decide) rfl dX7_again_103 ?_
      exact z_sub [1, 0] rfl (rX7_again_104 hV FU l0 l2 h)
    · refine z_aload_n 0 rfl rfl dX7_again_77 ?_
      refine z_gR zf_RX7_46 dX7_again_78 (fun x2 => ?_)
      refine z_iload_n 3 rfl rfl dX7_again_81 ?_
      refine z_iload_n 3 rfl rfl dX7_again_82 ?_
      refine z_sI dX7_again_83 (fun h3 => ?_)
      refine z_aload_n 0 rfl rfl dX7_again_84 ?_
      refine z_gR zf_RX7_49 dX7_again_85 (fun x4 => ?_)
      refine z_iload_n 3 rfl rfl dX7_again_88 ?_
      refine z_aload_n 0 rfl rfl dX7_again_89 ?_
      refine z_iload_n 1 rfl rfl dX7_again_90 ?_
      refine z_iload_n 3 rfl rfl dX7_again_91 ?_
      refine z_cV (st := [.int l3, .ref x4]) [.int l1, .int l3] zk_RX7_237 rfl (Nat.le_of_ble_eq_true rfl) dX7_again_92 (mX7_of hV (d + 4) l0 l1 l3 h3) (fun v5 h6 => ?_)
      refine z_vi (fun x7 => ?_)
      refine z_sI dX7_again_95 (fun h8 => ?_)
      refine z_inc (w := 1) (lv' := [(3, .int (l3 + 1)), (0, .ref l0), (1, .int l1), (2, .int l2)]) 3 rfl (by decide) (by decide) rfl dX7_again_96 ?_
      refine z_goto 69 (by decide) dX7_again_99 ?_
      exact z_sub [1, 2, 3, 0] rfl (ih l0 l1 l2 (l3 + 1) h8)
def fX7_again_44 (l0 : Nat) (l1 : Int32) (l2 : Int32) (s0 : Int32) (s1 : Nat) (h : AH) : RR :=
  zcv (zob h s1 7) (fX7_bad s1 s0 2 1 h) fun v1 h2 =>
  zvi v1 fun x3 =>
  if x3 = 0 then (
    zcv (zob h2 l0 7) (fX7_isFull l0 h2) fun v4 h5 =>
    zvi v4 fun x6 =>
    zcv (zob h5 l0 7) (fX7_bad l0 x6 3 2 h5) fun v7 h8 =>
    zvi v7 fun x9 =>
    if x9 = 0 then (
      fX7_again_69 FU l0 l1 l2 0 h8)
    else
    some (.inl (some (.int 0)), h8))
  else
  some (.inl (some (.int 0)), h2)
set_option maxRecDepth 20000 in
theorem rX7_again_44 {X : CT} {V : VT} {d n0 k0 : Nat} (hV : V.2.2.2.2.2.stackTraces = false) (l0 : Nat) (l1 : Int32) (l2 : Int32) (s0 : Int32) (s1 : Nat) (h : AH) : zG X V RX7 "again" cX7_again 4 (some .int) (d + 6) n0 k0 (fX7_again_44 l0 l1 l2 s0 s1 h) 44 [(0, .ref l0), (1, .int l1), (2, .int l2)] [.int s0, .ref s1] h := by
  unfold fX7_again_44
  refine z_iconst (v := 2) (by decide) dX7_again_44 ?_
  refine z_iconst (v := 1) (by decide) dX7_again_45 ?_
  refine z_cV (st := []) [.int s0, .int 2, .int 1] zk_RX7_215 rfl (Nat.le_of_ble_eq_true rfl) dX7_again_46 (mX7_bad hV (d + 4) s1 s0 2 1 h) (fun v1 h2 => ?_)
  refine z_vi (fun x3 => ?_)
  refine z_if_ne 65 (by decide) dX7_again_49 ?_ ?_
  · refine z_aload_n 0 rfl rfl dX7_again_52 ?_
    refine z_aload_n 0 rfl rfl dX7_again_53 ?_
    refine z_cV (st := [.ref l0]) [] zk_RX7_249 rfl (Nat.le_of_ble_eq_true rfl) dX7_again_54 (mX7_isFull hV (d + 4) l0 h2) (fun v4 h5 => ?_)
    refine z_vi (fun x6 => ?_)
    refine z_iconst (v := 3) (by decide) dX7_again_57 ?_
    refine z_iconst (v := 2) (by decide) dX7_again_58 ?_
    refine z_cV (st := []) [.int x6, .int 3, .int 2] zk_RX7_215 rfl (Nat.le_of_ble_eq_true rfl) dX7_again_59 (mX7_bad hV (d + 4) l0 x6 3 2 h5) (fun v7 h8 => ?_)
    refine z_vi (fun x9 => ?_)
    refine z_if_eq 67 (by decide) dX7_again_62 ?_ ?_
    · refine z_iconst (v := 0) (by decide) dX7_again_67 ?_
      refine z_istore_n (lv' := [(3, .int 0), (0, .ref l0), (1, .int l1), (2, .int l2)]) rfl (by decide) rfl dX7_again_68 ?_
      exact z_sub [1, 2, 3, 0] rfl (rX7_again_69 hV FU l0 l1 l2 0 h8)
    · refine z_iconst (v := 0) (by decide) dX7_again_65 ?_
      exact z_iret rfl dX7_again_66
  · refine z_iconst (v := 0) (by decide) dX7_again_65 ?_
    exact z_iret rfl dX7_again_66
def fX7_again_18 (l0 : Nat) (l1 : Int32) (l2 : Int32) (s0 : Int32) (s1 : Nat) (h : AH) : RR :=
  zcv (zob h s1 7) (fX7_bad s1 s0 1 0 h) fun v1 h2 =>
  zvi v1 fun x3 =>
  if x3 = 0 then (
    zca (fX7_in l2.toInt64 0 1000000000 h2) fun v4 h5 =>
    zvi v4 fun x6 =>
    if x6 = 0 then (
      fX7_again_44 l0 l1 l2 1 l0 h5)
    else
    fX7_again_44 l0 l1 l2 0 l0 h5)
  else
  some (.inl (some (.int 0)), h2)
set_option maxRecDepth 20000 in
theorem rX7_again_18 {X : CT} {V : VT} {d n0 k0 : Nat} (hV : V.2.2.2.2.2.stackTraces = false) (l0 : Nat) (l1 : Int32) (l2 : Int32) (s0 : Int32) (s1 : Nat) (h : AH) : zG X V RX7 "again" cX7_again 4 (some .int) (d + 6) n0 k0 (fX7_again_18 l0 l1 l2 s0 s1 h) 18 [(0, .ref l0), (1, .int l1), (2, .int l2)] [.int s0, .ref s1] h := by
  unfold fX7_again_18
  refine z_iconst (v := 1) (by decide) dX7_again_18 ?_
  refine z_iconst (v := 0) (by decide) dX7_again_19 ?_
  refine z_cV (st := []) [.int s0, .int 1, .int 0] zk_RX7_215 rfl (Nat.le_of_ble_eq_true rfl) dX7_again_20 (mX7_bad hV (d + 4) s1 s0 1 0 h) (fun v1 h2 => ?_)
  refine z_vi (fun x3 => ?_)
  refine z_if_ne 65 (by decide) dX7_again_23 ?_ ?_
  · refine z_aload_n 0 rfl rfl dX7_again_26 ?_
    refine z_iload_n 2 rfl rfl dX7_again_27 ?_
    refine z_i2l dX7_again_28 ?_
    refine z_lconst (v := 0) (by decide) dX7_again_29 ?_
    refine z_ldc2 zw_1230 dX7_again_30 ?_
    refine z_cS (st := [.ref l0]) [.long l2.toInt64, .long 0, .long 1000000000] zk_RX7_154 rfl (Nat.le_of_ble_eq_true rfl) dX7_again_33 (mX7_in hV (d + 4) l2.toInt64 0 1000000000 h2) (fun v4 h5 => ?_)
    refine z_vi (fun x6 => ?_)
    refine z_if_ne 43 (by decide) dX7_again_36 ?_ ?_
    · refine z_iconst (v := 1) (by decide) dX7_again_39 ?_
      refine z_goto 44 (by decide) dX7_again_40 ?_
      exact z_sub [0, 1, 2] rfl (rX7_again_44 hV l0 l1 l2 1 l0 h5)
    · refine z_iconst (v := 0) (by decide) dX7_again_43 ?_
      exact z_sub [0, 1, 2] rfl (rX7_again_44 hV l0 l1 l2 0 l0 h5)
  · refine z_iconst (v := 0) (by decide) dX7_again_65 ?_
    exact z_iret rfl dX7_again_66
def fX7_again (a0 : Nat) (a1 : Int32) (a2 : Int32) (h : AH) : RR :=
  zcv (zob h a0 7) (fX7_begins a0 h) fun v1 h2 =>
  zvn v1 <|
  zcv (zob h2 a0 7) (fX7_isPoly a0 a1 h2) fun v3 h4 =>
  zvi v3 fun x5 =>
  if x5 = 0 then (
    fX7_again_18 a0 a1 a2 1 a0 h4)
  else
  fX7_again_18 a0 a1 a2 0 a0 h4
set_option maxRecDepth 20000 in
theorem mX7_again {V : VT} (hV : V.2.2.2.2.2.stackTraces = false) (d : Nat) (a0 : Nat) (a1 : Int32) (a2 : Int32) (h : AH) : zM V yX7_again cX7_again 4 (some .int) (d + 6) [.ref a0, .int a1, .int a2] h (fX7_again a0 a1 a2 h) := by
  refine z_meth hV (by decide +kernel) (Nat.le_of_ble_eq_true rfl) [(0, .ref a0), (1, .int a1), (2, .int a2)] rfl (fun X => ?_)
  show zG X V RX7 "again" cX7_again 4 (some .int) (d + 6) h.1 h.2.1 (fX7_again a0 a1 a2 h) 0 [(0, .ref a0), (1, .int a1), (2, .int a2)] [] h
  unfold fX7_again
  refine z_aload_n 0 rfl rfl dX7_again_0 ?_
  refine z_cV (st := []) [] zk_RX7_240 rfl (Nat.le_of_ble_eq_true rfl) dX7_again_1 (mX7_begins hV (d + 0) a0 h) (fun v1 h2 => ?_)
  refine z_vn ?_
  refine z_aload_n 0 rfl rfl dX7_again_4 ?_
  refine z_aload_n 0 rfl rfl dX7_again_5 ?_
  refine z_iload_n 1 rfl rfl dX7_again_6 ?_
  refine z_cV (st := [.ref a0]) [.int a1] zk_RX7_243 rfl (Nat.le_of_ble_eq_true rfl) dX7_again_7 (mX7_isPoly hV (d + 3) a0 a1 h2) (fun v3 h4 => ?_)
  refine z_vi (fun x5 => ?_)
  refine z_if_ne 17 (by decide) dX7_again_10 ?_ ?_
  · refine z_iconst (v := 1) (by decide) dX7_again_13 ?_
    refine z_goto 18 (by decide) dX7_again_14 ?_
    exact z_sub [0, 1, 2] rfl (rX7_again_18 hV a0 a1 a2 1 a0 h4)
  · refine z_iconst (v := 0) (by decide) dX7_again_17 ?_
    exact z_sub [0, 1, 2] rfl (rX7_again_18 hV a0 a1 a2 0 a0 h4)
def fX7_takenBy_5 : Nat → Nat → Int32 → Int32 → Int32 → Int32 → AH → RR
  | 0, _, _, _, _, _, _ => none
  | k + 1, l0, l1, l2, l3, l4, h =>
  (zgI h l0 7 15).bind fun x1 =>
  if x1 ≤ l4 then (
    some (.inl (some (.int l3)), h))
  else
  zcv (zob h l0 7) (fX7_of l0 l1 l4 h) fun v2 h3 =>
  zvi v2 fun x4 =>
  if x4 = l2 then (
    fX7_takenBy_5 k l0 l1 l2 (l3 + 1) (l4 + 1) h3)
  else
  fX7_takenBy_5 k l0 l1 l2 (l3 + 0) (l4 + 1) h3
set_option maxRecDepth 20000 in
theorem rX7_takenBy_5 {X : CT} {V : VT} {d n0 k0 : Nat} (hV : V.2.2.2.2.2.stackTraces = false) (fu : Nat) : ∀ (l0 : Nat) (l1 : Int32) (l2 : Int32) (l3 : Int32) (l4 : Int32) (h : AH), zG X V RX7 "takenBy" cX7_takenBy 5 (some .int) (d + 2) n0 k0 (fX7_takenBy_5 fu l0 l1 l2 l3 l4 h) 5 [(0, .ref l0), (1, .int l1), (2, .int l2), (3, .int l3), (4, .int l4)] [] h := by
  induction fu with
  | zero => intros; exact z_none
  | succ k ih =>
    intro l0 l1 l2 l3 l4 h
    rw [fX7_takenBy_5]
    refine z_iload 4 rfl dX7_takenBy_5 ?_
    refine z_aload_n 0 rfl rfl dX7_takenBy_7 ?_
    refine z_gI zf_RX7_92 dX7_takenBy_8 (fun x1 => ?_)
    refine z_icmp_ge 39 (by decide) dX7_takenBy_11 ?_ ?_
    · refine z_iload_n 3 rfl rfl dX7_takenBy_39 ?_
      exact z_iret rfl dX7_takenBy_40
    · refine z_iload_n 3 rfl rfl dX7_takenBy_14 ?_
      refine z_aload_n 0 rfl rfl dX7_takenBy_15 ?_
      refine z_iload_n 1 rfl rfl dX7_takenBy_16 ?_
      refine z_iload 4 rfl dX7_takenBy_17 ?_
      refine z_cV (st := [.int l3]) [.int l1, .int l4] zk_RX7_237 rfl (Nat.le_of_ble_eq_true rfl) dX7_takenBy_19 (mX7_of hV (d + 0) l0 l1 l4 h) (fun v2 h3 => ?_)
      refine z_vi (fun x4 => ?_)
      refine z_iload_n 2 rfl rfl dX7_takenBy_22 ?_
      refine z_icmp_ne 30 (by decide) dX7_takenBy_23 ?_ ?_
      · refine z_iconst (v := 1) (by decide) dX7_takenBy_26 ?_
        refine z_goto 31 (by decide) dX7_takenBy_27 ?_
        refine z_iadd dX7_takenBy_31 ?_
        refine z_istore_n (lv' := [(3, .int (l3 + 1)), (0, .ref l0), (1, .int l1), (2, .int l2), (4, .int l4)]) rfl (by decide) rfl dX7_takenBy_32 ?_
        refine z_inc (w := 1) (lv' := [(4, .int (l4 + 1)), (3, .int (l3 + 1)), (0, .ref l0), (1, .int l1), (2, .int l2)]) 4 rfl (by decide) (by decide) rfl dX7_takenBy_33 ?_
        refine z_goto 5 (by decide) dX7_takenBy_36 ?_
        exact z_sub [2, 3, 4, 1, 0] rfl (ih l0 l1 l2 (l3 + 1) (l4 + 1) h3)
      · refine z_iconst (v := 0) (by decide) dX7_takenBy_30 ?_
        refine z_iadd dX7_takenBy_31 ?_
        refine z_istore_n (lv' := [(3, .int (l3 + 0)), (0, .ref l0), (1, .int l1), (2, .int l2), (4, .int l4)]) rfl (by decide) rfl dX7_takenBy_32 ?_
        refine z_inc (w := 1) (lv' := [(4, .int (l4 + 1)), (3, .int (l3 + 0)), (0, .ref l0), (1, .int l1), (2, .int l2)]) 4 rfl (by decide) (by decide) rfl dX7_takenBy_33 ?_
        refine z_goto 5 (by decide) dX7_takenBy_36 ?_
        exact z_sub [2, 3, 4, 1, 0] rfl (ih l0 l1 l2 (l3 + 0) (l4 + 1) h3)
def fX7_takenBy (a0 : Nat) (a1 : Int32) (a2 : Int32) (h : AH) : RR :=
  fX7_takenBy_5 FU a0 a1 a2 0 0 h
set_option maxRecDepth 20000 in
theorem mX7_takenBy {V : VT} (hV : V.2.2.2.2.2.stackTraces = false) (d : Nat) (a0 : Nat) (a1 : Int32) (a2 : Int32) (h : AH) : zM V yX7_takenBy cX7_takenBy 5 (some .int) (d + 2) [.ref a0, .int a1, .int a2] h (fX7_takenBy a0 a1 a2 h) := by
  refine z_meth hV (by decide +kernel) (Nat.le_of_ble_eq_true rfl) [(0, .ref a0), (1, .int a1), (2, .int a2)] rfl (fun X => ?_)
  show zG X V RX7 "takenBy" cX7_takenBy 5 (some .int) (d + 2) h.1 h.2.1 (fX7_takenBy a0 a1 a2 h) 0 [(0, .ref a0), (1, .int a1), (2, .int a2)] [] h
  unfold fX7_takenBy
  refine z_iconst (v := 0) (by decide) dX7_takenBy_0 ?_
  refine z_istore_n (lv' := [(3, .int 0), (0, .ref a0), (1, .int a1), (2, .int a2)]) rfl (by decide) rfl dX7_takenBy_1 ?_
  refine z_iconst (v := 0) (by decide) dX7_takenBy_2 ?_
  refine z_istore (lv' := [(4, .int 0), (3, .int 0), (0, .ref a0), (1, .int a1), (2, .int a2)]) (by decide) rfl dX7_takenBy_3 ?_
  exact z_sub [2, 3, 4, 1, 0] rfl (rX7_takenBy_5 hV FU a0 a1 a2 0 0 h)
def fX7_imageOf_4 : Nat → Nat → Int32 → Int32 → Int32 → AH → RR
  | 0, _, _, _, _, _ => none
  | k + 1, l0, l1, l2, l3, h =>
  (zgI h l0 7 15).bind fun x1 =>
  if x1 ≤ l3 then (
    some (.inl (some (.int l2)), h))
  else
  zcv (zob h l0 7) (fX7_takenBy l0 l1 l3 h) fun v2 h3 =>
  zvi v2 fun x4 =>
  if x4 ≤ 0 then (
    fX7_imageOf_4 k l0 l1 (l2 + 0) (l3 + 1) h3)
  else
  fX7_imageOf_4 k l0 l1 (l2 + 1) (l3 + 1) h3
set_option maxRecDepth 20000 in
theorem rX7_imageOf_4 {X : CT} {V : VT} {d n0 k0 : Nat} (hV : V.2.2.2.2.2.stackTraces = false) (fu : Nat) : ∀ (l0 : Nat) (l1 : Int32) (l2 : Int32) (l3 : Int32) (h : AH), zG X V RX7 "imageOf" cX7_imageOf 4 (some .int) (d + 3) n0 k0 (fX7_imageOf_4 fu l0 l1 l2 l3 h) 4 [(0, .ref l0), (1, .int l1), (2, .int l2), (3, .int l3)] [] h := by
  induction fu with
  | zero => intros; exact z_none
  | succ k ih =>
    intro l0 l1 l2 l3 h
    rw [fX7_imageOf_4]
    refine z_iload_n 3 rfl rfl dX7_imageOf_4 ?_
    refine z_aload_n 0 rfl rfl dX7_imageOf_5 ?_
    refine z_gI zf_RX7_92 dX7_imageOf_6 (fun x1 => ?_)
    refine z_icmp_ge 35 (by decide) dX7_imageOf_9 ?_ ?_
    · refine z_iload_n 2 rfl rfl dX7_imageOf_35 ?_
      exact z_iret rfl dX7_imageOf_36
    · refine z_iload_n 2 rfl rfl dX7_imageOf_12 ?_
      refine z_aload_n 0 rfl rfl dX7_imageOf_13 ?_
      refine z_iload_n 1 rfl rfl dX7_imageOf_14 ?_
      refine z_iload_n 3 rfl rfl dX7_imageOf_15 ?_
      refine z_cV (st := [.int l2]) [.int l1, .int l3] zk_RX7_260 rfl (Nat.le_of_ble_eq_true rfl) dX7_imageOf_16 (mX7_takenBy hV (d + 0) l0 l1 l3 h) (fun v2 h3 => ?_)
      refine z_vi (fun x4 => ?_)
      refine z_if_le 26 (by decide) dX7_imageOf_19 ?_ ?_
      · refine z_iconst (v := 0) (by decide) dX7_imageOf_26 ?_
        refine z_iadd dX7_imageOf_27 ?_
        refine z_istore_n (lv' := [(2, .int (l2 + 0)), (0, .ref l0), (1, .int l1), (3, .int l3)]) rfl (by decide) rfl dX7_imageOf_28 ?_
        refine z_inc (w := 1) (lv' := [(3, .int (l3 + 1)), (2, .int (l2 + 0)), (0, .ref l0), (1, .int l1)]) 3 rfl (by decide) (by decide) rfl dX7_imageOf_29 ?_
        refine z_goto 4 (by decide) dX7_imageOf_32 ?_
        exact z_sub [2, 3, 1, 0] rfl (ih l0 l1 (l2 + 0) (l3 + 1) h3)
      · refine z_iconst (v := 1) (by decide) dX7_imageOf_22 ?_
        refine z_goto 27 (by decide) dX7_imageOf_23 ?_
        refine z_iadd dX7_imageOf_27 ?_
        refine z_istore_n (lv' := [(2, .int (l2 + 1)), (0, .ref l0), (1, .int l1), (3, .int l3)]) rfl (by decide) rfl dX7_imageOf_28 ?_
        refine z_inc (w := 1) (lv' := [(3, .int (l3 + 1)), (2, .int (l2 + 1)), (0, .ref l0), (1, .int l1)]) 3 rfl (by decide) (by decide) rfl dX7_imageOf_29 ?_
        refine z_goto 4 (by decide) dX7_imageOf_32 ?_
        exact z_sub [2, 3, 1, 0] rfl (ih l0 l1 (l2 + 1) (l3 + 1) h3)
def fX7_imageOf (a0 : Nat) (a1 : Int32) (h : AH) : RR :=
  fX7_imageOf_4 FU a0 a1 0 0 h
set_option maxRecDepth 20000 in
theorem mX7_imageOf {V : VT} (hV : V.2.2.2.2.2.stackTraces = false) (d : Nat) (a0 : Nat) (a1 : Int32) (h : AH) : zM V yX7_imageOf cX7_imageOf 4 (some .int) (d + 3) [.ref a0, .int a1] h (fX7_imageOf a0 a1 h) := by
  refine z_meth hV (by decide +kernel) (Nat.le_of_ble_eq_true rfl) [(0, .ref a0), (1, .int a1)] rfl (fun X => ?_)
  show zG X V RX7 "imageOf" cX7_imageOf 4 (some .int) (d + 3) h.1 h.2.1 (fX7_imageOf a0 a1 h) 0 [(0, .ref a0), (1, .int a1)] [] h
  unfold fX7_imageOf
  refine z_iconst (v := 0) (by decide) dX7_imageOf_0 ?_
  refine z_istore_n (lv' := [(2, .int 0), (0, .ref a0), (1, .int a1)]) rfl (by decide) rfl dX7_imageOf_1 ?_
  refine z_iconst (v := 0) (by decide) dX7_imageOf_2 ?_
  refine z_istore_n (lv' := [(3, .int 0), (2, .int 0), (0, .ref a0), (1, .int a1)]) rfl (by decide) rfl dX7_imageOf_3 ?_
  exact z_sub [2, 3, 1, 0] rfl (rX7_imageOf_4 hV FU a0 a1 0 0 h)
def fX7_isPermuting (a0 : Nat) (a1 : Int32) (h : AH) : RR :=
  zcv (zob h a0 7) (fX7_imageOf a0 a1 h) fun v1 h2 =>
  zvi v1 fun x3 =>
  (zgI h2 a0 7 15).bind fun x4 =>
  if x3 = x4 then (
    zbr 1 h2)
  else
  zbr 0 h2
set_option maxRecDepth 20000 in
theorem mX7_isPermuting {V : VT} (hV : V.2.2.2.2.2.stackTraces = false) (d : Nat) (a0 : Nat) (a1 : Int32) (h : AH) : zM V yX7_isPermuting cX7_isPermuting 2 (some .boolean) (d + 4) [.ref a0, .int a1] h (fX7_isPermuting a0 a1 h) := by
  refine z_meth hV (by decide +kernel) (Nat.le_of_ble_eq_true rfl) [(0, .ref a0), (1, .int a1)] rfl (fun X => ?_)
  show zG X V RX7 "isPermuting" cX7_isPermuting 2 (some .boolean) (d + 4) h.1 h.2.1 (fX7_isPermuting a0 a1 h) 0 [(0, .ref a0), (1, .int a1)] [] h
  unfold fX7_isPermuting
  refine z_aload_n 0 rfl rfl dX7_isPermuting_0 ?_
  refine z_iload_n 1 rfl rfl dX7_isPermuting_1 ?_
  refine z_cV (st := []) [.int a1] zk_RX7_263 rfl (Nat.le_of_ble_eq_true rfl) dX7_isPermuting_2 (mX7_imageOf hV (d + 0) a0 a1 h) (fun v1 h2 => ?_)
  refine z_vi (fun x3 => ?_)
  refine z_aload_n 0 rfl rfl dX7_isPermuting_5 ?_
  refine z_gI zf_RX7_92 dX7_isPermuting_6 (fun x4 => ?_)
  refine z_icmp_ne 16 (by decide) dX7_isPermuting_9 ?_ ?_
  · refine z_iconst (v := 1) (by decide) dX7_isPermuting_12 ?_
    refine z_goto 17 (by decide) dX7_isPermuting_13 ?_
    exact z_zret rfl dX7_isPermuting_17
  · refine z_iconst (v := 0) (by decide) dX7_isPermuting_16 ?_
    exact z_zret rfl dX7_isPermuting_17
def fX7_back_59 : Nat → Nat → Int32 → Int32 → AH → RR
  | 0, _, _, _, _ => none
  | k + 1, l0, l1, l2, h =>
  (zgI h l0 7 15).bind fun x1 =>
  if x1 ≤ l2 then (
    zcv (zob h l0 7) (fX7_comes l0 h) fun v2 h3 =>
    zvi v2 fun x4 =>
    some (.inl (some (.int x4)), h3))
  else
  (zgR h l0 7 24).bind fun x5 =>
  zcv (zob h l0 7) (fX7_of l0 l1 l2 h) fun v6 h7 =>
  zvi v6 fun x8 =>
  (zsi h7 x5 x8 l2).bind fun h9 =>
  fX7_back_59 k l0 l1 (l2 + 1) h9
set_option maxRecDepth 20000 in
theorem rX7_back_59 {X : CT} {V : VT} {d n0 k0 : Nat} (hV : V.2.2.2.2.2.stackTraces = false) (fu : Nat) : ∀ (l0 : Nat) (l1 : Int32) (l2 : Int32) (h : AH), zG X V RX7 "back" cX7_back 3 (some .int) (d + 6) n0 k0 (fX7_back_59 fu l0 l1 l2 h) 59 [(0, .ref l0), (1, .int l1), (2, .int l2)] [] h := by
  induction fu with
  | zero => intros; exact z_none
  | succ k ih =>
    intro l0 l1 l2 h
    rw [fX7_back_59]
    refine z_iload_n 2 rfl rfl dX7_back_59 ?_
    refine z_aload_n 0 rfl rfl dX7_back_60 ?_
    refine z_gI zf_RX7_92 dX7_back_61 (fun x1 => ?_)
    refine z_icmp_ge 85 (by decide) dX7_back_64 ?_ ?_
    · refine z_aload_n 0 rfl rfl dX7_back_85 ?_
      refine z_cV (st := []) [] zk_RX7_252 rfl (Nat.le_of_ble_eq_true rfl) dX7_back_86 (mX7_comes hV (d + 2) l0 h) (fun v2 h3 => ?_)
      refine z_vi (fun x4 => ?_)
      exact z_iret rfl dX7_back_89
    · refine z_aload_n 0 rfl rfl dX7_back_67 ?_
      refine z_gR zf_RX7_46 dX7_back_68 (fun x5 => ?_)
      refine z_aload_n 0 rfl rfl dX7_back_71 ?_
      refine z_iload_n 1 rfl rfl dX7_back_72 ?_
      refine z_iload_n 2 rfl rfl dX7_back_73 ?_
      refine z_cV (st := [.ref x5]) [.int l1, .int l2] zk_RX7_237 rfl (Nat.le_of_ble_eq_true rfl) dX7_back_74 (mX7_of hV (d + 4) l0 l1 l2 h) (fun v6 h7 => ?_)
      refine z_vi (fun x8 => ?_)
      refine z_iload_n 2 rfl rfl dX7_back_77 ?_
      refine z_sI dX7_back_78 (fun h9 => ?_)
      refine z_inc (w := 1) (lv' := [(2, .int (l2 + 1)), (0, .ref l0), (1, .int l1)]) 2 rfl (by decide) (by decide) rfl dX7_back_79 ?_
      refine z_goto 59 (by decide) dX7_back_82 ?_
      exact z_sub [1, 2, 0] rfl (ih l0 l1 (l2 + 1) h9)
def fX7_back_47 (l0 : Nat) (l1 : Int32) (s0 : Int32) (s1 : Nat) (h : AH) : RR :=
  zcv (zob h s1 7) (fX7_bad s1 s0 2 2 h) fun v1 h2 =>
  zvi v1 fun x3 =>
  if x3 = 0 then (
    fX7_back_59 FU l0 l1 0 h2)
  else
  some (.inl (some (.int 0)), h2)
set_option maxRecDepth 20000 in
theorem rX7_back_47 {X : CT} {V : VT} {d n0 k0 : Nat} (hV : V.2.2.2.2.2.stackTraces = false) (l0 : Nat) (l1 : Int32) (s0 : Int32) (s1 : Nat) (h : AH) : zG X V RX7 "back" cX7_back 3 (some .int) (d + 6) n0 k0 (fX7_back_47 l0 l1 s0 s1 h) 47 [(0, .ref l0), (1, .int l1)] [.int s0, .ref s1] h := by
  unfold fX7_back_47
  refine z_iconst (v := 2) (by decide) dX7_back_47 ?_
  refine z_iconst (v := 2) (by decide) dX7_back_48 ?_
  refine z_cV (st := []) [.int s0, .int 2, .int 2] zk_RX7_215 rfl (Nat.le_of_ble_eq_true rfl) dX7_back_49 (mX7_bad hV (d + 4) s1 s0 2 2 h) (fun v1 h2 => ?_)
  refine z_vi (fun x3 => ?_)
  refine z_if_eq 57 (by decide) dX7_back_52 ?_ ?_
  · refine z_iconst (v := 0) (by decide) dX7_back_57 ?_
    refine z_istore_n (lv' := [(2, .int 0), (0, .ref l0), (1, .int l1)]) rfl (by decide) rfl dX7_back_58 ?_
    exact z_sub [1, 2, 0] rfl (rX7_back_59 hV FU l0 l1 0 h2)
  · refine z_iconst (v := 0) (by decide) dX7_back_55 ?_
    exact z_iret rfl dX7_back_56
def fX7_back_42 (l0 : Nat) (l1 : Int32) (s0 : Nat) (h : AH) : RR :=
  fX7_back_47 l0 l1 1 s0 h
set_option maxRecDepth 20000 in
theorem rX7_back_42 {X : CT} {V : VT} {d n0 k0 : Nat} (hV : V.2.2.2.2.2.stackTraces = false) (l0 : Nat) (l1 : Int32) (s0 : Nat) (h : AH) : zG X V RX7 "back" cX7_back 3 (some .int) (d + 6) n0 k0 (fX7_back_42 l0 l1 s0 h) 42 [(0, .ref l0), (1, .int l1)] [.ref s0] h := by
  unfold fX7_back_42
  refine z_iconst (v := 1) (by decide) dX7_back_42 ?_
  refine z_goto 47 (by decide) dX7_back_43 ?_
  exact z_sub [0, 1] rfl (rX7_back_47 hV l0 l1 1 s0 h)
def fX7_back_18 (l0 : Nat) (l1 : Int32) (s0 : Int32) (s1 : Nat) (h : AH) : RR :=
  zcv (zob h s1 7) (fX7_bad s1 s0 1 0 h) fun v1 h2 =>
  zvi v1 fun x3 =>
  if x3 = 0 then (
    zcv (zob h2 l0 7) (fX7_isFull l0 h2) fun v4 h5 =>
    zvi v4 fun x6 =>
    if x6 = 0 then (
      zcv (zob h5 l0 7) (fX7_isPermuting l0 l1 h5) fun v7 h8 =>
      zvi v7 fun x9 =>
      if x9 = 0 then (
        fX7_back_42 l0 l1 l0 h8)
      else
      fX7_back_47 l0 l1 0 l0 h8)
    else
    fX7_back_42 l0 l1 l0 h5)
  else
  some (.inl (some (.int 0)), h2)
set_option maxRecDepth 20000 in
theorem rX7_back_18 {X : CT} {V : VT} {d n0 k0 : Nat} (hV : V.2.2.2.2.2.stackTraces = false) (l0 : Nat) (l1 : Int32) (s0 : Int32) (s1 : Nat) (h : AH) : zG X V RX7 "back" cX7_back 3 (some .int) (d + 6) n0 k0 (fX7_back_18 l0 l1 s0 s1 h) 18 [(0, .ref l0), (1, .int l1)] [.int s0, .ref s1] h := by
  unfold fX7_back_18
  refine z_iconst (v := 1) (by decide) dX7_back_18 ?_
  refine z_iconst (v := 0) (by decide) dX7_back_19 ?_
  refine z_cV (st := []) [.int s0, .int 1, .int 0] zk_RX7_215 rfl (Nat.le_of_ble_eq_true rfl) dX7_back_20 (mX7_bad hV (d + 4) s1 s0 1 0 h) (fun v1 h2 => ?_)
  refine z_vi (fun x3 => ?_)
  refine z_if_ne 55 (by decide) dX7_back_23 ?_ ?_
  · refine z_aload_n 0 rfl rfl dX7_back_26 ?_
    refine z_aload_n 0 rfl rfl dX7_back_27 ?_
    refine z_cV (st := [.ref l0]) [] zk_RX7_249 rfl (Nat.le_of_ble_eq_true rfl) dX7_back_28 (mX7_isFull hV (d + 4) l0 h2) (fun v4 h5 => ?_)
    refine z_vi (fun x6 => ?_)
    refine z_if_ne 42 (by decide) dX7_back_31 ?_ ?_
    · refine z_aload_n 0 rfl rfl dX7_back_34 ?_
      refine z_iload_n 1 rfl rfl dX7_back_35 ?_
      refine z_cV (st := [.ref l0]) [.int l1] zk_RX7_266 rfl (Nat.le_of_ble_eq_true rfl) dX7_back_36 (mX7_isPermuting hV (d + 1) l0 l1 h5) (fun v7 h8 => ?_)
      refine z_vi (fun x9 => ?_)
      refine z_if_ne 46 (by decide) dX7_back_39 ?_ ?_
      · exact z_sub [0, 1] rfl (rX7_back_42 hV l0 l1 l0 h8)
      · refine z_iconst (v := 0) (by decide) dX7_back_46 ?_
        exact z_sub [0, 1] rfl (rX7_back_47 hV l0 l1 0 l0 h8)
    · exact z_sub [0, 1] rfl (rX7_back_42 hV l0 l1 l0 h5)
  · refine z_iconst (v := 0) (by decide) dX7_back_55 ?_
    exact z_iret rfl dX7_back_56
def fX7_back (a0 : Nat) (a1 : Int32) (h : AH) : RR :=
  zcv (zob h a0 7) (fX7_begins a0 h) fun v1 h2 =>
  zvn v1 <|
  zcv (zob h2 a0 7) (fX7_isPoly a0 a1 h2) fun v3 h4 =>
  zvi v3 fun x5 =>
  if x5 = 0 then (
    fX7_back_18 a0 a1 1 a0 h4)
  else
  fX7_back_18 a0 a1 0 a0 h4
set_option maxRecDepth 20000 in
theorem mX7_back {V : VT} (hV : V.2.2.2.2.2.stackTraces = false) (d : Nat) (a0 : Nat) (a1 : Int32) (h : AH) : zM V yX7_back cX7_back 3 (some .int) (d + 6) [.ref a0, .int a1] h (fX7_back a0 a1 h) := by
  refine z_meth hV (by decide +kernel) (Nat.le_of_ble_eq_true rfl) [(0, .ref a0), (1, .int a1)] rfl (fun X => ?_)
  show zG X V RX7 "back" cX7_back 3 (some .int) (d + 6) h.1 h.2.1 (fX7_back a0 a1 h) 0 [(0, .ref a0), (1, .int a1)] [] h
  unfold fX7_back
  refine z_aload_n 0 rfl rfl dX7_back_0 ?_
  refine z_cV (st := []) [] zk_RX7_240 rfl (Nat.le_of_ble_eq_true rfl) dX7_back_1 (mX7_begins hV (d + 0) a0 h) (fun v1 h2 => ?_)
  refine z_vn ?_
  refine z_aload_n 0 rfl rfl dX7_back_4 ?_
  refine z_aload_n 0 rfl rfl dX7_back_5 ?_
  refine z_iload_n 1 rfl rfl dX7_back_6 ?_
  refine z_cV (st := [.ref a0]) [.int a1] zk_RX7_243 rfl (Nat.le_of_ble_eq_true rfl) dX7_back_7 (mX7_isPoly hV (d + 3) a0 a1 h2) (fun v3 h4 => ?_)
  refine z_vi (fun x5 => ?_)
  refine z_if_ne 17 (by decide) dX7_back_10 ?_ ?_
  · refine z_iconst (v := 1) (by decide) dX7_back_13 ?_
    refine z_goto 18 (by decide) dX7_back_14 ?_
    exact z_sub [0, 1] rfl (rX7_back_18 hV a0 a1 1 a0 h4)
  · refine z_iconst (v := 0) (by decide) dX7_back_17 ?_
    exact z_sub [0, 1] rfl (rX7_back_18 hV a0 a1 0 a0 h4)
def fX7_drop_56 (K44 : Nat → Int32 → AH → RR) : Nat → Nat → Int32 → Int32 → AH → RR
  | 0, _, _, _, _ => none
  | k + 1, l0, l2, l3, h =>
  (zgI h l0 7 15).bind fun x1 =>
  if x1 ≤ l3 then (
    K44 l0 (l2 + 1) h)
  else
  (zgR h l0 7 9).bind fun x2 =>
  zcv (zob h l0 7) (fX7_of l0 (l2 + 1) l3 h) fun v3 h4 =>
  zvi v3 fun x5 =>
  (zsi h4 x2 (((3 : Int32) + ((64 : Int32) * l2)) + l3) x5).bind fun h6 =>
  fX7_drop_56 K44 k l0 l2 (l3 + 1) h6
set_option maxRecDepth 20000 in
theorem rX7_drop_56 {X : CT} {V : VT} {d n0 k0 : Nat} (hV : V.2.2.2.2.2.stackTraces = false) (K44 : Nat → Int32 → AH → RR) (hK44 : ∀ l0 l2  h, zG X V RX7 "drop" cX7_drop 4 (some .int) (d + 6) n0 k0 (K44 l0 l2 h) 44 [(0, .ref l0), (2, .int l2)] [] h) (fu : Nat) : ∀ (l0 : Nat) (l2 : Int32) (l3 : Int32) (h : AH), zG X V RX7 "drop" cX7_drop 4 (some .int) (d + 6) n0 k0 (fX7_drop_56 K44 fu l0 l2 l3 h) 56 [(0, .ref l0), (2, .int l2), (3, .int l3)] [] h := by
  induction fu with
  | zero => intros; exact z_none
  | succ k ih =>
    intro l0 l2 l3 h
    rw [fX7_drop_56]
    refine z_iload_n 2 rfl rfl dX7_drop_56 ?_
    refine z_aload_n 0 rfl rfl dX7_drop_57 ?_
    refine z_gI zf_RX7_92 dX7_drop_58 (fun x1 => ?_)
    refine z_icmp_ge 91 (by decide) dX7_drop_61 ?_ ?_
    · refine z_inc (w := 1) (lv' := [(2, .int (l2 + 1)), (0, .ref l0), (3, .int l3)]) 1 rfl (by decide) (by decide) rfl dX7_drop_91 ?_
      refine z_goto 44 (by decide) dX7_drop_94 ?_
      exact z_sub [1, 0] rfl (hK44 l0 (l2 + 1) h)
    · refine z_aload_n 0 rfl rfl dX7_drop_64 ?_
      refine z_gR zf_RX7_20 dX7_drop_65 (fun x2 => ?_)
      refine z_iconst (v := 3) (by decide) dX7_drop_68 ?_
      refine z_bipush (v := 64) (by decide) dX7_drop_69 ?_
      refine z_iload_n 1 rfl rfl dX7_drop_71 ?_
      refine z_imul dX7_drop_72 ?_
      refine z_iadd dX7_drop_73 ?_
      refine z_iload_n 2 rfl rfl dX7_drop_74 ?_
      refine z_iadd dX7_drop_75 ?_
      refine z_aload_n 0 rfl rfl dX7_drop_76 ?_
      refine z_iload_n 1 rfl rfl dX7_drop_77 ?_
      refine z_iconst (v := 1) (by decide) dX7_drop_78 ?_
      refine z_iadd dX7_drop_79 ?_
      refine z_iload_n 2 rfl rfl dX7_drop_80 ?_
      refine z_cV (st := [.int (((3 : Int32) + ((64 : Int32) * l2)) + l3), .ref x2]) [.int (l2 + 1), .int l3] zk_RX7_237 rfl (Nat.le_of_ble_eq_true rfl) dX7_drop_81 (mX7_of hV (d + 4) l0 (l2 + 1) l3 h) (fun v3 h4 => ?_)
      refine z_vi (fun x5 => ?_)
      refine z_sI dX7_drop_84 (fun h6 => ?_)
      refine z_inc (w := 1) (lv' := [(3, .int (l3 + 1)), (0, .ref l0), (2, .int l2)]) 2 rfl (by decide) (by decide) rfl dX7_drop_85 ?_
      refine z_goto 56 (by decide) dX7_drop_88 ?_
      exact z_sub [1, 2, 0] rfl (ih l0 l2 (l3 + 1) h6)
def fX7_drop_44 : Nat → Nat → Int32 → AH → RR
  | 0, _, _, _ => none
  | k + 1, l0, l2, h =>
  (zgR h l0 7 9).bind fun x1 =>
  (zai h x1 2).bind fun x2 =>
  if x2 ≤ l2 then (
    (zgR h l0 7 9).bind fun x3 =>
    (zai h x3 2).bind fun x4 =>
    some (.inl (some (.int x4)), h))
  else
  fX7_drop_56 (fun p0 p2 h => fX7_drop_44 k p0 p2 h) FU l0 l2 0 h
set_option maxRecDepth 20000 in
theorem rX7_drop_44 {X : CT} {V : VT} {d n0 k0 : Nat} (hV : V.2.2.2.2.2.stackTraces = false) (fu : Nat) : ∀ (l0 : Nat) (l2 : Int32) (h : AH), zG X V RX7 "drop" cX7_drop 4 (some .int) (d + 6) n0 k0 (fX7_drop_44 fu l0 l2 h) 44 [(0, .ref l0), (2, .int l2)] [] h := by
  induction fu with
  | zero => intros; exact z_none
  | succ k ih =>
    intro l0 l2 h
    rw [fX7_drop_44]
    refine z_iload_n 1 rfl rfl dX7_drop_44 ?_
    refine z_aload_n 0 rfl rfl dX7_drop_45 ?_
    refine z_gR zf_RX7_20 dX7_drop_46 (fun x1 => ?_)
    refine z_iconst (v := 2) (by decide) dX7_drop_49 ?_
    refine z_aI dX7_drop_50 (fun x2 => ?_)
    refine z_icmp_ge 97 (by decide) dX7_drop_51 ?_ ?_
    · refine z_aload_n 0 rfl rfl dX7_drop_97 ?_
      refine z_gR zf_RX7_20 dX7_drop_98 (fun x3 => ?_)
      refine z_iconst (v := 2) (by decide) dX7_drop_101 ?_
      refine z_aI dX7_drop_102 (fun x4 => ?_)
      exact z_iret rfl dX7_drop_103
    · refine z_iconst (v := 0) (by decide) dX7_drop_54 ?_
      refine z_istore_n (lv' := [(3, .int 0), (0, .ref l0), (2, .int l2)]) rfl (by decide) rfl dX7_drop_55 ?_
      exact z_sub [1, 2, 0] rfl (rX7_drop_56 hV (fun p0 p2 h => fX7_drop_44 k p0 p2 h) ih FU l0 l2 0 h)
def fX7_drop_18 (l0 : Nat) (l1 : Int32) (s0 : Int32) (s1 : Nat) (h : AH) : RR :=
  zcv (zob h s1 7) (fX7_bad s1 s0 1 0 h) fun v1 h2 =>
  zvi v1 fun x3 =>
  if x3 = 0 then (
    zcv (zob h2 l0 7) (fX7_remembers l0 h2) fun v4 h5 =>
    zvn v4 <|
    (zgR h5 l0 7 9).bind fun x6 =>
    (zai h5 x6 2).bind fun x7 =>
    (zsi h5 x6 2 (x7 - 1)).bind fun h8 =>
    fX7_drop_44 FU l0 l1 h8)
  else
  some (.inl (some (.int 0)), h2)
set_option maxRecDepth 20000 in
theorem rX7_drop_18 {X : CT} {V : VT} {d n0 k0 : Nat} (hV : V.2.2.2.2.2.stackTraces = false) (l0 : Nat) (l1 : Int32) (s0 : Int32) (s1 : Nat) (h : AH) : zG X V RX7 "drop" cX7_drop 4 (some .int) (d + 6) n0 k0 (fX7_drop_18 l0 l1 s0 s1 h) 18 [(0, .ref l0), (1, .int l1)] [.int s0, .ref s1] h := by
  unfold fX7_drop_18
  refine z_iconst (v := 1) (by decide) dX7_drop_18 ?_
  refine z_iconst (v := 0) (by decide) dX7_drop_19 ?_
  refine z_cV (st := []) [.int s0, .int 1, .int 0] zk_RX7_215 rfl (Nat.le_of_ble_eq_true rfl) dX7_drop_20 (mX7_bad hV (d + 4) s1 s0 1 0 h) (fun v1 h2 => ?_)
  refine z_vi (fun x3 => ?_)
  refine z_if_eq 28 (by decide) dX7_drop_23 ?_ ?_
  · refine z_aload_n 0 rfl rfl dX7_drop_28 ?_
    refine z_cV (st := []) [] zk_RX7_227 rfl (Nat.le_of_ble_eq_true rfl) dX7_drop_29 (mX7_remembers hV (d + 3) l0 h2) (fun v4 h5 => ?_)
    refine z_vn ?_
    refine z_aload_n 0 rfl rfl dX7_drop_32 ?_
    refine z_gR zf_RX7_20 dX7_drop_33 (fun x6 => ?_)
    refine z_iconst (v := 2) (by decide) dX7_drop_36 ?_
    refine z_dup2 rfl rfl dX7_drop_37 ?_
    refine z_aI dX7_drop_38 (fun x7 => ?_)
    refine z_iconst (v := 1) (by decide) dX7_drop_39 ?_
    refine z_isub dX7_drop_40 ?_
    refine z_sI dX7_drop_41 (fun h8 => ?_)
    refine z_iload_n 1 rfl rfl dX7_drop_42 ?_
    refine z_istore_n (lv' := [(2, .int l1), (0, .ref l0), (1, .int l1)]) rfl (by decide) rfl dX7_drop_43 ?_
    exact z_sub [1, 0] rfl (rX7_drop_44 hV FU l0 l1 h8)
  · refine z_iconst (v := 0) (by decide) dX7_drop_26 ?_
    exact z_iret rfl dX7_drop_27
def fX7_drop (a0 : Nat) (a1 : Int32) (h : AH) : RR :=
  zcv (zob h a0 7) (fX7_begins a0 h) fun v1 h2 =>
  zvn v1 <|
  zcv (zob h2 a0 7) (fX7_isPoly a0 a1 h2) fun v3 h4 =>
  zvi v3 fun x5 =>
  if x5 = 0 then (
    fX7_drop_18 a0 a1 1 a0 h4)
  else
  fX7_drop_18 a0 a1 0 a0 h4
set_option maxRecDepth 20000 in
theorem mX7_drop {V : VT} (hV : V.2.2.2.2.2.stackTraces = false) (d : Nat) (a0 : Nat) (a1 : Int32) (h : AH) : zM V yX7_drop cX7_drop 4 (some .int) (d + 6) [.ref a0, .int a1] h (fX7_drop a0 a1 h) := by
  refine z_meth hV (by decide +kernel) (Nat.le_of_ble_eq_true rfl) [(0, .ref a0), (1, .int a1)] rfl (fun X => ?_)
  show zG X V RX7 "drop" cX7_drop 4 (some .int) (d + 6) h.1 h.2.1 (fX7_drop a0 a1 h) 0 [(0, .ref a0), (1, .int a1)] [] h
  unfold fX7_drop
  refine z_aload_n 0 rfl rfl dX7_drop_0 ?_
  refine z_cV (st := []) [] zk_RX7_240 rfl (Nat.le_of_ble_eq_true rfl) dX7_drop_1 (mX7_begins hV (d + 0) a0 h) (fun v1 h2 => ?_)
  refine z_vn ?_
  refine z_aload_n 0 rfl rfl dX7_drop_4 ?_
  refine z_aload_n 0 rfl rfl dX7_drop_5 ?_
  refine z_iload_n 1 rfl rfl dX7_drop_6 ?_
  refine z_cV (st := [.ref a0]) [.int a1] zk_RX7_243 rfl (Nat.le_of_ble_eq_true rfl) dX7_drop_7 (mX7_isPoly hV (d + 3) a0 a1 h2) (fun v3 h4 => ?_)
  refine z_vi (fun x5 => ?_)
  refine z_if_ne 17 (by decide) dX7_drop_10 ?_ ?_
  · refine z_iconst (v := 1) (by decide) dX7_drop_13 ?_
    refine z_goto 18 (by decide) dX7_drop_14 ?_
    exact z_sub [0, 1] rfl (rX7_drop_18 hV a0 a1 1 a0 h4)
  · refine z_iconst (v := 0) (by decide) dX7_drop_17 ?_
    exact z_sub [0, 1] rfl (rX7_drop_18 hV a0 a1 0 a0 h4)
def fX7_told_22 (l0 : Nat) (l1 : Int32) (s0 : Int32) (s1 : Nat) (h : AH) : RR :=
  zcv (zob h s1 7) (fX7_bad s1 s0 1 1 h) fun v1 h2 =>
  zvi v1 fun x3 =>
  if x3 = 0 then (
    if l1 = 0 then (
      (zgI h2 l0 7 15).bind fun x4 =>
      some (.inl (some (.int x4)), h2))
    else
    if l1 = 1 then (
      (zgI h2 l0 7 13).bind fun x5 =>
      some (.inl (some (.int x5)), h2))
    else
    if l1 = 2 then (
      (zgI h2 l0 7 14).bind fun x6 =>
      some (.inl (some (.int x6)), h2))
    else
    if l1 = 3 then (
      (zgI h2 l0 7 16).bind fun x7 =>
      some (.inl (some (.int x7)), h2))
    else
    if l1 = 4 then (
      (zgR h2 l0 7 9).bind fun x8 =>
      (zai h2 x8 2).bind fun x9 =>
      some (.inl (some (.int x9)), h2))
    else
    if l1 = 5 then (
      (zgI h2 l0 7 2).bind fun x10 =>
      some (.inl (some (.int x10)), h2))
    else
    (zgI h2 l0 7 12).bind fun x11 =>
    some (.inl (some (.int x11)), h2))
  else
  some (.inl (some (.int 0)), h2)
set_option maxRecDepth 20000 in
theorem rX7_told_22 {X : CT} {V : VT} {d n0 k0 : Nat} (hV : V.2.2.2.2.2.stackTraces = false) (l0 : Nat) (l1 : Int32) (s0 : Int32) (s1 : Nat) (h : AH) : zG X V RX7 "told" cX7_told 2 (some .int) (d + 6) n0 k0 (fX7_told_22 l0 l1 s0 s1 h) 22 [(0, .ref l0), (1, .int l1)] [.int s0, .ref s1] h := by
  unfold fX7_told_22
  refine z_iconst (v := 1) (by decide) dX7_told_22 ?_
  refine z_iconst (v := 1) (by decide) dX7_told_23 ?_
  refine z_cV (st := []) [.int s0, .int 1, .int 1] zk_RX7_215 rfl (Nat.le_of_ble_eq_true rfl) dX7_told_24 (mX7_bad hV (d + 4) s1 s0 1 1 h) (fun v1 h2 => ?_)
  refine z_vi (fun x3 => ?_)
  refine z_if_eq 32 (by decide) dX7_told_27 ?_ ?_
  · refine z_iload_n 1 rfl rfl dX7_told_32 ?_
    refine z_if (fun q0 => ?_) (fun q0 => ?_)
    · refine z_tabIn q0 72 (by decide) (by decide) rfl (by decide) dX7_told_33 ?_
      refine z_aload_n 0 rfl rfl dX7_told_72 ?_
      refine z_gI zf_RX7_92 dX7_told_73 (fun x4 => ?_)
      exact z_iret rfl dX7_told_76
    · refine z_if (fun q1 => ?_) (fun q1 => ?_)
      · refine z_tabIn q1 77 (by decide) (by decide) rfl (by decide) dX7_told_33 ?_
        refine z_aload_n 0 rfl rfl dX7_told_77 ?_
        refine z_gI zf_RX7_68 dX7_told_78 (fun x5 => ?_)
        exact z_iret rfl dX7_told_81
      · refine z_if (fun q2 => ?_) (fun q2 => ?_)
        · refine z_tabIn q2 82 (by decide) (by decide) rfl (by decide) dX7_told_33 ?_
          refine z_aload_n 0 rfl rfl dX7_told_82 ?_
          refine z_gI zf_RX7_75 dX7_told_83 (fun x6 => ?_)
          exact z_iret rfl dX7_told_86
        · refine z_if (fun q3 => ?_) (fun q3 => ?_)
          · refine z_tabIn q3 87 (by decide) (by decide) rfl (by decide) dX7_told_33 ?_
            refine z_aload_n 0 rfl rfl dX7_told_87 ?_
            refine z_gI zf_RX7_89 dX7_told_88 (fun x7 => ?_)
            exact z_iret rfl dX7_told_91
          · refine z_if (fun q4 => ?_) (fun q4 => ?_)
            · refine z_tabIn q4 92 (by decide) (by decide) rfl (by decide) dX7_told_33 ?_
              refine z_aload_n 0 rfl rfl dX7_told_92 ?_
              refine z_gR zf_RX7_20 dX7_told_93 (fun x8 => ?_)
              refine z_iconst (v := 2) (by decide) dX7_told_96 ?_
              refine z_aI dX7_told_97 (fun x9 => ?_)
              exact z_iret rfl dX7_told_98
            · refine z_if (fun q5 => ?_) (fun q5 => ?_)
              · refine z_tabIn q5 99 (by decide) (by decide) rfl (by decide) dX7_told_33 ?_
                refine z_aload_n 0 rfl rfl dX7_told_99 ?_
                refine z_gI zf_RX7_61 dX7_told_100 (fun x10 => ?_)
                exact z_iret rfl dX7_told_103
              · refine z_tabOut 104 (by have := lv_neT q0 (show Int32.toInt 0 = 0 from rfl); have := lv_neT q1 (show Int32.toInt 1 = 1 from rfl); have := lv_neT q2 (show Int32.toInt 2 = 2 from rfl); have := lv_neT q3 (show Int32.toInt 3 = 3 from rfl); have := lv_neT q4 (show Int32.toInt 4 = 4 from rfl); have := lv_neT q5 (show Int32.toInt 5 = 5 from rfl); omega) (by decide) dX7_told_33 ?_
                refine z_aload_n 0 rfl rfl dX7_told_104 ?_
                refine z_gI zf_RX7_234 dX7_told_105 (fun x11 => ?_)
                exact z_iret rfl dX7_told_108
  · refine z_iconst (v := 0) (by decide) dX7_told_30 ?_
    exact z_iret rfl dX7_told_31
def fX7_told (a0 : Nat) (a1 : Int32) (h : AH) : RR :=
  zcv (zob h a0 7) (fX7_begins a0 h) fun v1 h2 =>
  zvn v1 <|
  zca (fX7_in a1.toInt64 0 6 h2) fun v3 h4 =>
  zvi v3 fun x5 =>
  if x5 = 0 then (
    fX7_told_22 a0 a1 1 a0 h4)
  else
  fX7_told_22 a0 a1 0 a0 h4
set_option maxRecDepth 20000 in
theorem mX7_told {V : VT} (hV : V.2.2.2.2.2.stackTraces = false) (d : Nat) (a0 : Nat) (a1 : Int32) (h : AH) : zM V yX7_told cX7_told 2 (some .int) (d + 6) [.ref a0, .int a1] h (fX7_told a0 a1 h) := by
  refine z_meth hV (by decide +kernel) (Nat.le_of_ble_eq_true rfl) [(0, .ref a0), (1, .int a1)] rfl (fun X => ?_)
  show zG X V RX7 "told" cX7_told 2 (some .int) (d + 6) h.1 h.2.1 (fX7_told a0 a1 h) 0 [(0, .ref a0), (1, .int a1)] [] h
  unfold fX7_told
  refine z_aload_n 0 rfl rfl dX7_told_0 ?_
  refine z_cV (st := []) [] zk_RX7_240 rfl (Nat.le_of_ble_eq_true rfl) dX7_told_1 (mX7_begins hV (d + 0) a0 h) (fun v1 h2 => ?_)
  refine z_vn ?_
  refine z_aload_n 0 rfl rfl dX7_told_4 ?_
  refine z_iload_n 1 rfl rfl dX7_told_5 ?_
  refine z_i2l dX7_told_6 ?_
  refine z_lconst (v := 0) (by decide) dX7_told_7 ?_
  refine z_ldc2 zw_1259 dX7_told_8 ?_
  refine z_cS (st := [.ref a0]) [.long a1.toInt64, .long 0, .long 6] zk_RX7_154 rfl (Nat.le_of_ble_eq_true rfl) dX7_told_11 (mX7_in hV (d + 4) a1.toInt64 0 6 h2) (fun v3 h4 => ?_)
  refine z_vi (fun x5 => ?_)
  refine z_if_ne 21 (by decide) dX7_told_14 ?_ ?_
  · refine z_iconst (v := 1) (by decide) dX7_told_17 ?_
    refine z_goto 22 (by decide) dX7_told_18 ?_
    exact z_sub [0, 1] rfl (rX7_told_22 hV a0 a1 1 a0 h4)
  · refine z_iconst (v := 0) (by decide) dX7_told_21 ?_
    exact z_sub [0, 1] rfl (rX7_told_22 hV a0 a1 0 a0 h4)
def fX7_points_52 (l0 : Nat) (l1 : Int32) (l2 : Int32) (l3 : Int32) (s0 : Int32) (s1 : Nat) (h : AH) : RR :=
  zcv (zob h s1 7) (fX7_bad s1 s0 2 1 h) fun v1 h2 =>
  zvi v1 fun x3 =>
  if x3 = 0 then (
    if l3 = 0 then (
      (zgR h2 l0 7 17).bind fun x4 =>
      (zar h2 x4 l1).bind fun x5 =>
      (zai h2 x5 l2).bind fun x6 =>
      some (.inl (some (.int x6)), h2))
    else
    if l3 = 1 then (
      zcv (zob h2 l0 7) (fX7_apart l0 l1 l2 h2) fun v7 h8 =>
      zvi v7 fun x9 =>
      some (.inl (some (.int x9)), h8))
    else
    if l3 = 2 then (
      (zgR h2 l0 7 18).bind fun x10 =>
      (zar h2 x10 l1).bind fun x11 =>
      (zai h2 x11 l2).bind fun x12 =>
      some (.inl (some (.int x12)), h2))
    else
    if l2 = 0 then (
      some (.inl (some (.int (-1))), h2))
    else
    (zgR h2 l0 7 18).bind fun x13 =>
    (zar h2 x13 l1).bind fun x14 =>
    (zgR h2 l0 7 20).bind fun x15 =>
    (zai h2 x15 l2).bind fun x16 =>
    (zai h2 x14 x16).bind fun x17 =>
    some (.inl (some (.int x17)), h2))
  else
  some (.inl (some (.int 0)), h2)
set_option maxRecDepth 20000 in
theorem rX7_points_52 {X : CT} {V : VT} {d n0 k0 : Nat} (hV : V.2.2.2.2.2.stackTraces = false) (l0 : Nat) (l1 : Int32) (l2 : Int32) (l3 : Int32) (s0 : Int32) (s1 : Nat) (h : AH) : zG X V RX7 "points" cX7_points 4 (some .int) (d + 6) n0 k0 (fX7_points_52 l0 l1 l2 l3 s0 s1 h) 52 [(0, .ref l0), (1, .int l1), (2, .int l2), (3, .int l3)] [.int s0, .ref s1] h := by
  unfold fX7_points_52
  refine z_iconst (v := 2) (by decide) dX7_points_52 ?_
  refine z_iconst (v := 1) (by decide) dX7_points_53 ?_
  refine z_cV (st := []) [.int s0, .int 2, .int 1] zk_RX7_215 rfl (Nat.le_of_ble_eq_true rfl) dX7_points_54 (mX7_bad hV (d + 4) s1 s0 2 1 h) (fun v1 h2 => ?_)
  refine z_vi (fun x3 => ?_)
  refine z_if_eq 62 (by decide) dX7_points_57 ?_ ?_
  · refine z_iload_n 3 rfl rfl dX7_points_62 ?_
    refine z_if_ne 77 (by decide) dX7_points_63 ?_ ?_
    · refine z_aload_n 0 rfl rfl dX7_points_66 ?_
      refine z_gR zf_RX7_31 dX7_points_67 (fun x4 => ?_)
      refine z_iload_n 1 rfl rfl dX7_points_70 ?_
      refine z_aR dX7_points_71 (fun x5 => ?_)
      refine z_iload_n 2 rfl rfl dX7_points_72 ?_
      refine z_aI dX7_points_73 (fun x6 => ?_)
      refine z_goto 128 (by decide) dX7_points_74 ?_
      exact z_iret rfl dX7_points_128
    · refine z_iload_n 3 rfl rfl dX7_points_77 ?_
      refine z_iconst (v := 1) (by decide) dX7_points_78 ?_
      refine z_icmp_ne 91 (by decide) dX7_points_79 ?_ ?_
      · refine z_aload_n 0 rfl rfl dX7_points_82 ?_
        refine z_iload_n 1 rfl rfl dX7_points_83 ?_
        refine z_iload_n 2 rfl rfl dX7_points_84 ?_
        refine z_cV (st := []) [.int l1, .int l2] zk_RX7_105 rfl (Nat.le_of_ble_eq_true rfl) dX7_points_85 (mX7_apart hV (d + 4) l0 l1 l2 h2) (fun v7 h8 => ?_)
        refine z_vi (fun x9 => ?_)
        refine z_goto 128 (by decide) dX7_points_88 ?_
        exact z_iret rfl dX7_points_128
      · refine z_iload_n 3 rfl rfl dX7_points_91 ?_
        refine z_iconst (v := 2) (by decide) dX7_points_92 ?_
        refine z_icmp_ne 107 (by decide) dX7_points_93 ?_ ?_
        · refine z_aload_n 0 rfl rfl dX7_points_96 ?_
          refine z_gR zf_RX7_34 dX7_points_97 (fun x10 => ?_)
          refine z_iload_n 1 rfl rfl dX7_points_100 ?_
          refine z_aR dX7_points_101 (fun x11 => ?_)
          refine z_iload_n 2 rfl rfl dX7_points_102 ?_
          refine z_aI dX7_points_103 (fun x12 => ?_)
          refine z_goto 128 (by decide) dX7_points_104 ?_
          exact z_iret rfl dX7_points_128
        · refine z_iload_n 2 rfl rfl dX7_points_107 ?_
          refine z_if_ne 115 (by decide) dX7_points_108 ?_ ?_
          · refine z_iconst (v := (-1)) (by decide) dX7_points_111 ?_
            refine z_goto 128 (by decide) dX7_points_112 ?_
            exact z_iret rfl dX7_points_128
          · refine z_aload_n 0 rfl rfl dX7_points_115 ?_
            refine z_gR zf_RX7_34 dX7_points_116 (fun x13 => ?_)
            refine z_iload_n 1 rfl rfl dX7_points_119 ?_
            refine z_aR dX7_points_120 (fun x14 => ?_)
            refine z_aload_n 0 rfl rfl dX7_points_121 ?_
            refine z_gR zf_RX7_40 dX7_points_122 (fun x15 => ?_)
            refine z_iload_n 2 rfl rfl dX7_points_125 ?_
            refine z_aI dX7_points_126 (fun x16 => ?_)
            refine z_aI dX7_points_127 (fun x17 => ?_)
            exact z_iret rfl dX7_points_128
  · refine z_iconst (v := 0) (by decide) dX7_points_60 ?_
    exact z_iret rfl dX7_points_61
def fX7_points_26 (l0 : Nat) (l1 : Int32) (l2 : Int32) (l3 : Int32) (s0 : Int32) (s1 : Nat) (h : AH) : RR :=
  zcv (zob h s1 7) (fX7_bad s1 s0 1 0 h) fun v1 h2 =>
  zvi v1 fun x3 =>
  if x3 = 0 then (
    zca (fX7_in l3.toInt64 0 3 h2) fun v4 h5 =>
    zvi v4 fun x6 =>
    if x6 = 0 then (
      fX7_points_52 l0 l1 l2 l3 1 l0 h5)
    else
    fX7_points_52 l0 l1 l2 l3 0 l0 h5)
  else
  some (.inl (some (.int 0)), h2)
set_option maxRecDepth 20000 in
theorem rX7_points_26 {X : CT} {V : VT} {d n0 k0 : Nat} (hV : V.2.2.2.2.2.stackTraces = false) (l0 : Nat) (l1 : Int32) (l2 : Int32) (l3 : Int32) (s0 : Int32) (s1 : Nat) (h : AH) : zG X V RX7 "points" cX7_points 4 (some .int) (d + 6) n0 k0 (fX7_points_26 l0 l1 l2 l3 s0 s1 h) 26 [(0, .ref l0), (1, .int l1), (2, .int l2), (3, .int l3)] [.int s0, .ref s1] h := by
  unfold fX7_points_26
  refine z_iconst (v := 1) (by decide) dX7_points_26 ?_
  refine z_iconst (v := 0) (by decide) dX7_points_27 ?_
  refine z_cV (st := []) [.int s0, .int 1, .int 0] zk_RX7_215 rfl (Nat.le_of_ble_eq_true rfl) dX7_points_28 (mX7_bad hV (d + 4) s1 s0 1 0 h) (fun v1 h2 => ?_)
  refine z_vi (fun x3 => ?_)
  refine z_if_ne 60 (by decide) dX7_points_31 ?_ ?_
  · refine z_aload_n 0 rfl rfl dX7_points_34 ?_
    refine z_iload_n 3 rfl rfl dX7_points_35 ?_
    refine z_i2l dX7_points_36 ?_
    refine z_lconst (v := 0) (by decide) dX7_points_37 ?_
    refine z_ldc2 zw_1264 dX7_points_38 ?_
    refine z_cS (st := [.ref l0]) [.long l3.toInt64, .long 0, .long 3] zk_RX7_154 rfl (Nat.le_of_ble_eq_true rfl) dX7_points_41 (mX7_in hV (d + 4) l3.toInt64 0 3 h2) (fun v4 h5 => ?_)
    refine z_vi (fun x6 => ?_)
    refine z_if_ne 51 (by decide) dX7_points_44 ?_ ?_
    · refine z_iconst (v := 1) (by decide) dX7_points_47 ?_
      refine z_goto 52 (by decide) dX7_points_48 ?_
      exact z_sub [0, 1, 2, 3] rfl (rX7_points_52 hV l0 l1 l2 l3 1 l0 h5)
    · refine z_iconst (v := 0) (by decide) dX7_points_51 ?_
      exact z_sub [0, 1, 2, 3] rfl (rX7_points_52 hV l0 l1 l2 l3 0 l0 h5)
  · refine z_iconst (v := 0) (by decide) dX7_points_60 ?_
    exact z_iret rfl dX7_points_61
def fX7_points_21 (l0 : Nat) (l1 : Int32) (l2 : Int32) (l3 : Int32) (s0 : Nat) (h : AH) : RR :=
  fX7_points_26 l0 l1 l2 l3 1 s0 h
set_option maxRecDepth 20000 in
theorem rX7_points_21 {X : CT} {V : VT} {d n0 k0 : Nat} (hV : V.2.2.2.2.2.stackTraces = false) (l0 : Nat) (l1 : Int32) (l2 : Int32) (l3 : Int32) (s0 : Nat) (h : AH) : zG X V RX7 "points" cX7_points 4 (some .int) (d + 6) n0 k0 (fX7_points_21 l0 l1 l2 l3 s0 h) 21 [(0, .ref l0), (1, .int l1), (2, .int l2), (3, .int l3)] [.ref s0] h := by
  unfold fX7_points_21
  refine z_iconst (v := 1) (by decide) dX7_points_21 ?_
  refine z_goto 26 (by decide) dX7_points_22 ?_
  exact z_sub [0, 1, 2, 3] rfl (rX7_points_26 hV l0 l1 l2 l3 1 s0 h)
def fX7_points (a0 : Nat) (a1 : Int32) (a2 : Int32) (a3 : Int32) (h : AH) : RR :=
  zcv (zob h a0 7) (fX7_begins a0 h) fun v1 h2 =>
  zvn v1 <|
  zcv (zob h2 a0 7) (fX7_isPoint a0 a1 h2) fun v3 h4 =>
  zvi v3 fun x5 =>
  if x5 = 0 then (
    fX7_points_21 a0 a1 a2 a3 a0 h4)
  else
  zcv (zob h4 a0 7) (fX7_isPoint a0 a2 h4) fun v6 h7 =>
  zvi v6 fun x8 =>
  if x8 = 0 then (
    fX7_points_21 a0 a1 a2 a3 a0 h7)
  else
  fX7_points_26 a0 a1 a2 a3 0 a0 h7
set_option maxRecDepth 20000 in
theorem mX7_points {V : VT} (hV : V.2.2.2.2.2.stackTraces = false) (d : Nat) (a0 : Nat) (a1 : Int32) (a2 : Int32) (a3 : Int32) (h : AH) : zM V yX7_points cX7_points 4 (some .int) (d + 6) [.ref a0, .int a1, .int a2, .int a3] h (fX7_points a0 a1 a2 a3 h) := by
  refine z_meth hV (by decide +kernel) (Nat.le_of_ble_eq_true rfl) [(0, .ref a0), (1, .int a1), (2, .int a2), (3, .int a3)] rfl (fun X => ?_)
  show zG X V RX7 "points" cX7_points 4 (some .int) (d + 6) h.1 h.2.1 (fX7_points a0 a1 a2 a3 h) 0 [(0, .ref a0), (1, .int a1), (2, .int a2), (3, .int a3)] [] h
  unfold fX7_points
  refine z_aload_n 0 rfl rfl dX7_points_0 ?_
  refine z_cV (st := []) [] zk_RX7_240 rfl (Nat.le_of_ble_eq_true rfl) dX7_points_1 (mX7_begins hV (d + 0) a0 h) (fun v1 h2 => ?_)
  refine z_vn ?_
  refine z_aload_n 0 rfl rfl dX7_points_4 ?_
  refine z_aload_n 0 rfl rfl dX7_points_5 ?_
  refine z_iload_n 1 rfl rfl dX7_points_6 ?_
  refine z_cV (st := [.ref a0]) [.int a1] zk_RX7_246 rfl (Nat.le_of_ble_eq_true rfl) dX7_points_7 (mX7_isPoint hV (d + 3) a0 a1 h2) (fun v3 h4 => ?_)
  refine z_vi (fun x5 => ?_)
  refine z_if_eq 21 (by decide) dX7_points_10 ?_ ?_
  · exact z_sub [0, 1, 2, 3] rfl (rX7_points_21 hV a0 a1 a2 a3 a0 h4)
  · refine z_aload_n 0 rfl rfl dX7_points_13 ?_
    refine z_iload_n 2 rfl rfl dX7_points_14 ?_
    refine z_cV (st := [.ref a0]) [.int a2] zk_RX7_246 rfl (Nat.le_of_ble_eq_true rfl) dX7_points_15 (mX7_isPoint hV (d + 3) a0 a2 h4) (fun v6 h7 => ?_)
    refine z_vi (fun x8 => ?_)
    refine z_if_ne 25 (by decide) dX7_points_18 ?_ ?_
    · exact z_sub [0, 1, 2, 3] rfl (rX7_points_21 hV a0 a1 a2 a3 a0 h7)
    · refine z_iconst (v := 0) (by decide) dX7_points_25 ?_
      exact z_sub [0, 1, 2, 3] rfl (rX7_points_26 hV a0 a1 a2 a3 0 a0 h7)
def fX7_at_26 (l0 : Nat) (l1 : Int32) (l2 : Int32) (s0 : Int32) (s1 : Nat) (h : AH) : RR :=
  zcv (zob h s1 7) (fX7_bad s1 s0 1 0 h) fun v1 h2 =>
  zvi v1 fun x3 =>
  if x3 = 0 then (
    zcv (zob h2 l0 7) (fX7_of l0 l1 l2 h2) fun v4 h5 =>
    zvi v4 fun x6 =>
    some (.inl (some (.int x6)), h5))
  else
  some (.inl (some (.int 0)), h2)
set_option maxRecDepth 20000 in
theorem rX7_at_26 {X : CT} {V : VT} {d n0 k0 : Nat} (hV : V.2.2.2.2.2.stackTraces = false) (l0 : Nat) (l1 : Int32) (l2 : Int32) (s0 : Int32) (s1 : Nat) (h : AH) : zG X V RX7 "at" cX7_at 3 (some .int) (d + 6) n0 k0 (fX7_at_26 l0 l1 l2 s0 s1 h) 26 [(0, .ref l0), (1, .int l1), (2, .int l2)] [.int s0, .ref s1] h := by
  unfold fX7_at_26
  refine z_iconst (v := 1) (by decide) dX7_at_26 ?_
  refine z_iconst (v := 0) (by decide) dX7_at_27 ?_
  refine z_cV (st := []) [.int s0, .int 1, .int 0] zk_RX7_215 rfl (Nat.le_of_ble_eq_true rfl) dX7_at_28 (mX7_bad hV (d + 4) s1 s0 1 0 h) (fun v1 h2 => ?_)
  refine z_vi (fun x3 => ?_)
  refine z_if_eq 38 (by decide) dX7_at_31 ?_ ?_
  · refine z_aload_n 0 rfl rfl dX7_at_38 ?_
    refine z_iload_n 1 rfl rfl dX7_at_39 ?_
    refine z_iload_n 2 rfl rfl dX7_at_40 ?_
    refine z_cV (st := []) [.int l1, .int l2] zk_RX7_237 rfl (Nat.le_of_ble_eq_true rfl) dX7_at_41 (mX7_of hV (d + 4) l0 l1 l2 h2) (fun v4 h5 => ?_)
    refine z_vi (fun x6 => ?_)
    exact z_iret rfl dX7_at_44
  · refine z_iconst (v := 0) (by decide) dX7_at_34 ?_
    refine z_goto 44 (by decide) dX7_at_35 ?_
    exact z_iret rfl dX7_at_44
def fX7_at_21 (l0 : Nat) (l1 : Int32) (l2 : Int32) (s0 : Nat) (h : AH) : RR :=
  fX7_at_26 l0 l1 l2 1 s0 h
set_option maxRecDepth 20000 in
theorem rX7_at_21 {X : CT} {V : VT} {d n0 k0 : Nat} (hV : V.2.2.2.2.2.stackTraces = false) (l0 : Nat) (l1 : Int32) (l2 : Int32) (s0 : Nat) (h : AH) : zG X V RX7 "at" cX7_at 3 (some .int) (d + 6) n0 k0 (fX7_at_21 l0 l1 l2 s0 h) 21 [(0, .ref l0), (1, .int l1), (2, .int l2)] [.ref s0] h := by
  unfold fX7_at_21
  refine z_iconst (v := 1) (by decide) dX7_at_21 ?_
  refine z_goto 26 (by decide) dX7_at_22 ?_
  exact z_sub [0, 1, 2] rfl (rX7_at_26 hV l0 l1 l2 1 s0 h)
def fX7_at (a0 : Nat) (a1 : Int32) (a2 : Int32) (h : AH) : RR :=
  zcv (zob h a0 7) (fX7_begins a0 h) fun v1 h2 =>
  zvn v1 <|
  zcv (zob h2 a0 7) (fX7_isPoly a0 a1 h2) fun v3 h4 =>
  zvi v3 fun x5 =>
  if x5 = 0 then (
    fX7_at_21 a0 a1 a2 a0 h4)
  else
  zcv (zob h4 a0 7) (fX7_isPoint a0 a2 h4) fun v6 h7 =>
  zvi v6 fun x8 =>
  if x8 = 0 then (
    fX7_at_21 a0 a1 a2 a0 h7)
  else
  fX7_at_26 a0 a1 a2 0 a0 h7
set_option maxRecDepth 20000 in
theorem mX7_at {V : VT} (hV : V.2.2.2.2.2.stackTraces = false) (d : Nat) (a0 : Nat) (a1 : Int32) (a2 : Int32) (h : AH) : zM V yX7_at cX7_at 3 (some .int) (d + 6) [.ref a0, .int a1, .int a2] h (fX7_at a0 a1 a2 h) := by
  refine z_meth hV (by decide +kernel) (Nat.le_of_ble_eq_true rfl) [(0, .ref a0), (1, .int a1), (2, .int a2)] rfl (fun X => ?_)
  show zG X V RX7 "at" cX7_at 3 (some .int) (d + 6) h.1 h.2.1 (fX7_at a0 a1 a2 h) 0 [(0, .ref a0), (1, .int a1), (2, .int a2)] [] h
  unfold fX7_at
  refine z_aload_n 0 rfl rfl dX7_at_0 ?_
  refine z_cV (st := []) [] zk_RX7_240 rfl (Nat.le_of_ble_eq_true rfl) dX7_at_1 (mX7_begins hV (d + 0) a0 h) (fun v1 h2 => ?_)
  refine z_vn ?_
  refine z_aload_n 0 rfl rfl dX7_at_4 ?_
  refine z_aload_n 0 rfl rfl dX7_at_5 ?_
  refine z_iload_n 1 rfl rfl dX7_at_6 ?_
  refine z_cV (st := [.ref a0]) [.int a1] zk_RX7_243 rfl (Nat.le_of_ble_eq_true rfl) dX7_at_7 (mX7_isPoly hV (d + 3) a0 a1 h2) (fun v3 h4 => ?_)
  refine z_vi (fun x5 => ?_)
  refine z_if_eq 21 (by decide) dX7_at_10 ?_ ?_
  · exact z_sub [0, 1, 2] rfl (rX7_at_21 hV a0 a1 a2 a0 h4)
  · refine z_aload_n 0 rfl rfl dX7_at_13 ?_
    refine z_iload_n 2 rfl rfl dX7_at_14 ?_
    refine z_cV (st := [.ref a0]) [.int a2] zk_RX7_246 rfl (Nat.le_of_ble_eq_true rfl) dX7_at_15 (mX7_isPoint hV (d + 3) a0 a2 h4) (fun v6 h7 => ?_)
    refine z_vi (fun x8 => ?_)
    refine z_if_ne 25 (by decide) dX7_at_18 ?_ ?_
    · exact z_sub [0, 1, 2] rfl (rX7_at_21 hV a0 a1 a2 a0 h7)
    · refine z_iconst (v := 0) (by decide) dX7_at_25 ?_
      exact z_sub [0, 1, 2] rfl (rX7_at_26 hV a0 a1 a2 0 a0 h7)
