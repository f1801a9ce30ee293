/-! printed by a program of ours (wip/whole/drive.py) out of the code -/
def fX7_coefficientOf_15 : Nat → Nat → Int32 → Int32 → Int32 → AH → RR
  | 0, _, _, _, _, _ => none
  | k + 1, l0, l1, l2, l3, h =>
  (zgI h l0 7 15).bind fun x1 =>
  if x1 ≤ l3 then (
    (zgR h l0 7 19).bind fun x2 =>
    (zai h x2 l2).bind fun x3 =>
    some (.inl (some (.int x3)), h))
  else
  (zgR h l0 7 17).bind fun x4 =>
  (zar h x4 l2).bind fun x5 =>
  (zgR h l0 7 18).bind fun x6 =>
  (zgR h l0 7 24).bind fun x7 =>
  (zai h x7 l3).bind fun x8 =>
  (zar h x6 x8).bind fun x9 =>
  (zgI h l0 7 15).bind fun x10 =>
  zcv (zob h l0 7) (fX7_raisedPoint l0 l3 ((x10 - 1) - l1) h) fun v11 h12 =>
  zvi v11 fun x13 =>
  (zai h12 x9 x13).bind fun x14 =>
  (zai h12 x5 x14).bind fun x15 =>
  fX7_coefficientOf_15 k l0 l1 x15 (l3 + 1) h12
set_option maxRecDepth 20000 in
theorem rX7_coefficientOf_15 {X : CT} {V : VT} {d n0 k0 : Nat} (hV : V.2.2.2.2.2.stackTraces = false) (fu : Nat) : ∀ (l0 : Nat) (l1 : Int32) (l2 : Int32) (l3 : Int32) (h : AH), zG X V RX7 "coefficientOf" cX7_coefficientOf 4 (some .int) (d + 2) n0 k0 (fX7_coefficientOf_15 fu l0 l1 l2 l3 h) 15 [(0, .ref l0), (1, .int l1), (2, .int l2), (3, .int l3)] [] h := by
  induction fu with
  | zero => intros; exact z_none
  | succ k ih =>
    intro l0 l1 l2 l3 h
    rw [fX7_coefficientOf_15]
    refine z_iload_n 3 rfl rfl dX7_coefficientOf_15 ?_
    refine z_aload_n 0 rfl rfl dX7_coefficientOf_16 ?_
    refine z_gI zf_RX7_92 dX7_coefficientOf_17 (fun x1 => ?_)
    refine z_icmp_ge 62 (by decide) dX7_coefficientOf_20 ?_ ?_
    · refine z_aload_n 0 rfl rfl dX7_coefficientOf_62 ?_
      refine z_gR zf_RX7_37 dX7_coefficientOf_63 (fun x2 => ?_)
      refine z_iload_n 2 rfl rfl dX7_coefficientOf_66 ?_
      refine z_aI dX7_coefficientOf_67 (fun x3 => ?_)
      exact z_iret rfl dX7_coefficientOf_68
    · refine z_aload_n 0 rfl rfl dX7_coefficientOf_23 ?_
      refine z_gR zf_RX7_31 dX7_coefficientOf_24 (fun x4 => ?_)
      refine z_iload_n 2 rfl rfl dX7_coefficientOf_27 ?_
      refine z_aR dX7_coefficientOf_28 (fun x5 => ?_)
      refine z_aload_n 0 rfl rfl dX7_coefficientOf_29 ?_
      refine z_gR zf_RX7_34 dX7_coefficientOf_30 (fun x6 => ?_)
      refine z_aload_n 0 rfl rfl dX7_coefficientOf_33 ?_
      refine z_gR zf_RX7_46 dX7_coefficientOf_34 (fun x7 => ?_)
      refine z_iload_n 3 rfl rfl dX7_coefficientOf_37 ?_
      refine z_aI dX7_coefficientOf_38 (fun x8 => ?_)
      refine z_aR dX7_coefficientOf_39 (fun x9 => ?_)
      refine z_aload_n 0 rfl rfl dX7_coefficientOf_40 ?_
      refine z_iload_n 3 rfl rfl dX7_coefficientOf_41 ?_
      refine z_aload_n 0 rfl rfl dX7_coefficientOf_42 ?_
      refine z_gI zf_RX7_92 dX7_coefficientOf_43 (fun x10 => ?_)
      refine z_iconst (v := 1) (by decide) dX7_coefficientOf_46 ?_
      refine z_isub dX7_coefficientOf_47 ?_
      refine z_iload_n 1 rfl rfl dX7_coefficientOf_48 ?_
      refine z_isub dX7_coefficientOf_49 ?_
      refine z_cV (st := [.ref x9, .ref x5]) [.int l3, .int ((x10 - 1) - l1)] zk_RX7_197 rfl (Nat.le_of_ble_eq_true rfl) dX7_coefficientOf_50 (mX7_raisedPoint hV (d + 0) l0 l3 ((x10 - 1) - l1) h) (fun v11 h12 => ?_)
      refine z_vi (fun x13 => ?_)
      refine z_aI dX7_coefficientOf_53 (fun x14 => ?_)
      refine z_aI dX7_coefficientOf_54 (fun x15 => ?_)
      refine z_istore_n (lv' := [(2, .int x15), (0, .ref l0), (1, .int l1), (3, .int l3)]) rfl (by decide) rfl dX7_coefficientOf_55 ?_
      refine z_inc (w := 1) (lv' := [(3, .int (l3 + 1)), (2, .int x15), (0, .ref l0), (1, .int l1)]) 3 rfl (by decide) (by decide) rfl dX7_coefficientOf_56 ?_
      refine z_goto 15 (by decide) dX7_coefficientOf_59 ?_
      exact z_sub [2, 3, 1, 0] rfl (ih l0 l1 x15 (l3 + 1) h12)
def fX7_coefficientOf (a0 : Nat) (a1 : Int32) (h : AH) : RR :=
  if a1 = 0 then (
    (zgR h a0 7 24).bind fun x1 =>
    (zai h x1 0).bind fun x2 =>
    some (.inl (some (.int x2)), h))
  else
  fX7_coefficientOf_15 FU a0 a1 0 0 h
set_option maxRecDepth 20000 in
theorem mX7_coefficientOf {V : VT} (hV : V.2.2.2.2.2.stackTraces = false) (d : Nat) (a0 : Nat) (a1 : Int32) (h : AH) : zM V yX7_coefficientOf cX7_coefficientOf 4 (some .int) (d + 2) [.ref a0, .int a1] h (fX7_coefficientOf a0 a1 h) := by
  refine z_meth hV (by decide +kernel) (Nat.le_of_ble_eq_true rfl) [(0, .ref a0), (1, .int a1)] rfl (fun X => ?_)
  show zG X V RX7 "coefficientOf" cX7_coefficientOf 4 (some .int) (d + 2) h.1 h.2.1 (fX7_coefficientOf a0 a1 h) 0 [(0, .ref a0), (1, .int a1)] [] h
  unfold fX7_coefficientOf
  refine z_iload_n 1 rfl rfl dX7_coefficientOf_0 ?_
  refine z_if_ne 11 (by decide) dX7_coefficientOf_1 ?_ ?_
  · refine z_aload_n 0 rfl rfl dX7_coefficientOf_4 ?_
    refine z_gR zf_RX7_46 dX7_coefficientOf_5 (fun x1 => ?_)
    refine z_iconst (v := 0) (by decide) dX7_coefficientOf_8 ?_
    refine z_aI dX7_coefficientOf_9 (fun x2 => ?_)
    exact z_iret rfl dX7_coefficientOf_10
  · refine z_iconst (v := 0) (by decide) dX7_coefficientOf_11 ?_
    refine z_istore_n (lv' := [(2, .int 0), (0, .ref a0), (1, .int a1)]) rfl (by decide) rfl dX7_coefficientOf_12 ?_
    refine z_iconst (v := 0) (by decide) dX7_coefficientOf_13 ?_
    refine z_istore_n (lv' := [(3, .int 0), (2, .int 0), (0, .ref a0), (1, .int a1)]) rfl (by decide) rfl dX7_coefficientOf_14 ?_
    exact z_sub [2, 3, 1, 0] rfl (rX7_coefficientOf_15 hV FU a0 a1 0 0 h)
def fX7_coefficient_48 (l0 : Nat) (l1 : Int32) (l2 : Int32) (s0 : Int32) (s1 : Nat) (h : AH) : RR :=
  zcv (zob h s1 7) (fX7_bad s1 s0 2 1 h) fun v1 h2 =>
  zvi v1 fun x3 =>
  if x3 = 0 then (
    zcv (zob h2 l0 7) (fX7_takesValues l0 l1 h2) fun v4 h5 =>
    zvn v4 <|
    zcv (zob h5 l0 7) (fX7_coefficientOf l0 l2 h5) fun v6 h7 =>
    zvi v6 fun x8 =>
    some (.inl (some (.int x8)), h7))
  else
  some (.inl (some (.int 0)), h2)
set_option maxRecDepth 20000 in
theorem rX7_coefficient_48 {X : CT} {V : VT} {d n0 k0 : Nat} (hV : V.2.2.2.2.2.stackTraces = false) (l0 : Nat) (l1 : Int32) (l2 : Int32) (s0 : Int32) (s1 : Nat) (h : AH) : zG X V RX7 "coefficient" cX7_coefficient 3 (some .int) (d + 6) n0 k0 (fX7_coefficient_48 l0 l1 l2 s0 s1 h) 48 [(0, .ref l0), (1, .int l1), (2, .int l2)] [.int s0, .ref s1] h := by
  unfold fX7_coefficient_48
  refine z_iconst (v := 2) (by decide) dX7_coefficient_48 ?_
  refine z_iconst (v := 1) (by decide) dX7_coefficient_49 ?_
  refine z_cV (st := []) [.int s0, .int 2, .int 1] zk_RX7_215 rfl (Nat.le_of_ble_eq_true rfl) dX7_coefficient_50 (mX7_bad hV (d + 4) s1 s0 2 1 h) (fun v1 h2 => ?_)
  refine z_vi (fun x3 => ?_)
  refine z_if_eq 58 (by decide) dX7_coefficient_53 ?_ ?_
  · refine z_aload_n 0 rfl rfl dX7_coefficient_58 ?_
    refine z_iload_n 1 rfl rfl dX7_coefficient_59 ?_
    refine z_cV (st := []) [.int l1] zk_RX7_273 rfl (Nat.le_of_ble_eq_true rfl) dX7_coefficient_60 (mX7_takesValues hV (d + 3) l0 l1 h2) (fun v4 h5 => ?_)
    refine z_vn ?_
    refine z_aload_n 0 rfl rfl dX7_coefficient_63 ?_
    refine z_iload_n 2 rfl rfl dX7_coefficient_64 ?_
    refine z_cV (st := []) [.int l2] zk_RX7_276 rfl (Nat.le_of_ble_eq_true rfl) dX7_coefficient_65 (mX7_coefficientOf hV (d + 3) l0 l2 h5) (fun v6 h7 => ?_)
    refine z_vi (fun x8 => ?_)
    exact z_iret rfl dX7_coefficient_68
  · refine z_iconst (v := 0) (by decide) dX7_coefficient_56 ?_
    exact z_iret rfl dX7_coefficient_57
def fX7_coefficient_18 (l0 : Nat) (l1 : Int32) (l2 : Int32) (s0 : Int32) (s1 : Nat) (h : AH) : RR :=
  zcv (zob h s1 7) (fX7_bad s1 s0 1 0 h) fun v1 h2 =>
  zvi v1 fun x3 =>
  if x3 = 0 then (
    (zgI h2 l0 7 15).bind fun x4 =>
    zca (fX7_in l2.toInt64 0 ((x4 - 1).toInt64) h2) fun v5 h6 =>
    zvi v5 fun x7 =>
    if x7 = 0 then (
      fX7_coefficient_48 l0 l1 l2 1 l0 h6)
    else
    fX7_coefficient_48 l0 l1 l2 0 l0 h6)
  else
  some (.inl (some (.int 0)), h2)
set_option maxRecDepth 20000 in
theorem rX7_coefficient_18 {X : CT} {V : VT} {d n0 k0 : Nat} (hV : V.2.2.2.2.2.stackTraces = false) (l0 : Nat) (l1 : Int32) (l2 : Int32) (s0 : Int32) (s1 : Nat) (h : AH) : zG X V RX7 "coefficient" cX7_coefficient 3 (some .int) (d + 6) n0 k0 (fX7_coefficient_18 l0 l1 l2 s0 s1 h) 18 [(0, .ref l0), (1, .int l1), (2, .int l2)] [.int s0, .ref s1] h := by
  unfold fX7_coefficient_18
  refine z_iconst (v := 1) (by decide) dX7_coefficient_18 ?_
  refine z_iconst (v := 0) (by decide) dX7_coefficient_19 ?_
  refine z_cV (st := []) [.int s0, .int 1, .int 0] zk_RX7_215 rfl (Nat.le_of_ble_eq_true rfl) dX7_coefficient_20 (mX7_bad hV (d + 4) s1 s0 1 0 h) (fun v1 h2 => ?_)
  refine z_vi (fun x3 => ?_)
  refine z_if_ne 56 (by decide) dX7_coefficient_23 ?_ ?_
  · refine z_aload_n 0 rfl rfl dX7_coefficient_26 ?_
    refine z_iload_n 2 rfl rfl dX7_coefficient_27 ?_
    refine z_i2l dX7_coefficient_28 ?_
    refine z_lconst (v := 0) (by decide) dX7_coefficient_29 ?_
    refine z_aload_n 0 rfl rfl dX7_coefficient_30 ?_
    refine z_gI zf_RX7_92 dX7_coefficient_31 (fun x4 => ?_)
    refine z_iconst (v := 1) (by decide) dX7_coefficient_34 ?_
    refine z_isub dX7_coefficient_35 ?_
    refine z_i2l dX7_coefficient_36 ?_
    refine z_cS (st := [.ref l0]) [.long l2.toInt64, .long 0, .long ((x4 - 1).toInt64)] zk_RX7_154 rfl (Nat.le_of_ble_eq_true rfl) dX7_coefficient_37 (mX7_in hV (d + 4) l2.toInt64 0 ((x4 - 1).toInt64) h2) (fun v5 h6 => ?_)
    refine z_vi (fun x7 => ?_)
    refine z_if_ne 47 (by decide) dX7_coefficient_40 ?_ ?_
    · refine z_iconst (v := 1) (by decide) dX7_coefficient_43 ?_
      refine z_goto 48 (by decide) dX7_coefficient_44 ?_
      exact z_sub [0, 1, 2] rfl (rX7_coefficient_48 hV l0 l1 l2 1 l0 h6)
    · refine z_iconst (v := 0) (by decide) dX7_coefficient_47 ?_
      exact z_sub [0, 1, 2] rfl (rX7_coefficient_48 hV l0 l1 l2 0 l0 h6)
  · refine z_iconst (v := 0) (by decide) dX7_coefficient_56 ?_
    exact z_iret rfl dX7_coefficient_57
def fX7_coefficient (a0 : Nat) (a1 : Int32) (a2 : Int32) (h : AH) : RR :=
  zcv (zob h a0 7) (fX7_begins a0 h) fun v1 h2 =>
  zvn v1 <|
  zcv (zob h2 a0 7) (fX7_isPoly a0 a1 h2) fun v3 h4 =>
  zvi v3 fun x5 =>
  if x5 = 0 then (
    fX7_coefficient_18 a0 a1 a2 1 a0 h4)
  else
  fX7_coefficient_18 a0 a1 a2 0 a0 h4
set_option maxRecDepth 20000 in
theorem mX7_coefficient {V : VT} (hV : V.2.2.2.2.2.stackTraces = false) (d : Nat) (a0 : Nat) (a1 : Int32) (a2 : Int32) (h : AH) : zM V yX7_coefficient cX7_coefficient 3 (some .int) (d + 6) [.ref a0, .int a1, .int a2] h (fX7_coefficient a0 a1 a2 h) := by
  refine z_meth hV (by decide +kernel) (Nat.le_of_ble_eq_true rfl) [(0, .ref a0), (1, .int a1), (2, .int a2)] rfl (fun X => ?_)
  show zG X V RX7 "coefficient" cX7_coefficient 3 (some .int) (d + 6) h.1 h.2.1 (fX7_coefficient a0 a1 a2 h) 0 [(0, .ref a0), (1, .int a1), (2, .int a2)] [] h
  unfold fX7_coefficient
  refine z_aload_n 0 rfl rfl dX7_coefficient_0 ?_
  refine z_cV (st := []) [] zk_RX7_240 rfl (Nat.le_of_ble_eq_true rfl) dX7_coefficient_1 (mX7_begins hV (d + 0) a0 h) (fun v1 h2 => ?_)
  refine z_vn ?_
  refine z_aload_n 0 rfl rfl dX7_coefficient_4 ?_
  refine z_aload_n 0 rfl rfl dX7_coefficient_5 ?_
  refine z_iload_n 1 rfl rfl dX7_coefficient_6 ?_
  refine z_cV (st := [.ref a0]) [.int a1] zk_RX7_243 rfl (Nat.le_of_ble_eq_true rfl) dX7_coefficient_7 (mX7_isPoly hV (d + 3) a0 a1 h2) (fun v3 h4 => ?_)
  refine z_vi (fun x5 => ?_)
  refine z_if_ne 17 (by decide) dX7_coefficient_10 ?_ ?_
  · refine z_iconst (v := 1) (by decide) dX7_coefficient_13 ?_
    refine z_goto 18 (by decide) dX7_coefficient_14 ?_
    exact z_sub [0, 1, 2] rfl (rX7_coefficient_18 hV a0 a1 a2 1 a0 h4)
  · refine z_iconst (v := 0) (by decide) dX7_coefficient_17 ?_
    exact z_sub [0, 1, 2] rfl (rX7_coefficient_18 hV a0 a1 a2 0 a0 h4)
def fX7_degree_40 : Nat → Nat → Int32 → AH → RR
  | 0, _, _, _ => none
  | k + 1, l0, l2, h =>
  if l2 < 0 then (
    some (.inl (some (.int l2)), h))
  else
  zcv (zob h l0 7) (fX7_coefficientOf l0 l2 h) fun v1 h2 =>
  zvi v1 fun x3 =>
  if x3 = 0 then (
    fX7_degree_40 k l0 (l2 + (-1)) h2)
  else
  some (.inl (some (.int l2)), h2)
set_option maxRecDepth 20000 in
theorem rX7_degree_40 {X : CT} {V : VT} {d n0 k0 : Nat} (hV : V.2.2.2.2.2.stackTraces = false) (fu : Nat) : ∀ (l0 : Nat) (l2 : Int32) (h : AH), zG X V RX7 "degree" cX7_degree 3 (some .int) (d + 6) n0 k0 (fX7_degree_40 fu l0 l2 h) 40 [(0, .ref l0), (2, .int l2)] [] h := by
  induction fu with
  | zero => intros; exact z_none
  | succ k ih =>
    intro l0 l2 h
    rw [fX7_degree_40]
    refine z_iload_n 1 rfl rfl dX7_degree_40 ?_
    refine z_if_lt 58 (by decide) dX7_degree_41 ?_ ?_
    · refine z_iload_n 1 rfl rfl dX7_degree_58 ?_
      exact z_iret rfl dX7_degree_59
    · refine z_aload_n 0 rfl rfl dX7_degree_44 ?_
      refine z_iload_n 1 rfl rfl dX7_degree_45 ?_
      refine z_cV (st := []) [.int l2] zk_RX7_276 rfl (Nat.le_of_ble_eq_true rfl) dX7_degree_46 (mX7_coefficientOf hV (d + 3) l0 l2 h) (fun v1 h2 => ?_)
      refine z_vi (fun x3 => ?_)
      refine z_if_ne 58 (by decide) dX7_degree_49 ?_ ?_
      · refine z_inc (w := (-1)) (lv' := [(2, .int (l2 + (-1))), (0, .ref l0)]) 1 rfl (by decide) (by decide) rfl dX7_degree_52 ?_
        refine z_goto 40 (by decide) dX7_degree_55 ?_
        exact z_sub [1, 0] rfl (ih l0 (l2 + (-1)) h2)
      · refine z_iload_n 1 rfl rfl dX7_degree_58 ?_
        exact z_iret rfl dX7_degree_59
def fX7_degree_18 (l0 : Nat) (l1 : Int32) (s0 : Int32) (s1 : Nat) (h : AH) : RR :=
  zcv (zob h s1 7) (fX7_bad s1 s0 1 0 h) fun v1 h2 =>
  zvi v1 fun x3 =>
  if x3 = 0 then (
    zcv (zob h2 l0 7) (fX7_takesValues l0 l1 h2) fun v4 h5 =>
    zvn v4 <|
    (zgI h5 l0 7 15).bind fun x6 =>
    fX7_degree_40 FU l0 (x6 - 1) h5)
  else
  some (.inl (some (.int 0)), h2)
set_option maxRecDepth 20000 in
theorem rX7_degree_18 {X : CT} {V : VT} {d n0 k0 : Nat} (hV : V.2.2.2.2.2.stackTraces = false) (l0 : Nat) (l1 : Int32) (s0 : Int32) (s1 : Nat) (h : AH) : zG X V RX7 "degree" cX7_degree 3 (some .int) (d + 6) n0 k0 (fX7_degree_18 l0 l1 s0 s1 h) 18 [(0, .ref l0), (1, .int l1)] [.int s0, .ref s1] h := by
  unfold fX7_degree_18
  refine z_iconst (v := 1) (by decide) dX7_degree_18 ?_
  refine z_iconst (v := 0) (by decide) dX7_degree_19 ?_
  refine z_cV (st := []) [.int s0, .int 1, .int 0] zk_RX7_215 rfl (Nat.le_of_ble_eq_true rfl) dX7_degree_20 (mX7_bad hV (d + 4) s1 s0 1 0 h) (fun v1 h2 => ?_)
  refine z_vi (fun x3 => ?_)
  refine z_if_eq 28 (by decide) dX7_degree_23 ?_ ?_
  · refine z_aload_n 0 rfl rfl dX7_degree_28 ?_
    refine z_iload_n 1 rfl rfl dX7_degree_29 ?_
    refine z_cV (st := []) [.int l1] zk_RX7_273 rfl (Nat.le_of_ble_eq_true rfl) dX7_degree_30 (mX7_takesValues hV (d + 3) l0 l1 h2) (fun v4 h5 => ?_)
    refine z_vn ?_
    refine z_aload_n 0 rfl rfl dX7_degree_33 ?_
    refine z_gI zf_RX7_92 dX7_degree_34 (fun x6 => ?_)
    refine z_iconst (v := 1) (by decide) dX7_degree_37 ?_
    refine z_isub dX7_degree_38 ?_
    refine z_istore_n (lv' := [(2, .int (x6 - 1)), (0, .ref l0), (1, .int l1)]) rfl (by decide) rfl dX7_degree_39 ?_
    exact z_sub [1, 0] rfl (rX7_degree_40 hV FU l0 (x6 - 1) h5)
  · refine z_iconst (v := 0) (by decide) dX7_degree_26 ?_
    exact z_iret rfl dX7_degree_27
def fX7_degree (a0 : Nat) (a1 : Int32) (h : AH) : RR :=
  zcv (zob h a0 7) (fX7_begins a0 h) fun v1 h2 =>
  zvn v1 <|
  zcv (zob h2 a0 7) (fX7_isPoly a0 a1 h2) fun v3 h4 =>
  zvi v3 fun x5 =>
  if x5 = 0 then (
    fX7_degree_18 a0 a1 1 a0 h4)
  else
  fX7_degree_18 a0 a1 0 a0 h4
set_option maxRecDepth 20000 in
theorem mX7_degree {V : VT} (hV : V.2.2.2.2.2.stackTraces = false) (d : Nat) (a0 : Nat) (a1 : Int32) (h : AH) : zM V yX7_degree cX7_degree 3 (some .int) (d + 6) [.ref a0, .int a1] h (fX7_degree a0 a1 h) := by
  refine z_meth hV (by decide +kernel) (Nat.le_of_ble_eq_true rfl) [(0, .ref a0), (1, .int a1)] rfl (fun X => ?_)
  show zG X V RX7 "degree" cX7_degree 3 (some .int) (d + 6) h.1 h.2.1 (fX7_degree a0 a1 h) 0 [(0, .ref a0), (1, .int a1)] [] h
  unfold fX7_degree
  refine z_aload_n 0 rfl rfl dX7_degree_0 ?_
  refine z_cV (st := []) [] zk_RX7_240 rfl (Nat.le_of_ble_eq_true rfl) dX7_degree_1 (mX7_begins hV (d + 0) a0 h) (fun v1 h2 => ?_)
  refine z_vn ?_
  refine z_aload_n 0 rfl rfl dX7_degree_4 ?_
  refine z_aload_n 0 rfl rfl dX7_degree_5 ?_
  refine z_iload_n 1 rfl rfl dX7_degree_6 ?_
  refine z_cV (st := [.ref a0]) [.int a1] zk_RX7_243 rfl (Nat.le_of_ble_eq_true rfl) dX7_degree_7 (mX7_isPoly hV (d + 3) a0 a1 h2) (fun v3 h4 => ?_)
  refine z_vi (fun x5 => ?_)
  refine z_if_ne 17 (by decide) dX7_degree_10 ?_ ?_
  · refine z_iconst (v := 1) (by decide) dX7_degree_13 ?_
    refine z_goto 18 (by decide) dX7_degree_14 ?_
    exact z_sub [0, 1] rfl (rX7_degree_18 hV a0 a1 1 a0 h4)
  · refine z_iconst (v := 0) (by decide) dX7_degree_17 ?_
    exact z_sub [0, 1] rfl (rX7_degree_18 hV a0 a1 0 a0 h4)
def fX7_taken_26 (l0 : Nat) (l1 : Int32) (l2 : Int32) (s0 : Int32) (s1 : Nat) (h : AH) : RR :=
  zcv (zob h s1 7) (fX7_bad s1 s0 1 0 h) fun v1 h2 =>
  zvi v1 fun x3 =>
  if x3 = 0 then (
    zcv (zob h2 l0 7) (fX7_takenBy l0 l1 l2 h2) fun v4 h5 =>
    zvi v4 fun x6 =>
    some (.inl (some (.int x6)), h5))
  else
  some (.inl (some (.int 0)), h2)
set_option maxRecDepth 20000 in
theorem rX7_taken_26 {X : CT} {V : VT} {d n0 k0 : Nat} (hV : V.2.2.2.2.2.stackTraces = false) (l0 : Nat) (l1 : Int32) (l2 : Int32) (s0 : Int32) (s1 : Nat) (h : AH) : zG X V RX7 "taken" cX7_taken 3 (some .int) (d + 6) n0 k0 (fX7_taken_26 l0 l1 l2 s0 s1 h) 26 [(0, .ref l0), (1, .int l1), (2, .int l2)] [.int s0, .ref s1] h := by
  unfold fX7_taken_26
  refine z_iconst (v := 1) (by decide) dX7_taken_26 ?_
  refine z_iconst (v := 0) (by decide) dX7_taken_27 ?_
  refine z_cV (st := []) [.int s0, .int 1, .int 0] zk_RX7_215 rfl (Nat.le_of_ble_eq_true rfl) dX7_taken_28 (mX7_bad hV (d + 4) s1 s0 1 0 h) (fun v1 h2 => ?_)
  refine z_vi (fun x3 => ?_)
  refine z_if_eq 38 (by decide) dX7_taken_31 ?_ ?_
  · refine z_aload_n 0 rfl rfl dX7_taken_38 ?_
    refine z_iload_n 1 rfl rfl dX7_taken_39 ?_
    refine z_iload_n 2 rfl rfl dX7_taken_40 ?_
    refine z_cV (st := []) [.int l1, .int l2] zk_RX7_260 rfl (Nat.le_of_ble_eq_true rfl) dX7_taken_41 (mX7_takenBy hV (d + 3) l0 l1 l2 h2) (fun v4 h5 => ?_)
    refine z_vi (fun x6 => ?_)
    exact z_iret rfl dX7_taken_44
  · refine z_iconst (v := 0) (by decide) dX7_taken_34 ?_
    refine z_goto 44 (by decide) dX7_taken_35 ?_
    exact z_iret rfl dX7_taken_44
def fX7_taken_21 (l0 : Nat) (l1 : Int32) (l2 : Int32) (s0 : Nat) (h : AH) : RR :=
  fX7_taken_26 l0 l1 l2 1 s0 h
set_option maxRecDepth 20000 in
theorem rX7_taken_21 {X : CT} {V : VT} {d n0 k0 : Nat} (hV : V.2.2.2.2.2.stackTraces = false) (l0 : Nat) (l1 : Int32) (l2 : Int32) (s0 : Nat) (h : AH) : zG X V RX7 "taken" cX7_taken 3 (some .int) (d + 6) n0 k0 (fX7_taken_21 l0 l1 l2 s0 h) 21 [(0, .ref l0), (1, .int l1), (2, .int l2)] [.ref s0] h := by
  unfold fX7_taken_21
  refine z_iconst (v := 1) (by decide) dX7_taken_21 ?_
  refine z_goto 26 (by decide) dX7_taken_22 ?_
  exact z_sub [0, 1, 2] rfl (rX7_taken_26 hV l0 l1 l2 1 s0 h)
def fX7_taken (a0 : Nat) (a1 : Int32) (a2 : Int32) (h : AH) : RR :=
  zcv (zob h a0 7) (fX7_begins a0 h) fun v1 h2 =>
  zvn v1 <|
  zcv (zob h2 a0 7) (fX7_isPoly a0 a1 h2) fun v3 h4 =>
  zvi v3 fun x5 =>
  if x5 = 0 then (
    fX7_taken_21 a0 a1 a2 a0 h4)
  else
  zcv (zob h4 a0 7) (fX7_isPoint a0 a2 h4) fun v6 h7 =>
  zvi v6 fun x8 =>
  if x8 = 0 then (
    fX7_taken_21 a0 a1 a2 a0 h7)
  else
  fX7_taken_26 a0 a1 a2 0 a0 h7
set_option maxRecDepth 20000 in
theorem mX7_taken {V : VT} (hV : V.2.2.2.2.2.stackTraces = false) (d : Nat) (a0 : Nat) (a1 : Int32) (a2 : Int32) (h : AH) : zM V yX7_taken cX7_taken 3 (some .int) (d + 6) [.ref a0, .int a1, .int a2] h (fX7_taken a0 a1 a2 h) := by
  refine z_meth hV (by decide +kernel) (Nat.le_of_ble_eq_true rfl) [(0, .ref a0), (1, .int a1), (2, .int a2)] rfl (fun X => ?_)
  show zG X V RX7 "taken" cX7_taken 3 (some .int) (d + 6) h.1 h.2.1 (fX7_taken a0 a1 a2 h) 0 [(0, .ref a0), (1, .int a1), (2, .int a2)] [] h
  unfold fX7_taken
  refine z_aload_n 0 rfl rfl dX7_taken_0 ?_
  refine z_cV (st := []) [] zk_RX7_240 rfl (Nat.le_of_ble_eq_true rfl) dX7_taken_1 (mX7_begins hV (d + 0) a0 h) (fun v1 h2 => ?_)
  refine z_vn ?_
  refine z_aload_n 0 rfl rfl dX7_taken_4 ?_
  refine z_aload_n 0 rfl rfl dX7_taken_5 ?_
  refine z_iload_n 1 rfl rfl dX7_taken_6 ?_
  refine z_cV (st := [.ref a0]) [.int a1] zk_RX7_243 rfl (Nat.le_of_ble_eq_true rfl) dX7_taken_7 (mX7_isPoly hV (d + 3) a0 a1 h2) (fun v3 h4 => ?_)
  refine z_vi (fun x5 => ?_)
  refine z_if_eq 21 (by decide) dX7_taken_10 ?_ ?_
  · exact z_sub [0, 1, 2] rfl (rX7_taken_21 hV a0 a1 a2 a0 h4)
  · refine z_aload_n 0 rfl rfl dX7_taken_13 ?_
    refine z_iload_n 2 rfl rfl dX7_taken_14 ?_
    refine z_cV (st := [.ref a0]) [.int a2] zk_RX7_246 rfl (Nat.le_of_ble_eq_true rfl) dX7_taken_15 (mX7_isPoint hV (d + 3) a0 a2 h4) (fun v6 h7 => ?_)
    refine z_vi (fun x8 => ?_)
    refine z_if_ne 25 (by decide) dX7_taken_18 ?_ ?_
    · exact z_sub [0, 1, 2] rfl (rX7_taken_21 hV a0 a1 a2 a0 h7)
    · refine z_iconst (v := 0) (by decide) dX7_taken_25 ?_
      exact z_sub [0, 1, 2] rfl (rX7_taken_26 hV a0 a1 a2 0 a0 h7)
def fX7_image_18 (l0 : Nat) (l1 : Int32) (s0 : Int32) (s1 : Nat) (h : AH) : RR :=
  zcv (zob h s1 7) (fX7_bad s1 s0 1 0 h) fun v1 h2 =>
  zvi v1 fun x3 =>
  if x3 = 0 then (
    zcv (zob h2 l0 7) (fX7_imageOf l0 l1 h2) fun v4 h5 =>
    zvi v4 fun x6 =>
    some (.inl (some (.int x6)), h5))
  else
  some (.inl (some (.int 0)), h2)
set_option maxRecDepth 20000 in
theorem rX7_image_18 {X : CT} {V : VT} {d n0 k0 : Nat} (hV : V.2.2.2.2.2.stackTraces = false) (l0 : Nat) (l1 : Int32) (s0 : Int32) (s1 : Nat) (h : AH) : zG X V RX7 "image" cX7_image 2 (some .int) (d + 6) n0 k0 (fX7_image_18 l0 l1 s0 s1 h) 18 [(0, .ref l0), (1, .int l1)] [.int s0, .ref s1] h := by
  unfold fX7_image_18
  refine z_iconst (v := 1) (by decide) dX7_image_18 ?_
  refine z_iconst (v := 0) (by decide) dX7_image_19 ?_
  refine z_cV (st := []) [.int s0, .int 1, .int 0] zk_RX7_215 rfl (Nat.le_of_ble_eq_true rfl) dX7_image_20 (mX7_bad hV (d + 4) s1 s0 1 0 h) (fun v1 h2 => ?_)
  refine z_vi (fun x3 => ?_)
  refine z_if_eq 30 (by decide) dX7_image_23 ?_ ?_
  · refine z_aload_n 0 rfl rfl dX7_image_30 ?_
    refine z_iload_n 1 rfl rfl dX7_image_31 ?_
    refine z_cV (st := []) [.int l1] zk_RX7_263 rfl (Nat.le_of_ble_eq_true rfl) dX7_image_32 (mX7_imageOf hV (d + 2) l0 l1 h2) (fun v4 h5 => ?_)
    refine z_vi (fun x6 => ?_)
    exact z_iret rfl dX7_image_35
  · refine z_iconst (v := 0) (by decide) dX7_image_26 ?_
    refine z_goto 35 (by decide) dX7_image_27 ?_
    exact z_iret rfl dX7_image_35
def fX7_image (a0 : Nat) (a1 : Int32) (h : AH) : RR :=
  zcv (zob h a0 7) (fX7_begins a0 h) fun v1 h2 =>
  zvn v1 <|
  zcv (zob h2 a0 7) (fX7_isPoly a0 a1 h2) fun v3 h4 =>
  zvi v3 fun x5 =>
  if x5 = 0 then (
    fX7_image_18 a0 a1 1 a0 h4)
  else
  fX7_image_18 a0 a1 0 a0 h4
set_option maxRecDepth 20000 in
theorem mX7_image {V : VT} (hV : V.2.2.2.2.2.stackTraces = false) (d : Nat) (a0 : Nat) (a1 : Int32) (h : AH) : zM V yX7_image cX7_image 2 (some .int) (d + 6) [.ref a0, .int a1] h (fX7_image a0 a1 h) := by
  refine z_meth hV (by decide +kernel) (Nat.le_of_ble_eq_true rfl) [(0, .ref a0), (1, .int a1)] rfl (fun X => ?_)
  show zG X V RX7 "image" cX7_image 2 (some .int) (d + 6) h.1 h.2.1 (fX7_image a0 a1 h) 0 [(0, .ref a0), (1, .int a1)] [] h
  unfold fX7_image
  refine z_aload_n 0 rfl rfl dX7_image_0 ?_
  refine z_cV (st := []) [] zk_RX7_240 rfl (Nat.le_of_ble_eq_true rfl) dX7_image_1 (mX7_begins hV (d + 0) a0 h) (fun v1 h2 => ?_)
  refine z_vn ?_
  refine z_aload_n 0 rfl rfl dX7_image_4 ?_
  refine z_aload_n 0 rfl rfl dX7_image_5 ?_
  refine z_iload_n 1 rfl rfl dX7_image_6 ?_
  refine z_cV (st := [.ref a0]) [.int a1] zk_RX7_243 rfl (Nat.le_of_ble_eq_true rfl) dX7_image_7 (mX7_isPoly hV (d + 3) a0 a1 h2) (fun v3 h4 => ?_)
  refine z_vi (fun x5 => ?_)
  refine z_if_ne 17 (by decide) dX7_image_10 ?_ ?_
  · refine z_iconst (v := 1) (by decide) dX7_image_13 ?_
    refine z_goto 18 (by decide) dX7_image_14 ?_
    exact z_sub [0, 1] rfl (rX7_image_18 hV a0 a1 1 a0 h4)
  · refine z_iconst (v := 0) (by decide) dX7_image_17 ?_
    exact z_sub [0, 1] rfl (rX7_image_18 hV a0 a1 0 a0 h4)
def fX7_permutes_18 (l0 : Nat) (l1 : Int32) (s0 : Int32) (s1 : Nat) (h : AH) : RR :=
  zcv (zob h s1 7) (fX7_bad s1 s0 1 0 h) fun v1 h2 =>
  zvi v1 fun x3 =>
  if x3 = 0 then (
    zcv (zob h2 l0 7) (fX7_isPermuting l0 l1 h2) fun v4 h5 =>
    zvi v4 fun x6 =>
    if x6 = 0 then (
      some (.inl (some (.int 0)), h5))
    else
    some (.inl (some (.int 1)), h5))
  else
  some (.inl (some (.int 0)), h2)
set_option maxRecDepth 20000 in
theorem rX7_permutes_18 {X : CT} {V : VT} {d n0 k0 : Nat} (hV : V.2.2.2.2.2.stackTraces = false) (l0 : Nat) (l1 : Int32) (s0 : Int32) (s1 : Nat) (h : AH) : zG X V RX7 "permutes" cX7_permutes 2 (some .int) (d + 6) n0 k0 (fX7_permutes_18 l0 l1 s0 s1 h) 18 [(0, .ref l0), (1, .int l1)] [.int s0, .ref s1] h := by
  unfold fX7_permutes_18
  refine z_iconst (v := 1) (by decide) dX7_permutes_18 ?_
  refine z_iconst (v := 0) (by decide) dX7_permutes_19 ?_
  refine z_cV (st := []) [.int s0, .int 1, .int 0] zk_RX7_215 rfl (Nat.le_of_ble_eq_true rfl) dX7_permutes_20 (mX7_bad hV (d + 4) s1 s0 1 0 h) (fun v1 h2 => ?_)
  refine z_vi (fun x3 => ?_)
  refine z_if_eq 30 (by decide) dX7_permutes_23 ?_ ?_
  · refine z_aload_n 0 rfl rfl dX7_permutes_30 ?_
    refine z_iload_n 1 rfl rfl dX7_permutes_31 ?_
    refine z_cV (st := []) [.int l1] zk_RX7_266 rfl (Nat.le_of_ble_eq_true rfl) dX7_permutes_32 (mX7_isPermuting hV (d + 1) l0 l1 h2) (fun v4 h5 => ?_)
    refine z_vi (fun x6 => ?_)
    refine z_if_eq 42 (by decide) dX7_permutes_35 ?_ ?_
    · refine z_iconst (v := 0) (by decide) dX7_permutes_42 ?_
      exact z_iret rfl dX7_permutes_43
    · refine z_iconst (v := 1) (by decide) dX7_permutes_38 ?_
      refine z_goto 43 (by decide) dX7_permutes_39 ?_
      exact z_iret rfl dX7_permutes_43
  · refine z_iconst (v := 0) (by decide) dX7_permutes_26 ?_
    refine z_goto 43 (by decide) dX7_permutes_27 ?_
    exact z_iret rfl dX7_permutes_43
def fX7_permutes (a0 : Nat) (a1 : Int32) (h : AH) : RR :=
  zcv (zob h a0 7) (fX7_begins a0 h) fun v1 h2 =>
  zvn v1 <|
  zcv (zob h2 a0 7) (fX7_isPoly a0 a1 h2) fun v3 h4 =>
  zvi v3 fun x5 =>
  if x5 = 0 then (
    fX7_permutes_18 a0 a1 1 a0 h4)
  else
  fX7_permutes_18 a0 a1 0 a0 h4
set_option maxRecDepth 20000 in
theorem mX7_permutes {V : VT} (hV : V.2.2.2.2.2.stackTraces = false) (d : Nat) (a0 : Nat) (a1 : Int32) (h : AH) : zM V yX7_permutes cX7_permutes 2 (some .int) (d + 6) [.ref a0, .int a1] h (fX7_permutes a0 a1 h) := by
  refine z_meth hV (by decide +kernel) (Nat.le_of_ble_eq_true rfl) [(0, .ref a0), (1, .int a1)] rfl (fun X => ?_)
  show zG X V RX7 "permutes" cX7_permutes 2 (some .int) (d + 6) h.1 h.2.1 (fX7_permutes a0 a1 h) 0 [(0, .ref a0), (1, .int a1)] [] h
  unfold fX7_permutes
  refine z_aload_n 0 rfl rfl dX7_permutes_0 ?_
  refine z_cV (st := []) [] zk_RX7_240 rfl (Nat.le_of_ble_eq_true rfl) dX7_permutes_1 (mX7_begins hV (d + 0) a0 h) (fun v1 h2 => ?_)
  refine z_vn ?_
  refine z_aload_n 0 rfl rfl dX7_permutes_4 ?_
  refine z_aload_n 0 rfl rfl dX7_permutes_5 ?_
  refine z_iload_n 1 rfl rfl dX7_permutes_6 ?_
  refine z_cV (st := [.ref a0]) [.int a1] zk_RX7_243 rfl (Nat.le_of_ble_eq_true rfl) dX7_permutes_7 (mX7_isPoly hV (d + 3) a0 a1 h2) (fun v3 h4 => ?_)
  refine z_vi (fun x5 => ?_)
  refine z_if_ne 17 (by decide) dX7_permutes_10 ?_ ?_
  · refine z_iconst (v := 1) (by decide) dX7_permutes_13 ?_
    refine z_goto 18 (by decide) dX7_permutes_14 ?_
    exact z_sub [0, 1] rfl (rX7_permutes_18 hV a0 a1 1 a0 h4)
  · refine z_iconst (v := 0) (by decide) dX7_permutes_17 ?_
    exact z_sub [0, 1] rfl (rX7_permutes_18 hV a0 a1 0 a0 h4)
def fX7_powers_66 (K42 : Nat → Int32 → Int32 → AH → RR) : Nat → Nat → Int32 → Int32 → Int32 → AH → RR
  | 0, _, _, _, _, _ => none
  | k + 1, l0, l1, l2, l3, h =>
  (zgI h l0 7 15).bind fun x1 =>
  if x1 ≤ l3 then (
    (zgI h l0 7 15).bind fun x2 =>
    zcv (zob h l0 7) (fX7_coefficientOf l0 (x2 - 1) h) fun v3 h4 =>
    zvi v3 fun x5 =>
    if x5 = 0 then (
      K42 l0 l1 (l2 + 1) h4)
    else
    some (.inl (some (.int l2)), h4))
  else
  (zgR h l0 7 24).bind fun x6 =>
  zcv (zob h l0 7) (fX7_of l0 l1 l3 h) fun v7 h8 =>
  zvi v7 fun x9 =>
  zcv (zob h8 l0 7) (fX7_raisedPoint l0 x9 l2 h8) fun v10 h11 =>
  zvi v10 fun x12 =>
  (zsi h11 x6 l3 x12).bind fun h13 =>
  fX7_powers_66 K42 k l0 l1 l2 (l3 + 1) h13
set_option maxRecDepth 20000 in
theorem rX7_powers_66 {X : CT} {V : VT} {d n0 k0 : Nat} (hV : V.2.2.2.2.2.stackTraces = false) (K42 : Nat → Int32 → Int32 → AH → RR) (hK42 : ∀ l0 l1 l2  h, zG X V RX7 "powers" cX7_powers 4 (some .int) (d + 6) n0 k0 (K42 l0 l1 l2 h) 42 [(0, .ref l0), (1, .int l1), (2, .int l2)] [] h) (fu : Nat) : ∀ (l0 : Nat) (l1 : Int32) (l2 : Int32) (l3 : Int32) (h : AH), zG X V RX7 "powers" cX7_powers 4 (some .int) (d + 6) n0 k0 (fX7_powers_66 K42 fu l0 l1 l2 l3 h) 66 [(0, .ref l0), (1, .int l1), (2, .int l2), (3, .int l3)] [] h := by
  induction fu with
  | zero => intros; exact z_none
  | succ k ih =>
    intro l0 l1 l2 l3 h
    rw [fX7_powers_66]
    refine z_iload_n 3 rfl rfl dX7_powers_66 ?_
    refine z_aload_n 0 rfl rfl dX7_powers_67 ?_
    refine z_gI zf_RX7_92 dX7_powers_68 (fun x1 => ?_)
    refine z_icmp_ge 97 (by decide) dX7_powers_71 ?_ ?_
    · refine z_aload_n 0 rfl rfl dX7_powers_97 ?_
      refine z_aload_n 0 rfl rfl dX7_powers_98 ?_
      refine z_gI zf_RX7_92 dX7_powers_99 (fun x2 => ?_)
      refine z_iconst (v := 1) (by decide) dX7_powers_102 ?_
      refine z_isub dX7_powers_103 ?_
      refine z_cV (st := []) [.int (x2 - 1)] zk_RX7_276 rfl (Nat.le_of_ble_eq_true rfl) dX7_powers_104 (mX7_coefficientOf hV (d + 3) l0 (x2 - 1) h) (fun v3 h4 => ?_)
      refine z_vi (fun x5 => ?_)
      refine z_if_eq 112 (by decide) dX7_powers_107 ?_ ?_
      · refine z_inc (w := 1) (lv' := [(2, .int (l2 + 1)), (0, .ref l0), (1, .int l1), (3, .int l3)]) 2 rfl (by decide) (by decide) rfl dX7_powers_112 ?_
        refine z_goto 42 (by decide) dX7_powers_115 ?_
        exact z_sub [1, 2, 0] rfl (hK42 l0 l1 (l2 + 1) h4)
      · refine z_iload_n 2 rfl rfl dX7_powers_110 ?_
        exact z_iret rfl dX7_powers_111
    · refine z_aload_n 0 rfl rfl dX7_powers_74 ?_
      refine z_gR zf_RX7_46 dX7_powers_75 (fun x6 => ?_)
      refine z_iload_n 3 rfl rfl dX7_powers_78 ?_
      refine z_aload_n 0 rfl rfl dX7_powers_79 ?_
      refine z_aload_n 0 rfl rfl dX7_powers_80 ?_
      refine z_iload_n 1 rfl rfl dX7_powers_81 ?_
      refine z_iload_n 3 rfl rfl dX7_powers_82 ?_
      refine z_cV (st := [.ref l0, .int l3, .ref x6]) [.int l1, .int l3] zk_RX7_237 rfl (Nat.le_of_ble_eq_true rfl) dX7_powers_83 (mX7_of hV (d + 4) l0 l1 l3 h) (fun v7 h8 => ?_)
      refine z_vi (fun x9 => ?_)
      refine z_iload_n 2 rfl rfl dX7_powers_86 ?_
      refine z_cV (st := [.int l3, .ref x6]) [.int x9, .int l2] zk_RX7_197 rfl (Nat.le_of_ble_eq_true rfl) dX7_powers_87 (mX7_raisedPoint hV (d + 4) l0 x9 l2 h8) (fun v10 h11 => ?_)
      refine z_vi (fun x12 => ?_)
      refine z_sI dX7_powers_90 (fun h13 => ?_)
      refine z_inc (w := 1) (lv' := [(3, .int (l3 + 1)), (0, .ref l0), (1, .int l1), (2, .int l2)]) 3 rfl (by decide) (by decide) rfl dX7_powers_91 ?_
      refine z_goto 66 (by decide) dX7_powers_94 ?_
      exact z_sub [1, 2, 3, 0] rfl (ih l0 l1 l2 (l3 + 1) h13)
def fX7_powers_42 : Nat → Nat → Int32 → Int32 → AH → RR
  | 0, _, _, _, _ => none
  | k + 1, l0, l1, l2, h =>
  (zgI h l0 7 15).bind fun x1 =>
  if (x1 - 1) ≤ l2 then (
    some (.inl (some (.int (-1))), h))
  else
  (zgI h l0 7 13).bind fun x2 =>
  if x2 = 0 then none else
  if (l2 - l2 / x2 * x2) = 0 then (
    fX7_powers_42 k l0 l1 (l2 + 1) h)
  else
  fX7_powers_66 (fun p0 p1 p2 h => fX7_powers_42 k p0 p1 p2 h) FU l0 l1 l2 0 h
set_option maxRecDepth 20000 in
theorem rX7_powers_42 {X : CT} {V : VT} {d n0 k0 : Nat} (hV : V.2.2.2.2.2.stackTraces = false) (fu : Nat) : ∀ (l0 : Nat) (l1 : Int32) (l2 : Int32) (h : AH), zG X V RX7 "powers" cX7_powers 4 (some .int) (d + 6) n0 k0 (fX7_powers_42 fu l0 l1 l2 h) 42 [(0, .ref l0), (1, .int l1), (2, .int l2)] [] h := by
  induction fu with
  | zero => intros; exact z_none
  | succ k ih =>
    intro l0 l1 l2 h
    rw [fX7_powers_42]
    refine z_iload_n 2 rfl rfl dX7_powers_42 ?_
    refine z_aload_n 0 rfl rfl dX7_powers_43 ?_
    refine z_gI zf_RX7_92 dX7_powers_44 (fun x1 => ?_)
    refine z_iconst (v := 1) (by decide) dX7_powers_47 ?_
    refine z_isub dX7_powers_48 ?_
    refine z_icmp_ge 118 (by decide) dX7_powers_49 ?_ ?_
    · refine z_iconst (v := (-1)) (by decide) dX7_powers_118 ?_
      exact z_iret rfl dX7_powers_119
    · refine z_iload_n 2 rfl rfl dX7_powers_52 ?_
      refine z_aload_n 0 rfl rfl dX7_powers_53 ?_
      refine z_gI zf_RX7_68 dX7_powers_54 (fun x2 => ?_)
      refine z_irem dX7_powers_57 ?_
      refine z_if_ne 64 (by decide) dX7_powers_58 ?_ ?_
      · refine z_goto 112 (by decide) dX7_powers_61 ?_
        refine z_inc (w := 1) (lv' := [(2, .int (l2 + 1)), (0, .ref l0), (1, .int l1)]) 2 rfl (by decide) (by decide) rfl dX7_powers_112 ?_
        refine z_goto 42 (by decide) dX7_powers_115 ?_
        exact z_sub [1, 2, 0] rfl (ih l0 l1 (l2 + 1) h)
      · refine z_iconst (v := 0) (by decide) dX7_powers_64 ?_
        refine z_istore_n (lv' := [(3, .int 0), (0, .ref l0), (1, .int l1), (2, .int l2)]) rfl (by decide) rfl dX7_powers_65 ?_
        exact z_sub [1, 2, 3, 0] rfl (rX7_powers_66 hV (fun p0 p1 p2 h => fX7_powers_42 k p0 p1 p2 h) ih FU l0 l1 l2 0 h)
def fX7_powers_18 (l0 : Nat) (l1 : Int32) (s0 : Int32) (s1 : Nat) (h : AH) : RR :=
  zcv (zob h s1 7) (fX7_bad s1 s0 1 0 h) fun v1 h2 =>
  zvi v1 fun x3 =>
  if x3 = 0 then (
    zcv (zob h2 l0 7) (fX7_takenBy l0 l1 0 h2) fun v4 h5 =>
    zvi v4 fun x6 =>
    if x6 = 1 then (
      fX7_powers_42 FU l0 l1 1 h5)
    else
    some (.inl (some (.int 0)), h5))
  else
  some (.inl (some (.int 0)), h2)
set_option maxRecDepth 20000 in
theorem rX7_powers_18 {X : CT} {V : VT} {d n0 k0 : Nat} (hV : V.2.2.2.2.2.stackTraces = false) (l0 : Nat) (l1 : Int32) (s0 : Int32) (s1 : Nat) (h : AH) : zG X V RX7 "powers" cX7_powers 4 (some .int) (d + 6) n0 k0 (fX7_powers_18 l0 l1 s0 s1 h) 18 [(0, .ref l0), (1, .int l1)] [.int s0, .ref s1] h := by
  unfold fX7_powers_18
  refine z_iconst (v := 1) (by decide) dX7_powers_18 ?_
  refine z_iconst (v := 0) (by decide) dX7_powers_19 ?_
  refine z_cV (st := []) [.int s0, .int 1, .int 0] zk_RX7_215 rfl (Nat.le_of_ble_eq_true rfl) dX7_powers_20 (mX7_bad hV (d + 4) s1 s0 1 0 h) (fun v1 h2 => ?_)
  refine z_vi (fun x3 => ?_)
  refine z_if_eq 28 (by decide) dX7_powers_23 ?_ ?_
  · refine z_aload_n 0 rfl rfl dX7_powers_28 ?_
    refine z_iload_n 1 rfl rfl dX7_powers_29 ?_
    refine z_iconst (v := 0) (by decide) dX7_powers_30 ?_
    refine z_cV (st := []) [.int l1, .int 0] zk_RX7_260 rfl (Nat.le_of_ble_eq_true rfl) dX7_powers_31 (mX7_takenBy hV (d + 3) l0 l1 0 h2) (fun v4 h5 => ?_)
    refine z_vi (fun x6 => ?_)
    refine z_iconst (v := 1) (by decide) dX7_powers_34 ?_
    refine z_icmp_eq 40 (by decide) dX7_powers_35 ?_ ?_
    · refine z_iconst (v := 1) (by decide) dX7_powers_40 ?_
      refine z_istore_n (lv' := [(2, .int 1), (0, .ref l0), (1, .int l1)]) rfl (by decide) rfl dX7_powers_41 ?_
      exact z_sub [1, 2, 0] rfl (rX7_powers_42 hV FU l0 l1 1 h5)
    · refine z_iconst (v := 0) (by decide) dX7_powers_38 ?_
      exact z_iret rfl dX7_powers_39
  · refine z_iconst (v := 0) (by decide) dX7_powers_26 ?_
    exact z_iret rfl dX7_powers_27
def fX7_powers (a0 : Nat) (a1 : Int32) (h : AH) : RR :=
  zcv (zob h a0 7) (fX7_begins a0 h) fun v1 h2 =>
  zvn v1 <|
  zcv (zob h2 a0 7) (fX7_isPoly a0 a1 h2) fun v3 h4 =>
  zvi v3 fun x5 =>
  if x5 = 0 then (
    fX7_powers_18 a0 a1 1 a0 h4)
  else
  fX7_powers_18 a0 a1 0 a0 h4
set_option maxRecDepth 20000 in
theorem mX7_powers {V : VT} (hV : V.2.2.2.2.2.stackTraces = false) (d : Nat) (a0 : Nat) (a1 : Int32) (h : AH) : zM V yX7_powers cX7_powers 4 (some .int) (d + 6) [.ref a0, .int a1] h (fX7_powers a0 a1 h) := by
  refine z_meth hV (by decide +kernel) (Nat.le_of_ble_eq_true rfl) [(0, .ref a0), (1, .int a1)] rfl (fun X => ?_)
  show zG X V RX7 "powers" cX7_powers 4 (some .int) (d + 6) h.1 h.2.1 (fX7_powers a0 a1 h) 0 [(0, .ref a0), (1, .int a1)] [] h
  unfold fX7_powers
  refine z_aload_n 0 rfl rfl dX7_powers_0 ?_
  refine z_cV (st := []) [] zk_RX7_240 rfl (Nat.le_of_ble_eq_true rfl) dX7_powers_1 (mX7_begins hV (d + 0) a0 h) (fun v1 h2 => ?_)
  refine z_vn ?_
  refine z_aload_n 0 rfl rfl dX7_powers_4 ?_
  refine z_aload_n 0 rfl rfl dX7_powers_5 ?_
  refine z_iload_n 1 rfl rfl dX7_powers_6 ?_
  refine z_cV (st := [.ref a0]) [.int a1] zk_RX7_243 rfl (Nat.le_of_ble_eq_true rfl) dX7_powers_7 (mX7_isPoly hV (d + 3) a0 a1 h2) (fun v3 h4 => ?_)
  refine z_vi (fun x5 => ?_)
  refine z_if_ne 17 (by decide) dX7_powers_10 ?_ ?_
  · refine z_iconst (v := 1) (by decide) dX7_powers_13 ?_
    refine z_goto 18 (by decide) dX7_powers_14 ?_
    exact z_sub [0, 1] rfl (rX7_powers_18 hV a0 a1 1 a0 h4)
  · refine z_iconst (v := 0) (by decide) dX7_powers_17 ?_
    exact z_sub [0, 1] rfl (rX7_powers_18 hV a0 a1 0 a0 h4)
def fX7_cycleOf_10 : Nat → Nat → Int32 → Int32 → Int32 → Int32 → AH → RR
  | 0, _, _, _, _, _, _ => none
  | k + 1, l0, l1, l2, l3, l4, h =>
  if l4 = l2 then (
    some (.inl (some (.int l3)), h))
  else
  if l2 ≤ l4 then (
    zcv (zob h l0 7) (fX7_of l0 l1 l4 h) fun v1 h2 =>
    zvi v1 fun x3 =>
    fX7_cycleOf_10 k l0 l1 l2 (l3 + 1) x3 h2)
  else
  some (.inl (some (.int 0)), h)
set_option maxRecDepth 20000 in
theorem rX7_cycleOf_10 {X : CT} {V : VT} {d n0 k0 : Nat} (hV : V.2.2.2.2.2.stackTraces = false) (fu : Nat) : ∀ (l0 : Nat) (l1 : Int32) (l2 : Int32) (l3 : Int32) (l4 : Int32) (h : AH), zG X V RX7 "cycleOf" cX7_cycleOf 5 (some .int) (d + 2) n0 k0 (fX7_cycleOf_10 fu l0 l1 l2 l3 l4 h) 10 [(0, .ref l0), (1, .int l1), (2, .int l2), (3, .int l3), (4, .int l4)] [] h := by
  induction fu with
  | zero => intros; exact z_none
  | succ k ih =>
    intro l0 l1 l2 l3 l4 h
    rw [fX7_cycleOf_10]
    refine z_iload 4 rfl dX7_cycleOf_10 ?_
    refine z_iload_n 2 rfl rfl dX7_cycleOf_12 ?_
    refine z_icmp_eq 39 (by decide) dX7_cycleOf_13 ?_ ?_
    · refine z_iload_n 3 rfl rfl dX7_cycleOf_39 ?_
      exact z_iret rfl dX7_cycleOf_40
    · refine z_iload 4 rfl dX7_cycleOf_16 ?_
      refine z_iload_n 2 rfl rfl dX7_cycleOf_18 ?_
      refine z_icmp_ge 24 (by decide) dX7_cycleOf_19 ?_ ?_
      · refine z_aload_n 0 rfl rfl dX7_cycleOf_24 ?_
        refine z_iload_n 1 rfl rfl dX7_cycleOf_25 ?_
        refine z_iload 4 rfl dX7_cycleOf_26 ?_
        refine z_cV (st := []) [.int l1, .int l4] zk_RX7_237 rfl (Nat.le_of_ble_eq_true rfl) dX7_cycleOf_28 (mX7_of hV (d + 0) l0 l1 l4 h) (fun v1 h2 => ?_)
        refine z_vi (fun x3 => ?_)
        refine z_istore (lv' := [(4, .int x3), (0, .ref l0), (1, .int l1), (2, .int l2), (3, .int l3)]) (by decide) rfl dX7_cycleOf_31 ?_
        refine z_inc (w := 1) (lv' := [(3, .int (l3 + 1)), (4, .int x3), (0, .ref l0), (1, .int l1), (2, .int l2)]) 4 rfl (by decide) (by decide) rfl dX7_cycleOf_33 ?_
        refine z_goto 10 (by decide) dX7_cycleOf_36 ?_
        exact z_sub [2, 3, 4, 0, 1] rfl (ih l0 l1 l2 (l3 + 1) x3 h2)
      · refine z_iconst (v := 0) (by decide) dX7_cycleOf_22 ?_
        exact z_iret rfl dX7_cycleOf_23
def fX7_cycleOf (a0 : Nat) (a1 : Int32) (a2 : Int32) (h : AH) : RR :=
  zcv (zob h a0 7) (fX7_of a0 a1 a2 h) fun v1 h2 =>
  zvi v1 fun x3 =>
  fX7_cycleOf_10 FU a0 a1 a2 1 x3 h2
set_option maxRecDepth 20000 in
theorem mX7_cycleOf {V : VT} (hV : V.2.2.2.2.2.stackTraces = false) (d : Nat) (a0 : Nat) (a1 : Int32) (a2 : Int32) (h : AH) : zM V yX7_cycleOf cX7_cycleOf 5 (some .int) (d + 2) [.ref a0, .int a1, .int a2] h (fX7_cycleOf a0 a1 a2 h) := by
  refine z_meth hV (by decide +kernel) (Nat.le_of_ble_eq_true rfl) [(0, .ref a0), (1, .int a1), (2, .int a2)] rfl (fun X => ?_)
  show zG X V RX7 "cycleOf" cX7_cycleOf 5 (some .int) (d + 2) h.1 h.2.1 (fX7_cycleOf a0 a1 a2 h) 0 [(0, .ref a0), (1, .int a1), (2, .int a2)] [] h
  unfold fX7_cycleOf
  refine z_iconst (v := 1) (by decide) dX7_cycleOf_0 ?_
  refine z_istore_n (lv' := [(3, .int 1), (0, .ref a0), (1, .int a1), (2, .int a2)]) rfl (by decide) rfl dX7_cycleOf_1 ?_
  refine z_aload_n 1 rfl rfl dX7_cycleOf_2 ?_
  refine z_iload_n 2 rfl rfl dX7_cycleOf_3 ?_
  refine z_iload_n 3 rfl rfl dX7_cycleOf_4 ?_
  refine z_cV (st := []) [.int a1, .int a2] zk_RX7_237 rfl (Nat.le_of_ble_eq_true rfl) dX7_cycleOf_5 (mX7_of hV (d + 0) a0 a1 a2 h) (fun v1 h2 => ?_)
  refine z_vi (fun x3 => ?_)
  refine z_istore (lv' := [(4, .int x3), (3, .int 1), (0, .ref a0), (1, .int a1), (2, .int a2)]) (by decide) rfl dX7_cycleOf_8 ?_
  exact z_sub [2, 3, 4, 1, 0] rfl (rX7_cycleOf_10 hV FU a0 a1 a2 1 x3 h2)
def fX7_badPerm_54 (l3 : Int32) (s0 : Int32) (s1 : Nat) (h : AH) : RR :=
  zcv (zob h s1 7) (fX7_bad s1 s0 l3 2 h) fun v1 h2 =>
  zvi v1 fun x3 =>
  if x3 = 0 then (
    zbr 0 h2)
  else
  zbr 1 h2
set_option maxRecDepth 20000 in
theorem rX7_badPerm_54 {X : CT} {V : VT} {d n0 k0 : Nat} (hV : V.2.2.2.2.2.stackTraces = false) (l3 : Int32) (s0 : Int32) (s1 : Nat) (h : AH) : zG X V RX7 "badPerm" cX7_badPerm 4 (some .boolean) (d + 5) n0 k0 (fX7_badPerm_54 l3 s0 s1 h) 54 [(3, .int l3)] [.int s0, .ref s1] h := by
  unfold fX7_badPerm_54
  refine z_iload_n 0 rfl rfl dX7_badPerm_54 ?_
  refine z_iconst (v := 2) (by decide) dX7_badPerm_55 ?_
  refine z_cV (st := []) [.int s0, .int l3, .int 2] zk_RX7_215 rfl (Nat.le_of_ble_eq_true rfl) dX7_badPerm_56 (mX7_bad hV (d + 3) s1 s0 l3 2 h) (fun v1 h2 => ?_)
  refine z_vi (fun x3 => ?_)
  refine z_if_eq 66 (by decide) dX7_badPerm_59 ?_ ?_
  · refine z_iconst (v := 0) (by decide) dX7_badPerm_66 ?_
    exact z_zret rfl dX7_badPerm_67
  · refine z_iconst (v := 1) (by decide) dX7_badPerm_62 ?_
    refine z_goto 67 (by decide) dX7_badPerm_63 ?_
    exact z_zret rfl dX7_badPerm_67
def fX7_badPerm_32 (l0 : Nat) (l1 : Int32) (l3 : Int32) (s0 : Int32) (s1 : Nat) (h : AH) : RR :=
  zcv (zob h s1 7) (fX7_bad s1 s0 2 1 h) fun v1 h2 =>
  zvi v1 fun x3 =>
  if x3 = 0 then (
    zcv (zob h2 l0 7) (fX7_isPermuting l0 l1 h2) fun v4 h5 =>
    zvi v4 fun x6 =>
    if x6 = 0 then (
      fX7_badPerm_54 l3 1 l0 h5)
    else
    fX7_badPerm_54 l3 0 l0 h5)
  else
  zbr 1 h2
set_option maxRecDepth 20000 in
theorem rX7_badPerm_32 {X : CT} {V : VT} {d n0 k0 : Nat} (hV : V.2.2.2.2.2.stackTraces = false) (l0 : Nat) (l1 : Int32) (l3 : Int32) (s0 : Int32) (s1 : Nat) (h : AH) : zG X V RX7 "badPerm" cX7_badPerm 4 (some .boolean) (d + 5) n0 k0 (fX7_badPerm_32 l0 l1 l3 s0 s1 h) 32 [(0, .ref l0), (1, .int l1), (3, .int l3)] [.int s0, .ref s1] h := by
  unfold fX7_badPerm_32
  refine z_iconst (v := 2) (by decide) dX7_badPerm_32 ?_
  refine z_iconst (v := 1) (by decide) dX7_badPerm_33 ?_
  refine z_cV (st := []) [.int s0, .int 2, .int 1] zk_RX7_215 rfl (Nat.le_of_ble_eq_true rfl) dX7_badPerm_34 (mX7_bad hV (d + 3) s1 s0 2 1 h) (fun v1 h2 => ?_)
  refine z_vi (fun x3 => ?_)
  refine z_if_ne 62 (by decide) dX7_badPerm_37 ?_ ?_
  · refine z_aload_n 0 rfl rfl dX7_badPerm_40 ?_
    refine z_aload_n 0 rfl rfl dX7_badPerm_41 ?_
    refine z_iload_n 1 rfl rfl dX7_badPerm_42 ?_
    refine z_cV (st := [.ref l0]) [.int l1] zk_RX7_266 rfl (Nat.le_of_ble_eq_true rfl) dX7_badPerm_43 (mX7_isPermuting hV (d + 0) l0 l1 h2) (fun v4 h5 => ?_)
    refine z_vi (fun x6 => ?_)
    refine z_if_ne 53 (by decide) dX7_badPerm_46 ?_ ?_
    · refine z_iconst (v := 1) (by decide) dX7_badPerm_49 ?_
      refine z_goto 54 (by decide) dX7_badPerm_50 ?_
      exact z_sub [2] rfl (rX7_badPerm_54 hV l3 1 l0 h5)
    · refine z_iconst (v := 0) (by decide) dX7_badPerm_53 ?_
      exact z_sub [2] rfl (rX7_badPerm_54 hV l3 0 l0 h5)
  · refine z_iconst (v := 1) (by decide) dX7_badPerm_62 ?_
    refine z_goto 67 (by decide) dX7_badPerm_63 ?_
    exact z_zret rfl dX7_badPerm_67
def fX7_badPerm_14 (l0 : Nat) (l1 : Int32) (l2 : Int32) (l3 : Int32) (s0 : Int32) (s1 : Nat) (h : AH) : RR :=
  zcv (zob h s1 7) (fX7_bad s1 s0 1 0 h) fun v1 h2 =>
  zvi v1 fun x3 =>
  if x3 = 0 then (
    if l2 = 0 then (
      fX7_badPerm_32 l0 l1 l3 1 l0 h2)
    else
    fX7_badPerm_32 l0 l1 l3 0 l0 h2)
  else
  zbr 1 h2
set_option maxRecDepth 20000 in
theorem rX7_badPerm_14 {X : CT} {V : VT} {d n0 k0 : Nat} (hV : V.2.2.2.2.2.stackTraces = false) (l0 : Nat) (l1 : Int32) (l2 : Int32) (l3 : Int32) (s0 : Int32) (s1 : Nat) (h : AH) : zG X V RX7 "badPerm" cX7_badPerm 4 (some .boolean) (d + 5) n0 k0 (fX7_badPerm_14 l0 l1 l2 l3 s0 s1 h) 14 [(0, .ref l0), (1, .int l1), (2, .int l2), (3, .int l3)] [.int s0, .ref s1] h := by
  unfold fX7_badPerm_14
  refine z_iconst (v := 1) (by decide) dX7_badPerm_14 ?_
  refine z_iconst (v := 0) (by decide) dX7_badPerm_15 ?_
  refine z_cV (st := []) [.int s0, .int 1, .int 0] zk_RX7_215 rfl (Nat.le_of_ble_eq_true rfl) dX7_badPerm_16 (mX7_bad hV (d + 3) s1 s0 1 0 h) (fun v1 h2 => ?_)
  refine z_vi (fun x3 => ?_)
  refine z_if_ne 62 (by decide) dX7_badPerm_19 ?_ ?_
  · refine z_aload_n 0 rfl rfl dX7_badPerm_22 ?_
    refine z_iload_n 2 rfl rfl dX7_badPerm_23 ?_
    refine z_if_ne 31 (by decide) dX7_badPerm_24 ?_ ?_
    · refine z_iconst (v := 1) (by decide) dX7_badPerm_27 ?_
      refine z_goto 32 (by decide) dX7_badPerm_28 ?_
      exact z_sub [0, 1, 3] rfl (rX7_badPerm_32 hV l0 l1 l3 1 l0 h2)
    · refine z_iconst (v := 0) (by decide) dX7_badPerm_31 ?_
      exact z_sub [0, 1, 3] rfl (rX7_badPerm_32 hV l0 l1 l3 0 l0 h2)
  · refine z_iconst (v := 1) (by decide) dX7_badPerm_62 ?_
    refine z_goto 67 (by decide) dX7_badPerm_63 ?_
    exact z_zret rfl dX7_badPerm_67
def fX7_badPerm (a0 : Nat) (a1 : Int32) (a2 : Int32) (a3 : Int32) (h : AH) : RR :=
  zcv (zob h a0 7) (fX7_isPoly a0 a1 h) fun v1 h2 =>
  zvi v1 fun x3 =>
  if x3 = 0 then (
    fX7_badPerm_14 a0 a1 a2 a3 1 a0 h2)
  else
  fX7_badPerm_14 a0 a1 a2 a3 0 a0 h2
set_option maxRecDepth 20000 in
theorem mX7_badPerm {V : VT} (hV : V.2.2.2.2.2.stackTraces = false) (d : Nat) (a0 : Nat) (a1 : Int32) (a2 : Int32) (a3 : Int32) (h : AH) : zM V yX7_badPerm cX7_badPerm 4 (some .boolean) (d + 5) [.ref a0, .int a1, .int a2, .int a3] h (fX7_badPerm a0 a1 a2 a3 h) := by
  refine z_meth hV (by decide +kernel) (Nat.le_of_ble_eq_true rfl) [(0, .ref a0), (1, .int a1), (2, .int a2), (3, .int a3)] rfl (fun X => ?_)
  show zG X V RX7 "badPerm" cX7_badPerm 4 (some .boolean) (d + 5) h.1 h.2.1 (fX7_badPerm a0 a1 a2 a3 h) 0 [(0, .ref a0), (1, .int a1), (2, .int a2), (3, .int a3)] [] h
  unfold fX7_badPerm
  refine z_aload_n 0 rfl rfl dX7_badPerm_0 ?_
  refine z_aload_n 0 rfl rfl dX7_badPerm_1 ?_
  refine z_iload_n 1 rfl rfl dX7_badPerm_2 ?_
  refine z_cV (st := [.ref a0]) [.int a1] zk_RX7_243 rfl (Nat.le_of_ble_eq_true rfl) dX7_badPerm_3 (mX7_isPoly hV (d + 2) a0 a1 h) (fun v1 h2 => ?_)
  refine z_vi (fun x3 => ?_)
  refine z_if_ne 13 (by decide) dX7_badPerm_6 ?_ ?_
  · refine z_iconst (v := 1) (by decide) dX7_badPerm_9 ?_
    refine z_goto 14 (by decide) dX7_badPerm_10 ?_
    exact z_sub [0, 1, 2, 3] rfl (rX7_badPerm_14 hV a0 a1 a2 a3 1 a0 h2)
  · refine z_iconst (v := 0) (by decide) dX7_badPerm_13 ?_
    exact z_sub [0, 1, 2, 3] rfl (rX7_badPerm_14 hV a0 a1 a2 a3 0 a0 h2)
def fX7_cyclesOf_5 : Nat → Nat → Int32 → Int32 → Int32 → Int32 → AH → RR
  | 0, _, _, _, _, _, _ => none
  | k + 1, l0, l1, l2, l3, l4, h =>
  (zgI h l0 7 15).bind fun x1 =>
  if x1 ≤ l4 then (
    some (.inl (some (.int l3)), h))
  else
  if l2 = 0 then (
    zcv (zob h l0 7) (fX7_cycleOf l0 l1 l4 h) fun v2 h3 =>
    zvi v2 fun x4 =>
    if x4 ≤ 0 then (
      fX7_cyclesOf_5 k l0 l1 l2 (l3 + 0) (l4 + 1) h3)
    else
    fX7_cyclesOf_5 k l0 l1 l2 (l3 + 1) (l4 + 1) h3)
  else
  zcv (zob h l0 7) (fX7_cycleOf l0 l1 l4 h) fun v5 h6 =>
  zvi v5 fun x7 =>
  if x7 = l2 then (
    fX7_cyclesOf_5 k l0 l1 l2 (l3 + 1) (l4 + 1) h6)
  else
  fX7_cyclesOf_5 k l0 l1 l2 (l3 + 0) (l4 + 1) h6
set_option maxRecDepth 20000 in
theorem rX7_cyclesOf_5 {X : CT} {V : VT} {d n0 k0 : Nat} (hV : V.2.2.2.2.2.stackTraces = false) (fu : Nat) : ∀ (l0 : Nat) (l1 : Int32) (l2 : Int32) (l3 : Int32) (l4 : Int32) (h : AH), zG X V RX7 "cyclesOf" cX7_cyclesOf 5 (some .int) (d + 3) n0 k0 (fX7_cyclesOf_5 fu l0 l1 l2 l3 l4 h) 5 [(0, .ref l0), (1, .int l1), (2, .int l2), (3, .int l3), (4, .int l4)] [] h := by
  induction fu with
  | zero => intros; exact z_none
  | succ k ih =>
    intro l0 l1 l2 l3 l4 h
    rw [fX7_cyclesOf_5]
    refine z_iload 4 rfl dX7_cyclesOf_5 ?_
    refine z_aload_n 0 rfl rfl dX7_cyclesOf_7 ?_
    refine z_gI zf_RX7_92 dX7_cyclesOf_8 (fun x1 => ?_)
    refine z_icmp_ge 61 (by decide) dX7_cyclesOf_11 ?_ ?_
    · refine z_iload_n 3 rfl rfl dX7_cyclesOf_61 ?_
      exact z_iret rfl dX7_cyclesOf_62
    · refine z_iload_n 3 rfl rfl dX7_cyclesOf_14 ?_
      refine z_iload_n 2 rfl rfl dX7_cyclesOf_15 ?_
      refine z_if_ne 37 (by decide) dX7_cyclesOf_16 ?_ ?_
      · refine z_aload_n 0 rfl rfl dX7_cyclesOf_19 ?_
        refine z_iload_n 1 rfl rfl dX7_cyclesOf_20 ?_
        refine z_iload 4 rfl dX7_cyclesOf_21 ?_
        refine z_cV (st := [.int l3]) [.int l1, .int l4] zk_RX7_279 rfl (Nat.le_of_ble_eq_true rfl) dX7_cyclesOf_23 (mX7_cycleOf hV (d + 0) l0 l1 l4 h) (fun v2 h3 => ?_)
        refine z_vi (fun x4 => ?_)
        refine z_if_le 33 (by decide) dX7_cyclesOf_26 ?_ ?_
        · refine z_iconst (v := 0) (by decide) dX7_cyclesOf_33 ?_
          refine z_goto 53 (by decide) dX7_cyclesOf_34 ?_
          refine z_iadd dX7_cyclesOf_53 ?_
          refine z_istore_n (lv' := [(3, .int (l3 + 0)), (0, .ref l0), (1, .int l1), (2, .int l2), (4, .int l4)]) rfl (by decide) rfl dX7_cyclesOf_54 ?_
          refine z_inc (w := 1) (lv' := [(4, .int (l4 + 1)), (3, .int (l3 + 0)), (0, .ref l0), (1, .int l1), (2, .int l2)]) 4 rfl (by decide) (by decide) rfl dX7_cyclesOf_55 ?_
          refine z_goto 5 (by decide) dX7_cyclesOf_58 ?_
          exact z_sub [2, 3, 4, 1, 0] rfl (ih l0 l1 l2 (l3 + 0) (l4 + 1) h3)
        · refine z_iconst (v := 1) (by decide) dX7_cyclesOf_29 ?_
          refine z_goto 53 (by decide) dX7_cyclesOf_30 ?_
          refine z_iadd dX7_cyclesOf_53 ?_
          refine z_istore_n (lv' := [(3, .int (l3 + 1)), (0, .ref l0), (1, .int l1), (2, .int l2), (4, .int l4)]) rfl (by decide) rfl dX7_cyclesOf_54 ?_
          refine z_inc (w := 1) (lv' := [(4, .int (l4 + 1)), (3, .int (l3 + 1)), (0, .ref l0), (1, .int l1), (2, .int l2)]) 4 rfl (by decide) (by decide) rfl dX7_cyclesOf_55 ?_
          refine z_goto 5 (by decide) dX7_cyclesOf_58 ?_
          exact z_sub [2, 3, 4, 1, 0] rfl (ih l0 l1 l2 (l3 + 1) (l4 + 1) h3)
      · refine z_aload_n 0 rfl rfl dX7_cyclesOf_37 ?_
        refine z_iload_n 1 rfl rfl dX7_cyclesOf_38 ?_
        refine z_iload 4 rfl dX7_cyclesOf_39 ?_
        refine z_cV (st := [.int l3]) [.int l1, .int l4] zk_RX7_279 rfl (Nat.le_of_ble_eq_true rfl) dX7_cyclesOf_41 (mX7_cycleOf hV (d + 0) l0 l1 l4 h) (fun v5 h6 => ?_)
        refine z_vi (fun x7 => ?_)
        refine z_iload_n 2 rfl rfl dX7_cyclesOf_44 ?_
        refine z_icmp_ne 52 (by decide) dX7_cyclesOf_45 ?_ ?_
        · refine z_iconst (v := 1) (by decide) dX7_cyclesOf_48 ?_
          refine z_goto 53 (by decide) dX7_cyclesOf_49 ?_
          refine z_iadd dX7_cyclesOf_53 ?_
          refine z_istore_n (lv' := [(3, .int (l3 + 1)), (0, .ref l0), (1, .int l1), (2, .int l2), (4, .int l4)]) rfl (by decide) rfl dX7_cyclesOf_54 ?_
          refine z_inc (w := 1) (lv' := [(4, .int (l4 + 1)), (3, .int (l3 + 1)), (0, .ref l0), (1, .int l1), (2, .int l2)]) 4 rfl (by decide) (by decide) rfl dX7_cyclesOf_55 ?_
          refine z_goto 5 (by decide) dX7_cyclesOf_58 ?_
          exact z_sub [2, 3, 4, 1, 0] rfl (ih l0 l1 l2 (l3 + 1) (l4 + 1) h6)
        · refine z_iconst (v := 0) (by decide) dX7_cyclesOf_52 ?_
          refine z_iadd dX7_cyclesOf_53 ?_
          refine z_istore_n (lv' := [(3, .int (l3 + 0)), (0, .ref l0), (1, .int l1), (2, .int l2), (4, .int l4)]) rfl (by decide) rfl dX7_cyclesOf_54 ?_
          refine z_inc (w := 1) (lv' := [(4, .int (l4 + 1)), (3, .int (l3 + 0)), (0, .ref l0), (1, .int l1), (2, .int l2)]) 4 rfl (by decide) (by decide) rfl dX7_cyclesOf_55 ?_
          refine z_goto 5 (by decide) dX7_cyclesOf_58 ?_
          exact z_sub [2, 3, 4, 1, 0] rfl (ih l0 l1 l2 (l3 + 0) (l4 + 1) h6)
def fX7_cyclesOf (a0 : Nat) (a1 : Int32) (a2 : Int32) (h : AH) : RR :=
  fX7_cyclesOf_5 FU a0 a1 a2 0 0 h
set_option maxRecDepth 20000 in
theorem mX7_cyclesOf {V : VT} (hV : V.2.2.2.2.2.stackTraces = false) (d : Nat) (a0 : Nat) (a1 : Int32) (a2 : Int32) (h : AH) : zM V yX7_cyclesOf cX7_cyclesOf 5 (some .int) (d + 3) [.ref a0, .int a1, .int a2] h (fX7_cyclesOf a0 a1 a2 h) := by
  refine z_meth hV (by decide +kernel) (Nat.le_of_ble_eq_true rfl) [(0, .ref a0), (1, .int a1), (2, .int a2)] rfl (fun X => ?_)
  show zG X V RX7 "cyclesOf" cX7_cyclesOf 5 (some .int) (d + 3) h.1 h.2.1 (fX7_cyclesOf a0 a1 a2 h) 0 [(0, .ref a0), (1, .int a1), (2, .int a2)] [] h
  unfold fX7_cyclesOf
  refine z_iconst (v := 0) (by decide) dX7_cyclesOf_0 ?_
  refine z_istore_n (lv' := [(3, .int 0), (0, .ref a0), (1, .int a1), (2, .int a2)]) rfl (by decide) rfl dX7_cyclesOf_1 ?_
  refine z_iconst (v := 0) (by decide) dX7_cyclesOf_2 ?_
  refine z_istore (lv' := [(4, .int 0), (3, .int 0), (0, .ref a0), (1, .int a1), (2, .int a2)]) (by decide) rfl dX7_cyclesOf_3 ?_
  exact z_sub [2, 3, 4, 1, 0] rfl (rX7_cyclesOf_5 hV FU a0 a1 a2 0 0 h)
def fX7_cycles (a0 : Nat) (a1 : Int32) (a2 : Int32) (h : AH) : RR :=
  zcv (zob h a0 7) (fX7_begins a0 h) fun v1 h2 =>
  zvn v1 <|
  zca (fX7_in a2.toInt64 0 64 h2) fun v3 h4 =>
  zvi v3 fun x5 =>
  zcv (zob h4 a0 7) (fX7_badPerm a0 a1 x5 3 h4) fun v6 h7 =>
  zvi v6 fun x8 =>
  if x8 = 0 then (
    zcv (zob h7 a0 7) (fX7_cyclesOf a0 a1 a2 h7) fun v9 h10 =>
    zvi v9 fun x11 =>
    some (.inl (some (.int x11)), h10))
  else
  some (.inl (some (.int 0)), h7)
set_option maxRecDepth 20000 in
theorem mX7_cycles {V : VT} (hV : V.2.2.2.2.2.stackTraces = false) (d : Nat) (a0 : Nat) (a1 : Int32) (a2 : Int32) (h : AH) : zM V yX7_cycles cX7_cycles 3 (some .int) (d + 6) [.ref a0, .int a1, .int a2] h (fX7_cycles a0 a1 a2 h) := by
  refine z_meth hV (by decide +kernel) (Nat.le_of_ble_eq_true rfl) [(0, .ref a0), (1, .int a1), (2, .int a2)] rfl (fun X => ?_)
  show zG X V RX7 "cycles" cX7_cycles 3 (some .int) (d + 6) h.1 h.2.1 (fX7_cycles a0 a1 a2 h) 0 [(0, .ref a0), (1, .int a1), (2, .int a2)] [] h
  unfold fX7_cycles
  refine z_aload_n 0 rfl rfl dX7_cycles_0 ?_
  refine z_cV (st := []) [] zk_RX7_240 rfl (Nat.le_of_ble_eq_true rfl) dX7_cycles_1 (mX7_begins hV (d + 0) a0 h) (fun v1 h2 => ?_)
  refine z_vn ?_
  refine z_aload_n 0 rfl rfl dX7_cycles_4 ?_
  refine z_iload_n 1 rfl rfl dX7_cycles_5 ?_
  refine z_iload_n 2 rfl rfl dX7_cycles_6 ?_
  refine z_i2l dX7_cycles_7 ?_
  refine z_lconst (v := 0) (by decide) dX7_cycles_8 ?_
  refine z_ldc2 zw_1305 dX7_cycles_9 ?_
  refine z_cS (st := [.int a1, .ref a0]) [.long a2.toInt64, .long 0, .long 64] zk_RX7_154 rfl (Nat.le_of_ble_eq_true rfl) dX7_cycles_12 (mX7_in hV (d + 4) a2.toInt64 0 64 h2) (fun v3 h4 => ?_)
  refine z_vi (fun x5 => ?_)
  refine z_iconst (v := 3) (by decide) dX7_cycles_15 ?_
  refine z_cV (st := []) [.int a1, .int x5, .int 3] zk_RX7_284 rfl (Nat.le_of_ble_eq_true rfl) dX7_cycles_16 (mX7_badPerm hV (d + 0) a0 a1 x5 3 h4) (fun v6 h7 => ?_)
  refine z_vi (fun x8 => ?_)
  refine z_if_eq 26 (by decide) dX7_cycles_19 ?_ ?_
  · refine z_aload_n 0 rfl rfl dX7_cycles_26 ?_
    refine z_iload_n 1 rfl rfl dX7_cycles_27 ?_
    refine z_iload_n 2 rfl rfl dX7_cycles_28 ?_
    refine z_cV (st := []) [.int a1, .int a2] zk_RX7_288 rfl (Nat.le_of_ble_eq_true rfl) dX7_cycles_29 (mX7_cyclesOf hV (d + 2) a0 a1 a2 h7) (fun v9 h10 => ?_)
    refine z_vi (fun x11 => ?_)
    exact z_iret rfl dX7_cycles_32
  · refine z_iconst (v := 0) (by decide) dX7_cycles_22 ?_
    refine z_goto 32 (by decide) dX7_cycles_23 ?_
    exact z_iret rfl dX7_cycles_32
def fX7_common_4 : Nat → Int32 → Int32 → AH → RR
  | 0, _, _, _ => none
  | k + 1, l2, l3, h =>
  if l3 = 0 then (
    some (.inl (some (.int l2)), h))
  else
  if l3 = 0 then none else
  fX7_common_4 k l3 (l2 - l2 / l3 * l3) h
set_option maxRecDepth 20000 in
theorem rX7_common_4 {X : CT} {V : VT} {d n0 k0 : Nat} (hV : V.2.2.2.2.2.stackTraces = false) (fu : Nat) : ∀ (l2 : Int32) (l3 : Int32) (h : AH), zG X V RX7 "common" cX7_common 5 (some .int) (d + 1) n0 k0 (fX7_common_4 fu l2 l3 h) 4 [(2, .int l2), (3, .int l3)] [] h := by
  induction fu with
  | zero => intros; exact z_none
  | succ k ih =>
    intro l2 l3 h
    rw [fX7_common_4]
    refine z_iload_n 1 rfl rfl dX7_common_4 ?_
    refine z_if_eq 21 (by decide) dX7_common_5 ?_ ?_
    · refine z_iload_n 0 rfl rfl dX7_common_21 ?_
      exact z_iret rfl dX7_common_22
    · refine z_iload_n 0 rfl rfl dX7_common_8 ?_
      refine z_iload_n 1 rfl rfl dX7_common_9 ?_
      refine z_irem dX7_common_10 ?_
      refine z_istore (lv' := [(4, .int (l2 - l2 / l3 * l3)), (2, .int l2), (3, .int l3)]) (by decide) rfl dX7_common_11 ?_
      refine z_iload_n 2 rfl rfl dX7_common_13 ?_
      refine z_istore_n (lv' := [(2, .int l3), (4, .int (l2 - l2 / l3 * l3)), (3, .int l3)]) rfl (by decide) rfl dX7_common_14 ?_
      refine z_iload 1 rfl dX7_common_15 ?_
      refine z_istore_n (lv' := [(3, .int (l2 - l2 / l3 * l3)), (2, .int l3), (4, .int (l2 - l2 / l3 * l3))]) rfl (by decide) rfl dX7_common_17 ?_
      refine z_goto 4 (by decide) dX7_common_18 ?_
      exact z_sub [1, 0] rfl (ih l3 (l2 - l2 / l3 * l3) h)
def fX7_common (a0 : Int32) (a1 : Int32) (h : AH) : RR :=
  fX7_common_4 FU a0 a1 h
set_option maxRecDepth 20000 in
theorem mX7_common {V : VT} (hV : V.2.2.2.2.2.stackTraces = false) (d : Nat) (a0 : Int32) (a1 : Int32) (h : AH) : zM V yX7_common cX7_common 5 (some .int) (d + 1) [.int a0, .int a1] h (fX7_common a0 a1 h) := by
  refine z_meth hV (by decide +kernel) (Nat.le_of_ble_eq_true rfl) [(0, .int a0), (1, .int a1)] rfl (fun X => ?_)
  show zG X V RX7 "common" cX7_common 5 (some .int) (d + 1) h.1 h.2.1 (fX7_common a0 a1 h) 0 [(0, .int a0), (1, .int a1)] [] h
  unfold fX7_common
  refine z_iload_n 0 rfl rfl dX7_common_0 ?_
  refine z_istore_n (lv' := [(2, .int a0), (0, .int a0), (1, .int a1)]) rfl (by decide) rfl dX7_common_1 ?_
  refine z_iload_n 2 rfl rfl dX7_common_2 ?_
  refine z_istore_n (lv' := [(3, .int a1), (2, .int a0), (0, .int a0), (1, .int a1)]) rfl (by decide) rfl dX7_common_3 ?_
  exact z_sub [1, 0] rfl (rX7_common_4 hV FU a0 a1 h)
def fX7_order_20 : Nat → Nat → Int32 → Int32 → Int32 → AH → RR
  | 0, _, _, _, _, _ => none
  | k + 1, l0, l1, l2, l3, h =>
  (zgI h l0 7 15).bind fun x1 =>
  if x1 ≤ l3 then (
    some (.inl (some (.int l2)), h))
  else
  zcv (zob h l0 7) (fX7_cycleOf l0 l1 l3 h) fun v2 h3 =>
  zvi v2 fun x4 =>
  if x4 ≤ 0 then (
    fX7_order_20 k l0 l1 l2 (l3 + 1) h3)
  else
  zca (fX7_common l2 x4 h3) fun v5 h6 =>
  zvi v5 fun x7 =>
  if x7 = 0 then none else
  fX7_order_20 k l0 l1 ((l2 / x7) * x4) (l3 + 1) h6
set_option maxRecDepth 20000 in
theorem rX7_order_20 {X : CT} {V : VT} {d n0 k0 : Nat} (hV : V.2.2.2.2.2.stackTraces = false) (fu : Nat) : ∀ (l0 : Nat) (l1 : Int32) (l2 : Int32) (l3 : Int32) (h : AH), zG X V RX7 "order" cX7_order 5 (some .int) (d + 6) n0 k0 (fX7_order_20 fu l0 l1 l2 l3 h) 20 [(0, .ref l0), (1, .int l1), (2, .int l2), (3, .int l3)] [] h := by
  induction fu with
  | zero => intros; exact z_none
  | succ k ih =>
    intro l0 l1 l2 l3 h
    rw [fX7_order_20]
    refine z_iload_n 3 rfl rfl dX7_order_20 ?_
    refine z_aload_n 0 rfl rfl dX7_order_21 ?_
    refine z_gI zf_RX7_92 dX7_order_22 (fun x1 => ?_)
    refine z_icmp_ge 59 (by decide) dX7_order_25 ?_ ?_
    · refine z_iload_n 2 rfl rfl dX7_order_59 ?_
      exact z_iret rfl dX7_order_60
    · refine z_aload_n 0 rfl rfl dX7_order_28 ?_
      refine z_iload_n 1 rfl rfl dX7_order_29 ?_
      refine z_iload_n 3 rfl rfl dX7_order_30 ?_
      refine z_cV (st := []) [.int l1, .int l3] zk_RX7_279 rfl (Nat.le_of_ble_eq_true rfl) dX7_order_31 (mX7_cycleOf hV (d + 3) l0 l1 l3 h) (fun v2 h3 => ?_)
      refine z_vi (fun x4 => ?_)
      refine z_istore (lv' := [(4, .int x4), (0, .ref l0), (1, .int l1), (2, .int l2), (3, .int l3)]) (by decide) rfl dX7_order_34 ?_
      refine z_iload 0 rfl dX7_order_36 ?_
      refine z_if_le 53 (by decide) dX7_order_38 ?_ ?_
      · refine z_inc (w := 1) (lv' := [(3, .int (l3 + 1)), (4, .int x4), (0, .ref l0), (1, .int l1), (2, .int l2)]) 4 rfl (by decide) (by decide) rfl dX7_order_53 ?_
        refine z_goto 20 (by decide) dX7_order_56 ?_
        exact z_sub [2, 3, 4, 0] rfl (ih l0 l1 l2 (l3 + 1) h3)
      · refine z_iload_n 3 rfl rfl dX7_order_41 ?_
        refine z_iload_n 3 rfl rfl dX7_order_42 ?_
        refine z_iload 0 rfl dX7_order_43 ?_
        refine z_cS (st := [.int l2]) [.int l2, .int x4] zk_RX7_291 rfl (Nat.le_of_ble_eq_true rfl) dX7_order_45 (mX7_common hV (d + 4) l2 x4 h3) (fun v5 h6 => ?_)
        refine z_vi (fun x7 => ?_)
        refine z_idiv dX7_order_48 ?_
        refine z_iload 0 rfl dX7_order_49 ?_
        refine z_imul dX7_order_51 ?_
        refine z_istore_n (lv' := [(2, .int ((l2 / x7) * x4)), (4, .int x4), (0, .ref l0), (1, .int l1), (3, .int l3)]) rfl (by decide) rfl dX7_order_52 ?_
        refine z_inc (w := 1) (lv' := [(3, .int (l3 + 1)), (2, .int ((l2 / x7) * x4)), (4, .int x4), (0, .ref l0), (1, .int l1)]) 4 rfl (by decide) (by decide) rfl dX7_order_53 ?_
        refine z_goto 20 (by decide) dX7_order_56 ?_
        exact z_sub [3, 4, 1, 0] rfl (ih l0 l1 ((l2 / x7) * x4) (l3 + 1) h6)
def fX7_order (a0 : Nat) (a1 : Int32) (h : AH) : RR :=
  zcv (zob h a0 7) (fX7_begins a0 h) fun v1 h2 =>
  zvn v1 <|
  zcv (zob h2 a0 7) (fX7_badPerm a0 a1 1 2 h2) fun v3 h4 =>
  zvi v3 fun x5 =>
  if x5 = 0 then (
    fX7_order_20 FU a0 a1 1 0 h4)
  else
  some (.inl (some (.int 0)), h4)
set_option maxRecDepth 20000 in
theorem mX7_order {V : VT} (hV : V.2.2.2.2.2.stackTraces = false) (d : Nat) (a0 : Nat) (a1 : Int32) (h : AH) : zM V yX7_order cX7_order 5 (some .int) (d + 6) [.ref a0, .int a1] h (fX7_order a0 a1 h) := by
  refine z_meth hV (by decide +kernel) (Nat.le_of_ble_eq_true rfl) [(0, .ref a0), (1, .int a1)] rfl (fun X => ?_)
  show zG X V RX7 "order" cX7_order 5 (some .int) (d + 6) h.1 h.2.1 (fX7_order a0 a1 h) 0 [(0, .ref a0), (1, .int a1)] [] h
  unfold fX7_order
  refine z_aload_n 0 rfl rfl dX7_order_0 ?_
  refine z_cV (st := []) [] zk_RX7_240 rfl (Nat.le_of_ble_eq_true rfl) dX7_order_1 (mX7_begins hV (d + 0) a0 h) (fun v1 h2 => ?_)
  refine z_vn ?_
  refine z_aload_n 0 rfl rfl dX7_order_4 ?_
  refine z_iload_n 1 rfl rfl dX7_order_5 ?_
  refine z_iconst (v := 1) (by decide) dX7_order_6 ?_
  refine z_iconst (v := 2) (by decide) dX7_order_7 ?_
  refine z_cV (st := []) [.int a1, .int 1, .int 2] zk_RX7_284 rfl (Nat.le_of_ble_eq_true rfl) dX7_order_8 (mX7_badPerm hV (d + 0) a0 a1 1 2 h2) (fun v3 h4 => ?_)
  refine z_vi (fun x5 => ?_)
  refine z_if_eq 16 (by decide) dX7_order_11 ?_ ?_
  · refine z_iconst (v := 1) (by decide) dX7_order_16 ?_
    refine z_istore_n (lv' := [(2, .int 1), (0, .ref a0), (1, .int a1)]) rfl (by decide) rfl dX7_order_17 ?_
    refine z_iconst (v := 0) (by decide) dX7_order_18 ?_
    refine z_istore_n (lv' := [(3, .int 0), (2, .int 1), (0, .ref a0), (1, .int a1)]) rfl (by decide) rfl dX7_order_19 ?_
    exact z_sub [2, 3, 1, 0] rfl (rX7_order_20 hV FU a0 a1 1 0 h4)
  · refine z_iconst (v := 0) (by decide) dX7_order_14 ?_
    exact z_iret rfl dX7_order_15
def fX7_even (a0 : Nat) (a1 : Int32) (h : AH) : RR :=
  zcv (zob h a0 7) (fX7_begins a0 h) fun v1 h2 =>
  zvn v1 <|
  zcv (zob h2 a0 7) (fX7_badPerm a0 a1 1 2 h2) fun v3 h4 =>
  zvi v3 fun x5 =>
  if x5 = 0 then (
    (zgI h4 a0 7 15).bind fun x6 =>
    zcv (zob h4 a0 7) (fX7_cyclesOf a0 a1 0 h4) fun v7 h8 =>
    zvi v7 fun x9 =>
    if (2 : Int32) = 0 then none else
    if ((x6 - x9) - (x6 - x9) / 2 * 2) = 0 then (
      some (.inl (some (.int 1)), h8))
    else
    some (.inl (some (.int 0)), h8))
  else
  some (.inl (some (.int 0)), h4)
set_option maxRecDepth 20000 in
theorem mX7_even {V : VT} (hV : V.2.2.2.2.2.stackTraces = false) (d : Nat) (a0 : Nat) (a1 : Int32) (h : AH) : zM V yX7_even cX7_even 2 (some .int) (d + 6) [.ref a0, .int a1] h (fX7_even a0 a1 h) := by
  refine z_meth hV (by decide +kernel) (Nat.le_of_ble_eq_true rfl) [(0, .ref a0), (1, .int a1)] rfl (fun X => ?_)
  show zG X V RX7 "even" cX7_even 2 (some .int) (d + 6) h.1 h.2.1 (fX7_even a0 a1 h) 0 [(0, .ref a0), (1, .int a1)] [] h
  unfold fX7_even
  refine z_aload_n 0 rfl rfl dX7_even_0 ?_
  refine z_cV (st := []) [] zk_RX7_240 rfl (Nat.le_of_ble_eq_true rfl) dX7_even_1 (mX7_begins hV (d + 0) a0 h) (fun v1 h2 => ?_)
  refine z_vn ?_
  refine z_aload_n 0 rfl rfl dX7_even_4 ?_
  refine z_iload_n 1 rfl rfl dX7_even_5 ?_
  refine z_iconst (v := 1) (by decide) dX7_even_6 ?_
  refine z_iconst (v := 2) (by decide) dX7_even_7 ?_
  refine z_cV (st := []) [.int a1, .int 1, .int 2] zk_RX7_284 rfl (Nat.le_of_ble_eq_true rfl) dX7_even_8 (mX7_badPerm hV (d + 0) a0 a1 1 2 h2) (fun v3 h4 => ?_)
  refine z_vi (fun x5 => ?_)
  refine z_if_eq 18 (by decide) dX7_even_11 ?_ ?_
  · refine z_aload_n 0 rfl rfl dX7_even_18 ?_
    refine z_gI zf_RX7_92 dX7_even_19 (fun x6 => ?_)
    refine z_aload_n 0 rfl rfl dX7_even_22 ?_
    refine z_iload_n 1 rfl rfl dX7_even_23 ?_
    refine z_iconst (v := 0) (by decide) dX7_even_24 ?_
    refine z_cV (st := [.int x6]) [.int a1, .int 0] zk_RX7_288 rfl (Nat.le_of_ble_eq_true rfl) dX7_even_25 (mX7_cyclesOf hV (d + 2) a0 a1 0 h4) (fun v7 h8 => ?_)
    refine z_vi (fun x9 => ?_)
    refine z_isub dX7_even_28 ?_
    refine z_iconst (v := 2) (by decide) dX7_even_29 ?_
    refine z_irem dX7_even_30 ?_
    refine z_if_ne 38 (by decide) dX7_even_31 ?_ ?_
    · refine z_iconst (v := 1) (by decide) dX7_even_34 ?_
      refine z_goto 39 (by decide) dX7_even_35 ?_
      exact z_iret rfl dX7_even_39
    · refine z_iconst (v := 0) (by decide) dX7_even_38 ?_
      exact z_iret rfl dX7_even_39
  · refine z_iconst (v := 0) (by decide) dX7_even_14 ?_
    refine z_goto 39 (by decide) dX7_even_15 ?_
    exact z_iret rfl dX7_even_39
def fX7_laysOrbits_115 (K25 : Nat → Int32 → AH → RR) (K33 : Nat → Int32 → Int32 → AH → RR) (K56 : Nat → Int32 → Int32 → Int32 → AH → RR) (l0 : Nat) (l2 : Int32) (l3 : Int32) (l4 : Int32) (l5 : Int32) (s0 : Int32) (h : AH) : RR :=
  (zgR h l0 7 27).bind fun x1 =>
  (zsi h x1 l3 l5).bind fun h2 =>
  (zgR h2 l0 7 27).bind fun x3 =>
  (zsi h2 x3 l4 l5).bind fun h4 =>
  K56 l0 s0 l2 (l3 + 1) h4
set_option maxRecDepth 20000 in
theorem rX7_laysOrbits_115 {X : CT} {V : VT} {d n0 k0 : Nat} (hV : V.2.2.2.2.2.stackTraces = false) (K25 : Nat → Int32 → AH → RR) (K33 : Nat → Int32 → Int32 → AH → RR) (K56 : Nat → Int32 → Int32 → Int32 → AH → RR) (hK25 : ∀ l0 l1  h, zG X V RX7 "laysOrbits" cX7_laysOrbits 6 none (d + 5) n0 k0 (K25 l0 l1 h) 25 [(0, .ref l0), (1, .int l1)] [] h) (hK33 : ∀ l0 l1 l2  h, zG X V RX7 "laysOrbits" cX7_laysOrbits 6 none (d + 5) n0 k0 (K33 l0 l1 l2 h) 33 [(0, .ref l0), (1, .int l1), (2, .int l2)] [] h) (hK56 : ∀ l0 l1 l2 l3  h, zG X V RX7 "laysOrbits" cX7_laysOrbits 6 none (d + 5) n0 k0 (K56 l0 l1 l2 l3 h) 56 [(0, .ref l0), (1, .int l1), (2, .int l2), (3, .int l3)] [] h) (l0 : Nat) (l2 : Int32) (l3 : Int32) (l4 : Int32) (l5 : Int32) (s0 : Int32) (h : AH) : zG X V RX7 "laysOrbits" cX7_laysOrbits 6 none (d + 5) n0 k0 (fX7_laysOrbits_115 K25 K33 K56 l0 l2 l3 l4 l5 s0 h) 115 [(0, .ref l0), (2, .int l2), (3, .int l3), (4, .int l4), (5, .int l5)] [.int s0] h := by
  unfold fX7_laysOrbits_115
  refine z_istore_n (lv' := [(1, .int s0), (0, .ref l0), (2, .int l2), (3, .int l3), (4, .int l4), (5, .int l5)]) rfl (by decide) rfl dX7_laysOrbits_115 ?_
  refine z_aload_n 1 rfl rfl dX7_laysOrbits_116 ?_
  refine z_gR zf_RX7_55 dX7_laysOrbits_117 (fun x1 => ?_)
  refine z_iload_n 3 rfl rfl dX7_laysOrbits_120 ?_
  refine z_iload 5 rfl dX7_laysOrbits_121 ?_
  refine z_sI dX7_laysOrbits_123 (fun h2 => ?_)
  refine z_aload_n 1 rfl rfl dX7_laysOrbits_124 ?_
  refine z_gR zf_RX7_55 dX7_laysOrbits_125 (fun x3 => ?_)
  refine z_iload 4 rfl dX7_laysOrbits_128 ?_
  refine z_iload 5 rfl dX7_laysOrbits_130 ?_
  refine z_sI dX7_laysOrbits_132 (fun h4 => ?_)
  refine z_inc (w := 1) (lv' := [(3, .int (l3 + 1)), (1, .int s0), (0, .ref l0), (2, .int l2), (4, .int l4), (5, .int l5)]) 3 rfl (by decide) (by decide) rfl dX7_laysOrbits_133 ?_
  refine z_goto 56 (by decide) dX7_laysOrbits_136 ?_
  exact z_sub [2, 1, 3, 0] rfl (hK56 l0 s0 l2 (l3 + 1) h4)
def fX7_laysOrbits_110 (K25 : Nat → Int32 → AH → RR) (K33 : Nat → Int32 → Int32 → AH → RR) (K56 : Nat → Int32 → Int32 → Int32 → AH → RR) (l0 : Nat) (l2 : Int32) (l3 : Int32) (l4 : Int32) (l5 : Int32) (h : AH) : RR :=
  fX7_laysOrbits_115 K25 K33 K56 l0 l2 l3 l4 l5 1 h
set_option maxRecDepth 20000 in
theorem rX7_laysOrbits_110 {X : CT} {V : VT} {d n0 k0 : Nat} (hV : V.2.2.2.2.2.stackTraces = false) (K25 : Nat → Int32 → AH → RR) (K33 : Nat → Int32 → Int32 → AH → RR) (K56 : Nat → Int32 → Int32 → Int32 → AH → RR) (hK25 : ∀ l0 l1  h, zG X V RX7 "laysOrbits" cX7_laysOrbits 6 none (d + 5) n0 k0 (K25 l0 l1 h) 25 [(0, .ref l0), (1, .int l1)] [] h) (hK33 : ∀ l0 l1 l2  h, zG X V RX7 "laysOrbits" cX7_laysOrbits 6 none (d + 5) n0 k0 (K33 l0 l1 l2 h) 33 [(0, .ref l0), (1, .int l1), (2, .int l2)] [] h) (hK56 : ∀ l0 l1 l2 l3  h, zG X V RX7 "laysOrbits" cX7_laysOrbits 6 none (d + 5) n0 k0 (K56 l0 l1 l2 l3 h) 56 [(0, .ref l0), (1, .int l1), (2, .int l2), (3, .int l3)] [] h) (l0 : Nat) (l2 : Int32) (l3 : Int32) (l4 : Int32) (l5 : Int32) (h : AH) : zG X V RX7 "laysOrbits" cX7_laysOrbits 6 none (d + 5) n0 k0 (fX7_laysOrbits_110 K25 K33 K56 l0 l2 l3 l4 l5 h) 110 [(0, .ref l0), (2, .int l2), (3, .int l3), (4, .int l4), (5, .int l5)] [] h := by
  unfold fX7_laysOrbits_110
  refine z_iconst (v := 1) (by decide) dX7_laysOrbits_110 ?_
  refine z_goto 115 (by decide) dX7_laysOrbits_111 ?_
  exact z_sub [0, 1, 2, 3, 4] rfl (rX7_laysOrbits_115 hV K25 K33 K56 hK25 hK33 hK56 l0 l2 l3 l4 l5 1 h)
def fX7_laysOrbits_56 (K25 : Nat → Int32 → AH → RR) (K33 : Nat → Int32 → Int32 → AH → RR) : Nat → Nat → Int32 → Int32 → Int32 → AH → RR
  | 0, _, _, _, _, _ => none
  | k + 1, l0, l1, l2, l3, h =>
  (zgI h l0 7 15).bind fun x1 =>
  if x1 ≤ l3 then (
    K33 l0 l1 (l2 + 1) h)
  else
  zcv (zob h l0 7) (fX7_of l0 l2 l3 h) fun v2 h3 =>
  zvi v2 fun x4 =>
  (zgR h3 l0 7 27).bind fun x5 =>
  (zai h3 x5 l3).bind fun x6 =>
  (zgR h3 l0 7 27).bind fun x7 =>
  (zai h3 x7 x4).bind fun x8 =>
  zca (fX7_less x6 x8 h3) fun v9 h10 =>
  zvi v9 fun x11 =>
  if l1 = 0 then (
    (zgR h10 l0 7 27).bind fun x12 =>
    (zai h10 x12 l3).bind fun x13 =>
    (zgR h10 l0 7 27).bind fun x14 =>
    (zai h10 x14 x4).bind fun x15 =>
    if x13 = x15 then (
      fX7_laysOrbits_115 K25 K33 (fun p0 p1 p2 p3 h => fX7_laysOrbits_56 K25 K33 k p0 p1 p2 p3 h) l0 l2 l3 x4 x11 0 h10)
    else
    fX7_laysOrbits_110 K25 K33 (fun p0 p1 p2 p3 h => fX7_laysOrbits_56 K25 K33 k p0 p1 p2 p3 h) l0 l2 l3 x4 x11 h10)
  else
  fX7_laysOrbits_110 K25 K33 (fun p0 p1 p2 p3 h => fX7_laysOrbits_56 K25 K33 k p0 p1 p2 p3 h) l0 l2 l3 x4 x11 h10
set_option maxRecDepth 20000 in
theorem rX7_laysOrbits_56 {X : CT} {V : VT} {d n0 k0 : Nat} (hV : V.2.2.2.2.2.stackTraces = false) (K25 : Nat → Int32 → AH → RR) (K33 : Nat → Int32 → Int32 → AH → RR) (hK25 : ∀ l0 l1  h, zG X V RX7 "laysOrbits" cX7_laysOrbits 6 none (d + 5) n0 k0 (K25 l0 l1 h) 25 [(0, .ref l0), (1, .int l1)] [] h) (hK33 : ∀ l0 l1 l2  h, zG X V RX7 "laysOrbits" cX7_laysOrbits 6 none (d + 5) n0 k0 (K33 l0 l1 l2 h) 33 [(0, .ref l0), (1, .int l1), (2, .int l2)] [] h) (fu : Nat) : ∀ (l0 : Nat) (l1 : Int32) (l2 : Int32) (l3 : Int32) (h : AH), zG X V RX7 "laysOrbits" cX7_laysOrbits 6 none (d + 5) n0 k0 (fX7_laysOrbits_56 K25 K33 fu l0 l1 l2 l3 h) 56 [(0, .ref l0), (1, .int l1), (2, .int l2), (3, .int l3)] [] h := by
  induction fu with
  | zero => intros; exact z_none
  | succ k ih =>
    intro l0 l1 l2 l3 h
    rw [fX7_laysOrbits_56]
    refine z_iload_n 3 rfl rfl dX7_laysOrbits_56 ?_
    refine z_aload_n 0 rfl rfl dX7_laysOrbits_57 ?_
    refine z_gI zf_RX7_92 dX7_laysOrbits_58 (fun x1 => ?_)
    refine z_icmp_ge 139 (by decide) dX7_laysOrbits_61 ?_ ?_
    · refine z_inc (w := 1) (lv' := [(2, .int (l2 + 1)), (0, .ref l0), (1, .int l1), (3, .int l3)]) 2 rfl (by decide) (by decide) rfl dX7_laysOrbits_139 ?_
      refine z_goto 33 (by decide) dX7_laysOrbits_142 ?_
      exact z_sub [1, 2, 0] rfl (hK33 l0 l1 (l2 + 1) h)
    · refine z_aload_n 0 rfl rfl dX7_laysOrbits_64 ?_
      refine z_iload_n 2 rfl rfl dX7_laysOrbits_65 ?_
      refine z_iload_n 3 rfl rfl dX7_laysOrbits_66 ?_
      refine z_cV (st := []) [.int l2, .int l3] zk_RX7_237 rfl (Nat.le_of_ble_eq_true rfl) dX7_laysOrbits_67 (mX7_of hV (d + 3) l0 l2 l3 h) (fun v2 h3 => ?_)
      refine z_vi (fun x4 => ?_)
      refine z_istore (lv' := [(4, .int x4), (0, .ref l0), (1, .int l1), (2, .int l2), (3, .int l3)]) (by decide) rfl dX7_laysOrbits_70 ?_
      refine z_aload_n 1 rfl rfl dX7_laysOrbits_72 ?_
      refine z_gR zf_RX7_55 dX7_laysOrbits_73 (fun x5 => ?_)
      refine z_iload_n 4 rfl rfl dX7_laysOrbits_76 ?_
      refine z_aI dX7_laysOrbits_77 (fun x6 => ?_)
      refine z_aload_n 1 rfl rfl dX7_laysOrbits_78 ?_
      refine z_gR zf_RX7_55 dX7_laysOrbits_79 (fun x7 => ?_)
      refine z_iload 0 rfl dX7_laysOrbits_82 ?_
      refine z_aI dX7_laysOrbits_84 (fun x8 => ?_)
      refine z_cS (st := []) [.int x6, .int x8] zk_RX7_64 rfl (Nat.le_of_ble_eq_true rfl) dX7_laysOrbits_85 (mX7_less hV (d + 3) x6 x8 h3) (fun v9 h10 => ?_)
      refine z_vi (fun x11 => ?_)
      refine z_istore (lv' := [(5, .int x11), (4, .int x4), (0, .ref l0), (1, .int l1), (2, .int l2), (3, .int l3)]) (by decide) rfl dX7_laysOrbits_88 ?_
      refine z_iload_n 3 rfl rfl dX7_laysOrbits_90 ?_
      refine z_if_ne 110 (by decide) dX7_laysOrbits_91 ?_ ?_
      · refine z_aload_n 2 rfl rfl dX7_laysOrbits_94 ?_
        refine z_gR zf_RX7_55 dX7_laysOrbits_95 (fun x12 => ?_)
        refine z_iload_n 5 rfl rfl dX7_laysOrbits_98 ?_
        refine z_aI dX7_laysOrbits_99 (fun x13 => ?_)
        refine z_aload_n 2 rfl rfl dX7_laysOrbits_100 ?_
        refine z_gR zf_RX7_55 dX7_laysOrbits_101 (fun x14 => ?_)
        refine z_iload 1 rfl dX7_laysOrbits_104 ?_
        refine z_aI dX7_laysOrbits_106 (fun x15 => ?_)
        refine z_icmp_eq 114 (by decide) dX7_laysOrbits_107 ?_ ?_
        · refine z_iconst (v := 0) (by decide) dX7_laysOrbits_114 ?_
          exact z_sub [2, 4, 5, 1, 0] rfl (rX7_laysOrbits_115 hV K25 K33 (fun p0 p1 p2 p3 h => fX7_laysOrbits_56 K25 K33 k p0 p1 p2 p3 h) hK25 hK33 ih l0 l2 l3 x4 x11 0 h10)
        · exact z_sub [2, 4, 5, 1, 0] rfl (rX7_laysOrbits_110 hV K25 K33 (fun p0 p1 p2 p3 h => fX7_laysOrbits_56 K25 K33 k p0 p1 p2 p3 h) hK25 hK33 ih l0 l2 l3 x4 x11 h10)
      · exact z_sub [2, 4, 5, 1, 0] rfl (rX7_laysOrbits_110 hV K25 K33 (fun p0 p1 p2 p3 h => fX7_laysOrbits_56 K25 K33 k p0 p1 p2 p3 h) hK25 hK33 ih l0 l2 l3 x4 x11 h10)
def fX7_laysOrbits_33 (K25 : Nat → Int32 → AH → RR) : Nat → Nat → Int32 → Int32 → AH → RR
  | 0, _, _, _, _ => none
  | k + 1, l0, l1, l2, h =>
  (zgR h l0 7 9).bind fun x1 =>
  (zai h x1 2).bind fun x2 =>
  if x2 ≤ l2 then (
    K25 l0 l1 h)
  else
  zcv (zob h l0 7) (fX7_isPermuting l0 l2 h) fun v3 h4 =>
  zvi v3 fun x5 =>
  if x5 = 0 then (
    fX7_laysOrbits_33 K25 k l0 l1 (l2 + 1) h4)
  else
  fX7_laysOrbits_56 K25 (fun p0 p1 p2 h => fX7_laysOrbits_33 K25 k p0 p1 p2 h) FU l0 l1 l2 0 h4
set_option maxRecDepth 20000 in
theorem rX7_laysOrbits_33 {X : CT} {V : VT} {d n0 k0 : Nat} (hV : V.2.2.2.2.2.stackTraces = false) (K25 : Nat → Int32 → AH → RR) (hK25 : ∀ l0 l1  h, zG X V RX7 "laysOrbits" cX7_laysOrbits 6 none (d + 5) n0 k0 (K25 l0 l1 h) 25 [(0, .ref l0), (1, .int l1)] [] h) (fu : Nat) : ∀ (l0 : Nat) (l1 : Int32) (l2 : Int32) (h : AH), zG X V RX7 "laysOrbits" cX7_laysOrbits 6 none (d + 5) n0 k0 (fX7_laysOrbits_33 K25 fu l0 l1 l2 h) 33 [(0, .ref l0), (1, .int l1), (2, .int l2)] [] h := by
  induction fu with
  | zero => intros; exact z_none
  | succ k ih =>
    intro l0 l1 l2 h
    rw [fX7_laysOrbits_33]
    refine z_iload_n 2 rfl rfl dX7_laysOrbits_33 ?_
    refine z_aload_n 0 rfl rfl dX7_laysOrbits_34 ?_
    refine z_gR zf_RX7_20 dX7_laysOrbits_35 (fun x1 => ?_)
    refine z_iconst (v := 2) (by decide) dX7_laysOrbits_38 ?_
    refine z_aI dX7_laysOrbits_39 (fun x2 => ?_)
    refine z_icmp_ge 145 (by decide) dX7_laysOrbits_40 ?_ ?_
    · refine z_goto 25 (by decide) dX7_laysOrbits_145 ?_
      exact z_sub [0, 1] rfl (hK25 l0 l1 h)
    · refine z_aload_n 0 rfl rfl dX7_laysOrbits_43 ?_
      refine z_iload_n 2 rfl rfl dX7_laysOrbits_44 ?_
      refine z_cV (st := []) [.int l2] zk_RX7_266 rfl (Nat.le_of_ble_eq_true rfl) dX7_laysOrbits_45 (mX7_isPermuting hV (d + 0) l0 l2 h) (fun v3 h4 => ?_)
      refine z_vi (fun x5 => ?_)
      refine z_if_ne 54 (by decide) dX7_laysOrbits_48 ?_ ?_
      · refine z_goto 139 (by decide) dX7_laysOrbits_51 ?_
        refine z_inc (w := 1) (lv' := [(2, .int (l2 + 1)), (0, .ref l0), (1, .int l1)]) 2 rfl (by decide) (by decide) rfl dX7_laysOrbits_139 ?_
        refine z_goto 33 (by decide) dX7_laysOrbits_142 ?_
        exact z_sub [1, 2, 0] rfl (ih l0 l1 (l2 + 1) h4)
      · refine z_iconst (v := 0) (by decide) dX7_laysOrbits_54 ?_
        refine z_istore_n (lv' := [(3, .int 0), (0, .ref l0), (1, .int l1), (2, .int l2)]) rfl (by decide) rfl dX7_laysOrbits_55 ?_
        exact z_sub [1, 2, 3, 0] rfl (rX7_laysOrbits_56 hV K25 (fun p0 p1 p2 h => fX7_laysOrbits_33 K25 k p0 p1 p2 h) hK25 ih FU l0 l1 l2 0 h4)
def fX7_laysOrbits_25 : Nat → Nat → Int32 → AH → RR
  | 0, _, _, _ => none
  | k + 1, l0, l1, h =>
  if l1 = 0 then (
    some (.inl none, h))
  else
  fX7_laysOrbits_33 (fun p0 p1 h => fX7_laysOrbits_25 k p0 p1 h) FU l0 0 0 h
set_option maxRecDepth 20000 in
theorem rX7_laysOrbits_25 {X : CT} {V : VT} {d n0 k0 : Nat} (hV : V.2.2.2.2.2.stackTraces = false) (fu : Nat) : ∀ (l0 : Nat) (l1 : Int32) (h : AH), zG X V RX7 "laysOrbits" cX7_laysOrbits 6 none (d + 5) n0 k0 (fX7_laysOrbits_25 fu l0 l1 h) 25 [(0, .ref l0), (1, .int l1)] [] h := by
  induction fu with
  | zero => intros; exact z_none
  | succ k ih =>
    intro l0 l1 h
    rw [fX7_laysOrbits_25]
    refine z_iload_n 1 rfl rfl dX7_laysOrbits_25 ?_
    refine z_if_eq 148 (by decide) dX7_laysOrbits_26 ?_ ?_
    · exact z_vret rfl dX7_laysOrbits_148
    · refine z_iconst (v := 0) (by decide) dX7_laysOrbits_29 ?_
      refine z_istore_n (lv' := [(1, .int 0), (0, .ref l0)]) rfl (by decide) rfl dX7_laysOrbits_30 ?_
      refine z_iconst (v := 0) (by decide) dX7_laysOrbits_31 ?_
      refine z_istore_n (lv' := [(2, .int 0), (1, .int 0), (0, .ref l0)]) rfl (by decide) rfl dX7_laysOrbits_32 ?_
      exact z_sub [2, 1, 0] rfl (rX7_laysOrbits_33 hV (fun p0 p1 h => fX7_laysOrbits_25 k p0 p1 h) ih FU l0 0 0 h)
def fX7_laysOrbits_2 : Nat → Nat → Int32 → AH → RR
  | 0, _, _, _ => none
  | k + 1, l0, l1, h =>
  (zgI h l0 7 15).bind fun x1 =>
  if x1 ≤ l1 then (
    fX7_laysOrbits_25 FU l0 1 h)
  else
  (zgR h l0 7 27).bind fun x2 =>
  (zsi h x2 l1 l1).bind fun h3 =>
  fX7_laysOrbits_2 k l0 (l1 + 1) h3
set_option maxRecDepth 20000 in
theorem rX7_laysOrbits_2 {X : CT} {V : VT} {d n0 k0 : Nat} (hV : V.2.2.2.2.2.stackTraces = false) (fu : Nat) : ∀ (l0 : Nat) (l1 : Int32) (h : AH), zG X V RX7 "laysOrbits" cX7_laysOrbits 6 none (d + 5) n0 k0 (fX7_laysOrbits_2 fu l0 l1 h) 2 [(0, .ref l0), (1, .int l1)] [] h := by
  induction fu with
  | zero => intros; exact z_none
  | succ k ih =>
    intro l0 l1 h
    rw [fX7_laysOrbits_2]
    refine z_iload_n 1 rfl rfl dX7_laysOrbits_2 ?_
    refine z_aload_n 0 rfl rfl dX7_laysOrbits_3 ?_
    refine z_gI zf_RX7_92 dX7_laysOrbits_4 (fun x1 => ?_)
    refine z_icmp_ge 23 (by decide) dX7_laysOrbits_7 ?_ ?_
    · refine z_iconst (v := 1) (by decide) dX7_laysOrbits_23 ?_
      refine z_istore_n (lv' := [(1, .int 1), (0, .ref l0)]) rfl (by decide) rfl dX7_laysOrbits_24 ?_
      exact z_sub [1, 0] rfl (rX7_laysOrbits_25 hV FU l0 1 h)
    · refine z_aload_n 0 rfl rfl dX7_laysOrbits_10 ?_
      refine z_gR zf_RX7_55 dX7_laysOrbits_11 (fun x2 => ?_)
      refine z_iload_n 1 rfl rfl dX7_laysOrbits_14 ?_
      refine z_iload_n 1 rfl rfl dX7_laysOrbits_15 ?_
      refine z_sI dX7_laysOrbits_16 (fun h3 => ?_)
      refine z_inc (w := 1) (lv' := [(1, .int (l1 + 1)), (0, .ref l0)]) 1 rfl (by decide) (by decide) rfl dX7_laysOrbits_17 ?_
      refine z_goto 2 (by decide) dX7_laysOrbits_20 ?_
      exact z_sub [1, 0] rfl (ih l0 (l1 + 1) h3)
def fX7_laysOrbits (a0 : Nat) (h : AH) : RR :=
  fX7_laysOrbits_2 FU a0 0 h
set_option maxRecDepth 20000 in
theorem mX7_laysOrbits {V : VT} (hV : V.2.2.2.2.2.stackTraces = false) (d : Nat) (a0 : Nat) (h : AH) : zM V yX7_laysOrbits cX7_laysOrbits 6 none (d + 5) [.ref a0] h (fX7_laysOrbits a0 h) := by
  refine z_meth hV (by decide +kernel) (Nat.le_of_ble_eq_true rfl) [(0, .ref a0)] rfl (fun X => ?_)
  show zG X V RX7 "laysOrbits" cX7_laysOrbits 6 none (d + 5) h.1 h.2.1 (fX7_laysOrbits a0 h) 0 [(0, .ref a0)] [] h
  unfold fX7_laysOrbits
  refine z_iconst (v := 0) (by decide) dX7_laysOrbits_0 ?_
  refine z_istore_n (lv' := [(1, .int 0), (0, .ref a0)]) rfl (by decide) rfl dX7_laysOrbits_1 ?_
  exact z_sub [1, 0] rfl (rX7_laysOrbits_2 hV FU a0 0 h)
def fX7_orbit_36 : Nat → Nat → Int32 → Int32 → Int32 → AH → RR
  | 0, _, _, _, _, _ => none
  | k + 1, l0, l1, l2, l3, h =>
  (zgI h l0 7 15).bind fun x1 =>
  if x1 ≤ l3 then (
    some (.inl (some (.int l2)), h))
  else
  (zgR h l0 7 27).bind fun x2 =>
  (zai h x2 l3).bind fun x3 =>
  (zgR h l0 7 27).bind fun x4 =>
  (zai h x4 l1).bind fun x5 =>
  if x3 = x5 then (
    fX7_orbit_36 k l0 l1 (l2 + 1) (l3 + 1) h)
  else
  fX7_orbit_36 k l0 l1 (l2 + 0) (l3 + 1) h
set_option maxRecDepth 20000 in
theorem rX7_orbit_36 {X : CT} {V : VT} {d n0 k0 : Nat} (hV : V.2.2.2.2.2.stackTraces = false) (fu : Nat) : ∀ (l0 : Nat) (l1 : Int32) (l2 : Int32) (l3 : Int32) (h : AH), zG X V RX7 "orbit" cX7_orbit 4 (some .int) (d + 6) n0 k0 (fX7_orbit_36 fu l0 l1 l2 l3 h) 36 [(0, .ref l0), (1, .int l1), (2, .int l2), (3, .int l3)] [] h := by
  induction fu with
  | zero => intros; exact z_none
  | succ k ih =>
    intro l0 l1 l2 l3 h
    rw [fX7_orbit_36]
    refine z_iload_n 3 rfl rfl dX7_orbit_36 ?_
    refine z_aload_n 0 rfl rfl dX7_orbit_37 ?_
    refine z_gI zf_RX7_92 dX7_orbit_38 (fun x1 => ?_)
    refine z_icmp_ge 73 (by decide) dX7_orbit_41 ?_ ?_
    · refine z_iload_n 2 rfl rfl dX7_orbit_73 ?_
      exact z_iret rfl dX7_orbit_74
    · refine z_iload_n 2 rfl rfl dX7_orbit_44 ?_
      refine z_aload_n 0 rfl rfl dX7_orbit_45 ?_
      refine z_gR zf_RX7_55 dX7_orbit_46 (fun x2 => ?_)
      refine z_iload_n 3 rfl rfl dX7_orbit_49 ?_
      refine z_aI dX7_orbit_50 (fun x3 => ?_)
      refine z_aload_n 0 rfl rfl dX7_orbit_51 ?_
      refine z_gR zf_RX7_55 dX7_orbit_52 (fun x4 => ?_)
      refine z_iload_n 1 rfl rfl dX7_orbit_55 ?_
      refine z_aI dX7_orbit_56 (fun x5 => ?_)
      refine z_icmp_ne 64 (by decide) dX7_orbit_57 ?_ ?_
      · refine z_iconst (v := 1) (by decide) dX7_orbit_60 ?_
        refine z_goto 65 (by decide) dX7_orbit_61 ?_
        refine z_iadd dX7_orbit_65 ?_
        refine z_istore_n (lv' := [(2, .int (l2 + 1)), (0, .ref l0), (1, .int l1), (3, .int l3)]) rfl (by decide) rfl dX7_orbit_66 ?_
        refine z_inc (w := 1) (lv' := [(3, .int (l3 + 1)), (2, .int (l2 + 1)), (0, .ref l0), (1, .int l1)]) 3 rfl (by decide) (by decide) rfl dX7_orbit_67 ?_
        refine z_goto 36 (by decide) dX7_orbit_70 ?_
        exact z_sub [2, 3, 1, 0] rfl (ih l0 l1 (l2 + 1) (l3 + 1) h)
      · refine z_iconst (v := 0) (by decide) dX7_orbit_64 ?_
        refine z_iadd dX7_orbit_65 ?_
        refine z_istore_n (lv' := [(2, .int (l2 + 0)), (0, .ref l0), (1, .int l1), (3, .int l3)]) rfl (by decide) rfl dX7_orbit_66 ?_
        refine z_inc (w := 1) (lv' := [(3, .int (l3 + 1)), (2, .int (l2 + 0)), (0, .ref l0), (1, .int l1)]) 3 rfl (by decide) (by decide) rfl dX7_orbit_67 ?_
        refine z_goto 36 (by decide) dX7_orbit_70 ?_
        exact z_sub [2, 3, 1, 0] rfl (ih l0 l1 (l2 + 0) (l3 + 1) h)
def fX7_orbit_18 (l0 : Nat) (l1 : Int32) (s0 : Int32) (s1 : Nat) (h : AH) : RR :=
  zcv (zob h s1 7) (fX7_bad s1 s0 1 0 h) fun v1 h2 =>
  zvi v1 fun x3 =>
  if x3 = 0 then (
    zcv (zob h2 l0 7) (fX7_laysOrbits l0 h2) fun v4 h5 =>
    zvn v4 <|
    fX7_orbit_36 FU l0 l1 0 0 h5)
  else
  some (.inl (some (.int 0)), h2)
set_option maxRecDepth 20000 in
theorem rX7_orbit_18 {X : CT} {V : VT} {d n0 k0 : Nat} (hV : V.2.2.2.2.2.stackTraces = false) (l0 : Nat) (l1 : Int32) (s0 : Int32) (s1 : Nat) (h : AH) : zG X V RX7 "orbit" cX7_orbit 4 (some .int) (d + 6) n0 k0 (fX7_orbit_18 l0 l1 s0 s1 h) 18 [(0, .ref l0), (1, .int l1)] [.int s0, .ref s1] h := by
  unfold fX7_orbit_18
  refine z_iconst (v := 1) (by decide) dX7_orbit_18 ?_
  refine z_iconst (v := 0) (by decide) dX7_orbit_19 ?_
  refine z_cV (st := []) [.int s0, .int 1, .int 0] zk_RX7_215 rfl (Nat.le_of_ble_eq_true rfl) dX7_orbit_20 (mX7_bad hV (d + 4) s1 s0 1 0 h) (fun v1 h2 => ?_)
  refine z_vi (fun x3 => ?_)
  refine z_if_eq 28 (by decide) dX7_orbit_23 ?_ ?_
  · refine z_aload_n 0 rfl rfl dX7_orbit_28 ?_
    refine z_cV (st := []) [] zk_RX7_294 rfl (Nat.le_of_ble_eq_true rfl) dX7_orbit_29 (mX7_laysOrbits hV (d + 0) l0 h2) (fun v4 h5 => ?_)
    refine z_vn ?_
    refine z_iconst (v := 0) (by decide) dX7_orbit_32 ?_
    refine z_istore_n (lv' := [(2, .int 0), (0, .ref l0), (1, .int l1)]) rfl (by decide) rfl dX7_orbit_33 ?_
    refine z_iconst (v := 0) (by decide) dX7_orbit_34 ?_
    refine z_istore_n (lv' := [(3, .int 0), (2, .int 0), (0, .ref l0), (1, .int l1)]) rfl (by decide) rfl dX7_orbit_35 ?_
    exact z_sub [2, 3, 1, 0] rfl (rX7_orbit_36 hV FU l0 l1 0 0 h5)
  · refine z_iconst (v := 0) (by decide) dX7_orbit_26 ?_
    exact z_iret rfl dX7_orbit_27
def fX7_orbit (a0 : Nat) (a1 : Int32) (h : AH) : RR :=
  zcv (zob h a0 7) (fX7_begins a0 h) fun v1 h2 =>
  zvn v1 <|
  zcv (zob h2 a0 7) (fX7_isPoint a0 a1 h2) fun v3 h4 =>
  zvi v3 fun x5 =>
  if x5 = 0 then (
    fX7_orbit_18 a0 a1 1 a0 h4)
  else
  fX7_orbit_18 a0 a1 0 a0 h4
set_option maxRecDepth 20000 in
theorem mX7_orbit {V : VT} (hV : V.2.2.2.2.2.stackTraces = false) (d : Nat) (a0 : Nat) (a1 : Int32) (h : AH) : zM V yX7_orbit cX7_orbit 4 (some .int) (d + 6) [.ref a0, .int a1] h (fX7_orbit a0 a1 h) := by
  refine z_meth hV (by decide +kernel) (Nat.le_of_ble_eq_true rfl) [(0, .ref a0), (1, .int a1)] rfl (fun X => ?_)
  show zG X V RX7 "orbit" cX7_orbit 4 (some .int) (d + 6) h.1 h.2.1 (fX7_orbit a0 a1 h) 0 [(0, .ref a0), (1, .int a1)] [] h
  unfold fX7_orbit
  refine z_aload_n 0 rfl rfl dX7_orbit_0 ?_
  refine z_cV (st := []) [] zk_RX7_240 rfl (Nat.le_of_ble_eq_true rfl) dX7_orbit_1 (mX7_begins hV (d + 0) a0 h) (fun v1 h2 => ?_)
  refine z_vn ?_
  refine z_aload_n 0 rfl rfl dX7_orbit_4 ?_
  refine z_aload_n 0 rfl rfl dX7_orbit_5 ?_
  refine z_iload_n 1 rfl rfl dX7_orbit_6 ?_
  refine z_cV (st := [.ref a0]) [.int a1] zk_RX7_246 rfl (Nat.le_of_ble_eq_true rfl) dX7_orbit_7 (mX7_isPoint hV (d + 3) a0 a1 h2) (fun v3 h4 => ?_)
  refine z_vi (fun x5 => ?_)
  refine z_if_ne 17 (by decide) dX7_orbit_10 ?_ ?_
  · refine z_iconst (v := 1) (by decide) dX7_orbit_13 ?_
    refine z_goto 18 (by decide) dX7_orbit_14 ?_
    exact z_sub [0, 1] rfl (rX7_orbit_18 hV a0 a1 1 a0 h4)
  · refine z_iconst (v := 0) (by decide) dX7_orbit_17 ?_
    exact z_sub [0, 1] rfl (rX7_orbit_18 hV a0 a1 0 a0 h4)
def fX7_orbits_12 : Nat → Nat → Int32 → Int32 → AH → RR
  | 0, _, _, _, _ => none
  | k + 1, l0, l1, l2, h =>
  (zgI h l0 7 15).bind fun x1 =>
  if x1 ≤ l2 then (
    some (.inl (some (.int l1)), h))
  else
  (zgR h l0 7 27).bind fun x2 =>
  (zai h x2 l2).bind fun x3 =>
  if x3 = l2 then (
    fX7_orbits_12 k l0 (l1 + 1) (l2 + 1) h)
  else
  fX7_orbits_12 k l0 (l1 + 0) (l2 + 1) h
set_option maxRecDepth 20000 in
theorem rX7_orbits_12 {X : CT} {V : VT} {d n0 k0 : Nat} (hV : V.2.2.2.2.2.stackTraces = false) (fu : Nat) : ∀ (l0 : Nat) (l1 : Int32) (l2 : Int32) (h : AH), zG X V RX7 "orbits" cX7_orbits 3 (some .int) (d + 6) n0 k0 (fX7_orbits_12 fu l0 l1 l2 h) 12 [(0, .ref l0), (1, .int l1), (2, .int l2)] [] h := by
  induction fu with
  | zero => intros; exact z_none
  | succ k ih =>
    intro l0 l1 l2 h
    rw [fX7_orbits_12]
    refine z_iload_n 2 rfl rfl dX7_orbits_12 ?_
    refine z_aload_n 0 rfl rfl dX7_orbits_13 ?_
    refine z_gI zf_RX7_92 dX7_orbits_14 (fun x1 => ?_)
    refine z_icmp_ge 44 (by decide) dX7_orbits_17 ?_ ?_
    · refine z_iload_n 1 rfl rfl dX7_orbits_44 ?_
      exact z_iret rfl dX7_orbits_45
    · refine z_iload_n 1 rfl rfl dX7_orbits_20 ?_
      refine z_aload_n 0 rfl rfl dX7_orbits_21 ?_
      refine z_gR zf_RX7_55 dX7_orbits_22 (fun x2 => ?_)
      refine z_iload_n 2 rfl rfl dX7_orbits_25 ?_
      refine z_aI dX7_orbits_26 (fun x3 => ?_)
      refine z_iload_n 2 rfl rfl dX7_orbits_27 ?_
      refine z_icmp_ne 35 (by decide) dX7_orbits_28 ?_ ?_
      · refine z_iconst (v := 1) (by decide) dX7_orbits_31 ?_
        refine z_goto 36 (by decide) dX7_orbits_32 ?_
        refine z_iadd dX7_orbits_36 ?_
        refine z_istore_n (lv' := [(1, .int (l1 + 1)), (0, .ref l0), (2, .int l2)]) rfl (by decide) rfl dX7_orbits_37 ?_
        refine z_inc (w := 1) (lv' := [(2, .int (l2 + 1)), (1, .int (l1 + 1)), (0, .ref l0)]) 2 rfl (by decide) (by decide) rfl dX7_orbits_38 ?_
        refine z_goto 12 (by decide) dX7_orbits_41 ?_
        exact z_sub [2, 1, 0] rfl (ih l0 (l1 + 1) (l2 + 1) h)
      · refine z_iconst (v := 0) (by decide) dX7_orbits_35 ?_
        refine z_iadd dX7_orbits_36 ?_
        refine z_istore_n (lv' := [(1, .int (l1 + 0)), (0, .ref l0), (2, .int l2)]) rfl (by decide) rfl dX7_orbits_37 ?_
        refine z_inc (w := 1) (lv' := [(2, .int (l2 + 1)), (1, .int (l1 + 0)), (0, .ref l0)]) 2 rfl (by decide) (by decide) rfl dX7_orbits_38 ?_
        refine z_goto 12 (by decide) dX7_orbits_41 ?_
        exact z_sub [2, 1, 0] rfl (ih l0 (l1 + 0) (l2 + 1) h)
def fX7_orbits (a0 : Nat) (h : AH) : RR :=
  zcv (zob h a0 7) (fX7_begins a0 h) fun v1 h2 =>
  zvn v1 <|
  zcv (zob h2 a0 7) (fX7_laysOrbits a0 h2) fun v3 h4 =>
  zvn v3 <|
  fX7_orbits_12 FU a0 0 0 h4
set_option maxRecDepth 20000 in
theorem mX7_orbits {V : VT} (hV : V.2.2.2.2.2.stackTraces = false) (d : Nat) (a0 : Nat) (h : AH) : zM V yX7_orbits cX7_orbits 3 (some .int) (d + 6) [.ref a0] h (fX7_orbits a0 h) := by
  refine z_meth hV (by decide +kernel) (Nat.le_of_ble_eq_true rfl) [(0, .ref a0)] rfl (fun X => ?_)
  show zG X V RX7 "orbits" cX7_orbits 3 (some .int) (d + 6) h.1 h.2.1 (fX7_orbits a0 h) 0 [(0, .ref a0)] [] h
  unfold fX7_orbits
  refine z_aload_n 0 rfl rfl dX7_orbits_0 ?_
  refine z_cV (st := []) [] zk_RX7_240 rfl (Nat.le_of_ble_eq_true rfl) dX7_orbits_1 (mX7_begins hV (d + 0) a0 h) (fun v1 h2 => ?_)
  refine z_vn ?_
  refine z_aload_n 0 rfl rfl dX7_orbits_4 ?_
  refine z_cV (st := []) [] zk_RX7_294 rfl (Nat.le_of_ble_eq_true rfl) dX7_orbits_5 (mX7_laysOrbits hV (d + 0) a0 h2) (fun v3 h4 => ?_)
  refine z_vn ?_
  refine z_iconst (v := 0) (by decide) dX7_orbits_8 ?_
  refine z_istore_n (lv' := [(1, .int 0), (0, .ref a0)]) rfl (by decide) rfl dX7_orbits_9 ?_
  refine z_iconst (v := 0) (by decide) dX7_orbits_10 ?_
  refine z_istore_n (lv' := [(2, .int 0), (1, .int 0), (0, .ref a0)]) rfl (by decide) rfl dX7_orbits_11 ?_
  exact z_sub [2, 1, 0] rfl (rX7_orbits_12 hV FU a0 0 0 h4)
def fX7_spread_58 (K32 : Nat → Int32 → Int32 → Int32 → AH → RR) (K43 : Nat → Int32 → Int32 → Int32 → Int32 → AH → RR) : Nat → Nat → Int32 → Int32 → Int32 → Int32 → Int32 → Int32 → AH → RR
  | 0, _, _, _, _, _, _, _, _ => none
  | k + 1, l0, l1, l2, l3, l4, l5, l6, h =>
  (zgI h l0 7 15).bind fun x1 =>
  if x1 ≤ l6 then (
    if l5 ≤ l2 then (
      K43 l0 l1 l2 l3 (l4 + 1) h)
    else
    K43 l0 l1 l5 l3 (l4 + 1) h)
  else
  (zgR h l0 7 17).bind fun x2 =>
  (zar h x2 l6).bind fun x3 =>
  (zai h x3 l3).bind fun x4 =>
  zcv (zob h l0 7) (fX7_of l0 l1 x4 h) fun v5 h6 =>
  zvi v5 fun x7 =>
  zcv (zob h6 l0 7) (fX7_of l0 l1 l6 h6) fun v8 h9 =>
  zvi v8 fun x10 =>
  zcv (zob h9 l0 7) (fX7_apart l0 x7 x10 h9) fun v11 h12 =>
  zvi v11 fun x13 =>
  if x13 = l4 then (
    fX7_spread_58 K32 K43 k l0 l1 l2 l3 l4 (l5 + 1) (l6 + 1) h12)
  else
  fX7_spread_58 K32 K43 k l0 l1 l2 l3 l4 (l5 + 0) (l6 + 1) h12
set_option maxRecDepth 20000 in
theorem rX7_spread_58 {X : CT} {V : VT} {d n0 k0 : Nat} (hV : V.2.2.2.2.2.stackTraces = false) (K32 : Nat → Int32 → Int32 → Int32 → AH → RR) (K43 : Nat → Int32 → Int32 → Int32 → Int32 → AH → RR) (hK32 : ∀ l0 l1 l2 l3  h, zG X V RX7 "spread" cX7_spread 7 (some .int) (d + 6) n0 k0 (K32 l0 l1 l2 l3 h) 32 [(0, .ref l0), (1, .int l1), (2, .int l2), (3, .int l3)] [] h) (hK43 : ∀ l0 l1 l2 l3 l4  h, zG X V RX7 "spread" cX7_spread 7 (some .int) (d + 6) n0 k0 (K43 l0 l1 l2 l3 l4 h) 43 [(0, .ref l0), (1, .int l1), (2, .int l2), (3, .int l3), (4, .int l4)] [] h) (fu : Nat) : ∀ (l0 : Nat) (l1 : Int32) (l2 : Int32) (l3 : Int32) (l4 : Int32) (l5 : Int32) (l6 : Int32) (h : AH), zG X V RX7 "spread" cX7_spread 7 (some .int) (d + 6) n0 k0 (fX7_spread_58 K32 K43 fu l0 l1 l2 l3 l4 l5 l6 h) 58 [(0, .ref l0), (1, .int l1), (2, .int l2), (3, .int l3), (4, .int l4), (5, .int l5), (6, .int l6)] [] h := by
  induction fu with
  | zero => intros; exact z_none
  | succ k ih =>
    intro l0 l1 l2 l3 l4 l5 l6 h
    rw [fX7_spread_58]
    refine z_iload 6 rfl dX7_spread_58 ?_
    refine z_aload_n 0 rfl rfl dX7_spread_60 ?_
    refine z_gI zf_RX7_92 dX7_spread_61 (fun x1 => ?_)
    refine z_icmp_ge 113 (by decide) dX7_spread_64 ?_ ?_
    · refine z_iload 5 rfl dX7_spread_113 ?_
      refine z_iload_n 2 rfl rfl dX7_spread_115 ?_
      refine z_icmp_le 124 (by decide) dX7_spread_116 ?_ ?_
      · refine z_iload_n 2 rfl rfl dX7_spread_124 ?_
        refine z_istore_n (lv' := [(2, .int l2), (0, .ref l0), (1, .int l1), (3, .int l3), (4, .int l4), (5, .int l5), (6, .int l6)]) rfl (by decide) rfl dX7_spread_125 ?_
        refine z_inc (w := 1) (lv' := [(4, .int (l4 + 1)), (2, .int l2), (0, .ref l0), (1, .int l1), (3, .int l3), (5, .int l5), (6, .int l6)]) 4 rfl (by decide) (by decide) rfl dX7_spread_126 ?_
        refine z_goto 43 (by decide) dX7_spread_129 ?_
        exact z_sub [2, 3, 1, 4, 0] rfl (hK43 l0 l1 l2 l3 (l4 + 1) h)
      · refine z_iload 5 rfl dX7_spread_119 ?_
        refine z_goto 125 (by decide) dX7_spread_121 ?_
        refine z_istore_n (lv' := [(2, .int l5), (0, .ref l0), (1, .int l1), (3, .int l3), (4, .int l4), (5, .int l5), (6, .int l6)]) rfl (by decide) rfl dX7_spread_125 ?_
        refine z_inc (w := 1) (lv' := [(4, .int (l4 + 1)), (2, .int l5), (0, .ref l0), (1, .int l1), (3, .int l3), (5, .int l5), (6, .int l6)]) 4 rfl (by decide) (by decide) rfl dX7_spread_126 ?_
        refine z_goto 43 (by decide) dX7_spread_129 ?_
        exact z_sub [2, 3, 1, 4, 0] rfl (hK43 l0 l1 l5 l3 (l4 + 1) h)
    · refine z_iload 5 rfl dX7_spread_67 ?_
      refine z_aload_n 0 rfl rfl dX7_spread_69 ?_
      refine z_aload_n 0 rfl rfl dX7_spread_70 ?_
      refine z_iload_n 1 rfl rfl dX7_spread_71 ?_
      refine z_aload_n 0 rfl rfl dX7_spread_72 ?_
      refine z_gR zf_RX7_31 dX7_spread_73 (fun x2 => ?_)
      refine z_iload 6 rfl dX7_spread_76 ?_
      refine z_aR dX7_spread_78 (fun x3 => ?_)
      refine z_iload_n 3 rfl rfl dX7_spread_79 ?_
      refine z_aI dX7_spread_80 (fun x4 => ?_)
      refine z_cV (st := [.ref l0, .int l5]) [.int l1, .int x4] zk_RX7_237 rfl (Nat.le_of_ble_eq_true rfl) dX7_spread_81 (mX7_of hV (d + 4) l0 l1 x4 h) (fun v5 h6 => ?_)
      refine z_vi (fun x7 => ?_)
      refine z_aload_n 0 rfl rfl dX7_spread_84 ?_
      refine z_iload_n 1 rfl rfl dX7_spread_85 ?_
      refine z_iload 6 rfl dX7_spread_86 ?_
      refine z_cV (st := [.int x7, .ref l0, .int l5]) [.int l1, .int l6] zk_RX7_237 rfl (Nat.le_of_ble_eq_true rfl) dX7_spread_88 (mX7_of hV (d + 4) l0 l1 l6 h6) (fun v8 h9 => ?_)
      refine z_vi (fun x10 => ?_)
      refine z_cV (st := [.int l5]) [.int x7, .int x10] zk_RX7_105 rfl (Nat.le_of_ble_eq_true rfl) dX7_spread_91 (mX7_apart hV (d + 4) l0 x7 x10 h9) (fun v11 h12 => ?_)
      refine z_vi (fun x13 => ?_)
      refine z_iload 4 rfl dX7_spread_94 ?_
      refine z_icmp_ne 103 (by decide) dX7_spread_96 ?_ ?_
      · refine z_iconst (v := 1) (by decide) dX7_spread_99 ?_
        refine z_goto 104 (by decide) dX7_spread_100 ?_
        refine z_iadd dX7_spread_104 ?_
        refine z_istore (lv' := [(5, .int (l5 + 1)), (0, .ref l0), (1, .int l1), (2, .int l2), (3, .int l3), (4, .int l4), (6, .int l6)]) (by decide) rfl dX7_spread_105 ?_
        refine z_inc (w := 1) (lv' := [(6, .int (l6 + 1)), (5, .int (l5 + 1)), (0, .ref l0), (1, .int l1), (2, .int l2), (3, .int l3), (4, .int l4)]) 6 rfl (by decide) (by decide) rfl dX7_spread_107 ?_
        refine z_goto 58 (by decide) dX7_spread_110 ?_
        exact z_sub [2, 3, 4, 5, 6, 1, 0] rfl (ih l0 l1 l2 l3 l4 (l5 + 1) (l6 + 1) h12)
      · refine z_iconst (v := 0) (by decide) dX7_spread_103 ?_
        refine z_iadd dX7_spread_104 ?_
        refine z_istore (lv' := [(5, .int (l5 + 0)), (0, .ref l0), (1, .int l1), (2, .int l2), (3, .int l3), (4, .int l4), (6, .int l6)]) (by decide) rfl dX7_spread_105 ?_
        refine z_inc (w := 1) (lv' := [(6, .int (l6 + 1)), (5, .int (l5 + 0)), (0, .ref l0), (1, .int l1), (2, .int l2), (3, .int l3), (4, .int l4)]) 6 rfl (by decide) (by decide) rfl dX7_spread_107 ?_
        refine z_goto 58 (by decide) dX7_spread_110 ?_
        exact z_sub [2, 3, 4, 5, 6, 1, 0] rfl (ih l0 l1 l2 l3 l4 (l5 + 0) (l6 + 1) h12)
def fX7_spread_43 (K32 : Nat → Int32 → Int32 → Int32 → AH → RR) : Nat → Nat → Int32 → Int32 → Int32 → Int32 → AH → RR
  | 0, _, _, _, _, _, _ => none
  | k + 1, l0, l1, l2, l3, l4, h =>
  (zgI h l0 7 15).bind fun x1 =>
  if x1 ≤ l4 then (
    K32 l0 l1 l2 (l3 + 1) h)
  else
  fX7_spread_58 K32 (fun p0 p1 p2 p3 p4 h => fX7_spread_43 K32 k p0 p1 p2 p3 p4 h) FU l0 l1 l2 l3 l4 0 0 h
set_option maxRecDepth 20000 in
theorem rX7_spread_43 {X : CT} {V : VT} {d n0 k0 : Nat} (hV : V.2.2.2.2.2.stackTraces = false) (K32 : Nat → Int32 → Int32 → Int32 → AH → RR) (hK32 : ∀ l0 l1 l2 l3  h, zG X V RX7 "spread" cX7_spread 7 (some .int) (d + 6) n0 k0 (K32 l0 l1 l2 l3 h) 32 [(0, .ref l0), (1, .int l1), (2, .int l2), (3, .int l3)] [] h) (fu : Nat) : ∀ (l0 : Nat) (l1 : Int32) (l2 : Int32) (l3 : Int32) (l4 : Int32) (h : AH), zG X V RX7 "spread" cX7_spread 7 (some .int) (d + 6) n0 k0 (fX7_spread_43 K32 fu l0 l1 l2 l3 l4 h) 43 [(0, .ref l0), (1, .int l1), (2, .int l2), (3, .int l3), (4, .int l4)] [] h := by
  induction fu with
  | zero => intros; exact z_none
  | succ k ih =>
    intro l0 l1 l2 l3 l4 h
    rw [fX7_spread_43]
    refine z_iload 4 rfl dX7_spread_43 ?_
    refine z_aload_n 0 rfl rfl dX7_spread_45 ?_
    refine z_gI zf_RX7_92 dX7_spread_46 (fun x1 => ?_)
    refine z_icmp_ge 132 (by decide) dX7_spread_49 ?_ ?_
    · refine z_inc (w := 1) (lv' := [(3, .int (l3 + 1)), (0, .ref l0), (1, .int l1), (2, .int l2), (4, .int l4)]) 3 rfl (by decide) (by decide) rfl dX7_spread_132 ?_
      refine z_goto 32 (by decide) dX7_spread_135 ?_
      exact z_sub [1, 2, 3, 0] rfl (hK32 l0 l1 l2 (l3 + 1) h)
    · refine z_iconst (v := 0) (by decide) dX7_spread_52 ?_
      refine z_istore (lv' := [(5, .int 0), (0, .ref l0), (1, .int l1), (2, .int l2), (3, .int l3), (4, .int l4)]) (by decide) rfl dX7_spread_53 ?_
      refine z_iconst (v := 0) (by decide) dX7_spread_55 ?_
      refine z_istore (lv' := [(6, .int 0), (5, .int 0), (0, .ref l0), (1, .int l1), (2, .int l2), (3, .int l3), (4, .int l4)]) (by decide) rfl dX7_spread_56 ?_
      exact z_sub [2, 3, 4, 5, 6, 1, 0] rfl (rX7_spread_58 hV K32 (fun p0 p1 p2 p3 p4 h => fX7_spread_43 K32 k p0 p1 p2 p3 p4 h) hK32 ih FU l0 l1 l2 l3 l4 0 0 h)
def fX7_spread_32 : Nat → Nat → Int32 → Int32 → Int32 → AH → RR
  | 0, _, _, _, _, _ => none
  | k + 1, l0, l1, l2, l3, h =>
  (zgI h l0 7 15).bind fun x1 =>
  if x1 ≤ l3 then (
    some (.inl (some (.int l2)), h))
  else
  fX7_spread_43 (fun p0 p1 p2 p3 h => fX7_spread_32 k p0 p1 p2 p3 h) FU l0 l1 l2 l3 0 h
set_option maxRecDepth 20000 in
theorem rX7_spread_32 {X : CT} {V : VT} {d n0 k0 : Nat} (hV : V.2.2.2.2.2.stackTraces = false) (fu : Nat) : ∀ (l0 : Nat) (l1 : Int32) (l2 : Int32) (l3 : Int32) (h : AH), zG X V RX7 "spread" cX7_spread 7 (some .int) (d + 6) n0 k0 (fX7_spread_32 fu l0 l1 l2 l3 h) 32 [(0, .ref l0), (1, .int l1), (2, .int l2), (3, .int l3)] [] h := by
  induction fu with
  | zero => intros; exact z_none
  | succ k ih =>
    intro l0 l1 l2 l3 h
    rw [fX7_spread_32]
    refine z_iload_n 3 rfl rfl dX7_spread_32 ?_
    refine z_aload_n 0 rfl rfl dX7_spread_33 ?_
    refine z_gI zf_RX7_92 dX7_spread_34 (fun x1 => ?_)
    refine z_icmp_ge 138 (by decide) dX7_spread_37 ?_ ?_
    · refine z_iload_n 2 rfl rfl dX7_spread_138 ?_
      exact z_iret rfl dX7_spread_139
    · refine z_iconst (v := 0) (by decide) dX7_spread_40 ?_
      refine z_istore (lv' := [(4, .int 0), (0, .ref l0), (1, .int l1), (2, .int l2), (3, .int l3)]) (by decide) rfl dX7_spread_41 ?_
      exact z_sub [1, 2, 3, 4, 0] rfl (rX7_spread_43 hV (fun p0 p1 p2 p3 h => fX7_spread_32 k p0 p1 p2 p3 h) ih FU l0 l1 l2 l3 0 h)
def fX7_spread_18 (l0 : Nat) (l1 : Int32) (s0 : Int32) (s1 : Nat) (h : AH) : RR :=
  zcv (zob h s1 7) (fX7_bad s1 s0 1 0 h) fun v1 h2 =>
  zvi v1 fun x3 =>
  if x3 = 0 then (
    fX7_spread_32 FU l0 l1 0 1 h2)
  else
  some (.inl (some (.int 0)), h2)
set_option maxRecDepth 20000 in
theorem rX7_spread_18 {X : CT} {V : VT} {d n0 k0 : Nat} (hV : V.2.2.2.2.2.stackTraces = false) (l0 : Nat) (l1 : Int32) (s0 : Int32) (s1 : Nat) (h : AH) : zG X V RX7 "spread" cX7_spread 7 (some .int) (d + 6) n0 k0 (fX7_spread_18 l0 l1 s0 s1 h) 18 [(0, .ref l0), (1, .int l1)] [.int s0, .ref s1] h := by
  unfold fX7_spread_18
  refine z_iconst (v := 1) (by decide) dX7_spread_18 ?_
  refine z_iconst (v := 0) (by decide) dX7_spread_19 ?_
  refine z_cV (st := []) [.int s0, .int 1, .int 0] zk_RX7_215 rfl (Nat.le_of_ble_eq_true rfl) dX7_spread_20 (mX7_bad hV (d + 4) s1 s0 1 0 h) (fun v1 h2 => ?_)
  refine z_vi (fun x3 => ?_)
  refine z_if_eq 28 (by decide) dX7_spread_23 ?_ ?_
  · refine z_iconst (v := 0) (by decide) dX7_spread_28 ?_
    refine z_istore_n (lv' := [(2, .int 0), (0, .ref l0), (1, .int l1)]) rfl (by decide) rfl dX7_spread_29 ?_
    refine z_iconst (v := 1) (by decide) dX7_spread_30 ?_
    refine z_istore_n (lv' := [(3, .int 1), (2, .int 0), (0, .ref l0), (1, .int l1)]) rfl (by decide) rfl dX7_spread_31 ?_
    exact z_sub [2, 3, 1, 0] rfl (rX7_spread_32 hV FU l0 l1 0 1 h2)
  · refine z_iconst (v := 0) (by decide) dX7_spread_26 ?_
    exact z_iret rfl dX7_spread_27
def fX7_spread (a0 : Nat) (a1 : Int32) (h : AH) : RR :=
  zcv (zob h a0 7) (fX7_begins a0 h) fun v1 h2 =>
  zvn v1 <|
  zcv (zob h2 a0 7) (fX7_isPoly a0 a1 h2) fun v3 h4 =>
  zvi v3 fun x5 =>
  if x5 = 0 then (
    fX7_spread_18 a0 a1 1 a0 h4)
  else
  fX7_spread_18 a0 a1 0 a0 h4
set_option maxRecDepth 20000 in
theorem mX7_spread {V : VT} (hV : V.2.2.2.2.2.stackTraces = false) (d : Nat) (a0 : Nat) (a1 : Int32) (h : AH) : zM V yX7_spread cX7_spread 7 (some .int) (d + 6) [.ref a0, .int a1] h (fX7_spread a0 a1 h) := by
  refine z_meth hV (by decide +kernel) (Nat.le_of_ble_eq_true rfl) [(0, .ref a0), (1, .int a1)] rfl (fun X => ?_)
  show zG X V RX7 "spread" cX7_spread 7 (some .int) (d + 6) h.1 h.2.1 (fX7_spread a0 a1 h) 0 [(0, .ref a0), (1, .int a1)] [] h
  unfold fX7_spread
  refine z_aload_n 0 rfl rfl dX7_spread_0 ?_
  refine z_cV (st := []) [] zk_RX7_240 rfl (Nat.le_of_ble_eq_true rfl) dX7_spread_1 (mX7_begins hV (d + 0) a0 h) (fun v1 h2 => ?_)
  refine z_vn ?_
  refine z_aload_n 0 rfl rfl dX7_spread_4 ?_
  refine z_aload_n 0 rfl rfl dX7_spread_5 ?_
  refine z_iload_n 1 rfl rfl dX7_spread_6 ?_
  refine z_cV (st := [.ref a0]) [.int a1] zk_RX7_243 rfl (Nat.le_of_ble_eq_true rfl) dX7_spread_7 (mX7_isPoly hV (d + 3) a0 a1 h2) (fun v3 h4 => ?_)
  refine z_vi (fun x5 => ?_)
  refine z_if_ne 17 (by decide) dX7_spread_10 ?_ ?_
  · refine z_iconst (v := 1) (by decide) dX7_spread_13 ?_
    refine z_goto 18 (by decide) dX7_spread_14 ?_
    exact z_sub [0, 1] rfl (rX7_spread_18 hV a0 a1 1 a0 h4)
  · refine z_iconst (v := 0) (by decide) dX7_spread_17 ?_
    exact z_sub [0, 1] rfl (rX7_spread_18 hV a0 a1 0 a0 h4)
def fX7_areAll_34 : Nat → Nat → Int64 → Int32 → Int32 → AH → RR
  | 0, _, _, _, _, _ => none
  | k + 1, l0, l1, l3, l4, h =>
  (zgI h l0 7 15).bind fun x1 =>
  if x1 ≤ l4 then (
    (zgI h l0 7 15).bind fun x2 =>
    if l3 = x2 then (
      zbr 1 h)
    else
    zbr 0 h)
  else
  zlet ((l3.toInt64 + ((l1 >>> (l4.toInt64 &&& 63)) &&& 1)).toInt32) fun w3 =>
  fX7_areAll_34 k l0 l1 w3 (l4 + 1) h
set_option maxRecDepth 20000 in
theorem rX7_areAll_34 {X : CT} {V : VT} {d n0 k0 : Nat} (hV : V.2.2.2.2.2.stackTraces = false) (fu : Nat) : ∀ (l0 : Nat) (l1 : Int64) (l3 : Int32) (l4 : Int32) (h : AH), zG X V RX7 "areAll" cX7_areAll 5 (some .boolean) (d + 1) n0 k0 (fX7_areAll_34 fu l0 l1 l3 l4 h) 34 [(0, .ref l0), (1, .long l1), (3, .int l3), (4, .int l4)] [] h := by
  induction fu with
  | zero => intros; exact z_none
  | succ k ih =>
    intro l0 l1 l3 l4 h
    rw [fX7_areAll_34]
    refine z_iload 3 rfl dX7_areAll_34 ?_
    refine z_aload_n 0 rfl rfl dX7_areAll_36 ?_
    refine z_gI zf_RX7_92 dX7_areAll_37 (fun x1 => ?_)
    refine z_icmp_ge 60 (by decide) dX7_areAll_40 ?_ ?_
    · refine z_iload_n 2 rfl rfl dX7_areAll_60 ?_
      refine z_aload_n 0 rfl rfl dX7_areAll_61 ?_
      refine z_gI zf_RX7_92 dX7_areAll_62 (fun x2 => ?_)
      refine z_icmp_ne 72 (by decide) dX7_areAll_65 ?_ ?_
      · refine z_iconst (v := 1) (by decide) dX7_areAll_68 ?_
        refine z_goto 73 (by decide) dX7_areAll_69 ?_
        exact z_zret rfl dX7_areAll_73
      · refine z_iconst (v := 0) (by decide) dX7_areAll_72 ?_
        exact z_zret rfl dX7_areAll_73
    · refine z_iload_n 2 rfl rfl dX7_areAll_43 ?_
      refine z_i2l dX7_areAll_44 ?_
      refine z_lload_n 1 rfl rfl dX7_areAll_45 ?_
      refine z_iload 3 rfl dX7_areAll_46 ?_
      refine z_lshr dX7_areAll_48 ?_
      refine z_lconst (v := 1) (by decide) dX7_areAll_49 ?_
      refine z_land dX7_areAll_50 ?_
      refine z_ladd dX7_areAll_51 ?_
      refine z_l2i dX7_areAll_52 ?_
      refine z_topI (fun w3 => ?_)
      refine z_istore_n (lv' := [(3, .int w3), (0, .ref l0), (1, .long l1), (4, .int l4)]) rfl (by decide) rfl dX7_areAll_53 ?_
      refine z_inc (w := 1) (lv' := [(4, .int (l4 + 1)), (3, .int w3), (0, .ref l0), (1, .long l1)]) 3 rfl (by decide) (by decide) rfl dX7_areAll_54 ?_
      refine z_goto 34 (by decide) dX7_areAll_57 ?_
      exact z_sub [2, 3, 1, 0] rfl (ih l0 l1 w3 (l4 + 1) h)
def fX7_areAll_4 : Nat → Nat → Int64 → Int32 → AH → RR
  | 0, _, _, _, _ => none
  | k + 1, l0, l1, l3, h =>
  (zgI h l0 7 15).bind fun x1 =>
  if x1 ≤ l3 then (
    fX7_areAll_34 FU l0 l1 0 0 h)
  else
  (zgR h l0 7 24).bind fun x2 =>
  (zai h x2 l3).bind fun x3 =>
  zletJ (l1 ||| ((1 : Int64) <<< (x3.toInt64 &&& 63))) fun w4 =>
  fX7_areAll_4 k l0 w4 (l3 + 1) h
set_option maxRecDepth 20000 in
theorem rX7_areAll_4 {X : CT} {V : VT} {d n0 k0 : Nat} (hV : V.2.2.2.2.2.stackTraces = false) (fu : Nat) : ∀ (l0 : Nat) (l1 : Int64) (l3 : Int32) (h : AH), zG X V RX7 "areAll" cX7_areAll 5 (some .boolean) (d + 1) n0 k0 (fX7_areAll_4 fu l0 l1 l3 h) 4 [(0, .ref l0), (1, .long l1), (3, .int l3)] [] h := by
  induction fu with
  | zero => intros; exact z_none
  | succ k ih =>
    intro l0 l1 l3 h
    rw [fX7_areAll_4]
    refine z_iload_n 2 rfl rfl dX7_areAll_4 ?_
    refine z_aload_n 0 rfl rfl dX7_areAll_5 ?_
    refine z_gI zf_RX7_92 dX7_areAll_6 (fun x1 => ?_)
    refine z_icmp_ge 29 (by decide) dX7_areAll_9 ?_ ?_
    · refine z_iconst (v := 0) (by decide) dX7_areAll_29 ?_
      refine z_istore_n (lv' := [(3, .int 0), (0, .ref l0), (1, .long l1)]) rfl (by decide) rfl dX7_areAll_30 ?_
      refine z_iconst (v := 0) (by decide) dX7_areAll_31 ?_
      refine z_istore (lv' := [(4, .int 0), (3, .int 0), (0, .ref l0), (1, .long l1)]) (by decide) rfl dX7_areAll_32 ?_
      exact z_sub [2, 3, 1, 0] rfl (rX7_areAll_34 hV FU l0 l1 0 0 h)
    · refine z_lload_n 1 rfl rfl dX7_areAll_12 ?_
      refine z_lconst (v := 1) (by decide) dX7_areAll_13 ?_
      refine z_aload_n 0 rfl rfl dX7_areAll_14 ?_
      refine z_gR zf_RX7_46 dX7_areAll_15 (fun x2 => ?_)
      refine z_iload_n 2 rfl rfl dX7_areAll_18 ?_
      refine z_aI dX7_areAll_19 (fun x3 => ?_)
      refine z_lshl dX7_areAll_20 ?_
      refine z_lor dX7_areAll_21 ?_
      refine z_topJ (fun w4 => ?_)
      refine z_lstore_n (lv' := [(1, .long w4), (0, .ref l0), (3, .int l3)]) rfl (by decide) rfl dX7_areAll_22 ?_
      refine z_inc (w := 1) (lv' := [(3, .int (l3 + 1)), (1, .long w4), (0, .ref l0)]) 2 rfl (by decide) (by decide) rfl dX7_areAll_23 ?_
      refine z_goto 4 (by decide) dX7_areAll_26 ?_
      exact z_sub [2, 1, 0] rfl (ih l0 w4 (l3 + 1) h)
def fX7_areAll (a0 : Nat) (h : AH) : RR :=
  fX7_areAll_4 FU a0 0 0 h
set_option maxRecDepth 20000 in
theorem mX7_areAll {V : VT} (hV : V.2.2.2.2.2.stackTraces = false) (d : Nat) (a0 : Nat) (h : AH) : zM V yX7_areAll cX7_areAll 5 (some .boolean) (d + 1) [.ref a0] h (fX7_areAll a0 h) := by
  refine z_meth hV (by decide +kernel) (Nat.le_of_ble_eq_true rfl) [(0, .ref a0)] rfl (fun X => ?_)
  show zG X V RX7 "areAll" cX7_areAll 5 (some .boolean) (d + 1) h.1 h.2.1 (fX7_areAll a0 h) 0 [(0, .ref a0)] [] h
  unfold fX7_areAll
  refine z_lconst (v := 0) (by decide) dX7_areAll_0 ?_
  refine z_lstore_n (lv' := [(1, .long 0), (0, .ref a0)]) rfl (by decide) rfl dX7_areAll_1 ?_
  refine z_iconst (v := 0) (by decide) dX7_areAll_2 ?_
  refine z_istore_n (lv' := [(3, .int 0), (1, .long 0), (0, .ref a0)]) rfl (by decide) rfl dX7_areAll_3 ?_
  exact z_sub [2, 1, 0] rfl (rX7_areAll_4 hV FU a0 0 0 h)
def fX7_monomials_19 (K8 : Nat → Int64 → Int32 → AH → RR) : Nat → Nat → Int64 → Int32 → Int32 → AH → RR
  | 0, _, _, _, _, _ => none
  | k + 1, l0, l1, l3, l4, h =>
  (zgI h l0 7 15).bind fun x1 =>
  if x1 ≤ l4 then (
    zcv (zob h l0 7) (fX7_areAll l0 h) fun v2 h3 =>
    zvi v2 fun x4 =>
    if x4 = 0 then (
      K8 l0 l1 (l3 + 1) h3)
    else
    zletJ (l1 ||| ((1 : Int64) <<< (l3.toInt64 &&& 63))) fun w5 =>
    K8 l0 w5 (l3 + 1) h3)
  else
  (zgR h l0 7 24).bind fun x6 =>
  zcv (zob h l0 7) (fX7_raisedPoint l0 l4 l3 h) fun v7 h8 =>
  zvi v7 fun x9 =>
  (zsi h8 x6 l4 x9).bind fun h10 =>
  fX7_monomials_19 K8 k l0 l1 l3 (l4 + 1) h10
set_option maxRecDepth 20000 in
theorem rX7_monomials_19 {X : CT} {V : VT} {d n0 k0 : Nat} (hV : V.2.2.2.2.2.stackTraces = false) (K8 : Nat → Int64 → Int32 → AH → RR) (hK8 : ∀ l0 l1 l3  h, zG X V RX7 "monomials" cX7_monomials 5 (some .long) (d + 6) n0 k0 (K8 l0 l1 l3 h) 8 [(0, .ref l0), (1, .long l1), (3, .int l3)] [] h) (fu : Nat) : ∀ (l0 : Nat) (l1 : Int64) (l3 : Int32) (l4 : Int32) (h : AH), zG X V RX7 "monomials" cX7_monomials 5 (some .long) (d + 6) n0 k0 (fX7_monomials_19 K8 fu l0 l1 l3 l4 h) 19 [(0, .ref l0), (1, .long l1), (3, .int l3), (4, .int l4)] [] h := by
  induction fu with
  | zero => intros; exact z_none
  | succ k ih =>
    intro l0 l1 l3 l4 h
    rw [fX7_monomials_19]
    refine z_iload 3 rfl dX7_monomials_19 ?_
    refine z_aload_n 0 rfl rfl dX7_monomials_21 ?_
    refine z_gI zf_RX7_92 dX7_monomials_22 (fun x1 => ?_)
    refine z_icmp_ge 48 (by decide) dX7_monomials_25 ?_ ?_
    · refine z_aload_n 0 rfl rfl dX7_monomials_48 ?_
      refine z_cV (st := []) [] zk_RX7_297 rfl (Nat.le_of_ble_eq_true rfl) dX7_monomials_49 (mX7_areAll hV (d + 4) l0 h) (fun v2 h3 => ?_)
      refine z_vi (fun x4 => ?_)
      refine z_if_eq 61 (by decide) dX7_monomials_52 ?_ ?_
      · refine z_inc (w := 1) (lv' := [(3, .int (l3 + 1)), (0, .ref l0), (1, .long l1), (4, .int l4)]) 2 rfl (by decide) (by decide) rfl dX7_monomials_61 ?_
        refine z_goto 8 (by decide) dX7_monomials_64 ?_
        exact z_sub [1, 2, 0] rfl (hK8 l0 l1 (l3 + 1) h3)
      · refine z_lload_n 1 rfl rfl dX7_monomials_55 ?_
        refine z_lconst (v := 1) (by decide) dX7_monomials_56 ?_
        refine z_iload_n 2 rfl rfl dX7_monomials_57 ?_
        refine z_lshl dX7_monomials_58 ?_
        refine z_lor dX7_monomials_59 ?_
        refine z_topJ (fun w5 => ?_)
        refine z_lstore_n (lv' := [(1, .long w5), (0, .ref l0), (3, .int l3), (4, .int l4)]) rfl (by decide) rfl dX7_monomials_60 ?_
        refine z_inc (w := 1) (lv' := [(3, .int (l3 + 1)), (1, .long w5), (0, .ref l0), (4, .int l4)]) 2 rfl (by decide) (by decide) rfl dX7_monomials_61 ?_
        refine z_goto 8 (by decide) dX7_monomials_64 ?_
        exact z_sub [2, 1, 0] rfl (hK8 l0 w5 (l3 + 1) h3)
    · refine z_aload_n 0 rfl rfl dX7_monomials_28 ?_
      refine z_gR zf_RX7_46 dX7_monomials_29 (fun x6 => ?_)
      refine z_iload 3 rfl dX7_monomials_32 ?_
      refine z_aload_n 0 rfl rfl dX7_monomials_34 ?_
      refine z_iload 3 rfl dX7_monomials_35 ?_
      refine z_iload_n 2 rfl rfl dX7_monomials_37 ?_
      refine z_cV (st := [.int l4, .ref x6]) [.int l4, .int l3] zk_RX7_197 rfl (Nat.le_of_ble_eq_true rfl) dX7_monomials_38 (mX7_raisedPoint hV (d + 4) l0 l4 l3 h) (fun v7 h8 => ?_)
      refine z_vi (fun x9 => ?_)
      refine z_sI dX7_monomials_41 (fun h10 => ?_)
      refine z_inc (w := 1) (lv' := [(4, .int (l4 + 1)), (0, .ref l0), (1, .long l1), (3, .int l3)]) 3 rfl (by decide) (by decide) rfl dX7_monomials_42 ?_
      refine z_goto 19 (by decide) dX7_monomials_45 ?_
      exact z_sub [1, 2, 3, 0] rfl (ih l0 l1 l3 (l4 + 1) h10)
def fX7_monomials_8 : Nat → Nat → Int64 → Int32 → AH → RR
  | 0, _, _, _, _ => none
  | k + 1, l0, l1, l3, h =>
  (zgI h l0 7 15).bind fun x1 =>
  if x1 ≤ l3 then (
    some (.inl (some (.long l1)), h))
  else
  fX7_monomials_19 (fun p0 p1 p3 h => fX7_monomials_8 k p0 p1 p3 h) FU l0 l1 l3 0 h
set_option maxRecDepth 20000 in
theorem rX7_monomials_8 {X : CT} {V : VT} {d n0 k0 : Nat} (hV : V.2.2.2.2.2.stackTraces = false) (fu : Nat) : ∀ (l0 : Nat) (l1 : Int64) (l3 : Int32) (h : AH), zG X V RX7 "monomials" cX7_monomials 5 (some .long) (d + 6) n0 k0 (fX7_monomials_8 fu l0 l1 l3 h) 8 [(0, .ref l0), (1, .long l1), (3, .int l3)] [] h := by
  induction fu with
  | zero => intros; exact z_none
  | succ k ih =>
    intro l0 l1 l3 h
    rw [fX7_monomials_8]
    refine z_iload_n 2 rfl rfl dX7_monomials_8 ?_
    refine z_aload_n 0 rfl rfl dX7_monomials_9 ?_
    refine z_gI zf_RX7_92 dX7_monomials_10 (fun x1 => ?_)
    refine z_icmp_ge 67 (by decide) dX7_monomials_13 ?_ ?_
    · refine z_lload_n 1 rfl rfl dX7_monomials_67 ?_
      exact z_lret rfl dX7_monomials_68
    · refine z_iconst (v := 0) (by decide) dX7_monomials_16 ?_
      refine z_istore (lv' := [(4, .int 0), (0, .ref l0), (1, .long l1), (3, .int l3)]) (by decide) rfl dX7_monomials_17 ?_
      exact z_sub [1, 2, 3, 0] rfl (rX7_monomials_19 hV (fun p0 p1 p3 h => fX7_monomials_8 k p0 p1 p3 h) ih FU l0 l1 l3 0 h)
def fX7_monomials (a0 : Nat) (h : AH) : RR :=
  zcv (zob h a0 7) (fX7_begins a0 h) fun v1 h2 =>
  zvn v1 <|
  fX7_monomials_8 FU a0 0 1 h2
set_option maxRecDepth 20000 in
theorem mX7_monomials {V : VT} (hV : V.2.2.2.2.2.stackTraces = false) (d : Nat) (a0 : Nat) (h : AH) : zM V yX7_monomials cX7_monomials 5 (some .long) (d + 6) [.ref a0] h (fX7_monomials a0 h) := by
  refine z_meth hV (by decide +kernel) (Nat.le_of_ble_eq_true rfl) [(0, .ref a0)] rfl (fun X => ?_)
  show zG X V RX7 "monomials" cX7_monomials 5 (some .long) (d + 6) h.1 h.2.1 (fX7_monomials a0 h) 0 [(0, .ref a0)] [] h
  unfold fX7_monomials
  refine z_aload_n 0 rfl rfl dX7_monomials_0 ?_
  refine z_cV (st := []) [] zk_RX7_240 rfl (Nat.le_of_ble_eq_true rfl) dX7_monomials_1 (mX7_begins hV (d + 0) a0 h) (fun v1 h2 => ?_)
  refine z_vn ?_
  refine z_lconst (v := 0) (by decide) dX7_monomials_4 ?_
  refine z_lstore_n (lv' := [(1, .long 0), (0, .ref a0)]) rfl (by decide) rfl dX7_monomials_5 ?_
  refine z_iconst (v := 1) (by decide) dX7_monomials_6 ?_
  refine z_istore_n (lv' := [(3, .int 1), (1, .long 0), (0, .ref a0)]) rfl (by decide) rfl dX7_monomials_7 ?_
  exact z_sub [2, 1, 0] rfl (rX7_monomials_8 hV FU a0 0 1 h2)
