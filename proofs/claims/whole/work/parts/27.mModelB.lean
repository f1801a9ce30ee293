/-! printed by a program of ours (wip/whole/drive.py) out of the code -/
def fX7_fine (a0 : Nat) (h : AH) : RR :=
  (zgI h a0 7 6).bind fun x1 =>
  if x1 = 0 then (
    zbr 1 h)
  else
  zbr 0 h
set_option maxRecDepth 20000 in
theorem mX7_fine {V : VT} (hV : V.2.2.2.2.2.stackTraces = false) (d : Nat) (a0 : Nat) (h : AH) : zM V yX7_fine cX7_fine 1 (some .boolean) (d + 1) [.ref a0] h (fX7_fine a0 h) := by
  refine z_meth hV (by decide +kernel) (Nat.le_of_ble_eq_true rfl) [(0, .ref a0)] rfl (fun X => ?_)
  show zG X V RX7 "fine" cX7_fine 1 (some .boolean) (d + 1) h.1 h.2.1 (fX7_fine a0 h) 0 [(0, .ref a0)] [] h
  unfold fX7_fine
  refine z_aload_n 0 rfl rfl dX7_fine_0 ?_
  refine z_gI zf_RX7_118 dX7_fine_1 (fun x1 => ?_)
  refine z_if_ne 11 (by decide) dX7_fine_4 ?_ ?_
  · refine z_iconst (v := 1) (by decide) dX7_fine_7 ?_
    refine z_goto 12 (by decide) dX7_fine_8 ?_
    exact z_zret rfl dX7_fine_12
  · refine z_iconst (v := 0) (by decide) dX7_fine_11 ?_
    exact z_zret rfl dX7_fine_12
def fX7_wrong (a0 : Nat) (a1 : Int32) (a2 : Int32) (h : AH) : RR :=
  (zgI h a0 7 6).bind fun x1 =>
  if x1 = 0 then (
    (zpf h a0 7 6 (.int a1)).bind fun h2 =>
    (zpf h2 a0 7 7 (.int a2)).bind fun h3 =>
    some (.inl none, h3))
  else
  some (.inl none, h)
set_option maxRecDepth 20000 in
theorem mX7_wrong {V : VT} (hV : V.2.2.2.2.2.stackTraces = false) (d : Nat) (a0 : Nat) (a1 : Int32) (a2 : Int32) (h : AH) : zM V yX7_wrong cX7_wrong 3 none (d + 1) [.ref a0, .int a1, .int a2] h (fX7_wrong a0 a1 a2 h) := by
  refine z_meth hV (by decide +kernel) (Nat.le_of_ble_eq_true rfl) [(0, .ref a0), (1, .int a1), (2, .int a2)] rfl (fun X => ?_)
  show zG X V RX7 "wrong" cX7_wrong 3 none (d + 1) h.1 h.2.1 (fX7_wrong a0 a1 a2 h) 0 [(0, .ref a0), (1, .int a1), (2, .int a2)] [] h
  unfold fX7_wrong
  refine z_aload_n 0 rfl rfl dX7_wrong_0 ?_
  refine z_gI zf_RX7_118 dX7_wrong_1 (fun x1 => ?_)
  refine z_if_ne 17 (by decide) dX7_wrong_4 ?_ ?_
  · refine z_aload_n 0 rfl rfl dX7_wrong_7 ?_
    refine z_iload_n 1 rfl rfl dX7_wrong_8 ?_
    refine z_pI zf_RX7_118 zq_7_6 rfl dX7_wrong_9 (fun h2 => ?_)
    refine z_aload_n 0 rfl rfl dX7_wrong_12 ?_
    refine z_iload_n 2 rfl rfl dX7_wrong_13 ?_
    refine z_pI zf_RX7_121 zq_7_7 rfl dX7_wrong_14 (fun h3 => ?_)
    exact z_vret rfl dX7_wrong_17
  · exact z_vret rfl dX7_wrong_17
def fX7_isSmall (a0 : Int32) (h : AH) : RR :=
  if a0 < 97 then (
    zbr 0 h)
  else
  if 122 < a0 then (
    zbr 0 h)
  else
  zbr 1 h
set_option maxRecDepth 20000 in
theorem mX7_isSmall {V : VT} (hV : V.2.2.2.2.2.stackTraces = false) (d : Nat) (a0 : Int32) (h : AH) : zM V yX7_isSmall cX7_isSmall 1 (some .boolean) (d + 1) [.int a0] h (fX7_isSmall a0 h) := by
  refine z_meth hV (by decide +kernel) (Nat.le_of_ble_eq_true rfl) [(0, .int a0)] rfl (fun X => ?_)
  show zG X V RX7 "isSmall" cX7_isSmall 1 (some .boolean) (d + 1) h.1 h.2.1 (fX7_isSmall a0 h) 0 [(0, .int a0)] [] h
  unfold fX7_isSmall
  refine z_iload_n 0 rfl rfl dX7_isSmall_0 ?_
  refine z_bipush (v := 97) (by decide) dX7_isSmall_1 ?_
  refine z_icmp_lt 16 (by decide) dX7_isSmall_3 ?_ ?_
  · refine z_iconst (v := 0) (by decide) dX7_isSmall_16 ?_
    exact z_zret rfl dX7_isSmall_17
  · refine z_iload_n 0 rfl rfl dX7_isSmall_6 ?_
    refine z_bipush (v := 122) (by decide) dX7_isSmall_7 ?_
    refine z_icmp_gt 16 (by decide) dX7_isSmall_9 ?_ ?_
    · refine z_iconst (v := 0) (by decide) dX7_isSmall_16 ?_
      exact z_zret rfl dX7_isSmall_17
    · refine z_iconst (v := 1) (by decide) dX7_isSmall_12 ?_
      refine z_goto 17 (by decide) dX7_isSmall_13 ?_
      exact z_zret rfl dX7_isSmall_17
def fX7_isDigit (a0 : Int32) (h : AH) : RR :=
  if a0 < 48 then (
    zbr 0 h)
  else
  if 57 < a0 then (
    zbr 0 h)
  else
  zbr 1 h
set_option maxRecDepth 20000 in
theorem mX7_isDigit {V : VT} (hV : V.2.2.2.2.2.stackTraces = false) (d : Nat) (a0 : Int32) (h : AH) : zM V yX7_isDigit cX7_isDigit 1 (some .boolean) (d + 1) [.int a0] h (fX7_isDigit a0 h) := by
  refine z_meth hV (by decide +kernel) (Nat.le_of_ble_eq_true rfl) [(0, .int a0)] rfl (fun X => ?_)
  show zG X V RX7 "isDigit" cX7_isDigit 1 (some .boolean) (d + 1) h.1 h.2.1 (fX7_isDigit a0 h) 0 [(0, .int a0)] [] h
  unfold fX7_isDigit
  refine z_iload_n 0 rfl rfl dX7_isDigit_0 ?_
  refine z_bipush (v := 48) (by decide) dX7_isDigit_1 ?_
  refine z_icmp_lt 16 (by decide) dX7_isDigit_3 ?_ ?_
  · refine z_iconst (v := 0) (by decide) dX7_isDigit_16 ?_
    exact z_zret rfl dX7_isDigit_17
  · refine z_iload_n 0 rfl rfl dX7_isDigit_6 ?_
    refine z_bipush (v := 57) (by decide) dX7_isDigit_7 ?_
    refine z_icmp_gt 16 (by decide) dX7_isDigit_9 ?_ ?_
    · refine z_iconst (v := 0) (by decide) dX7_isDigit_16 ?_
      exact z_zret rfl dX7_isDigit_17
    · refine z_iconst (v := 1) (by decide) dX7_isDigit_12 ?_
      refine z_goto 17 (by decide) dX7_isDigit_13 ?_
      exact z_zret rfl dX7_isDigit_17
def fX7_takes_48 (l0 : Nat) (l1 : UInt32) (l2 : Int32) (h : AH) : RR :=
  (zslen l1).bind fun x1 =>
  if l2 < x1 then (
    zbr 0 h)
  else
  (zgI h l0 7 4).bind fun x2 =>
  zcv (zob h l0 7) (fX7_byteAt l0 (x2 + l2) h) fun v3 h4 =>
  zvi v3 fun x5 =>
  zca (fX7_isSmall x5 h4) fun v6 h7 =>
  zvi v6 fun x8 =>
  if x8 = 0 then (
    (zgI h7 l0 7 4).bind fun x9 =>
    (zpf h7 l0 7 4 (.int (x9 + l2))).bind fun h10 =>
    zbr 1 h10)
  else
  zbr 0 h7
set_option maxRecDepth 20000 in
theorem rX7_takes_48 {X : CT} {V : VT} {d n0 k0 : Nat} (hV : V.2.2.2.2.2.stackTraces = false) (l0 : Nat) (l1 : UInt32) (l2 : Int32) (h : AH) : zG X V RX7 "takes" cX7_takes 3 (some .boolean) (d + 12) n0 k0 (fX7_takes_48 l0 l1 l2 h) 48 [(0, .ref l0), (1, .float l1), (2, .int l2)] [] h := by
  unfold fX7_takes_48
  refine z_iload_n 2 rfl rfl dX7_takes_48 ?_
  refine z_sload_n 1 rfl rfl dX7_takes_49 ?_
  refine z_slen hV zks_RX7_131 (by omega) (Nat.le_of_ble_eq_true rfl) dX7_takes_50 (fun x1 => ?_)
  refine z_icmp_lt 72 (by decide) dX7_takes_53 ?_ ?_
  · refine z_iconst (v := 0) (by decide) dX7_takes_72 ?_
    exact z_zret rfl dX7_takes_73
  · refine z_aload_n 0 rfl rfl dX7_takes_56 ?_
    refine z_aload_n 0 rfl rfl dX7_takes_57 ?_
    refine z_gI zf_RX7_111 dX7_takes_58 (fun x2 => ?_)
    refine z_iload_n 2 rfl rfl dX7_takes_61 ?_
    refine z_iadd dX7_takes_62 ?_
    refine z_cV (st := []) [.int (x2 + l2)] zk_RX7_114 rfl (Nat.le_of_ble_eq_true rfl) dX7_takes_63 (mX7_byteAt hV (d + 10) l0 (x2 + l2) h) (fun v3 h4 => ?_)
    refine z_vi (fun x5 => ?_)
    refine z_cS (st := []) [.int x5] zk_RX7_140 rfl (Nat.le_of_ble_eq_true rfl) dX7_takes_66 (mX7_isSmall hV (d + 10) x5 h4) (fun v6 h7 => ?_)
    refine z_vi (fun x8 => ?_)
    refine z_if_eq 74 (by decide) dX7_takes_69 ?_ ?_
    · refine z_aload_n 0 rfl rfl dX7_takes_74 ?_
      refine z_dup rfl dX7_takes_75 ?_
      refine z_gI zf_RX7_111 dX7_takes_76 (fun x9 => ?_)
      refine z_iload_n 2 rfl rfl dX7_takes_79 ?_
      refine z_iadd dX7_takes_80 ?_
      refine z_pI zf_RX7_111 zq_7_4 rfl dX7_takes_81 (fun h10 => ?_)
      refine z_iconst (v := 1) (by decide) dX7_takes_84 ?_
      exact z_zret rfl dX7_takes_85
    · refine z_iconst (v := 0) (by decide) dX7_takes_72 ?_
      exact z_zret rfl dX7_takes_73
def fX7_takes_16 : Nat → Nat → UInt32 → Int32 → AH → RR
  | 0, _, _, _, _ => none
  | k + 1, l0, l1, l2, h =>
  (zslen l1).bind fun x1 =>
  if x1 ≤ l2 then (
    fX7_takes_48 l0 l1 l2 h)
  else
  (zgI h l0 7 4).bind fun x2 =>
  zcv (zob h l0 7) (fX7_byteAt l0 (x2 + l2) h) fun v3 h4 =>
  zvi v3 fun x5 =>
  (zschar l1 l2).bind fun x6 =>
  if x5 = x6 then (
    fX7_takes_16 k l0 l1 (l2 + 1) h4)
  else
  fX7_takes_48 l0 l1 l2 h4
set_option maxRecDepth 20000 in
theorem rX7_takes_16 {X : CT} {V : VT} {d n0 k0 : Nat} (hV : V.2.2.2.2.2.stackTraces = false) (fu : Nat) : ∀ (l0 : Nat) (l1 : UInt32) (l2 : Int32) (h : AH), zG X V RX7 "takes" cX7_takes 3 (some .boolean) (d + 12) n0 k0 (fX7_takes_16 fu l0 l1 l2 h) 16 [(0, .ref l0), (1, .float l1), (2, .int l2)] [] h := by
  induction fu with
  | zero => intros; exact z_none
  | succ k ih =>
    intro l0 l1 l2 h
    rw [fX7_takes_16]
    refine z_iload_n 2 rfl rfl dX7_takes_16 ?_
    refine z_sload_n 1 rfl rfl dX7_takes_17 ?_
    refine z_slen hV zks_RX7_131 (by omega) (Nat.le_of_ble_eq_true rfl) dX7_takes_18 (fun x1 => ?_)
    refine z_icmp_ge 48 (by decide) dX7_takes_21 ?_ ?_
    · exact z_sub [0, 1, 2] rfl (rX7_takes_48 hV l0 l1 l2 h)
    · refine z_aload_n 0 rfl rfl dX7_takes_24 ?_
      refine z_aload_n 0 rfl rfl dX7_takes_25 ?_
      refine z_gI zf_RX7_111 dX7_takes_26 (fun x2 => ?_)
      refine z_iload_n 2 rfl rfl dX7_takes_29 ?_
      refine z_iadd dX7_takes_30 ?_
      refine z_cV (st := []) [.int (x2 + l2)] zk_RX7_114 rfl (Nat.le_of_ble_eq_true rfl) dX7_takes_31 (mX7_byteAt hV (d + 10) l0 (x2 + l2) h) (fun v3 h4 => ?_)
      refine z_vi (fun x5 => ?_)
      refine z_sload_n 1 rfl rfl dX7_takes_34 ?_
      refine z_iload_n 2 rfl rfl dX7_takes_35 ?_
      refine z_schar hV zks_RX7_136 (by omega) (Nat.le_of_ble_eq_true rfl) dX7_takes_36 (fun x6 => ?_)
      refine z_icmp_ne 48 (by decide) dX7_takes_39 ?_ ?_
      · refine z_inc (w := 1) (lv' := [(2, .int (l2 + 1)), (0, .ref l0), (1, .float l1)]) 2 rfl (by decide) (by decide) rfl dX7_takes_42 ?_
        refine z_goto 16 (by decide) dX7_takes_45 ?_
        exact z_sub [1, 2, 0] rfl (ih l0 l1 (l2 + 1) h4)
      · exact z_sub [0, 1, 2] rfl (rX7_takes_48 hV l0 l1 l2 h4)
def fX7_takes (a0 : Nat) (a1 : UInt32) (h : AH) : RR :=
  zcv (zob h a0 7) (fX7_fine a0 h) fun v1 h2 =>
  zvi v1 fun x3 =>
  if x3 = 0 then (
    zbr 0 h2)
  else
  zcv (zob h2 a0 7) (fX7_here a0 h2) fun v4 h5 =>
  zvi v4 fun x6 =>
  fX7_takes_16 FU a0 a1 0 h5
set_option maxRecDepth 20000 in
theorem mX7_takes {V : VT} (hV : V.2.2.2.2.2.stackTraces = false) (d : Nat) (a0 : Nat) (a1 : UInt32) (h : AH) : zM V yX7_takes cX7_takes 3 (some .boolean) (d + 12) [.ref a0, .float a1] h (fX7_takes a0 a1 h) := by
  refine z_meth hV (by decide +kernel) (Nat.le_of_ble_eq_true rfl) [(0, .ref a0), (1, .float a1)] rfl (fun X => ?_)
  show zG X V RX7 "takes" cX7_takes 3 (some .boolean) (d + 12) h.1 h.2.1 (fX7_takes a0 a1 h) 0 [(0, .ref a0), (1, .float a1)] [] h
  unfold fX7_takes
  refine z_aload_n 0 rfl rfl dX7_takes_0 ?_
  refine z_cV (st := []) [] zk_RX7_124 rfl (Nat.le_of_ble_eq_true rfl) dX7_takes_1 (mX7_fine hV (d + 10) a0 h) (fun v1 h2 => ?_)
  refine z_vi (fun x3 => ?_)
  refine z_if_ne 9 (by decide) dX7_takes_4 ?_ ?_
  · refine z_iconst (v := 0) (by decide) dX7_takes_7 ?_
    exact z_zret rfl dX7_takes_8
  · refine z_aload_n 0 rfl rfl dX7_takes_9 ?_
    refine z_cV (st := []) [] zk_RX7_128 rfl (Nat.le_of_ble_eq_true rfl) dX7_takes_10 (mX7_here hV (d + 9) a0 h2) (fun v4 h5 => ?_)
    refine z_vi (fun x6 => ?_)
    refine z_pop rfl dX7_takes_13 ?_
    refine z_iconst (v := 0) (by decide) dX7_takes_14 ?_
    refine z_istore_n (lv' := [(2, .int 0), (0, .ref a0), (1, .float a1)]) rfl (by decide) rfl dX7_takes_15 ?_
    exact z_sub [1, 2, 0] rfl (rX7_takes_16 hV FU a0 a1 0 h5)
def fX7_must (a0 : Nat) (a1 : Int32) (h : AH) : RR :=
  zcv (zob h a0 7) (fX7_fine a0 h) fun v1 h2 =>
  zvi v1 fun x3 =>
  if x3 = 0 then (
    some (.inl none, h2))
  else
  zcv (zob h2 a0 7) (fX7_here a0 h2) fun v4 h5 =>
  zvi v4 fun x6 =>
  if x6 = a1 then (
    (zgI h5 a0 7 4).bind fun x7 =>
    (zpf h5 a0 7 4 (.int (x7 + 1))).bind fun h8 =>
    some (.inl none, h8))
  else
  (zgI h5 a0 7 4).bind fun x9 =>
  zcv (zob h5 a0 7) (fX7_wrong a0 1 x9 h5) fun v10 h11 =>
  zvn v10 <|
  some (.inl none, h11)
set_option maxRecDepth 20000 in
theorem mX7_must {V : VT} (hV : V.2.2.2.2.2.stackTraces = false) (d : Nat) (a0 : Nat) (a1 : Int32) (h : AH) : zM V yX7_must cX7_must 2 none (d + 3) [.ref a0, .int a1] h (fX7_must a0 a1 h) := by
  refine z_meth hV (by decide +kernel) (Nat.le_of_ble_eq_true rfl) [(0, .ref a0), (1, .int a1)] rfl (fun X => ?_)
  show zG X V RX7 "must" cX7_must 2 none (d + 3) h.1 h.2.1 (fX7_must a0 a1 h) 0 [(0, .ref a0), (1, .int a1)] [] h
  unfold fX7_must
  refine z_aload_n 0 rfl rfl dX7_must_0 ?_
  refine z_cV (st := []) [] zk_RX7_124 rfl (Nat.le_of_ble_eq_true rfl) dX7_must_1 (mX7_fine hV (d + 1) a0 h) (fun v1 h2 => ?_)
  refine z_vi (fun x3 => ?_)
  refine z_if_ne 8 (by decide) dX7_must_4 ?_ ?_
  · exact z_vret rfl dX7_must_7
  · refine z_aload_n 0 rfl rfl dX7_must_8 ?_
    refine z_cV (st := []) [] zk_RX7_128 rfl (Nat.le_of_ble_eq_true rfl) dX7_must_9 (mX7_here hV (d + 0) a0 h2) (fun v4 h5 => ?_)
    refine z_vi (fun x6 => ?_)
    refine z_iload_n 1 rfl rfl dX7_must_12 ?_
    refine z_icmp_ne 29 (by decide) dX7_must_13 ?_ ?_
    · refine z_aload_n 0 rfl rfl dX7_must_16 ?_
      refine z_dup rfl dX7_must_17 ?_
      refine z_gI zf_RX7_111 dX7_must_18 (fun x7 => ?_)
      refine z_iconst (v := 1) (by decide) dX7_must_21 ?_
      refine z_iadd dX7_must_22 ?_
      refine z_pI zf_RX7_111 zq_7_4 rfl dX7_must_23 (fun h8 => ?_)
      refine z_goto 38 (by decide) dX7_must_26 ?_
      exact z_vret rfl dX7_must_38
    · refine z_aload_n 0 rfl rfl dX7_must_29 ?_
      refine z_iconst (v := 1) (by decide) dX7_must_30 ?_
      refine z_aload_n 0 rfl rfl dX7_must_31 ?_
      refine z_gI zf_RX7_111 dX7_must_32 (fun x9 => ?_)
      refine z_cV (st := []) [.int 1, .int x9] zk_RX7_143 rfl (Nat.le_of_ble_eq_true rfl) dX7_must_35 (mX7_wrong hV (d + 1) a0 1 x9 h5) (fun v10 h11 => ?_)
      refine z_vn ?_
      exact z_vret rfl dX7_must_38
def fX7_number_110 (l0 : Nat) (l3 : Int32) (h : AH) : RR :=
  zcv (zob h l0 7) (fX7_fine l0 h) fun v1 h2 =>
  zvi v1 fun x3 =>
  if x3 = 0 then (
    some (.inl (some (.int 0)), h2))
  else
  some (.inl (some (.int l3)), h2)
set_option maxRecDepth 20000 in
theorem rX7_number_110 {X : CT} {V : VT} {d n0 k0 : Nat} (hV : V.2.2.2.2.2.stackTraces = false) (l0 : Nat) (l3 : Int32) (h : AH) : zG X V RX7 "number" cX7_number 4 (some .int) (d + 3) n0 k0 (fX7_number_110 l0 l3 h) 110 [(0, .ref l0), (3, .int l3)] [] h := by
  unfold fX7_number_110
  refine z_aload_n 0 rfl rfl dX7_number_110 ?_
  refine z_cV (st := []) [] zk_RX7_124 rfl (Nat.le_of_ble_eq_true rfl) dX7_number_111 (mX7_fine hV (d + 1) l0 h) (fun v1 h2 => ?_)
  refine z_vi (fun x3 => ?_)
  refine z_if_eq 121 (by decide) dX7_number_114 ?_ ?_
  · refine z_iconst (v := 0) (by decide) dX7_number_121 ?_
    exact z_iret rfl dX7_number_122
  · refine z_iload_n 1 rfl rfl dX7_number_117 ?_
    refine z_goto 122 (by decide) dX7_number_118 ?_
    exact z_iret rfl dX7_number_122
def fX7_number_40 : Nat → Nat → Int32 → Int32 → Int32 → AH → RR
  | 0, _, _, _, _, _ => none
  | k + 1, l0, l1, l2, l3, h =>
  (zgI h l0 7 4).bind fun x1 =>
  zcv (zob h l0 7) (fX7_byteAt l0 x1 h) fun v2 h3 =>
  zvi v2 fun x4 =>
  zca (fX7_isDigit x4 h3) fun v5 h6 =>
  zvi v5 fun x7 =>
  if x7 = 0 then (
    zca (fX7_in l3.toInt64 l1.toInt64 l2.toInt64 h6) fun v8 h9 =>
    zvi v8 fun x10 =>
    if x10 = 0 then (
      (zgI h9 l0 7 22).bind fun x11 =>
      zcv (zob h9 l0 7) (fX7_wrong l0 2 x11 h9) fun v12 h13 =>
      zvn v12 <|
      fX7_number_110 l0 l3 h13)
    else
    fX7_number_110 l0 l3 h9)
  else
  (zgI h6 l0 7 4).bind fun x14 =>
  zcv (zob h6 l0 7) (fX7_byteAt l0 x14 h6) fun v15 h16 =>
  zvi v15 fun x17 =>
  zca (fX7_less 100000 ((((10 : Int32) * l3) + x17) - 48) h16) fun v18 h19 =>
  zvi v18 fun x20 =>
  (zgI h19 l0 7 4).bind fun x21 =>
  (zpf h19 l0 7 4 (.int (x21 + 1))).bind fun h22 =>
  fX7_number_40 k l0 l1 l2 x20 h22
set_option maxRecDepth 20000 in
theorem rX7_number_40 {X : CT} {V : VT} {d n0 k0 : Nat} (hV : V.2.2.2.2.2.stackTraces = false) (fu : Nat) : ∀ (l0 : Nat) (l1 : Int32) (l2 : Int32) (l3 : Int32) (h : AH), zG X V RX7 "number" cX7_number 4 (some .int) (d + 3) n0 k0 (fX7_number_40 fu l0 l1 l2 l3 h) 40 [(0, .ref l0), (1, .int l1), (2, .int l2), (3, .int l3)] [] h := by
  induction fu with
  | zero => intros; exact z_none
  | succ k ih =>
    intro l0 l1 l2 l3 h
    rw [fX7_number_40]
    refine z_aload_n 0 rfl rfl dX7_number_40 ?_
    refine z_aload_n 0 rfl rfl dX7_number_41 ?_
    refine z_gI zf_RX7_111 dX7_number_42 (fun x1 => ?_)
    refine z_cV (st := []) [.int x1] zk_RX7_114 rfl (Nat.le_of_ble_eq_true rfl) dX7_number_45 (mX7_byteAt hV (d + 1) l0 x1 h) (fun v2 h3 => ?_)
    refine z_vi (fun x4 => ?_)
    refine z_cS (st := []) [.int x4] zk_RX7_147 rfl (Nat.le_of_ble_eq_true rfl) dX7_number_48 (mX7_isDigit hV (d + 1) x4 h3) (fun v5 h6 => ?_)
    refine z_vi (fun x7 => ?_)
    refine z_if_eq 89 (by decide) dX7_number_51 ?_ ?_
    · refine z_iload_n 3 rfl rfl dX7_number_89 ?_
      refine z_i2l dX7_number_90 ?_
      refine z_iload_n 1 rfl rfl dX7_number_91 ?_
      refine z_i2l dX7_number_92 ?_
      refine z_iload_n 2 rfl rfl dX7_number_93 ?_
      refine z_i2l dX7_number_94 ?_
      refine z_cS (st := []) [.long l3.toInt64, .long l1.toInt64, .long l2.toInt64] zk_RX7_154 rfl (Nat.le_of_ble_eq_true rfl) dX7_number_95 (mX7_in hV (d + 1) l3.toInt64 l1.toInt64 l2.toInt64 h6) (fun v8 h9 => ?_)
      refine z_vi (fun x10 => ?_)
      refine z_if_ne 110 (by decide) dX7_number_98 ?_ ?_
      · refine z_aload_n 0 rfl rfl dX7_number_101 ?_
        refine z_iconst (v := 2) (by decide) dX7_number_102 ?_
        refine z_aload_n 0 rfl rfl dX7_number_103 ?_
        refine z_gI zf_RX7_150 dX7_number_104 (fun x11 => ?_)
        refine z_cV (st := []) [.int 2, .int x11] zk_RX7_143 rfl (Nat.le_of_ble_eq_true rfl) dX7_number_107 (mX7_wrong hV (d + 1) l0 2 x11 h9) (fun v12 h13 => ?_)
        refine z_vn ?_
        exact z_sub [0, 3] rfl (rX7_number_110 hV l0 l3 h13)
      · exact z_sub [0, 3] rfl (rX7_number_110 hV l0 l3 h9)
    · refine z_ldc zw_1090 dX7_number_54 ?_
      refine z_bipush (v := 10) (by decide) dX7_number_56 ?_
      refine z_iload_n 3 rfl rfl dX7_number_58 ?_
      refine z_imul dX7_number_59 ?_
      refine z_aload_n 0 rfl rfl dX7_number_60 ?_
      refine z_aload_n 0 rfl rfl dX7_number_61 ?_
      refine z_gI zf_RX7_111 dX7_number_62 (fun x14 => ?_)
      refine z_cV (st := [.int ((10 : Int32) * l3), .int 100000]) [.int x14] zk_RX7_114 rfl (Nat.le_of_ble_eq_true rfl) dX7_number_65 (mX7_byteAt hV (d + 1) l0 x14 h6) (fun v15 h16 => ?_)
      refine z_vi (fun x17 => ?_)
      refine z_iadd dX7_number_68 ?_
      refine z_bipush (v := 48) (by decide) dX7_number_69 ?_
      refine z_isub dX7_number_71 ?_
      refine z_cS (st := []) [.int 100000, .int ((((10 : Int32) * l3) + x17) - 48)] zk_RX7_64 rfl (Nat.le_of_ble_eq_true rfl) dX7_number_72 (mX7_less hV (d + 1) 100000 ((((10 : Int32) * l3) + x17) - 48) h16) (fun v18 h19 => ?_)
      refine z_vi (fun x20 => ?_)
      refine z_istore_n (lv' := [(3, .int x20), (0, .ref l0), (1, .int l1), (2, .int l2)]) rfl (by decide) rfl dX7_number_75 ?_
      refine z_aload_n 1 rfl rfl dX7_number_76 ?_
      refine z_dup rfl dX7_number_77 ?_
      refine z_gI zf_RX7_111 dX7_number_78 (fun x21 => ?_)
      refine z_iconst (v := 1) (by decide) dX7_number_81 ?_
      refine z_iadd dX7_number_82 ?_
      refine z_pI zf_RX7_111 zq_7_4 rfl dX7_number_83 (fun h22 => ?_)
      refine z_goto 40 (by decide) dX7_number_86 ?_
      exact z_sub [1, 2, 3, 0] rfl (ih l0 l1 l2 x20 h22)
def fX7_number (a0 : Nat) (a1 : Int32) (a2 : Int32) (h : AH) : RR :=
  zcv (zob h a0 7) (fX7_fine a0 h) fun v1 h2 =>
  zvi v1 fun x3 =>
  if x3 = 0 then (
    some (.inl (some (.int 0)), h2))
  else
  zcv (zob h2 a0 7) (fX7_here a0 h2) fun v4 h5 =>
  zvi v4 fun x6 =>
  zca (fX7_isDigit x6 h5) fun v7 h8 =>
  zvi v7 fun x9 =>
  if x9 = 0 then (
    (zgI h8 a0 7 4).bind fun x10 =>
    zcv (zob h8 a0 7) (fX7_wrong a0 1 x10 h8) fun v11 h12 =>
    zvn v11 <|
    some (.inl (some (.int 0)), h12))
  else
  (zgI h8 a0 7 4).bind fun x13 =>
  (zpf h8 a0 7 22 (.int x13)).bind fun h14 =>
  fX7_number_40 FU a0 a1 a2 0 h14
set_option maxRecDepth 20000 in
theorem mX7_number {V : VT} (hV : V.2.2.2.2.2.stackTraces = false) (d : Nat) (a0 : Nat) (a1 : Int32) (a2 : Int32) (h : AH) : zM V yX7_number cX7_number 4 (some .int) (d + 3) [.ref a0, .int a1, .int a2] h (fX7_number a0 a1 a2 h) := by
  refine z_meth hV (by decide +kernel) (Nat.le_of_ble_eq_true rfl) [(0, .ref a0), (1, .int a1), (2, .int a2)] rfl (fun X => ?_)
  show zG X V RX7 "number" cX7_number 4 (some .int) (d + 3) h.1 h.2.1 (fX7_number a0 a1 a2 h) 0 [(0, .ref a0), (1, .int a1), (2, .int a2)] [] h
  unfold fX7_number
  refine z_aload_n 0 rfl rfl dX7_number_0 ?_
  refine z_cV (st := []) [] zk_RX7_124 rfl (Nat.le_of_ble_eq_true rfl) dX7_number_1 (mX7_fine hV (d + 1) a0 h) (fun v1 h2 => ?_)
  refine z_vi (fun x3 => ?_)
  refine z_if_ne 9 (by decide) dX7_number_4 ?_ ?_
  · refine z_iconst (v := 0) (by decide) dX7_number_7 ?_
    exact z_iret rfl dX7_number_8
  · refine z_aload_n 0 rfl rfl dX7_number_9 ?_
    refine z_cV (st := []) [] zk_RX7_128 rfl (Nat.le_of_ble_eq_true rfl) dX7_number_10 (mX7_here hV (d + 0) a0 h2) (fun v4 h5 => ?_)
    refine z_vi (fun x6 => ?_)
    refine z_cS (st := []) [.int x6] zk_RX7_147 rfl (Nat.le_of_ble_eq_true rfl) dX7_number_13 (mX7_isDigit hV (d + 1) x6 h5) (fun v7 h8 => ?_)
    refine z_vi (fun x9 => ?_)
    refine z_if_ne 30 (by decide) dX7_number_16 ?_ ?_
    · refine z_aload_n 0 rfl rfl dX7_number_19 ?_
      refine z_iconst (v := 1) (by decide) dX7_number_20 ?_
      refine z_aload_n 0 rfl rfl dX7_number_21 ?_
      refine z_gI zf_RX7_111 dX7_number_22 (fun x10 => ?_)
      refine z_cV (st := []) [.int 1, .int x10] zk_RX7_143 rfl (Nat.le_of_ble_eq_true rfl) dX7_number_25 (mX7_wrong hV (d + 1) a0 1 x10 h8) (fun v11 h12 => ?_)
      refine z_vn ?_
      refine z_iconst (v := 0) (by decide) dX7_number_28 ?_
      exact z_iret rfl dX7_number_29
    · refine z_aload_n 0 rfl rfl dX7_number_30 ?_
      refine z_aload_n 0 rfl rfl dX7_number_31 ?_
      refine z_gI zf_RX7_111 dX7_number_32 (fun x13 => ?_)
      refine z_pI zf_RX7_150 zq_7_22 rfl dX7_number_35 (fun h14 => ?_)
      refine z_iconst (v := 0) (by decide) dX7_number_38 ?_
      refine z_istore_n (lv' := [(3, .int 0), (0, .ref a0), (1, .int a1), (2, .int a2)]) rfl (by decide) rfl dX7_number_39 ?_
      exact z_sub [1, 2, 3, 0] rfl (rX7_number_40 hV FU a0 a1 a2 0 h14)
def fX7_opens_26 (l0 : Nat) (h : AH) : RR :=
  zcv (zob h l0 7) (fX7_must l0 40 h) fun v1 h2 =>
  zvn v1 <|
  (zgI h2 l0 7 23).bind fun x3 =>
  (zpf h2 l0 7 23 (.int (x3 + 1))).bind fun h4 =>
  some (.inl none, h4)
set_option maxRecDepth 20000 in
theorem rX7_opens_26 {X : CT} {V : VT} {d n0 k0 : Nat} (hV : V.2.2.2.2.2.stackTraces = false) (l0 : Nat) (h : AH) : zG X V RX7 "opens" cX7_opens 1 none (d + 4) n0 k0 (fX7_opens_26 l0 h) 26 [(0, .ref l0)] [] h := by
  unfold fX7_opens_26
  refine z_aload_n 0 rfl rfl dX7_opens_26 ?_
  refine z_bipush (v := 40) (by decide) dX7_opens_27 ?_
  refine z_cV (st := []) [.int 40] zk_RX7_161 rfl (Nat.le_of_ble_eq_true rfl) dX7_opens_29 (mX7_must hV (d + 0) l0 40 h) (fun v1 h2 => ?_)
  refine z_vn ?_
  refine z_aload_n 0 rfl rfl dX7_opens_32 ?_
  refine z_dup rfl dX7_opens_33 ?_
  refine z_gI zf_RX7_158 dX7_opens_34 (fun x3 => ?_)
  refine z_iconst (v := 1) (by decide) dX7_opens_37 ?_
  refine z_iadd dX7_opens_38 ?_
  refine z_pI zf_RX7_158 zq_7_23 rfl dX7_opens_39 (fun h4 => ?_)
  exact z_vret rfl dX7_opens_42
def fX7_opens (a0 : Nat) (h : AH) : RR :=
  zcv (zob h a0 7) (fX7_here a0 h) fun v1 h2 =>
  zvi v1 fun x3 =>
  if x3 = 40 then (
    (zgI h2 a0 7 23).bind fun x4 =>
    if x4 = 4 then (
      (zgI h2 a0 7 4).bind fun x5 =>
      zcv (zob h2 a0 7) (fX7_wrong a0 4 x5 h2) fun v6 h7 =>
      zvn v6 <|
      fX7_opens_26 a0 h7)
    else
    fX7_opens_26 a0 h2)
  else
  fX7_opens_26 a0 h2
set_option maxRecDepth 20000 in
theorem mX7_opens {V : VT} (hV : V.2.2.2.2.2.stackTraces = false) (d : Nat) (a0 : Nat) (h : AH) : zM V yX7_opens cX7_opens 1 none (d + 4) [.ref a0] h (fX7_opens a0 h) := by
  refine z_meth hV (by decide +kernel) (Nat.le_of_ble_eq_true rfl) [(0, .ref a0)] rfl (fun X => ?_)
  show zG X V RX7 "opens" cX7_opens 1 none (d + 4) h.1 h.2.1 (fX7_opens a0 h) 0 [(0, .ref a0)] [] h
  unfold fX7_opens
  refine z_aload_n 0 rfl rfl dX7_opens_0 ?_
  refine z_cV (st := []) [] zk_RX7_128 rfl (Nat.le_of_ble_eq_true rfl) dX7_opens_1 (mX7_here hV (d + 1) a0 h) (fun v1 h2 => ?_)
  refine z_vi (fun x3 => ?_)
  refine z_bipush (v := 40) (by decide) dX7_opens_4 ?_
  refine z_icmp_ne 26 (by decide) dX7_opens_6 ?_ ?_
  · refine z_aload_n 0 rfl rfl dX7_opens_9 ?_
    refine z_gI zf_RX7_158 dX7_opens_10 (fun x4 => ?_)
    refine z_iconst (v := 4) (by decide) dX7_opens_13 ?_
    refine z_icmp_ne 26 (by decide) dX7_opens_14 ?_ ?_
    · refine z_aload_n 0 rfl rfl dX7_opens_17 ?_
      refine z_iconst (v := 4) (by decide) dX7_opens_18 ?_
      refine z_aload_n 0 rfl rfl dX7_opens_19 ?_
      refine z_gI zf_RX7_111 dX7_opens_20 (fun x5 => ?_)
      refine z_cV (st := []) [.int 4, .int x5] zk_RX7_143 rfl (Nat.le_of_ble_eq_true rfl) dX7_opens_23 (mX7_wrong hV (d + 2) a0 4 x5 h2) (fun v6 h7 => ?_)
      refine z_vn ?_
      exact z_sub [0] rfl (rX7_opens_26 hV a0 h7)
    · exact z_sub [0] rfl (rX7_opens_26 hV a0 h2)
  · exact z_sub [0] rfl (rX7_opens_26 hV a0 h2)
def fX7_closes (a0 : Nat) (h : AH) : RR :=
  zcv (zob h a0 7) (fX7_must a0 41 h) fun v1 h2 =>
  zvn v1 <|
  (zgI h2 a0 7 23).bind fun x3 =>
  (zpf h2 a0 7 23 (.int (x3 - 1))).bind fun h4 =>
  some (.inl none, h4)
set_option maxRecDepth 20000 in
theorem mX7_closes {V : VT} (hV : V.2.2.2.2.2.stackTraces = false) (d : Nat) (a0 : Nat) (h : AH) : zM V yX7_closes cX7_closes 1 none (d + 4) [.ref a0] h (fX7_closes a0 h) := by
  refine z_meth hV (by decide +kernel) (Nat.le_of_ble_eq_true rfl) [(0, .ref a0)] rfl (fun X => ?_)
  show zG X V RX7 "closes" cX7_closes 1 none (d + 4) h.1 h.2.1 (fX7_closes a0 h) 0 [(0, .ref a0)] [] h
  unfold fX7_closes
  refine z_aload_n 0 rfl rfl dX7_closes_0 ?_
  refine z_bipush (v := 41) (by decide) dX7_closes_1 ?_
  refine z_cV (st := []) [.int 41] zk_RX7_161 rfl (Nat.le_of_ble_eq_true rfl) dX7_closes_3 (mX7_must hV (d + 0) a0 41 h) (fun v1 h2 => ?_)
  refine z_vn ?_
  refine z_aload_n 0 rfl rfl dX7_closes_6 ?_
  refine z_dup rfl dX7_closes_7 ?_
  refine z_gI zf_RX7_158 dX7_closes_8 (fun x3 => ?_)
  refine z_iconst (v := 1) (by decide) dX7_closes_11 ?_
  refine z_isub dX7_closes_12 ?_
  refine z_pI zf_RX7_158 zq_7_23 rfl dX7_closes_13 (fun h4 => ?_)
  exact z_vret rfl dX7_closes_16
def fX7_row_27 (K7 : Nat → Int32 → Nat → Int32 → AH → RR) (l0 : Nat) (l1 : Int32) (l2 : Nat) (l3 : Int32) (s0 : Int32) (s1 : Int32) (s2 : Nat) (h : AH) : RR :=
  (zsi h s2 s1 s0).bind fun h1 =>
  K7 l0 l1 l2 (l3 + 1) h1
set_option maxRecDepth 20000 in
theorem rX7_row_27 {X : CT} {V : VT} {d n0 k0 : Nat} (hV : V.2.2.2.2.2.stackTraces = false) (K7 : Nat → Int32 → Nat → Int32 → AH → RR) (hK7 : ∀ l0 l1 l2 l3  h, zG X V RX7 "row" cX7_row 4 (some (.array .int)) (d + 1) n0 k0 (K7 l0 l1 l2 l3 h) 7 [(0, .ref l0), (1, .int l1), (2, .ref l2), (3, .int l3)] [] h) (l0 : Nat) (l1 : Int32) (l2 : Nat) (l3 : Int32) (s0 : Int32) (s1 : Int32) (s2 : Nat) (h : AH) : zG X V RX7 "row" cX7_row 4 (some (.array .int)) (d + 1) n0 k0 (fX7_row_27 K7 l0 l1 l2 l3 s0 s1 s2 h) 27 [(0, .ref l0), (1, .int l1), (2, .ref l2), (3, .int l3)] [.int s0, .int s1, .ref s2] h := by
  unfold fX7_row_27
  refine z_sI dX7_row_27 (fun h1 => ?_)
  refine z_inc (w := 1) (lv' := [(3, .int (l3 + 1)), (0, .ref l0), (1, .int l1), (2, .ref l2)]) 3 rfl (by decide) (by decide) rfl dX7_row_28 ?_
  refine z_goto 7 (by decide) dX7_row_31 ?_
  exact z_sub [1, 2, 3, 0] rfl (hK7 l0 l1 l2 (l3 + 1) h1)
def fX7_row_7 : Nat → Nat → Int32 → Nat → Int32 → AH → RR
  | 0, _, _, _, _, _ => none
  | k + 1, l0, l1, l2, l3, h =>
  (zgI h l0 7 15).bind fun x1 =>
  if x1 ≤ l3 then (
    some (.inl (some (.ref l2)), h))
  else
  if l1 = (-1) then (
    fX7_row_27 (fun p0 p1 p2 p3 h => fX7_row_7 k p0 p1 p2 p3 h) l0 l1 l2 l3 l3 l3 l2 h)
  else
  fX7_row_27 (fun p0 p1 p2 p3 h => fX7_row_7 k p0 p1 p2 p3 h) l0 l1 l2 l3 l1 l3 l2 h
set_option maxRecDepth 20000 in
theorem rX7_row_7 {X : CT} {V : VT} {d n0 k0 : Nat} (hV : V.2.2.2.2.2.stackTraces = false) (fu : Nat) : ∀ (l0 : Nat) (l1 : Int32) (l2 : Nat) (l3 : Int32) (h : AH), zG X V RX7 "row" cX7_row 4 (some (.array .int)) (d + 1) n0 k0 (fX7_row_7 fu l0 l1 l2 l3 h) 7 [(0, .ref l0), (1, .int l1), (2, .ref l2), (3, .int l3)] [] h := by
  induction fu with
  | zero => intros; exact z_none
  | succ k ih =>
    intro l0 l1 l2 l3 h
    rw [fX7_row_7]
    refine z_iload_n 3 rfl rfl dX7_row_7 ?_
    refine z_aload_n 0 rfl rfl dX7_row_8 ?_
    refine z_gI zf_RX7_92 dX7_row_9 (fun x1 => ?_)
    refine z_icmp_ge 34 (by decide) dX7_row_12 ?_ ?_
    · refine z_aload_n 2 rfl rfl dX7_row_34 ?_
      exact z_aret rfl (Or.inr ⟨_, rfl⟩) dX7_row_35
    · refine z_aload_n 2 rfl rfl dX7_row_15 ?_
      refine z_iload_n 3 rfl rfl dX7_row_16 ?_
      refine z_iload_n 1 rfl rfl dX7_row_17 ?_
      refine z_iconst (v := (-1)) (by decide) dX7_row_18 ?_
      refine z_icmp_ne 26 (by decide) dX7_row_19 ?_ ?_
      · refine z_iload_n 3 rfl rfl dX7_row_22 ?_
        refine z_goto 27 (by decide) dX7_row_23 ?_
        exact z_sub [0, 1, 2, 3] rfl (rX7_row_27 hV (fun p0 p1 p2 p3 h => fX7_row_7 k p0 p1 p2 p3 h) ih l0 l1 l2 l3 l3 l3 l2 h)
      · refine z_iload_n 1 rfl rfl dX7_row_26 ?_
        exact z_sub [0, 1, 2, 3] rfl (rX7_row_27 hV (fun p0 p1 p2 p3 h => fX7_row_7 k p0 p1 p2 p3 h) ih l0 l1 l2 l3 l1 l3 l2 h)
def fX7_row (a0 : Nat) (a1 : Int32) (h : AH) : RR :=
  zb2 (znI h 64) fun b1 h2 =>
  fX7_row_7 FU a0 a1 b1 0 h2
set_option maxRecDepth 20000 in
theorem mX7_row {V : VT} (hV : V.2.2.2.2.2.stackTraces = false) (d : Nat) (a0 : Nat) (a1 : Int32) (h : AH) : zM V yX7_row cX7_row 4 (some (.array .int)) (d + 1) [.ref a0, .int a1] h (fX7_row a0 a1 h) := by
  refine z_meth hV (by decide +kernel) (Nat.le_of_ble_eq_true rfl) [(0, .ref a0), (1, .int a1)] rfl (fun X => ?_)
  show zG X V RX7 "row" cX7_row 4 (some (.array .int)) (d + 1) h.1 h.2.1 (fX7_row a0 a1 h) 0 [(0, .ref a0), (1, .int a1)] [] h
  unfold fX7_row
  refine z_bipush (v := 64) (by decide) dX7_row_0 ?_
  refine z_nI zw_173 dX7_row_2 (fun b1 h2 => ?_)
  refine z_astore_n (lv' := [(2, .ref b1), (0, .ref a0), (1, .int a1)]) rfl (by decide) rfl dX7_row_4 ?_
  refine z_iconst (v := 0) (by decide) dX7_row_5 ?_
  refine z_istore_n (lv' := [(3, .int 0), (2, .ref b1), (0, .ref a0), (1, .int a1)]) rfl (by decide) rfl dX7_row_6 ?_
  exact z_sub [2, 3, 1, 0] rfl (rX7_row_7 hV FU a0 a1 b1 0 h2)
def fX7_part_201 (S : Nat → AH → RR) : Nat → Nat → Nat → Int32 → Int32 → Int32 → AH → RR
  | 0, _, _, _, _, _, _ => none
  | k + 1, l0, l1, l2, l3, l4, h =>
  (zgI h l0 7 15).bind fun x1 =>
  if x1 ≤ l4 then (
    some (.inl (some (.ref l1)), h))
  else
  zcv (zob h l0 7) (fX7_fine l0 h) fun v2 h3 =>
  zvi v2 fun x4 =>
  if x4 = 0 then (
    some (.inl (some (.ref l1)), h3))
  else
  zcv (zob h3 l0 7) (fX7_dickson l0 l2 l3 l4 h3) fun v5 h6 =>
  zvi v5 fun x7 =>
  (zsi h6 l1 l4 x7).bind fun h8 =>
  fX7_part_201 S k l0 l1 l2 l3 (l4 + 1) h8
set_option maxRecDepth 20000 in
theorem rX7_part_201 {X : CT} {V : VT} {d n0 k0 : Nat} (hV : V.2.2.2.2.2.stackTraces = false) (S : Nat → AH → RR) (hS : ∀ (e : Nat) (u0 : Nat) (h : AH), zM V yX7_sum cX7_sum 5 (some (.array .int)) (d + e + 13) [.ref u0] h (S u0 h)) (fu : Nat) : ∀ (l0 : Nat) (l1 : Nat) (l2 : Int32) (l3 : Int32) (l4 : Int32) (h : AH), zG X V RX7 "part" cX7_part 5 (some (.array .int)) (d + 14) n0 k0 (fX7_part_201 S fu l0 l1 l2 l3 l4 h) 201 [(0, .ref l0), (1, .ref l1), (2, .int l2), (3, .int l3), (4, .int l4)] [] h := by
  induction fu with
  | zero => intros; exact z_none
  | succ k ih =>
    intro l0 l1 l2 l3 l4 h
    rw [fX7_part_201]
    refine z_iload 4 rfl dX7_part_201 ?_
    refine z_aload_n 0 rfl rfl dX7_part_203 ?_
    refine z_gI zf_RX7_92 dX7_part_204 (fun x1 => ?_)
    refine z_icmp_ge 235 (by decide) dX7_part_207 ?_ ?_
    · refine z_goto 247 (by decide) dX7_part_235 ?_
      refine z_aload_n 1 rfl rfl dX7_part_247 ?_
      exact z_aret rfl (Or.inr ⟨_, rfl⟩) dX7_part_248
    · refine z_aload_n 0 rfl rfl dX7_part_210 ?_
      refine z_cV (st := []) [] zk_RX7_124 rfl (Nat.le_of_ble_eq_true rfl) dX7_part_211 (mX7_fine hV (d + 12) l0 h) (fun v2 h3 => ?_)
      refine z_vi (fun x4 => ?_)
      refine z_if_eq 235 (by decide) dX7_part_214 ?_ ?_
      · refine z_goto 247 (by decide) dX7_part_235 ?_
        refine z_aload_n 1 rfl rfl dX7_part_247 ?_
        exact z_aret rfl (Or.inr ⟨_, rfl⟩) dX7_part_248
      · refine z_aload_n 1 rfl rfl dX7_part_217 ?_
        refine z_iload 4 rfl dX7_part_218 ?_
        refine z_aload_n 0 rfl rfl dX7_part_220 ?_
        refine z_iload_n 2 rfl rfl dX7_part_221 ?_
        refine z_iload_n 3 rfl rfl dX7_part_222 ?_
        refine z_iload 4 rfl dX7_part_223 ?_
        refine z_cV (st := [.int l4, .ref l1]) [.int l2, .int l3, .int l4] zk_RX7_192 rfl (Nat.le_of_ble_eq_true rfl) dX7_part_225 (mX7_dickson hV (d + 11) l0 l2 l3 l4 h3) (fun v5 h6 => ?_)
        refine z_vi (fun x7 => ?_)
        refine z_sI dX7_part_228 (fun h8 => ?_)
        refine z_inc (w := 1) (lv' := [(4, .int (l4 + 1)), (0, .ref l0), (1, .ref l1), (2, .int l2), (3, .int l3)]) 4 rfl (by decide) (by decide) rfl dX7_part_229 ?_
        refine z_goto 201 (by decide) dX7_part_232 ?_
        exact z_sub [1, 2, 3, 4, 0] rfl (ih l0 l1 l2 l3 (l4 + 1) h8)
def fX7_part_123 (S : Nat → AH → RR) : Nat → Nat → Nat → Int32 → Nat → Int32 → AH → RR
  | 0, _, _, _, _, _, _ => none
  | k + 1, l0, l1, l2, l3, l4, h =>
  (zgI h l0 7 15).bind fun x1 =>
  if x1 ≤ l4 then (
    some (.inl (some (.ref l1)), h))
  else
  zcv (zob h l0 7) (fX7_fine l0 h) fun v2 h3 =>
  zvi v2 fun x4 =>
  if x4 = 0 then (
    some (.inl (some (.ref l1)), h3))
  else
  (zgR h3 l0 7 10).bind fun x5 =>
  (zai h3 l3 l4).bind fun x6 =>
  (zai h3 x5 (((3 : Int32) + ((64 : Int32) * l2)) + x6)).bind fun x7 =>
  (zsi h3 l1 l4 x7).bind fun h8 =>
  fX7_part_123 S k l0 l1 l2 l3 (l4 + 1) h8
set_option maxRecDepth 20000 in
theorem rX7_part_123 {X : CT} {V : VT} {d n0 k0 : Nat} (hV : V.2.2.2.2.2.stackTraces = false) (S : Nat → AH → RR) (hS : ∀ (e : Nat) (u0 : Nat) (h : AH), zM V yX7_sum cX7_sum 5 (some (.array .int)) (d + e + 13) [.ref u0] h (S u0 h)) (fu : Nat) : ∀ (l0 : Nat) (l1 : Nat) (l2 : Int32) (l3 : Nat) (l4 : Int32) (h : AH), zG X V RX7 "part" cX7_part 5 (some (.array .int)) (d + 14) n0 k0 (fX7_part_123 S fu l0 l1 l2 l3 l4 h) 123 [(0, .ref l0), (1, .ref l1), (2, .int l2), (3, .ref l3), (4, .int l4)] [] h := by
  induction fu with
  | zero => intros; exact z_none
  | succ k ih =>
    intro l0 l1 l2 l3 l4 h
    rw [fX7_part_123]
    refine z_iload 4 rfl dX7_part_123 ?_
    refine z_aload_n 0 rfl rfl dX7_part_125 ?_
    refine z_gI zf_RX7_92 dX7_part_126 (fun x1 => ?_)
    refine z_icmp_ge 165 (by decide) dX7_part_129 ?_ ?_
    · refine z_goto 247 (by decide) dX7_part_165 ?_
      refine z_aload_n 1 rfl rfl dX7_part_247 ?_
      exact z_aret rfl (Or.inr ⟨_, rfl⟩) dX7_part_248
    · refine z_aload_n 0 rfl rfl dX7_part_132 ?_
      refine z_cV (st := []) [] zk_RX7_124 rfl (Nat.le_of_ble_eq_true rfl) dX7_part_133 (mX7_fine hV (d + 12) l0 h) (fun v2 h3 => ?_)
      refine z_vi (fun x4 => ?_)
      refine z_if_eq 165 (by decide) dX7_part_136 ?_ ?_
      · refine z_goto 247 (by decide) dX7_part_165 ?_
        refine z_aload_n 1 rfl rfl dX7_part_247 ?_
        exact z_aret rfl (Or.inr ⟨_, rfl⟩) dX7_part_248
      · refine z_aload_n 1 rfl rfl dX7_part_139 ?_
        refine z_iload 4 rfl dX7_part_140 ?_
        refine z_aload_n 0 rfl rfl dX7_part_142 ?_
        refine z_gR zf_RX7_23 dX7_part_143 (fun x5 => ?_)
        refine z_iconst (v := 3) (by decide) dX7_part_146 ?_
        refine z_bipush (v := 64) (by decide) dX7_part_147 ?_
        refine z_iload_n 2 rfl rfl dX7_part_149 ?_
        refine z_imul dX7_part_150 ?_
        refine z_iadd dX7_part_151 ?_
        refine z_aload_n 3 rfl rfl dX7_part_152 ?_
        refine z_iload 4 rfl dX7_part_153 ?_
        refine z_aI dX7_part_155 (fun x6 => ?_)
        refine z_iadd dX7_part_156 ?_
        refine z_aI dX7_part_157 (fun x7 => ?_)
        refine z_sI dX7_part_158 (fun h8 => ?_)
        refine z_inc (w := 1) (lv' := [(4, .int (l4 + 1)), (0, .ref l0), (1, .ref l1), (2, .int l2), (3, .ref l3)]) 4 rfl (by decide) (by decide) rfl dX7_part_159 ?_
        refine z_goto 123 (by decide) dX7_part_162 ?_
        exact z_sub [1, 2, 3, 4, 0] rfl (ih l0 l1 l2 l3 (l4 + 1) h8)
def fX7_part (S : Nat → AH → RR) (a0 : Nat) (h : AH) : RR :=
  zcv (zob h a0 7) (fX7_fine a0 h) fun v1 h2 =>
  zvi v1 fun x3 =>
  if x3 = 0 then (
    zcv (zob h2 a0 7) (fX7_row a0 0 h2) fun v4 h5 =>
    zvr v4 fun x6 =>
    some (.inl (some (.ref x6)), h5))
  else
  zcv (zob h2 a0 7) (fX7_here a0 h2) fun v7 h8 =>
  zvi v7 fun x9 =>
  zca (fX7_isDigit x9 h8) fun v10 h11 =>
  zvi v10 fun x12 =>
  if x12 = 0 then (
    zcv (zob h11 a0 7) (fX7_takes a0 (UInt32.ofNat 0) h11) fun v13 h14 =>
    zvi v13 fun x15 =>
    if x15 = 0 then (
      zcv (zob h14 a0 7) (fX7_here a0 h14) fun v16 h17 =>
      zvi v16 fun x18 =>
      if x18 = 40 then (
        zcv (zob h17 a0 7) (fX7_opens a0 h17) fun v19 h20 =>
        zvn v19 <|
        zcv (zob h20 a0 7) (S a0 h20) fun v21 h22 =>
        zvr v21 fun x23 =>
        zcv (zob h22 a0 7) (fX7_closes a0 h22) fun v24 h25 =>
        zvn v24 <|
        some (.inl (some (.ref x23)), h25))
      else
      zcv (zob h17 a0 7) (fX7_row a0 0 h17) fun v26 h27 =>
      zvr v26 fun x28 =>
      zcv (zob h27 a0 7) (fX7_takes a0 (UInt32.ofNat 1) h27) fun v29 h30 =>
      zvi v29 fun x31 =>
      if x31 = 0 then (
        zcv (zob h30 a0 7) (fX7_takes a0 (UInt32.ofNat 4) h30) fun v32 h33 =>
        zvi v32 fun x34 =>
        if x34 = 0 then (
          (zgI h33 a0 7 4).bind fun x35 =>
          zcv (zob h33 a0 7) (fX7_wrong a0 1 x35 h33) fun v36 h37 =>
          zvn v36 <|
          some (.inl (some (.ref x28)), h37))
        else
        zcv (zob h33 a0 7) (fX7_number a0 0 9999 h33) fun v38 h39 =>
        zvi v38 fun x40 =>
        (zgI h39 a0 7 15).bind fun x41 =>
        zcv (zob h39 a0 7) (fX7_number a0 0 (x41 - 1) h39) fun v42 h43 =>
        zvi v42 fun x44 =>
        fX7_part_201 S FU a0 x28 x40 x44 0 h43)
      else
      (zgR h30 a0 7 10).bind fun x45 =>
      (zai h30 x45 2).bind fun x46 =>
      zcv (zob h30 a0 7) (fX7_number a0 0 (x46 - 1) h30) fun v47 h48 =>
      zvi v47 fun x49 =>
      zcv (zob h48 a0 7) (fX7_opens a0 h48) fun v50 h51 =>
      zvn v50 <|
      zcv (zob h51 a0 7) (S a0 h51) fun v52 h53 =>
      zvr v52 fun x54 =>
      zcv (zob h53 a0 7) (fX7_closes a0 h53) fun v55 h56 =>
      zvn v55 <|
      fX7_part_123 S FU a0 x28 x49 x54 0 h56)
    else
    zcv (zob h14 a0 7) (fX7_row a0 (-1) h14) fun v57 h58 =>
    zvr v57 fun x59 =>
    some (.inl (some (.ref x59)), h58))
  else
  (zgI h11 a0 7 15).bind fun x60 =>
  zcv (zob h11 a0 7) (fX7_number a0 0 (x60 - 1) h11) fun v61 h62 =>
  zvi v61 fun x63 =>
  zcv (zob h62 a0 7) (fX7_row a0 x63 h62) fun v64 h65 =>
  zvr v64 fun x66 =>
  some (.inl (some (.ref x66)), h65)
set_option maxRecDepth 20000 in
theorem mX7_part {V : VT} (hV : V.2.2.2.2.2.stackTraces = false) (d : Nat) (S : Nat → AH → RR) (hS : ∀ (e : Nat) (u0 : Nat) (h : AH), zM V yX7_sum cX7_sum 5 (some (.array .int)) (d + e + 13) [.ref u0] h (S u0 h)) (a0 : Nat) (h : AH) : zM V yX7_part cX7_part 5 (some (.array .int)) (d + 14) [.ref a0] h (fX7_part S a0 h) := by
  refine z_meth hV (by decide +kernel) (Nat.le_of_ble_eq_true rfl) [(0, .ref a0)] rfl (fun X => ?_)
  show zG X V RX7 "part" cX7_part 5 (some (.array .int)) (d + 14) h.1 h.2.1 (fX7_part S a0 h) 0 [(0, .ref a0)] [] h
  unfold fX7_part
  refine z_aload_n 0 rfl rfl dX7_part_0 ?_
  refine z_cV (st := []) [] zk_RX7_124 rfl (Nat.le_of_ble_eq_true rfl) dX7_part_1 (mX7_fine hV (d + 12) a0 h) (fun v1 h2 => ?_)
  refine z_vi (fun x3 => ?_)
  refine z_if_ne 13 (by decide) dX7_part_4 ?_ ?_
  · refine z_aload_n 0 rfl rfl dX7_part_7 ?_
    refine z_iconst (v := 0) (by decide) dX7_part_8 ?_
    refine z_cV (st := []) [.int 0] zk_RX7_165 rfl (Nat.le_of_ble_eq_true rfl) dX7_part_9 (mX7_row hV (d + 12) a0 0 h2) (fun v4 h5 => ?_)
    refine z_vr (fun x6 => ?_)
    exact z_aret rfl (Or.inr ⟨_, rfl⟩) dX7_part_12
  · refine z_aload_n 0 rfl rfl dX7_part_13 ?_
    refine z_cV (st := []) [] zk_RX7_128 rfl (Nat.le_of_ble_eq_true rfl) dX7_part_14 (mX7_here hV (d + 11) a0 h2) (fun v7 h8 => ?_)
    refine z_vi (fun x9 => ?_)
    refine z_cS (st := []) [.int x9] zk_RX7_147 rfl (Nat.le_of_ble_eq_true rfl) dX7_part_17 (mX7_isDigit hV (d + 12) x9 h8) (fun v10 h11 => ?_)
    refine z_vi (fun x12 => ?_)
    refine z_if_eq 39 (by decide) dX7_part_20 ?_ ?_
    · refine z_aload_n 0 rfl rfl dX7_part_39 ?_
      refine z_ldcs 0 (by decide) zs_RX7_172 dX7_part_40 ?_
      refine z_cV (st := []) [.float (UInt32.ofNat 0)] zk_RX7_174 rfl (Nat.le_of_ble_eq_true rfl) dX7_part_42 (mX7_takes hV (d + 1) a0 (UInt32.ofNat 0) h11) (fun v13 h14 => ?_)
      refine z_vi (fun x15 => ?_)
      refine z_if_eq 54 (by decide) dX7_part_45 ?_ ?_
      · refine z_aload_n 0 rfl rfl dX7_part_54 ?_
        refine z_cV (st := []) [] zk_RX7_128 rfl (Nat.le_of_ble_eq_true rfl) dX7_part_55 (mX7_here hV (d + 11) a0 h14) (fun v16 h17 => ?_)
        refine z_vi (fun x18 => ?_)
        refine z_bipush (v := 40) (by decide) dX7_part_58 ?_
        refine z_icmp_ne 78 (by decide) dX7_part_60 ?_ ?_
        · refine z_aload_n 0 rfl rfl dX7_part_63 ?_
          refine z_cV (st := []) [] zk_RX7_178 rfl (Nat.le_of_ble_eq_true rfl) dX7_part_64 (mX7_opens hV (d + 9) a0 h17) (fun v19 h20 => ?_)
          refine z_vn ?_
          refine z_aload_n 0 rfl rfl dX7_part_67 ?_
          refine z_cV (st := []) [] zk_RX7_181 rfl (Nat.le_of_ble_eq_true rfl) dX7_part_68 (hS 0 a0 h20) (fun v21 h22 => ?_)
          refine z_vr (fun x23 => ?_)
          refine z_astore_n (lv' := [(1, .ref x23), (0, .ref a0)]) rfl (by decide) rfl dX7_part_71 ?_
          refine z_aload_n 1 rfl rfl dX7_part_72 ?_
          refine z_cV (st := []) [] zk_RX7_185 rfl (Nat.le_of_ble_eq_true rfl) dX7_part_73 (mX7_closes hV (d + 9) a0 h22) (fun v24 h25 => ?_)
          refine z_vn ?_
          refine z_aload_n 0 rfl rfl dX7_part_76 ?_
          exact z_aret rfl (Or.inr ⟨_, rfl⟩) dX7_part_77
        · refine z_aload_n 0 rfl rfl dX7_part_78 ?_
          refine z_iconst (v := 0) (by decide) dX7_part_79 ?_
          refine z_cV (st := []) [.int 0] zk_RX7_165 rfl (Nat.le_of_ble_eq_true rfl) dX7_part_80 (mX7_row hV (d + 12) a0 0 h17) (fun v26 h27 => ?_)
          refine z_vr (fun x28 => ?_)
          refine z_astore_n (lv' := [(1, .ref x28), (0, .ref a0)]) rfl (by decide) rfl dX7_part_83 ?_
          refine z_aload_n 1 rfl rfl dX7_part_84 ?_
          refine z_ldcs 1 (by decide) zs_RX7_188 dX7_part_85 ?_
          refine z_cV (st := []) [.float (UInt32.ofNat 1)] zk_RX7_174 rfl (Nat.le_of_ble_eq_true rfl) dX7_part_87 (mX7_takes hV (d + 1) a0 (UInt32.ofNat 1) h27) (fun v29 h30 => ?_)
          refine z_vi (fun x31 => ?_)
          refine z_if_eq 168 (by decide) dX7_part_90 ?_ ?_
          · refine z_aload_n 1 rfl rfl dX7_part_168 ?_
            refine z_ldcs 4 (by decide) zs_RX7_190 dX7_part_169 ?_
            refine z_cV (st := []) [.float (UInt32.ofNat 4)] zk_RX7_174 rfl (Nat.le_of_ble_eq_true rfl) dX7_part_171 (mX7_takes hV (d + 1) a0 (UInt32.ofNat 4) h30) (fun v32 h33 => ?_)
            refine z_vi (fun x34 => ?_)
            refine z_if_eq 238 (by decide) dX7_part_174 ?_ ?_
            · refine z_aload_n 1 rfl rfl dX7_part_238 ?_
              refine z_iconst (v := 1) (by decide) dX7_part_239 ?_
              refine z_aload_n 1 rfl rfl dX7_part_240 ?_
              refine z_gI zf_RX7_111 dX7_part_241 (fun x35 => ?_)
              refine z_cV (st := []) [.int 1, .int x35] zk_RX7_143 rfl (Nat.le_of_ble_eq_true rfl) dX7_part_244 (mX7_wrong hV (d + 12) a0 1 x35 h33) (fun v36 h37 => ?_)
              refine z_vn ?_
              refine z_aload_n 0 rfl rfl dX7_part_247 ?_
              exact z_aret rfl (Or.inr ⟨_, rfl⟩) dX7_part_248
            · refine z_aload_n 1 rfl rfl dX7_part_177 ?_
              refine z_iconst (v := 0) (by decide) dX7_part_178 ?_
              refine z_sipush (v := 9999) (by decide) dX7_part_179 ?_
              refine z_cV (st := []) [.int 0, .int 9999] zk_RX7_169 rfl (Nat.le_of_ble_eq_true rfl) dX7_part_182 (mX7_number hV (d + 10) a0 0 9999 h33) (fun v38 h39 => ?_)
              refine z_vi (fun x40 => ?_)
              refine z_istore_n (lv' := [(2, .int x40), (1, .ref x28), (0, .ref a0)]) rfl (by decide) rfl dX7_part_185 ?_
              refine z_aload_n 2 rfl rfl dX7_part_186 ?_
              refine z_iconst (v := 0) (by decide) dX7_part_187 ?_
              refine z_aload_n 2 rfl rfl dX7_part_188 ?_
              refine z_gI zf_RX7_92 dX7_part_189 (fun x41 => ?_)
              refine z_iconst (v := 1) (by decide) dX7_part_192 ?_
              refine z_isub dX7_part_193 ?_
              refine z_cV (st := []) [.int 0, .int (x41 - 1)] zk_RX7_169 rfl (Nat.le_of_ble_eq_true rfl) dX7_part_194 (mX7_number hV (d + 10) a0 0 (x41 - 1) h39) (fun v42 h43 => ?_)
              refine z_vi (fun x44 => ?_)
              refine z_istore_n (lv' := [(3, .int x44), (2, .int x40), (1, .ref x28), (0, .ref a0)]) rfl (by decide) rfl dX7_part_197 ?_
              refine z_iconst (v := 0) (by decide) dX7_part_198 ?_
              refine z_istore (lv' := [(4, .int 0), (3, .int x44), (2, .int x40), (1, .ref x28), (0, .ref a0)]) (by decide) rfl dX7_part_199 ?_
              exact z_sub [4, 3, 2, 1, 0] rfl (rX7_part_201 hV S hS FU a0 x28 x40 x44 0 h43)
          · refine z_aload_n 1 rfl rfl dX7_part_93 ?_
            refine z_iconst (v := 0) (by decide) dX7_part_94 ?_
            refine z_aload_n 1 rfl rfl dX7_part_95 ?_
            refine z_gR zf_RX7_23 dX7_part_96 (fun x45 => ?_)
            refine z_iconst (v := 2) (by decide) dX7_part_99 ?_
            refine z_aI dX7_part_100 (fun x46 => ?_)
            refine z_iconst (v := 1) (by decide) dX7_part_101 ?_
            refine z_isub dX7_part_102 ?_
            refine z_cV (st := []) [.int 0, .int (x46 - 1)] zk_RX7_169 rfl (Nat.le_of_ble_eq_true rfl) dX7_part_103 (mX7_number hV (d + 10) a0 0 (x46 - 1) h30) (fun v47 h48 => ?_)
            refine z_vi (fun x49 => ?_)
            refine z_istore_n (lv' := [(2, .int x49), (1, .ref x28), (0, .ref a0)]) rfl (by decide) rfl dX7_part_106 ?_
            refine z_aload_n 2 rfl rfl dX7_part_107 ?_
            refine z_cV (st := []) [] zk_RX7_178 rfl (Nat.le_of_ble_eq_true rfl) dX7_part_108 (mX7_opens hV (d + 9) a0 h48) (fun v50 h51 => ?_)
            refine z_vn ?_
            refine z_aload_n 2 rfl rfl dX7_part_111 ?_
            refine z_cV (st := []) [] zk_RX7_181 rfl (Nat.le_of_ble_eq_true rfl) dX7_part_112 (hS 0 a0 h51) (fun v52 h53 => ?_)
            refine z_vr (fun x54 => ?_)
            refine z_astore_n (lv' := [(3, .ref x54), (2, .int x49), (1, .ref x28), (0, .ref a0)]) rfl (by decide) rfl dX7_part_115 ?_
            refine z_aload_n 3 rfl rfl dX7_part_116 ?_
            refine z_cV (st := []) [] zk_RX7_185 rfl (Nat.le_of_ble_eq_true rfl) dX7_part_117 (mX7_closes hV (d + 9) a0 h53) (fun v55 h56 => ?_)
            refine z_vn ?_
            refine z_iconst (v := 0) (by decide) dX7_part_120 ?_
            refine z_istore (lv' := [(4, .int 0), (3, .ref x54), (2, .int x49), (1, .ref x28), (0, .ref a0)]) (by decide) rfl dX7_part_121 ?_
            exact z_sub [4, 3, 2, 1, 0] rfl (rX7_part_123 hV S hS FU a0 x28 x49 x54 0 h56)
      · refine z_aload_n 0 rfl rfl dX7_part_48 ?_
        refine z_iconst (v := (-1)) (by decide) dX7_part_49 ?_
        refine z_cV (st := []) [.int (-1)] zk_RX7_165 rfl (Nat.le_of_ble_eq_true rfl) dX7_part_50 (mX7_row hV (d + 12) a0 (-1) h14) (fun v57 h58 => ?_)
        refine z_vr (fun x59 => ?_)
        exact z_aret rfl (Or.inr ⟨_, rfl⟩) dX7_part_53
    · refine z_aload_n 0 rfl rfl dX7_part_23 ?_
      refine z_aload_n 0 rfl rfl dX7_part_24 ?_
      refine z_iconst (v := 0) (by decide) dX7_part_25 ?_
      refine z_aload_n 0 rfl rfl dX7_part_26 ?_
      refine z_gI zf_RX7_92 dX7_part_27 (fun x60 => ?_)
      refine z_iconst (v := 1) (by decide) dX7_part_30 ?_
      refine z_isub dX7_part_31 ?_
      refine z_cV (st := [.ref a0]) [.int 0, .int (x60 - 1)] zk_RX7_169 rfl (Nat.le_of_ble_eq_true rfl) dX7_part_32 (mX7_number hV (d + 10) a0 0 (x60 - 1) h11) (fun v61 h62 => ?_)
      refine z_vi (fun x63 => ?_)
      refine z_cV (st := []) [.int x63] zk_RX7_165 rfl (Nat.le_of_ble_eq_true rfl) dX7_part_35 (mX7_row hV (d + 12) a0 x63 h62) (fun v64 h65 => ?_)
      refine z_vr (fun x66 => ?_)
      exact z_aret rfl (Or.inr ⟨_, rfl⟩) dX7_part_38
def fX7_unit_44 (S : Nat → AH → RR) : Nat → Nat → Nat → Int32 → Int32 → AH → RR
  | 0, _, _, _, _, _ => none
  | k + 1, l0, l1, l2, l3, h =>
  (zgI h l0 7 15).bind fun x1 =>
  if x1 ≤ l3 then (
    some (.inl (some (.ref l1)), h))
  else
  (zai h l1 l3).bind fun x2 =>
  zcv (zob h l0 7) (fX7_raisedPoint l0 x2 l2 h) fun v3 h4 =>
  zvi v3 fun x5 =>
  (zsi h4 l1 l3 x5).bind fun h6 =>
  fX7_unit_44 S k l0 l1 l2 (l3 + 1) h6
set_option maxRecDepth 20000 in
theorem rX7_unit_44 {X : CT} {V : VT} {d n0 k0 : Nat} (hV : V.2.2.2.2.2.stackTraces = false) (S : Nat → AH → RR) (hS : ∀ (e : Nat) (u0 : Nat) (h : AH), zM V yX7_sum cX7_sum 5 (some (.array .int)) (d + e + 13) [.ref u0] h (S u0 h)) (fu : Nat) : ∀ (l0 : Nat) (l1 : Nat) (l2 : Int32) (l3 : Int32) (h : AH), zG X V RX7 "unit" cX7_unit 4 (some (.array .int)) (d + 15) n0 k0 (fX7_unit_44 S fu l0 l1 l2 l3 h) 44 [(0, .ref l0), (1, .ref l1), (2, .int l2), (3, .int l3)] [] h := by
  induction fu with
  | zero => intros; exact z_none
  | succ k ih =>
    intro l0 l1 l2 l3 h
    rw [fX7_unit_44]
    refine z_iload_n 3 rfl rfl dX7_unit_44 ?_
    refine z_aload_n 0 rfl rfl dX7_unit_45 ?_
    refine z_gI zf_RX7_92 dX7_unit_46 (fun x1 => ?_)
    refine z_icmp_ge 69 (by decide) dX7_unit_49 ?_ ?_
    · refine z_aload_n 1 rfl rfl dX7_unit_69 ?_
      exact z_aret rfl (Or.inr ⟨_, rfl⟩) dX7_unit_70
    · refine z_aload_n 1 rfl rfl dX7_unit_52 ?_
      refine z_iload_n 3 rfl rfl dX7_unit_53 ?_
      refine z_aload_n 0 rfl rfl dX7_unit_54 ?_
      refine z_aload_n 1 rfl rfl dX7_unit_55 ?_
      refine z_iload_n 3 rfl rfl dX7_unit_56 ?_
      refine z_aI dX7_unit_57 (fun x2 => ?_)
      refine z_iload_n 2 rfl rfl dX7_unit_58 ?_
      refine z_cV (st := [.int l3, .ref l1]) [.int x2, .int l2] zk_RX7_197 rfl (Nat.le_of_ble_eq_true rfl) dX7_unit_59 (mX7_raisedPoint hV (d + 13) l0 x2 l2 h) (fun v3 h4 => ?_)
      refine z_vi (fun x5 => ?_)
      refine z_sI dX7_unit_62 (fun h6 => ?_)
      refine z_inc (w := 1) (lv' := [(3, .int (l3 + 1)), (0, .ref l0), (1, .ref l1), (2, .int l2)]) 3 rfl (by decide) (by decide) rfl dX7_unit_63 ?_
      refine z_goto 44 (by decide) dX7_unit_66 ?_
      exact z_sub [1, 2, 3, 0] rfl (ih l0 l1 l2 (l3 + 1) h6)
def fX7_unit (S : Nat → AH → RR) (a0 : Nat) (h : AH) : RR :=
  zcv (zob h a0 7) (fX7_part S a0 h) fun v1 h2 =>
  zvr v1 fun x3 =>
  zcv (zob h2 a0 7) (fX7_fine a0 h2) fun v4 h5 =>
  zvi v4 fun x6 =>
  if x6 = 0 then (
    some (.inl (some (.ref x3)), h5))
  else
  zcv (zob h5 a0 7) (fX7_here a0 h5) fun v7 h8 =>
  zvi v7 fun x9 =>
  if x9 = 94 then (
    (zgI h8 a0 7 4).bind fun x10 =>
    (zpf h8 a0 7 4 (.int (x10 + 1))).bind fun h11 =>
    zcv (zob h11 a0 7) (fX7_number a0 0 9999 h11) fun v12 h13 =>
    zvi v12 fun x14 =>
    fX7_unit_44 S FU a0 x3 x14 0 h13)
  else
  some (.inl (some (.ref x3)), h8)
set_option maxRecDepth 20000 in
theorem mX7_unit {V : VT} (hV : V.2.2.2.2.2.stackTraces = false) (d : Nat) (S : Nat → AH → RR) (hS : ∀ (e : Nat) (u0 : Nat) (h : AH), zM V yX7_sum cX7_sum 5 (some (.array .int)) (d + e + 13) [.ref u0] h (S u0 h)) (a0 : Nat) (h : AH) : zM V yX7_unit cX7_unit 4 (some (.array .int)) (d + 15) [.ref a0] h (fX7_unit S a0 h) := by
  refine z_meth hV (by decide +kernel) (Nat.le_of_ble_eq_true rfl) [(0, .ref a0)] rfl (fun X => ?_)
  show zG X V RX7 "unit" cX7_unit 4 (some (.array .int)) (d + 15) h.1 h.2.1 (fX7_unit S a0 h) 0 [(0, .ref a0)] [] h
  unfold fX7_unit
  refine z_aload_n 0 rfl rfl dX7_unit_0 ?_
  refine z_cV (st := []) [] zk_RX7_194 rfl (Nat.le_of_ble_eq_true rfl) dX7_unit_1 (mX7_part hV (d + 0) S (fun e u0 h => by rw [Nat.add_assoc d 0 e]; exact hS (0 + e) u0 h) a0 h) (fun v1 h2 => ?_)
  refine z_vr (fun x3 => ?_)
  refine z_astore_n (lv' := [(1, .ref x3), (0, .ref a0)]) rfl (by decide) rfl dX7_unit_4 ?_
  refine z_aload_n 1 rfl rfl dX7_unit_5 ?_
  refine z_cV (st := []) [] zk_RX7_124 rfl (Nat.le_of_ble_eq_true rfl) dX7_unit_6 (mX7_fine hV (d + 13) a0 h2) (fun v4 h5 => ?_)
  refine z_vi (fun x6 => ?_)
  refine z_if_eq 21 (by decide) dX7_unit_9 ?_ ?_
  · refine z_aload_n 0 rfl rfl dX7_unit_21 ?_
    exact z_aret rfl (Or.inr ⟨_, rfl⟩) dX7_unit_22
  · refine z_aload_n 1 rfl rfl dX7_unit_12 ?_
    refine z_cV (st := []) [] zk_RX7_128 rfl (Nat.le_of_ble_eq_true rfl) dX7_unit_13 (mX7_here hV (d + 12) a0 h5) (fun v7 h8 => ?_)
    refine z_vi (fun x9 => ?_)
    refine z_bipush (v := 94) (by decide) dX7_unit_16 ?_
    refine z_icmp_eq 23 (by decide) dX7_unit_18 ?_ ?_
    · refine z_aload_n 1 rfl rfl dX7_unit_23 ?_
      refine z_dup rfl dX7_unit_24 ?_
      refine z_gI zf_RX7_111 dX7_unit_25 (fun x10 => ?_)
      refine z_iconst (v := 1) (by decide) dX7_unit_28 ?_
      refine z_iadd dX7_unit_29 ?_
      refine z_pI zf_RX7_111 zq_7_4 rfl dX7_unit_30 (fun h11 => ?_)
      refine z_aload_n 1 rfl rfl dX7_unit_33 ?_
      refine z_iconst (v := 0) (by decide) dX7_unit_34 ?_
      refine z_sipush (v := 9999) (by decide) dX7_unit_35 ?_
      refine z_cV (st := []) [.int 0, .int 9999] zk_RX7_169 rfl (Nat.le_of_ble_eq_true rfl) dX7_unit_38 (mX7_number hV (d + 11) a0 0 9999 h11) (fun v12 h13 => ?_)
      refine z_vi (fun x14 => ?_)
      refine z_istore_n (lv' := [(2, .int x14), (1, .ref x3), (0, .ref a0)]) rfl (by decide) rfl dX7_unit_41 ?_
      refine z_iconst (v := 0) (by decide) dX7_unit_42 ?_
      refine z_istore_n (lv' := [(3, .int 0), (2, .int x14), (1, .ref x3), (0, .ref a0)]) rfl (by decide) rfl dX7_unit_43 ?_
      exact z_sub [3, 2, 1, 0] rfl (rX7_unit_44 hV S hS FU a0 x3 x14 0 h13)
    · refine z_aload_n 0 rfl rfl dX7_unit_21 ?_
      exact z_aret rfl (Or.inr ⟨_, rfl⟩) dX7_unit_22
def fX7_product_38 (S : Nat → AH → RR) (K5 : Nat → Nat → AH → RR) : Nat → Nat → Nat → Nat → Int32 → AH → RR
  | 0, _, _, _, _, _ => none
  | k + 1, l0, l1, l2, l3, h =>
  (zgI h l0 7 15).bind fun x1 =>
  if x1 ≤ l3 then (
    K5 l0 l1 h)
  else
  (zgR h l0 7 18).bind fun x2 =>
  (zai h l1 l3).bind fun x3 =>
  (zar h x2 x3).bind fun x4 =>
  (zai h l2 l3).bind fun x5 =>
  (zai h x4 x5).bind fun x6 =>
  (zsi h l1 l3 x6).bind fun h7 =>
  fX7_product_38 S K5 k l0 l1 l2 (l3 + 1) h7
set_option maxRecDepth 20000 in
theorem rX7_product_38 {X : CT} {V : VT} {d n0 k0 : Nat} (hV : V.2.2.2.2.2.stackTraces = false) (S : Nat → AH → RR) (hS : ∀ (e : Nat) (u0 : Nat) (h : AH), zM V yX7_sum cX7_sum 5 (some (.array .int)) (d + e + 13) [.ref u0] h (S u0 h)) (K5 : Nat → Nat → AH → RR) (hK5 : ∀ l0 l1  h, zG X V RX7 "product" cX7_product 4 (some (.array .int)) (d + 16) n0 k0 (K5 l0 l1 h) 5 [(0, .ref l0), (1, .ref l1)] [] h) (fu : Nat) : ∀ (l0 : Nat) (l1 : Nat) (l2 : Nat) (l3 : Int32) (h : AH), zG X V RX7 "product" cX7_product 4 (some (.array .int)) (d + 16) n0 k0 (fX7_product_38 S K5 fu l0 l1 l2 l3 h) 38 [(0, .ref l0), (1, .ref l1), (2, .ref l2), (3, .int l3)] [] h := by
  induction fu with
  | zero => intros; exact z_none
  | succ k ih =>
    intro l0 l1 l2 l3 h
    rw [fX7_product_38]
    refine z_iload_n 3 rfl rfl dX7_product_38 ?_
    refine z_aload_n 0 rfl rfl dX7_product_39 ?_
    refine z_gI zf_RX7_92 dX7_product_40 (fun x1 => ?_)
    refine z_icmp_ge 67 (by decide) dX7_product_43 ?_ ?_
    · refine z_goto 5 (by decide) dX7_product_67 ?_
      exact z_sub [0, 1] rfl (hK5 l0 l1 h)
    · refine z_aload_n 1 rfl rfl dX7_product_46 ?_
      refine z_iload_n 3 rfl rfl dX7_product_47 ?_
      refine z_aload_n 0 rfl rfl dX7_product_48 ?_
      refine z_gR zf_RX7_34 dX7_product_49 (fun x2 => ?_)
      refine z_aload_n 1 rfl rfl dX7_product_52 ?_
      refine z_iload_n 3 rfl rfl dX7_product_53 ?_
      refine z_aI dX7_product_54 (fun x3 => ?_)
      refine z_aR dX7_product_55 (fun x4 => ?_)
      refine z_aload_n 2 rfl rfl dX7_product_56 ?_
      refine z_iload_n 3 rfl rfl dX7_product_57 ?_
      refine z_aI dX7_product_58 (fun x5 => ?_)
      refine z_aI dX7_product_59 (fun x6 => ?_)
      refine z_sI dX7_product_60 (fun h7 => ?_)
      refine z_inc (w := 1) (lv' := [(3, .int (l3 + 1)), (0, .ref l0), (1, .ref l1), (2, .ref l2)]) 3 rfl (by decide) (by decide) rfl dX7_product_61 ?_
      refine z_goto 38 (by decide) dX7_product_64 ?_
      exact z_sub [1, 2, 3, 0] rfl (ih l0 l1 l2 (l3 + 1) h7)
def fX7_product_5 (S : Nat → AH → RR) : Nat → Nat → Nat → AH → RR
  | 0, _, _, _ => none
  | k + 1, l0, l1, h =>
  zcv (zob h l0 7) (fX7_fine l0 h) fun v1 h2 =>
  zvi v1 fun x3 =>
  if x3 = 0 then (
    some (.inl (some (.ref l1)), h2))
  else
  zcv (zob h2 l0 7) (fX7_here l0 h2) fun v4 h5 =>
  zvi v4 fun x6 =>
  if x6 = 42 then (
    (zgI h5 l0 7 4).bind fun x7 =>
    (zpf h5 l0 7 4 (.int (x7 + 1))).bind fun h8 =>
    zcv (zob h8 l0 7) (fX7_unit S l0 h8) fun v9 h10 =>
    zvr v9 fun x11 =>
    fX7_product_38 S (fun p0 p1 h => fX7_product_5 S k p0 p1 h) FU l0 l1 x11 0 h10)
  else
  some (.inl (some (.ref l1)), h5)
set_option maxRecDepth 20000 in
theorem rX7_product_5 {X : CT} {V : VT} {d n0 k0 : Nat} (hV : V.2.2.2.2.2.stackTraces = false) (S : Nat → AH → RR) (hS : ∀ (e : Nat) (u0 : Nat) (h : AH), zM V yX7_sum cX7_sum 5 (some (.array .int)) (d + e + 13) [.ref u0] h (S u0 h)) (fu : Nat) : ∀ (l0 : Nat) (l1 : Nat) (h : AH), zG X V RX7 "product" cX7_product 4 (some (.array .int)) (d + 16) n0 k0 (fX7_product_5 S fu l0 l1 h) 5 [(0, .ref l0), (1, .ref l1)] [] h := by
  induction fu with
  | zero => intros; exact z_none
  | succ k ih =>
    intro l0 l1 h
    rw [fX7_product_5]
    refine z_aload_n 0 rfl rfl dX7_product_5 ?_
    refine z_cV (st := []) [] zk_RX7_124 rfl (Nat.le_of_ble_eq_true rfl) dX7_product_6 (mX7_fine hV (d + 14) l0 h) (fun v1 h2 => ?_)
    refine z_vi (fun x3 => ?_)
    refine z_if_eq 70 (by decide) dX7_product_9 ?_ ?_
    · refine z_aload_n 1 rfl rfl dX7_product_70 ?_
      exact z_aret rfl (Or.inr ⟨_, rfl⟩) dX7_product_71
    · refine z_aload_n 0 rfl rfl dX7_product_12 ?_
      refine z_cV (st := []) [] zk_RX7_128 rfl (Nat.le_of_ble_eq_true rfl) dX7_product_13 (mX7_here hV (d + 13) l0 h2) (fun v4 h5 => ?_)
      refine z_vi (fun x6 => ?_)
      refine z_bipush (v := 42) (by decide) dX7_product_16 ?_
      refine z_icmp_ne 70 (by decide) dX7_product_18 ?_ ?_
      · refine z_aload_n 0 rfl rfl dX7_product_21 ?_
        refine z_dup rfl dX7_product_22 ?_
        refine z_gI zf_RX7_111 dX7_product_23 (fun x7 => ?_)
        refine z_iconst (v := 1) (by decide) dX7_product_26 ?_
        refine z_iadd dX7_product_27 ?_
        refine z_pI zf_RX7_111 zq_7_4 rfl dX7_product_28 (fun h8 => ?_)
        refine z_aload_n 0 rfl rfl dX7_product_31 ?_
        refine z_cV (st := []) [] zk_RX7_200 rfl (Nat.le_of_ble_eq_true rfl) dX7_product_32 (mX7_unit hV (d + 0) S (fun e u0 h => by rw [Nat.add_assoc d 0 e]; exact hS (0 + e) u0 h) l0 h8) (fun v9 h10 => ?_)
        refine z_vr (fun x11 => ?_)
        refine z_astore_n (lv' := [(2, .ref x11), (0, .ref l0), (1, .ref l1)]) rfl (by decide) rfl dX7_product_35 ?_
        refine z_iconst (v := 0) (by decide) dX7_product_36 ?_
        refine z_istore_n (lv' := [(3, .int 0), (2, .ref x11), (0, .ref l0), (1, .ref l1)]) rfl (by decide) rfl dX7_product_37 ?_
        exact z_sub [2, 3, 1, 0] rfl (rX7_product_38 hV S hS (fun p0 p1 h => fX7_product_5 S k p0 p1 h) ih FU l0 l1 x11 0 h10)
      · refine z_aload_n 1 rfl rfl dX7_product_70 ?_
        exact z_aret rfl (Or.inr ⟨_, rfl⟩) dX7_product_71
def fX7_product (S : Nat → AH → RR) (a0 : Nat) (h : AH) : RR :=
  zcv (zob h a0 7) (fX7_unit S a0 h) fun v1 h2 =>
  zvr v1 fun x3 =>
  fX7_product_5 S FU a0 x3 h2
set_option maxRecDepth 20000 in
theorem mX7_product {V : VT} (hV : V.2.2.2.2.2.stackTraces = false) (d : Nat) (S : Nat → AH → RR) (hS : ∀ (e : Nat) (u0 : Nat) (h : AH), zM V yX7_sum cX7_sum 5 (some (.array .int)) (d + e + 13) [.ref u0] h (S u0 h)) (a0 : Nat) (h : AH) : zM V yX7_product cX7_product 4 (some (.array .int)) (d + 16) [.ref a0] h (fX7_product S a0 h) := by
  refine z_meth hV (by decide +kernel) (Nat.le_of_ble_eq_true rfl) [(0, .ref a0)] rfl (fun X => ?_)
  show zG X V RX7 "product" cX7_product 4 (some (.array .int)) (d + 16) h.1 h.2.1 (fX7_product S a0 h) 0 [(0, .ref a0)] [] h
  unfold fX7_product
  refine z_aload_n 0 rfl rfl dX7_product_0 ?_
  refine z_cV (st := []) [] zk_RX7_200 rfl (Nat.le_of_ble_eq_true rfl) dX7_product_1 (mX7_unit hV (d + 0) S (fun e u0 h => by rw [Nat.add_assoc d 0 e]; exact hS (0 + e) u0 h) a0 h) (fun v1 h2 => ?_)
  refine z_vr (fun x3 => ?_)
  refine z_astore_n (lv' := [(1, .ref x3), (0, .ref a0)]) rfl (by decide) rfl dX7_product_4 ?_
  exact z_sub [1, 0] rfl (rX7_product_5 hV S hS FU a0 x3 h2)
def fX7_sum_108 (S : Nat → AH → RR) (K5 : Nat → Nat → AH → RR) (K63 : Nat → Nat → Int32 → Nat → Int32 → AH → RR) (l0 : Nat) (l1 : Nat) (l2 : Int32) (l3 : Nat) (l4 : Int32) (s0 : Int32) (s1 : Int32) (s2 : Nat) (h : AH) : RR :=
  (zsi h s2 s1 s0).bind fun h1 =>
  K63 l0 l1 l2 l3 (l4 + 1) h1
set_option maxRecDepth 20000 in
theorem rX7_sum_108 {X : CT} {V : VT} {d n0 k0 : Nat} (hV : V.2.2.2.2.2.stackTraces = false) (S : Nat → AH → RR) (hS : ∀ (e : Nat) (u0 : Nat) (h : AH), zM V yX7_sum cX7_sum 5 (some (.array .int)) (d + e + 13) [.ref u0] h (S u0 h)) (K5 : Nat → Nat → AH → RR) (K63 : Nat → Nat → Int32 → Nat → Int32 → AH → RR) (hK5 : ∀ l0 l1  h, zG X V RX7 "sum" cX7_sum 5 (some (.array .int)) (d + 17) n0 k0 (K5 l0 l1 h) 5 [(0, .ref l0), (1, .ref l1)] [] h) (hK63 : ∀ l0 l1 l2 l3 l4  h, zG X V RX7 "sum" cX7_sum 5 (some (.array .int)) (d + 17) n0 k0 (K63 l0 l1 l2 l3 l4 h) 63 [(0, .ref l0), (1, .ref l1), (2, .int l2), (3, .ref l3), (4, .int l4)] [] h) (l0 : Nat) (l1 : Nat) (l2 : Int32) (l3 : Nat) (l4 : Int32) (s0 : Int32) (s1 : Int32) (s2 : Nat) (h : AH) : zG X V RX7 "sum" cX7_sum 5 (some (.array .int)) (d + 17) n0 k0 (fX7_sum_108 S K5 K63 l0 l1 l2 l3 l4 s0 s1 s2 h) 108 [(0, .ref l0), (1, .ref l1), (2, .int l2), (3, .ref l3), (4, .int l4)] [.int s0, .int s1, .ref s2] h := by
  unfold fX7_sum_108
  refine z_sI dX7_sum_108 (fun h1 => ?_)
  refine z_inc (w := 1) (lv' := [(4, .int (l4 + 1)), (0, .ref l0), (1, .ref l1), (2, .int l2), (3, .ref l3)]) 4 rfl (by decide) (by decide) rfl dX7_sum_109 ?_
  refine z_goto 63 (by decide) dX7_sum_112 ?_
  exact z_sub [1, 2, 3, 4, 0] rfl (hK63 l0 l1 l2 l3 (l4 + 1) h1)
def fX7_sum_63 (S : Nat → AH → RR) (K5 : Nat → Nat → AH → RR) : Nat → Nat → Nat → Int32 → Nat → Int32 → AH → RR
  | 0, _, _, _, _, _, _ => none
  | k + 1, l0, l1, l2, l3, l4, h =>
  (zgI h l0 7 15).bind fun x1 =>
  if x1 ≤ l4 then (
    K5 l0 l1 h)
  else
  if l2 = 0 then (
    (zai h l1 l4).bind fun x2 =>
    (zai h l3 l4).bind fun x3 =>
    zcv (zob h l0 7) (fX7_apart l0 x2 x3 h) fun v4 h5 =>
    zvi v4 fun x6 =>
    fX7_sum_108 S K5 (fun p0 p1 p2 p3 p4 h => fX7_sum_63 S K5 k p0 p1 p2 p3 p4 h) l0 l1 l2 l3 l4 x6 l4 l1 h5)
  else
  (zgR h l0 7 17).bind fun x7 =>
  (zai h l1 l4).bind fun x8 =>
  (zar h x7 x8).bind fun x9 =>
  (zai h l3 l4).bind fun x10 =>
  (zai h x9 x10).bind fun x11 =>
  fX7_sum_108 S K5 (fun p0 p1 p2 p3 p4 h => fX7_sum_63 S K5 k p0 p1 p2 p3 p4 h) l0 l1 l2 l3 l4 x11 l4 l1 h
set_option maxRecDepth 20000 in
theorem rX7_sum_63 {X : CT} {V : VT} {d n0 k0 : Nat} (hV : V.2.2.2.2.2.stackTraces = false) (S : Nat → AH → RR) (hS : ∀ (e : Nat) (u0 : Nat) (h : AH), zM V yX7_sum cX7_sum 5 (some (.array .int)) (d + e + 13) [.ref u0] h (S u0 h)) (K5 : Nat → Nat → AH → RR) (hK5 : ∀ l0 l1  h, zG X V RX7 "sum" cX7_sum 5 (some (.array .int)) (d + 17) n0 k0 (K5 l0 l1 h) 5 [(0, .ref l0), (1, .ref l1)] [] h) (fu : Nat) : ∀ (l0 : Nat) (l1 : Nat) (l2 : Int32) (l3 : Nat) (l4 : Int32) (h : AH), zG X V RX7 "sum" cX7_sum 5 (some (.array .int)) (d + 17) n0 k0 (fX7_sum_63 S K5 fu l0 l1 l2 l3 l4 h) 63 [(0, .ref l0), (1, .ref l1), (2, .int l2), (3, .ref l3), (4, .int l4)] [] h := by
  induction fu with
  | zero => intros; exact z_none
  | succ k ih =>
    intro l0 l1 l2 l3 l4 h
    rw [fX7_sum_63]
    refine z_iload 4 rfl dX7_sum_63 ?_
    refine z_aload_n 0 rfl rfl dX7_sum_65 ?_
    refine z_gI zf_RX7_92 dX7_sum_66 (fun x1 => ?_)
    refine z_icmp_ge 115 (by decide) dX7_sum_69 ?_ ?_
    · refine z_goto 5 (by decide) dX7_sum_115 ?_
      exact z_sub [0, 1] rfl (hK5 l0 l1 h)
    · refine z_aload_n 1 rfl rfl dX7_sum_72 ?_
      refine z_iload 4 rfl dX7_sum_73 ?_
      refine z_iload_n 2 rfl rfl dX7_sum_75 ?_
      refine z_if_eq 96 (by decide) dX7_sum_76 ?_ ?_
      · refine z_aload_n 0 rfl rfl dX7_sum_96 ?_
        refine z_aload_n 1 rfl rfl dX7_sum_97 ?_
        refine z_iload 4 rfl dX7_sum_98 ?_
        refine z_aI dX7_sum_100 (fun x2 => ?_)
        refine z_aload_n 3 rfl rfl dX7_sum_101 ?_
        refine z_iload 4 rfl dX7_sum_102 ?_
        refine z_aI dX7_sum_104 (fun x3 => ?_)
        refine z_cV (st := [.int l4, .ref l1]) [.int x2, .int x3] zk_RX7_105 rfl (Nat.le_of_ble_eq_true rfl) dX7_sum_105 (mX7_apart hV (d + 15) l0 x2 x3 h) (fun v4 h5 => ?_)
        refine z_vi (fun x6 => ?_)
        exact z_sub [0, 1, 2, 3, 4] rfl (rX7_sum_108 hV S hS K5 (fun p0 p1 p2 p3 p4 h => fX7_sum_63 S K5 k p0 p1 p2 p3 p4 h) hK5 ih l0 l1 l2 l3 l4 x6 l4 l1 h5)
      · refine z_aload_n 0 rfl rfl dX7_sum_79 ?_
        refine z_gR zf_RX7_31 dX7_sum_80 (fun x7 => ?_)
        refine z_aload_n 1 rfl rfl dX7_sum_83 ?_
        refine z_iload 4 rfl dX7_sum_84 ?_
        refine z_aI dX7_sum_86 (fun x8 => ?_)
        refine z_aR dX7_sum_87 (fun x9 => ?_)
        refine z_aload_n 3 rfl rfl dX7_sum_88 ?_
        refine z_iload 4 rfl dX7_sum_89 ?_
        refine z_aI dX7_sum_91 (fun x10 => ?_)
        refine z_aI dX7_sum_92 (fun x11 => ?_)
        refine z_goto 108 (by decide) dX7_sum_93 ?_
        exact z_sub [0, 1, 2, 3, 4] rfl (rX7_sum_108 hV S hS K5 (fun p0 p1 p2 p3 p4 h => fX7_sum_63 S K5 k p0 p1 p2 p3 p4 h) hK5 ih l0 l1 l2 l3 l4 x11 l4 l1 h)
def fX7_sum_44 (S : Nat → AH → RR) (K5 : Nat → Nat → AH → RR) (l0 : Nat) (l1 : Nat) (s0 : Int32) (h : AH) : RR :=
  (zgI h l0 7 4).bind fun x1 =>
  (zpf h l0 7 4 (.int (x1 + 1))).bind fun h2 =>
  zcv (zob h2 l0 7) (fX7_product S l0 h2) fun v3 h4 =>
  zvr v3 fun x5 =>
  fX7_sum_63 S K5 FU l0 l1 s0 x5 0 h4
set_option maxRecDepth 20000 in
theorem rX7_sum_44 {X : CT} {V : VT} {d n0 k0 : Nat} (hV : V.2.2.2.2.2.stackTraces = false) (S : Nat → AH → RR) (hS : ∀ (e : Nat) (u0 : Nat) (h : AH), zM V yX7_sum cX7_sum 5 (some (.array .int)) (d + e + 13) [.ref u0] h (S u0 h)) (K5 : Nat → Nat → AH → RR) (hK5 : ∀ l0 l1  h, zG X V RX7 "sum" cX7_sum 5 (some (.array .int)) (d + 17) n0 k0 (K5 l0 l1 h) 5 [(0, .ref l0), (1, .ref l1)] [] h) (l0 : Nat) (l1 : Nat) (s0 : Int32) (h : AH) : zG X V RX7 "sum" cX7_sum 5 (some (.array .int)) (d + 17) n0 k0 (fX7_sum_44 S K5 l0 l1 s0 h) 44 [(0, .ref l0), (1, .ref l1)] [.int s0] h := by
  unfold fX7_sum_44
  refine z_istore_n (lv' := [(2, .int s0), (0, .ref l0), (1, .ref l1)]) rfl (by decide) rfl dX7_sum_44 ?_
  refine z_aload_n 1 rfl rfl dX7_sum_45 ?_
  refine z_dup rfl dX7_sum_46 ?_
  refine z_gI zf_RX7_111 dX7_sum_47 (fun x1 => ?_)
  refine z_iconst (v := 1) (by decide) dX7_sum_50 ?_
  refine z_iadd dX7_sum_51 ?_
  refine z_pI zf_RX7_111 zq_7_4 rfl dX7_sum_52 (fun h2 => ?_)
  refine z_aload_n 1 rfl rfl dX7_sum_55 ?_
  refine z_cV (st := []) [] zk_RX7_203 rfl (Nat.le_of_ble_eq_true rfl) dX7_sum_56 (mX7_product hV (d + 0) S (fun e u0 h => by rw [Nat.add_assoc d 0 e]; exact hS (0 + e) u0 h) l0 h2) (fun v3 h4 => ?_)
  refine z_vr (fun x5 => ?_)
  refine z_astore_n (lv' := [(3, .ref x5), (2, .int s0), (0, .ref l0), (1, .ref l1)]) rfl (by decide) rfl dX7_sum_59 ?_
  refine z_iconst (v := 0) (by decide) dX7_sum_60 ?_
  refine z_istore (lv' := [(4, .int 0), (3, .ref x5), (2, .int s0), (0, .ref l0), (1, .ref l1)]) (by decide) rfl dX7_sum_61 ?_
  exact z_sub [3, 4, 2, 1, 0] rfl (rX7_sum_63 hV S hS K5 hK5 FU l0 l1 s0 x5 0 h4)
def fX7_sum_30 (S : Nat → AH → RR) (K5 : Nat → Nat → AH → RR) (l0 : Nat) (l1 : Nat) (h : AH) : RR :=
  zcv (zob h l0 7) (fX7_here l0 h) fun v1 h2 =>
  zvi v1 fun x3 =>
  if x3 = 43 then (
    fX7_sum_44 S K5 l0 l1 1 h2)
  else
  fX7_sum_44 S K5 l0 l1 0 h2
set_option maxRecDepth 20000 in
theorem rX7_sum_30 {X : CT} {V : VT} {d n0 k0 : Nat} (hV : V.2.2.2.2.2.stackTraces = false) (S : Nat → AH → RR) (hS : ∀ (e : Nat) (u0 : Nat) (h : AH), zM V yX7_sum cX7_sum 5 (some (.array .int)) (d + e + 13) [.ref u0] h (S u0 h)) (K5 : Nat → Nat → AH → RR) (hK5 : ∀ l0 l1  h, zG X V RX7 "sum" cX7_sum 5 (some (.array .int)) (d + 17) n0 k0 (K5 l0 l1 h) 5 [(0, .ref l0), (1, .ref l1)] [] h) (l0 : Nat) (l1 : Nat) (h : AH) : zG X V RX7 "sum" cX7_sum 5 (some (.array .int)) (d + 17) n0 k0 (fX7_sum_30 S K5 l0 l1 h) 30 [(0, .ref l0), (1, .ref l1)] [] h := by
  unfold fX7_sum_30
  refine z_aload_n 0 rfl rfl dX7_sum_30 ?_
  refine z_cV (st := []) [] zk_RX7_128 rfl (Nat.le_of_ble_eq_true rfl) dX7_sum_31 (mX7_here hV (d + 14) l0 h) (fun v1 h2 => ?_)
  refine z_vi (fun x3 => ?_)
  refine z_bipush (v := 43) (by decide) dX7_sum_34 ?_
  refine z_icmp_ne 43 (by decide) dX7_sum_36 ?_ ?_
  · refine z_iconst (v := 1) (by decide) dX7_sum_39 ?_
    refine z_goto 44 (by decide) dX7_sum_40 ?_
    exact z_sub [0, 1] rfl (rX7_sum_44 hV S hS K5 hK5 l0 l1 1 h2)
  · refine z_iconst (v := 0) (by decide) dX7_sum_43 ?_
    exact z_sub [0, 1] rfl (rX7_sum_44 hV S hS K5 hK5 l0 l1 0 h2)
def fX7_sum_5 (S : Nat → AH → RR) : Nat → Nat → Nat → AH → RR
  | 0, _, _, _ => none
  | k + 1, l0, l1, h =>
  zcv (zob h l0 7) (fX7_fine l0 h) fun v1 h2 =>
  zvi v1 fun x3 =>
  if x3 = 0 then (
    some (.inl (some (.ref l1)), h2))
  else
  zcv (zob h2 l0 7) (fX7_here l0 h2) fun v4 h5 =>
  zvi v4 fun x6 =>
  if x6 = 43 then (
    fX7_sum_30 S (fun p0 p1 h => fX7_sum_5 S k p0 p1 h) l0 l1 h5)
  else
  zcv (zob h5 l0 7) (fX7_here l0 h5) fun v7 h8 =>
  zvi v7 fun x9 =>
  if x9 = 45 then (
    fX7_sum_30 S (fun p0 p1 h => fX7_sum_5 S k p0 p1 h) l0 l1 h8)
  else
  some (.inl (some (.ref l1)), h8)
set_option maxRecDepth 20000 in
theorem rX7_sum_5 {X : CT} {V : VT} {d n0 k0 : Nat} (hV : V.2.2.2.2.2.stackTraces = false) (S : Nat → AH → RR) (hS : ∀ (e : Nat) (u0 : Nat) (h : AH), zM V yX7_sum cX7_sum 5 (some (.array .int)) (d + e + 13) [.ref u0] h (S u0 h)) (fu : Nat) : ∀ (l0 : Nat) (l1 : Nat) (h : AH), zG X V RX7 "sum" cX7_sum 5 (some (.array .int)) (d + 17) n0 k0 (fX7_sum_5 S fu l0 l1 h) 5 [(0, .ref l0), (1, .ref l1)] [] h := by
  induction fu with
  | zero => intros; exact z_none
  | succ k ih =>
    intro l0 l1 h
    rw [fX7_sum_5]
    refine z_aload_n 0 rfl rfl dX7_sum_5 ?_
    refine z_cV (st := []) [] zk_RX7_124 rfl (Nat.le_of_ble_eq_true rfl) dX7_sum_6 (mX7_fine hV (d + 15) l0 h) (fun v1 h2 => ?_)
    refine z_vi (fun x3 => ?_)
    refine z_if_eq 118 (by decide) dX7_sum_9 ?_ ?_
    · refine z_aload_n 1 rfl rfl dX7_sum_118 ?_
      exact z_aret rfl (Or.inr ⟨_, rfl⟩) dX7_sum_119
    · refine z_aload_n 0 rfl rfl dX7_sum_12 ?_
      refine z_cV (st := []) [] zk_RX7_128 rfl (Nat.le_of_ble_eq_true rfl) dX7_sum_13 (mX7_here hV (d + 14) l0 h2) (fun v4 h5 => ?_)
      refine z_vi (fun x6 => ?_)
      refine z_bipush (v := 43) (by decide) dX7_sum_16 ?_
      refine z_icmp_eq 30 (by decide) dX7_sum_18 ?_ ?_
      · exact z_sub [0, 1] rfl (rX7_sum_30 hV S hS (fun p0 p1 h => fX7_sum_5 S k p0 p1 h) ih l0 l1 h5)
      · refine z_aload_n 0 rfl rfl dX7_sum_21 ?_
        refine z_cV (st := []) [] zk_RX7_128 rfl (Nat.le_of_ble_eq_true rfl) dX7_sum_22 (mX7_here hV (d + 14) l0 h5) (fun v7 h8 => ?_)
        refine z_vi (fun x9 => ?_)
        refine z_bipush (v := 45) (by decide) dX7_sum_25 ?_
        refine z_icmp_ne 118 (by decide) dX7_sum_27 ?_ ?_
        · exact z_sub [0, 1] rfl (rX7_sum_30 hV S hS (fun p0 p1 h => fX7_sum_5 S k p0 p1 h) ih l0 l1 h8)
        · refine z_aload_n 1 rfl rfl dX7_sum_118 ?_
          exact z_aret rfl (Or.inr ⟨_, rfl⟩) dX7_sum_119
def fX7_sumB (S : Nat → AH → RR) (a0 : Nat) (h : AH) : RR :=
  zcv (zob h a0 7) (fX7_product S a0 h) fun v1 h2 =>
  zvr v1 fun x3 =>
  fX7_sum_5 S FU a0 x3 h2
set_option maxRecDepth 20000 in
theorem mX7_sumB {V : VT} (hV : V.2.2.2.2.2.stackTraces = false) (d : Nat) (S : Nat → AH → RR) (hS : ∀ (e : Nat) (u0 : Nat) (h : AH), zM V yX7_sum cX7_sum 5 (some (.array .int)) (d + e + 13) [.ref u0] h (S u0 h)) (a0 : Nat) (h : AH) : zM V yX7_sum cX7_sum 5 (some (.array .int)) (d + 17) [.ref a0] h (fX7_sumB S a0 h) := by
  refine z_meth hV (by decide +kernel) (Nat.le_of_ble_eq_true rfl) [(0, .ref a0)] rfl (fun X => ?_)
  show zG X V RX7 "sum" cX7_sum 5 (some (.array .int)) (d + 17) h.1 h.2.1 (fX7_sumB S a0 h) 0 [(0, .ref a0)] [] h
  unfold fX7_sumB
  refine z_aload_n 0 rfl rfl dX7_sum_0 ?_
  refine z_cV (st := []) [] zk_RX7_203 rfl (Nat.le_of_ble_eq_true rfl) dX7_sum_1 (mX7_product hV (d + 0) S (fun e u0 h => by rw [Nat.add_assoc d 0 e]; exact hS (0 + e) u0 h) a0 h) (fun v1 h2 => ?_)
  refine z_vr (fun x3 => ?_)
  refine z_astore_n (lv' := [(1, .ref x3), (0, .ref a0)]) rfl (by decide) rfl dX7_sum_4 ?_
  exact z_sub [1, 0] rfl (rX7_sum_5 hV S hS FU a0 x3 h2)
def fX7_sum : Nat → Nat → AH → RR
  | 0, _, _ => none
  | n + 1, a0, h => fX7_sumB (fX7_sum n) a0 h
theorem mX7_sum {V : VT} (hV : V.2.2.2.2.2.stackTraces = false) (n : Nat) : ∀ (d : Nat) (a0 : Nat) (h : AH), zM V yX7_sum cX7_sum 5 (some (.array .int)) (d + (4 * n + 13)) [.ref a0] h (fX7_sum n a0 h) := by
  induction n with
  | zero => intros; exact fun _ _ hr => by cases hr
  | succ n ih =>
    intro d a0 h
    have e : d + (4 * (n + 1) + 13) = (d + 4 * n) + 17 := by omega
    rw [e, fX7_sum]
    refine mX7_sumB hV (d + 4 * n) (fX7_sum n) (fun e u0 h => ?_) a0 h
    have e2 : (d + 4 * n) + e + 13 = (d + e) + (4 * n + 13) := by omega
    rw [e2]
    exact ih (d + e) u0 h
theorem mX7_sumF {V : VT} (hV : V.2.2.2.2.2.stackTraces = false) (d : Nat) (a0 : Nat) (h : AH) : zM V yX7_sum cX7_sum 5 (some (.array .int)) (d + 61) [.ref a0] h (fX7_sum 12 a0 h) := mX7_sum hV 12 d a0 h
def fX7_readsPoly_43 : Nat → Nat → Nat → Int32 → AH → RR
  | 0, _, _, _, _ => none
  | k + 1, l0, l2, l3, h =>
  (zgI h l0 7 15).bind fun x1 =>
  if x1 ≤ l3 then (
    (zgR h l0 7 10).bind fun x2 =>
    (zai h x2 2).bind fun x3 =>
    (zsi h x2 2 (x3 + 1)).bind fun h4 =>
    some (.inl none, h4))
  else
  (zgR h l0 7 10).bind fun x5 =>
  (zgR h l0 7 10).bind fun x6 =>
  (zai h x6 2).bind fun x7 =>
  (zai h l2 l3).bind fun x8 =>
  (zsi h x5 (((3 : Int32) + ((64 : Int32) * x7)) + l3) x8).bind fun h9 =>
  fX7_readsPoly_43 k l0 l2 (l3 + 1) h9
set_option maxRecDepth 20000 in
theorem rX7_readsPoly_43 {X : CT} {V : VT} {d n0 k0 : Nat} (hV : V.2.2.2.2.2.stackTraces = false) (fu : Nat) : ∀ (l0 : Nat) (l2 : Nat) (l3 : Int32) (h : AH), zG X V RX7 "readsPoly" cX7_readsPoly 4 none (d + 62) n0 k0 (fX7_readsPoly_43 fu l0 l2 l3 h) 43 [(0, .ref l0), (2, .ref l2), (3, .int l3)] [] h := by
  induction fu with
  | zero => intros; exact z_none
  | succ k ih =>
    intro l0 l2 l3 h
    rw [fX7_readsPoly_43]
    refine z_iload_n 2 rfl rfl dX7_readsPoly_43 ?_
    refine z_aload_n 0 rfl rfl dX7_readsPoly_44 ?_
    refine z_gI zf_RX7_92 dX7_readsPoly_45 (fun x1 => ?_)
    refine z_icmp_ge 78 (by decide) dX7_readsPoly_48 ?_ ?_
    · refine z_aload_n 0 rfl rfl dX7_readsPoly_78 ?_
      refine z_gR zf_RX7_23 dX7_readsPoly_79 (fun x2 => ?_)
      refine z_iconst (v := 2) (by decide) dX7_readsPoly_82 ?_
      refine z_dup2 rfl rfl dX7_readsPoly_83 ?_
      refine z_aI dX7_readsPoly_84 (fun x3 => ?_)
      refine z_iconst (v := 1) (by decide) dX7_readsPoly_85 ?_
      refine z_iadd dX7_readsPoly_86 ?_
      refine z_sI dX7_readsPoly_87 (fun h4 => ?_)
      exact z_vret rfl dX7_readsPoly_88
    · refine z_aload_n 0 rfl rfl dX7_readsPoly_51 ?_
      refine z_gR zf_RX7_23 dX7_readsPoly_52 (fun x5 => ?_)
      refine z_iconst (v := 3) (by decide) dX7_readsPoly_55 ?_
      refine z_bipush (v := 64) (by decide) dX7_readsPoly_56 ?_
      refine z_aload_n 0 rfl rfl dX7_readsPoly_58 ?_
      refine z_gR zf_RX7_23 dX7_readsPoly_59 (fun x6 => ?_)
      refine z_iconst (v := 2) (by decide) dX7_readsPoly_62 ?_
      refine z_aI dX7_readsPoly_63 (fun x7 => ?_)
      refine z_imul dX7_readsPoly_64 ?_
      refine z_iadd dX7_readsPoly_65 ?_
      refine z_iload_n 2 rfl rfl dX7_readsPoly_66 ?_
      refine z_iadd dX7_readsPoly_67 ?_
      refine z_aload_n 1 rfl rfl dX7_readsPoly_68 ?_
      refine z_iload_n 2 rfl rfl dX7_readsPoly_69 ?_
      refine z_aI dX7_readsPoly_70 (fun x8 => ?_)
      refine z_sI dX7_readsPoly_71 (fun h9 => ?_)
      refine z_inc (w := 1) (lv' := [(3, .int (l3 + 1)), (0, .ref l0), (2, .ref l2)]) 2 rfl (by decide) (by decide) rfl dX7_readsPoly_72 ?_
      refine z_goto 43 (by decide) dX7_readsPoly_75 ?_
      exact z_sub [1, 2, 0] rfl (ih l0 l2 (l3 + 1) h9)
def fX7_readsPoly_17 (l0 : Nat) (h : AH) : RR :=
  (zpf h l0 7 23 (.int 0)).bind fun h1 =>
  zcv (zob h1 l0 7) (fX7_sum 12 l0 h1) fun v2 h3 =>
  zvr v2 fun x4 =>
  zcv (zob h3 l0 7) (fX7_must l0 59 h3) fun v5 h6 =>
  zvn v5 <|
  zcv (zob h6 l0 7) (fX7_fine l0 h6) fun v7 h8 =>
  zvi v7 fun x9 =>
  if x9 = 0 then (
    some (.inl none, h8))
  else
  fX7_readsPoly_43 FU l0 x4 0 h8
set_option maxRecDepth 20000 in
theorem rX7_readsPoly_17 {X : CT} {V : VT} {d n0 k0 : Nat} (hV : V.2.2.2.2.2.stackTraces = false) (l0 : Nat) (h : AH) : zG X V RX7 "readsPoly" cX7_readsPoly 4 none (d + 62) n0 k0 (fX7_readsPoly_17 l0 h) 17 [(0, .ref l0)] [] h := by
  unfold fX7_readsPoly_17
  refine z_aload_n 0 rfl rfl dX7_readsPoly_17 ?_
  refine z_iconst (v := 0) (by decide) dX7_readsPoly_18 ?_
  refine z_pI zf_RX7_158 zq_7_23 rfl dX7_readsPoly_19 (fun h1 => ?_)
  refine z_aload_n 0 rfl rfl dX7_readsPoly_22 ?_
  refine z_cV (st := []) [] zk_RX7_181 rfl (Nat.le_of_ble_eq_true rfl) dX7_readsPoly_23 (mX7_sumF hV (d + 0) l0 h1) (fun v2 h3 => ?_)
  refine z_vr (fun x4 => ?_)
  refine z_astore_n (lv' := [(2, .ref x4), (0, .ref l0)]) rfl (by decide) rfl dX7_readsPoly_26 ?_
  refine z_aload_n 1 rfl rfl dX7_readsPoly_27 ?_
  refine z_bipush (v := 59) (by decide) dX7_readsPoly_28 ?_
  refine z_cV (st := []) [.int 59] zk_RX7_161 rfl (Nat.le_of_ble_eq_true rfl) dX7_readsPoly_30 (mX7_must hV (d + 58) l0 59 h3) (fun v5 h6 => ?_)
  refine z_vn ?_
  refine z_aload_n 1 rfl rfl dX7_readsPoly_33 ?_
  refine z_cV (st := []) [] zk_RX7_124 rfl (Nat.le_of_ble_eq_true rfl) dX7_readsPoly_34 (mX7_fine hV (d + 60) l0 h6) (fun v7 h8 => ?_)
  refine z_vi (fun x9 => ?_)
  refine z_if_ne 41 (by decide) dX7_readsPoly_37 ?_ ?_
  · exact z_vret rfl dX7_readsPoly_40
  · refine z_iconst (v := 0) (by decide) dX7_readsPoly_41 ?_
    refine z_istore_n (lv' := [(3, .int 0), (2, .ref x4), (0, .ref l0)]) rfl (by decide) rfl dX7_readsPoly_42 ?_
    exact z_sub [2, 1, 0] rfl (rX7_readsPoly_43 hV FU l0 x4 0 h8)
def fX7_readsPoly (a0 : Nat) (a1 : Int32) (h : AH) : RR :=
  (zgR h a0 7 10).bind fun x1 =>
  (zai h x1 2).bind fun x2 =>
  if x2 = 6 then (
    zcv (zob h a0 7) (fX7_wrong a0 3 a1 h) fun v3 h4 =>
    zvn v3 <|
    fX7_readsPoly_17 a0 h4)
  else
  fX7_readsPoly_17 a0 h
set_option maxRecDepth 20000 in
theorem mX7_readsPoly {V : VT} (hV : V.2.2.2.2.2.stackTraces = false) (d : Nat) (a0 : Nat) (a1 : Int32) (h : AH) : zM V yX7_readsPoly cX7_readsPoly 4 none (d + 62) [.ref a0, .int a1] h (fX7_readsPoly a0 a1 h) := by
  refine z_meth hV (by decide +kernel) (Nat.le_of_ble_eq_true rfl) [(0, .ref a0), (1, .int a1)] rfl (fun X => ?_)
  show zG X V RX7 "readsPoly" cX7_readsPoly 4 none (d + 62) h.1 h.2.1 (fX7_readsPoly a0 a1 h) 0 [(0, .ref a0), (1, .int a1)] [] h
  unfold fX7_readsPoly
  refine z_aload_n 0 rfl rfl dX7_readsPoly_0 ?_
  refine z_gR zf_RX7_23 dX7_readsPoly_1 (fun x1 => ?_)
  refine z_iconst (v := 2) (by decide) dX7_readsPoly_4 ?_
  refine z_aI dX7_readsPoly_5 (fun x2 => ?_)
  refine z_bipush (v := 6) (by decide) dX7_readsPoly_6 ?_
  refine z_icmp_ne 17 (by decide) dX7_readsPoly_8 ?_ ?_
  · refine z_aload_n 0 rfl rfl dX7_readsPoly_11 ?_
    refine z_iconst (v := 3) (by decide) dX7_readsPoly_12 ?_
    refine z_iload_n 1 rfl rfl dX7_readsPoly_13 ?_
    refine z_cV (st := []) [.int 3, .int a1] zk_RX7_143 rfl (Nat.le_of_ble_eq_true rfl) dX7_readsPoly_14 (mX7_wrong hV (d + 60) a0 3 a1 h) (fun v3 h4 => ?_)
    refine z_vn ?_
    exact z_sub [0] rfl (rX7_readsPoly_17 hV a0 h4)
  · exact z_sub [0] rfl (rX7_readsPoly_17 hV a0 h)
def fX7_isPrime_2 : Nat → Int32 → Int32 → AH → RR
  | 0, _, _, _ => none
  | k + 1, l0, l1, h =>
  if l0 < (l1 * l1) then (
    if l0 ≤ 1 then (
      zbr 0 h)
    else
    zbr 1 h)
  else
  if l1 = 0 then none else
  if (l0 - l0 / l1 * l1) = 0 then (
    zbr 0 h)
  else
  fX7_isPrime_2 k l0 (l1 + 1) h
set_option maxRecDepth 20000 in
theorem rX7_isPrime_2 {X : CT} {V : VT} {d n0 k0 : Nat} (hV : V.2.2.2.2.2.stackTraces = false) (fu : Nat) : ∀ (l0 : Int32) (l1 : Int32) (h : AH), zG X V RX7 "isPrime" cX7_isPrime 2 (some .boolean) (d + 1) n0 k0 (fX7_isPrime_2 fu l0 l1 h) 2 [(0, .int l0), (1, .int l1)] [] h := by
  induction fu with
  | zero => intros; exact z_none
  | succ k ih =>
    intro l0 l1 h
    rw [fX7_isPrime_2]
    refine z_iload_n 1 rfl rfl dX7_isPrime_2 ?_
    refine z_iload_n 1 rfl rfl dX7_isPrime_3 ?_
    refine z_imul dX7_isPrime_4 ?_
    refine z_iload_n 0 rfl rfl dX7_isPrime_5 ?_
    refine z_icmp_gt 23 (by decide) dX7_isPrime_6 ?_ ?_
    · refine z_iload_n 0 rfl rfl dX7_isPrime_23 ?_
      refine z_iconst (v := 1) (by decide) dX7_isPrime_24 ?_
      refine z_icmp_le 32 (by decide) dX7_isPrime_25 ?_ ?_
      · refine z_iconst (v := 0) (by decide) dX7_isPrime_32 ?_
        exact z_zret rfl dX7_isPrime_33
      · refine z_iconst (v := 1) (by decide) dX7_isPrime_28 ?_
        refine z_goto 33 (by decide) dX7_isPrime_29 ?_
        exact z_zret rfl dX7_isPrime_33
    · refine z_iload_n 0 rfl rfl dX7_isPrime_9 ?_
      refine z_iload_n 1 rfl rfl dX7_isPrime_10 ?_
      refine z_irem dX7_isPrime_11 ?_
      refine z_if_ne 17 (by decide) dX7_isPrime_12 ?_ ?_
      · refine z_iconst (v := 0) (by decide) dX7_isPrime_15 ?_
        exact z_zret rfl dX7_isPrime_16
      · refine z_inc (w := 1) (lv' := [(1, .int (l1 + 1)), (0, .int l0)]) 1 rfl (by decide) (by decide) rfl dX7_isPrime_17 ?_
        refine z_goto 2 (by decide) dX7_isPrime_20 ?_
        exact z_sub [1, 0] rfl (ih l0 (l1 + 1) h)
def fX7_isPrime (a0 : Int32) (h : AH) : RR :=
  fX7_isPrime_2 FU a0 2 h
set_option maxRecDepth 20000 in
theorem mX7_isPrime {V : VT} (hV : V.2.2.2.2.2.stackTraces = false) (d : Nat) (a0 : Int32) (h : AH) : zM V yX7_isPrime cX7_isPrime 2 (some .boolean) (d + 1) [.int a0] h (fX7_isPrime a0 h) := by
  refine z_meth hV (by decide +kernel) (Nat.le_of_ble_eq_true rfl) [(0, .int a0)] rfl (fun X => ?_)
  show zG X V RX7 "isPrime" cX7_isPrime 2 (some .boolean) (d + 1) h.1 h.2.1 (fX7_isPrime a0 h) 0 [(0, .int a0)] [] h
  unfold fX7_isPrime
  refine z_iconst (v := 2) (by decide) dX7_isPrime_0 ?_
  refine z_istore_n (lv' := [(1, .int 2), (0, .int a0)]) rfl (by decide) rfl dX7_isPrime_1 ?_
  exact z_sub [1, 0] rfl (rX7_isPrime_2 hV FU a0 2 h)
def fX7_readsField_83 (l0 : Nat) (l1 : Int32) (l2 : Int32) (h : AH) : RR :=
  zcv (zob h l0 7) (fX7_must l0 59 h) fun v1 h2 =>
  zvn v1 <|
  zcv (zob h2 l0 7) (fX7_fine l0 h2) fun v3 h4 =>
  zvi v3 fun x5 =>
  if x5 = 0 then (
    some (.inl none, h4))
  else
  (zgR h4 l0 7 10).bind fun x6 =>
  (zsi h4 x6 0 l1).bind fun h7 =>
  (zgR h7 l0 7 10).bind fun x8 =>
  (zsi h7 x8 1 l2).bind fun h9 =>
  (zgR h9 l0 7 10).bind fun x10 =>
  zcv (zob h9 l0 7) (fX7_lays l0 x10 h9) fun v11 h12 =>
  zvn v11 <|
  some (.inl none, h12)
set_option maxRecDepth 20000 in
theorem rX7_readsField_83 {X : CT} {V : VT} {d n0 k0 : Nat} (hV : V.2.2.2.2.2.stackTraces = false) (l0 : Nat) (l1 : Int32) (l2 : Int32) (h : AH) : zG X V RX7 "readsField" cX7_readsField 3 none (d + 13) n0 k0 (fX7_readsField_83 l0 l1 l2 h) 83 [(0, .ref l0), (1, .int l1), (2, .int l2)] [] h := by
  unfold fX7_readsField_83
  refine z_aload_n 0 rfl rfl dX7_readsField_83 ?_
  refine z_bipush (v := 59) (by decide) dX7_readsField_84 ?_
  refine z_cV (st := []) [.int 59] zk_RX7_161 rfl (Nat.le_of_ble_eq_true rfl) dX7_readsField_86 (mX7_must hV (d + 9) l0 59 h) (fun v1 h2 => ?_)
  refine z_vn ?_
  refine z_aload_n 0 rfl rfl dX7_readsField_89 ?_
  refine z_cV (st := []) [] zk_RX7_124 rfl (Nat.le_of_ble_eq_true rfl) dX7_readsField_90 (mX7_fine hV (d + 11) l0 h2) (fun v3 h4 => ?_)
  refine z_vi (fun x5 => ?_)
  refine z_if_ne 97 (by decide) dX7_readsField_93 ?_ ?_
  · exact z_vret rfl dX7_readsField_96
  · refine z_aload_n 0 rfl rfl dX7_readsField_97 ?_
    refine z_gR zf_RX7_23 dX7_readsField_98 (fun x6 => ?_)
    refine z_iconst (v := 0) (by decide) dX7_readsField_101 ?_
    refine z_iload_n 1 rfl rfl dX7_readsField_102 ?_
    refine z_sI dX7_readsField_103 (fun h7 => ?_)
    refine z_aload_n 0 rfl rfl dX7_readsField_104 ?_
    refine z_gR zf_RX7_23 dX7_readsField_105 (fun x8 => ?_)
    refine z_iconst (v := 1) (by decide) dX7_readsField_108 ?_
    refine z_iload_n 2 rfl rfl dX7_readsField_109 ?_
    refine z_sI dX7_readsField_110 (fun h9 => ?_)
    refine z_aload_n 0 rfl rfl dX7_readsField_111 ?_
    refine z_aload_n 0 rfl rfl dX7_readsField_112 ?_
    refine z_gR zf_RX7_23 dX7_readsField_113 (fun x10 => ?_)
    refine z_cV (st := []) [.ref x10] zk_RX7_211 rfl (Nat.le_of_ble_eq_true rfl) dX7_readsField_116 (mX7_lays hV (d + 8) l0 x10 h9) (fun v11 h12 => ?_)
    refine z_vn ?_
    exact z_vret rfl dX7_readsField_119
def fX7_readsField_49 (l0 : Nat) (l1 : Int32) (h : AH) : RR :=
  zcv (zob h l0 7) (fX7_number l0 1 6 h) fun v1 h2 =>
  zvi v1 fun x3 =>
  zcv (zob h2 l0 7) (fX7_fine l0 h2) fun v4 h5 =>
  zvi v4 fun x6 =>
  if x6 = 0 then (
    fX7_readsField_83 l0 l1 x3 h5)
  else
  zca (fX7_raised l1 x3 h5) fun v7 h8 =>
  zvi v7 fun x9 =>
  if x9 ≤ 64 then (
    fX7_readsField_83 l0 l1 x3 h8)
  else
  (zgI h8 l0 7 22).bind fun x10 =>
  zcv (zob h8 l0 7) (fX7_wrong l0 2 x10 h8) fun v11 h12 =>
  zvn v11 <|
  fX7_readsField_83 l0 l1 x3 h12
set_option maxRecDepth 20000 in
theorem rX7_readsField_49 {X : CT} {V : VT} {d n0 k0 : Nat} (hV : V.2.2.2.2.2.stackTraces = false) (l0 : Nat) (l1 : Int32) (h : AH) : zG X V RX7 "readsField" cX7_readsField 3 none (d + 13) n0 k0 (fX7_readsField_49 l0 l1 h) 49 [(0, .ref l0), (1, .int l1)] [] h := by
  unfold fX7_readsField_49
  refine z_aload_n 0 rfl rfl dX7_readsField_49 ?_
  refine z_iconst (v := 1) (by decide) dX7_readsField_50 ?_
  refine z_bipush (v := 6) (by decide) dX7_readsField_51 ?_
  refine z_cV (st := []) [.int 1, .int 6] zk_RX7_169 rfl (Nat.le_of_ble_eq_true rfl) dX7_readsField_53 (mX7_number hV (d + 9) l0 1 6 h) (fun v1 h2 => ?_)
  refine z_vi (fun x3 => ?_)
  refine z_istore_n (lv' := [(2, .int x3), (0, .ref l0), (1, .int l1)]) rfl (by decide) rfl dX7_readsField_56 ?_
  refine z_aload_n 1 rfl rfl dX7_readsField_57 ?_
  refine z_cV (st := []) [] zk_RX7_124 rfl (Nat.le_of_ble_eq_true rfl) dX7_readsField_58 (mX7_fine hV (d + 11) l0 h2) (fun v4 h5 => ?_)
  refine z_vi (fun x6 => ?_)
  refine z_if_eq 83 (by decide) dX7_readsField_61 ?_ ?_
  · exact z_sub [1, 2, 0] rfl (rX7_readsField_83 hV l0 l1 x3 h5)
  · refine z_iload_n 2 rfl rfl dX7_readsField_64 ?_
    refine z_iload_n 0 rfl rfl dX7_readsField_65 ?_
    refine z_cS (st := []) [.int l1, .int x3] zk_RX7_78 rfl (Nat.le_of_ble_eq_true rfl) dX7_readsField_66 (mX7_raised hV (d + 10) l1 x3 h5) (fun v7 h8 => ?_)
    refine z_vi (fun x9 => ?_)
    refine z_bipush (v := 64) (by decide) dX7_readsField_69 ?_
    refine z_icmp_le 83 (by decide) dX7_readsField_71 ?_ ?_
    · exact z_sub [1, 2, 0] rfl (rX7_readsField_83 hV l0 l1 x3 h8)
    · refine z_aload_n 1 rfl rfl dX7_readsField_74 ?_
      refine z_iconst (v := 2) (by decide) dX7_readsField_75 ?_
      refine z_aload_n 1 rfl rfl dX7_readsField_76 ?_
      refine z_gI zf_RX7_150 dX7_readsField_77 (fun x10 => ?_)
      refine z_cV (st := []) [.int 2, .int x10] zk_RX7_143 rfl (Nat.le_of_ble_eq_true rfl) dX7_readsField_80 (mX7_wrong hV (d + 11) l0 2 x10 h8) (fun v11 h12 => ?_)
      refine z_vn ?_
      exact z_sub [1, 2, 0] rfl (rX7_readsField_83 hV l0 l1 x3 h12)
def fX7_readsField_18 (l0 : Nat) (h : AH) : RR :=
  zcv (zob h l0 7) (fX7_number l0 2 64 h) fun v1 h2 =>
  zvi v1 fun x3 =>
  zcv (zob h2 l0 7) (fX7_fine l0 h2) fun v4 h5 =>
  zvi v4 fun x6 =>
  if x6 = 0 then (
    fX7_readsField_49 l0 x3 h5)
  else
  zca (fX7_isPrime x3 h5) fun v7 h8 =>
  zvi v7 fun x9 =>
  if x9 = 0 then (
    (zgI h8 l0 7 22).bind fun x10 =>
    zcv (zob h8 l0 7) (fX7_wrong l0 2 x10 h8) fun v11 h12 =>
    zvn v11 <|
    fX7_readsField_49 l0 x3 h12)
  else
  fX7_readsField_49 l0 x3 h8
set_option maxRecDepth 20000 in
theorem rX7_readsField_18 {X : CT} {V : VT} {d n0 k0 : Nat} (hV : V.2.2.2.2.2.stackTraces = false) (l0 : Nat) (h : AH) : zG X V RX7 "readsField" cX7_readsField 3 none (d + 13) n0 k0 (fX7_readsField_18 l0 h) 18 [(0, .ref l0)] [] h := by
  unfold fX7_readsField_18
  refine z_aload_n 0 rfl rfl dX7_readsField_18 ?_
  refine z_iconst (v := 2) (by decide) dX7_readsField_19 ?_
  refine z_bipush (v := 64) (by decide) dX7_readsField_20 ?_
  refine z_cV (st := []) [.int 2, .int 64] zk_RX7_169 rfl (Nat.le_of_ble_eq_true rfl) dX7_readsField_22 (mX7_number hV (d + 9) l0 2 64 h) (fun v1 h2 => ?_)
  refine z_vi (fun x3 => ?_)
  refine z_istore_n (lv' := [(1, .int x3), (0, .ref l0)]) rfl (by decide) rfl dX7_readsField_25 ?_
  refine z_aload_n 1 rfl rfl dX7_readsField_26 ?_
  refine z_cV (st := []) [] zk_RX7_124 rfl (Nat.le_of_ble_eq_true rfl) dX7_readsField_27 (mX7_fine hV (d + 11) l0 h2) (fun v4 h5 => ?_)
  refine z_vi (fun x6 => ?_)
  refine z_if_eq 49 (by decide) dX7_readsField_30 ?_ ?_
  · exact z_sub [1, 0] rfl (rX7_readsField_49 hV l0 x3 h5)
  · refine z_iload_n 0 rfl rfl dX7_readsField_33 ?_
    refine z_cS (st := []) [.int x3] zk_RX7_208 rfl (Nat.le_of_ble_eq_true rfl) dX7_readsField_34 (mX7_isPrime hV (d + 11) x3 h5) (fun v7 h8 => ?_)
    refine z_vi (fun x9 => ?_)
    refine z_if_ne 49 (by decide) dX7_readsField_37 ?_ ?_
    · refine z_aload_n 1 rfl rfl dX7_readsField_40 ?_
      refine z_iconst (v := 2) (by decide) dX7_readsField_41 ?_
      refine z_aload_n 1 rfl rfl dX7_readsField_42 ?_
      refine z_gI zf_RX7_150 dX7_readsField_43 (fun x10 => ?_)
      refine z_cV (st := []) [.int 2, .int x10] zk_RX7_143 rfl (Nat.le_of_ble_eq_true rfl) dX7_readsField_46 (mX7_wrong hV (d + 11) l0 2 x10 h8) (fun v11 h12 => ?_)
      refine z_vn ?_
      exact z_sub [1, 0] rfl (rX7_readsField_49 hV l0 x3 h12)
    · exact z_sub [1, 0] rfl (rX7_readsField_49 hV l0 x3 h8)
def fX7_readsField (a0 : Nat) (h : AH) : RR :=
  zcv (zob h a0 7) (fX7_takes a0 (UInt32.ofNat 3) h) fun v1 h2 =>
  zvi v1 fun x3 =>
  if x3 = 0 then (
    (zgI h2 a0 7 4).bind fun x4 =>
    zcv (zob h2 a0 7) (fX7_wrong a0 1 x4 h2) fun v5 h6 =>
    zvn v5 <|
    fX7_readsField_18 a0 h6)
  else
  fX7_readsField_18 a0 h2
set_option maxRecDepth 20000 in
theorem mX7_readsField {V : VT} (hV : V.2.2.2.2.2.stackTraces = false) (d : Nat) (a0 : Nat) (h : AH) : zM V yX7_readsField cX7_readsField 3 none (d + 13) [.ref a0] h (fX7_readsField a0 h) := by
  refine z_meth hV (by decide +kernel) (Nat.le_of_ble_eq_true rfl) [(0, .ref a0)] rfl (fun X => ?_)
  show zG X V RX7 "readsField" cX7_readsField 3 none (d + 13) h.1 h.2.1 (fX7_readsField a0 h) 0 [(0, .ref a0)] [] h
  unfold fX7_readsField
  refine z_aload_n 0 rfl rfl dX7_readsField_0 ?_
  refine z_ldcs 3 (by decide) zs_RX7_206 dX7_readsField_1 ?_
  refine z_cV (st := []) [.float (UInt32.ofNat 3)] zk_RX7_174 rfl (Nat.le_of_ble_eq_true rfl) dX7_readsField_3 (mX7_takes hV (d + 0) a0 (UInt32.ofNat 3) h) (fun v1 h2 => ?_)
  refine z_vi (fun x3 => ?_)
  refine z_if_ne 18 (by decide) dX7_readsField_6 ?_ ?_
  · refine z_aload_n 0 rfl rfl dX7_readsField_9 ?_
    refine z_iconst (v := 1) (by decide) dX7_readsField_10 ?_
    refine z_aload_n 0 rfl rfl dX7_readsField_11 ?_
    refine z_gI zf_RX7_111 dX7_readsField_12 (fun x4 => ?_)
    refine z_cV (st := []) [.int 1, .int x4] zk_RX7_143 rfl (Nat.le_of_ble_eq_true rfl) dX7_readsField_15 (mX7_wrong hV (d + 11) a0 1 x4 h2) (fun v5 h6 => ?_)
    refine z_vn ?_
    exact z_sub [0] rfl (rX7_readsField_18 hV a0 h6)
  · exact z_sub [0] rfl (rX7_readsField_18 hV a0 h2)
def fX7_remembers_50 (l0 : Nat) (h : AH) : RR :=
  (zgR h l0 7 9).bind fun x1 =>
  (zgR h l0 7 11).bind fun x2 =>
  (zgI h l0 7 12).bind fun x3 =>
  (zar h x2 x3).bind fun x4 =>
  zca (fX7_copies x1 x4 h) fun v5 h6 =>
  zvn v5 <|
  (zgI h6 l0 7 12).bind fun x7 =>
  (zpf h6 l0 7 12 (.int (x7 + 1))).bind fun h8 =>
  some (.inl none, h8)
set_option maxRecDepth 20000 in
theorem rX7_remembers_50 {X : CT} {V : VT} {d n0 k0 : Nat} (hV : V.2.2.2.2.2.stackTraces = false) (l0 : Nat) (h : AH) : zG X V RX7 "remembers" cX7_remembers 2 none (d + 2) n0 k0 (fX7_remembers_50 l0 h) 50 [(0, .ref l0)] [] h := by
  unfold fX7_remembers_50
  refine z_aload_n 0 rfl rfl dX7_remembers_50 ?_
  refine z_gR zf_RX7_20 dX7_remembers_51 (fun x1 => ?_)
  refine z_aload_n 0 rfl rfl dX7_remembers_54 ?_
  refine z_gR zf_RX7_28 dX7_remembers_55 (fun x2 => ?_)
  refine z_aload_n 0 rfl rfl dX7_remembers_58 ?_
  refine z_gI zf_RX7_234 dX7_remembers_59 (fun x3 => ?_)
  refine z_aR dX7_remembers_62 (fun x4 => ?_)
  refine z_cS (st := []) [.ref x1, .ref x4] zk_RX7_230 rfl (Nat.le_of_ble_eq_true rfl) dX7_remembers_63 (mX7_copies hV (d + 0) x1 x4 h) (fun v5 h6 => ?_)
  refine z_vn ?_
  refine z_aload_n 0 rfl rfl dX7_remembers_66 ?_
  refine z_dup rfl dX7_remembers_67 ?_
  refine z_gI zf_RX7_234 dX7_remembers_68 (fun x7 => ?_)
  refine z_iconst (v := 1) (by decide) dX7_remembers_71 ?_
  refine z_iadd dX7_remembers_72 ?_
  refine z_pI zf_RX7_234 zq_7_12 rfl dX7_remembers_73 (fun h8 => ?_)
  exact z_vret rfl dX7_remembers_76
def fX7_remembers_11 : Nat → Nat → Int32 → AH → RR
  | 0, _, _, _ => none
  | k + 1, l0, l1, h =>
  if 8 ≤ l1 then (
    (zgI h l0 7 12).bind fun x1 =>
    (zpf h l0 7 12 (.int (x1 - 1))).bind fun h2 =>
    fX7_remembers_50 l0 h2)
  else
  (zgR h l0 7 11).bind fun x3 =>
  (zar h x3 l1).bind fun x4 =>
  (zgR h l0 7 11).bind fun x5 =>
  (zar h x5 (l1 - 1)).bind fun x6 =>
  zca (fX7_copies x4 x6 h) fun v7 h8 =>
  zvn v7 <|
  fX7_remembers_11 k l0 (l1 + 1) h8
set_option maxRecDepth 20000 in
theorem rX7_remembers_11 {X : CT} {V : VT} {d n0 k0 : Nat} (hV : V.2.2.2.2.2.stackTraces = false) (fu : Nat) : ∀ (l0 : Nat) (l1 : Int32) (h : AH), zG X V RX7 "remembers" cX7_remembers 2 none (d + 2) n0 k0 (fX7_remembers_11 fu l0 l1 h) 11 [(0, .ref l0), (1, .int l1)] [] h := by
  induction fu with
  | zero => intros; exact z_none
  | succ k ih =>
    intro l0 l1 h
    rw [fX7_remembers_11]
    refine z_iload_n 1 rfl rfl dX7_remembers_11 ?_
    refine z_bipush (v := 8) (by decide) dX7_remembers_12 ?_
    refine z_icmp_ge 40 (by decide) dX7_remembers_14 ?_ ?_
    · refine z_aload_n 0 rfl rfl dX7_remembers_40 ?_
      refine z_dup rfl dX7_remembers_41 ?_
      refine z_gI zf_RX7_234 dX7_remembers_42 (fun x1 => ?_)
      refine z_iconst (v := 1) (by decide) dX7_remembers_45 ?_
      refine z_isub dX7_remembers_46 ?_
      refine z_pI zf_RX7_234 zq_7_12 rfl dX7_remembers_47 (fun h2 => ?_)
      exact z_sub [0] rfl (rX7_remembers_50 hV l0 h2)
    · refine z_aload_n 0 rfl rfl dX7_remembers_17 ?_
      refine z_gR zf_RX7_28 dX7_remembers_18 (fun x3 => ?_)
      refine z_iload_n 1 rfl rfl dX7_remembers_21 ?_
      refine z_aR dX7_remembers_22 (fun x4 => ?_)
      refine z_aload_n 0 rfl rfl dX7_remembers_23 ?_
      refine z_gR zf_RX7_28 dX7_remembers_24 (fun x5 => ?_)
      refine z_iload_n 1 rfl rfl dX7_remembers_27 ?_
      refine z_iconst (v := 1) (by decide) dX7_remembers_28 ?_
      refine z_isub dX7_remembers_29 ?_
      refine z_aR dX7_remembers_30 (fun x6 => ?_)
      refine z_cS (st := []) [.ref x4, .ref x6] zk_RX7_230 rfl (Nat.le_of_ble_eq_true rfl) dX7_remembers_31 (mX7_copies hV (d + 0) x4 x6 h) (fun v7 h8 => ?_)
      refine z_vn ?_
      refine z_inc (w := 1) (lv' := [(1, .int (l1 + 1)), (0, .ref l0)]) 1 rfl (by decide) (by decide) rfl dX7_remembers_34 ?_
      refine z_goto 11 (by decide) dX7_remembers_37 ?_
      exact z_sub [1, 0] rfl (ih l0 (l1 + 1) h8)
def fX7_remembers (a0 : Nat) (h : AH) : RR :=
  (zgI h a0 7 12).bind fun x1 =>
  if x1 = 8 then (
    fX7_remembers_11 FU a0 1 h)
  else
  fX7_remembers_50 a0 h
set_option maxRecDepth 20000 in
theorem mX7_remembers {V : VT} (hV : V.2.2.2.2.2.stackTraces = false) (d : Nat) (a0 : Nat) (h : AH) : zM V yX7_remembers cX7_remembers 2 none (d + 2) [.ref a0] h (fX7_remembers a0 h) := by
  refine z_meth hV (by decide +kernel) (Nat.le_of_ble_eq_true rfl) [(0, .ref a0)] rfl (fun X => ?_)
  show zG X V RX7 "remembers" cX7_remembers 2 none (d + 2) h.1 h.2.1 (fX7_remembers a0 h) 0 [(0, .ref a0)] [] h
  unfold fX7_remembers
  refine z_aload_n 0 rfl rfl dX7_remembers_0 ?_
  refine z_gI zf_RX7_234 dX7_remembers_1 (fun x1 => ?_)
  refine z_bipush (v := 8) (by decide) dX7_remembers_4 ?_
  refine z_icmp_ne 50 (by decide) dX7_remembers_6 ?_ ?_
  · refine z_iconst (v := 1) (by decide) dX7_remembers_9 ?_
    refine z_istore_n (lv' := [(1, .int 1), (0, .ref a0)]) rfl (by decide) rfl dX7_remembers_10 ?_
    exact z_sub [1, 0] rfl (rX7_remembers_11 hV FU a0 1 h)
  · exact z_sub [0] rfl (rX7_remembers_50 hV a0 h)
def fX7_text_132 (l0 : Nat) (h : AH) : RR :=
  (zgI h l0 7 7).bind fun x1 =>
  (zpf h l0 7 5 (.int x1)).bind fun h2 =>
  zcv (zob h2 l0 7) (fX7_fine l0 h2) fun v3 h4 =>
  zvi v3 fun x5 =>
  if x5 = 0 then (
    (zgI h4 l0 7 6).bind fun x6 =>
    some (.inl (some (.int (x6 - 10))), h4))
  else
  zcv (zob h4 l0 7) (fX7_remembers l0 h4) fun v7 h8 =>
  zvn v7 <|
  (zgR h8 l0 7 10).bind fun x9 =>
  (zgR h8 l0 7 9).bind fun x10 =>
  zca (fX7_copies x9 x10 h8) fun v11 h12 =>
  zvn v11 <|
  (zgR h12 l0 7 9).bind fun x13 =>
  (zai h12 x13 2).bind fun x14 =>
  some (.inl (some (.int x14)), h12)
set_option maxRecDepth 20000 in
theorem rX7_text_132 {X : CT} {V : VT} {d n0 k0 : Nat} (hV : V.2.2.2.2.2.stackTraces = false) (l0 : Nat) (h : AH) : zG X V RX7 "text" cX7_text 3 (some .int) (d + 63) n0 k0 (fX7_text_132 l0 h) 132 [(0, .ref l0)] [] h := by
  unfold fX7_text_132
  refine z_aload_n 0 rfl rfl dX7_text_132 ?_
  refine z_aload_n 0 rfl rfl dX7_text_133 ?_
  refine z_gI zf_RX7_121 dX7_text_134 (fun x1 => ?_)
  refine z_pI zf_RX7_13 zq_7_5 rfl dX7_text_137 (fun h2 => ?_)
  refine z_aload_n 0 rfl rfl dX7_text_140 ?_
  refine z_cV (st := []) [] zk_RX7_124 rfl (Nat.le_of_ble_eq_true rfl) dX7_text_141 (mX7_fine hV (d + 61) l0 h2) (fun v3 h4 => ?_)
  refine z_vi (fun x5 => ?_)
  refine z_if_ne 155 (by decide) dX7_text_144 ?_ ?_
  · refine z_aload_n 0 rfl rfl dX7_text_147 ?_
    refine z_gI zf_RX7_118 dX7_text_148 (fun x6 => ?_)
    refine z_bipush (v := 10) (by decide) dX7_text_151 ?_
    refine z_isub dX7_text_153 ?_
    exact z_iret rfl dX7_text_154
  · refine z_aload_n 0 rfl rfl dX7_text_155 ?_
    refine z_cV (st := []) [] zk_RX7_227 rfl (Nat.le_of_ble_eq_true rfl) dX7_text_156 (mX7_remembers hV (d + 60) l0 h4) (fun v7 h8 => ?_)
    refine z_vn ?_
    refine z_aload_n 0 rfl rfl dX7_text_159 ?_
    refine z_gR zf_RX7_23 dX7_text_160 (fun x9 => ?_)
    refine z_aload_n 0 rfl rfl dX7_text_163 ?_
    refine z_gR zf_RX7_20 dX7_text_164 (fun x10 => ?_)
    refine z_cS (st := []) [.ref x9, .ref x10] zk_RX7_230 rfl (Nat.le_of_ble_eq_true rfl) dX7_text_167 (mX7_copies hV (d + 61) x9 x10 h8) (fun v11 h12 => ?_)
    refine z_vn ?_
    refine z_aload_n 0 rfl rfl dX7_text_170 ?_
    refine z_gR zf_RX7_20 dX7_text_171 (fun x13 => ?_)
    refine z_iconst (v := 2) (by decide) dX7_text_174 ?_
    refine z_aI dX7_text_175 (fun x14 => ?_)
    exact z_iret rfl dX7_text_176
def fX7_text_86 : Nat → Nat → AH → RR
  | 0, _, _ => none
  | k + 1, l0, h =>
  zcv (zob h l0 7) (fX7_fine l0 h) fun v1 h2 =>
  zvi v1 fun x3 =>
  if x3 = 0 then (
    fX7_text_132 l0 h2)
  else
  zcv (zob h2 l0 7) (fX7_here l0 h2) fun v4 h5 =>
  zvi v4 fun x6 =>
  if x6 = (-1) then (
    fX7_text_132 l0 h5)
  else
  (zgI h5 l0 7 4).bind fun x7 =>
  zcv (zob h5 l0 7) (fX7_takes l0 (UInt32.ofNat 2) h5) fun v8 h9 =>
  zvi v8 fun x10 =>
  if x10 = 0 then (
    zcv (zob h9 l0 7) (fX7_wrong l0 1 x7 h9) fun v11 h12 =>
    zvn v11 <|
    fX7_text_86 k l0 h12)
  else
  zcv (zob h9 l0 7) (fX7_readsPoly l0 x7 h9) fun v13 h14 =>
  zvn v13 <|
  fX7_text_86 k l0 h14
set_option maxRecDepth 20000 in
theorem rX7_text_86 {X : CT} {V : VT} {d n0 k0 : Nat} (hV : V.2.2.2.2.2.stackTraces = false) (fu : Nat) : ∀ (l0 : Nat) (h : AH), zG X V RX7 "text" cX7_text 3 (some .int) (d + 63) n0 k0 (fX7_text_86 fu l0 h) 86 [(0, .ref l0)] [] h := by
  induction fu with
  | zero => intros; exact z_none
  | succ k ih =>
    intro l0 h
    rw [fX7_text_86]
    refine z_aload_n 0 rfl rfl dX7_text_86 ?_
    refine z_cV (st := []) [] zk_RX7_124 rfl (Nat.le_of_ble_eq_true rfl) dX7_text_87 (mX7_fine hV (d + 61) l0 h) (fun v1 h2 => ?_)
    refine z_vi (fun x3 => ?_)
    refine z_if_eq 132 (by decide) dX7_text_90 ?_ ?_
    · exact z_sub [0] rfl (rX7_text_132 hV l0 h2)
    · refine z_aload_n 0 rfl rfl dX7_text_93 ?_
      refine z_cV (st := []) [] zk_RX7_128 rfl (Nat.le_of_ble_eq_true rfl) dX7_text_94 (mX7_here hV (d + 60) l0 h2) (fun v4 h5 => ?_)
      refine z_vi (fun x6 => ?_)
      refine z_iconst (v := (-1)) (by decide) dX7_text_97 ?_
      refine z_icmp_eq 132 (by decide) dX7_text_98 ?_ ?_
      · exact z_sub [0] rfl (rX7_text_132 hV l0 h5)
      · refine z_aload_n 0 rfl rfl dX7_text_101 ?_
        refine z_gI zf_RX7_111 dX7_text_102 (fun x7 => ?_)
        refine z_istore_n (lv' := [(2, .int x7), (0, .ref l0)]) rfl (by decide) rfl dX7_text_105 ?_
        refine z_aload_n 1 rfl rfl dX7_text_106 ?_
        refine z_ldcs 2 (by decide) zs_RX7_222 dX7_text_107 ?_
        refine z_cV (st := []) [.float (UInt32.ofNat 2)] zk_RX7_174 rfl (Nat.le_of_ble_eq_true rfl) dX7_text_109 (mX7_takes hV (d + 50) l0 (UInt32.ofNat 2) h5) (fun v8 h9 => ?_)
        refine z_vi (fun x10 => ?_)
        refine z_if_eq 123 (by decide) dX7_text_112 ?_ ?_
        · refine z_aload_n 1 rfl rfl dX7_text_123 ?_
          refine z_iconst (v := 1) (by decide) dX7_text_124 ?_
          refine z_iload_n 0 rfl rfl dX7_text_125 ?_
          refine z_cV (st := []) [.int 1, .int x7] zk_RX7_143 rfl (Nat.le_of_ble_eq_true rfl) dX7_text_126 (mX7_wrong hV (d + 61) l0 1 x7 h9) (fun v11 h12 => ?_)
          refine z_vn ?_
          refine z_goto 86 (by decide) dX7_text_129 ?_
          exact z_sub [1] rfl (ih l0 h12)
        · refine z_aload_n 1 rfl rfl dX7_text_115 ?_
          refine z_iload_n 0 rfl rfl dX7_text_116 ?_
          refine z_cV (st := []) [.int x7] zk_RX7_224 rfl (Nat.le_of_ble_eq_true rfl) dX7_text_117 (mX7_readsPoly hV (d + 0) l0 x7 h9) (fun v13 h14 => ?_)
          refine z_vn ?_
          refine z_goto 129 (by decide) dX7_text_120 ?_
          refine z_goto 86 (by decide) dX7_text_129 ?_
          exact z_sub [1] rfl (ih l0 h14)
def fX7_text_62 : Nat → Nat → Int32 → AH → RR
  | 0, _, _, _ => none
  | k + 1, l0, l2, h =>
  if 387 ≤ l2 then (
    zcv (zob h l0 7) (fX7_readsField l0 h) fun v1 h2 =>
    zvn v1 <|
    fX7_text_86 FU l0 h2)
  else
  (zgR h l0 7 10).bind fun x3 =>
  (zsi h x3 l2 0).bind fun h4 =>
  fX7_text_62 k l0 (l2 + 1) h4
set_option maxRecDepth 20000 in
theorem rX7_text_62 {X : CT} {V : VT} {d n0 k0 : Nat} (hV : V.2.2.2.2.2.stackTraces = false) (fu : Nat) : ∀ (l0 : Nat) (l2 : Int32) (h : AH), zG X V RX7 "text" cX7_text 3 (some .int) (d + 63) n0 k0 (fX7_text_62 fu l0 l2 h) 62 [(0, .ref l0), (2, .int l2)] [] h := by
  induction fu with
  | zero => intros; exact z_none
  | succ k ih =>
    intro l0 l2 h
    rw [fX7_text_62]
    refine z_iload_n 1 rfl rfl dX7_text_62 ?_
    refine z_sipush (v := 387) (by decide) dX7_text_63 ?_
    refine z_icmp_ge 82 (by decide) dX7_text_66 ?_ ?_
    · refine z_aload_n 0 rfl rfl dX7_text_82 ?_
      refine z_cV (st := []) [] zk_RX7_219 rfl (Nat.le_of_ble_eq_true rfl) dX7_text_83 (mX7_readsField hV (d + 49) l0 h) (fun v1 h2 => ?_)
      refine z_vn ?_
      exact z_sub [0] rfl (rX7_text_86 hV FU l0 h2)
    · refine z_aload_n 0 rfl rfl dX7_text_69 ?_
      refine z_gR zf_RX7_23 dX7_text_70 (fun x3 => ?_)
      refine z_iload_n 1 rfl rfl dX7_text_73 ?_
      refine z_iconst (v := 0) (by decide) dX7_text_74 ?_
      refine z_sI dX7_text_75 (fun h4 => ?_)
      refine z_inc (w := 1) (lv' := [(2, .int (l2 + 1)), (0, .ref l0)]) 1 rfl (by decide) (by decide) rfl dX7_text_76 ?_
      refine z_goto 62 (by decide) dX7_text_79 ?_
      exact z_sub [1, 0] rfl (ih l0 (l2 + 1) h4)
def fX7_text_25 (l0 : Nat) (l1 : Int32) (s0 : Int32) (s1 : Nat) (h : AH) : RR :=
  zcv (zob h s1 7) (fX7_bad s1 s0 1 1 h) fun v1 h2 =>
  zvi v1 fun x3 =>
  if x3 = 0 then (
    (zpf h2 l0 7 2 (.int 0)).bind fun h4 =>
    (zpf h4 l0 7 3 (.int l1)).bind fun h5 =>
    (zpf h5 l0 7 4 (.int 0)).bind fun h6 =>
    (zpf h6 l0 7 6 (.int 0)).bind fun h7 =>
    (zpf h7 l0 7 7 (.int (-1))).bind fun h8 =>
    fX7_text_62 FU l0 0 h8)
  else
  some (.inl (some (.int 0)), h2)
set_option maxRecDepth 20000 in
theorem rX7_text_25 {X : CT} {V : VT} {d n0 k0 : Nat} (hV : V.2.2.2.2.2.stackTraces = false) (l0 : Nat) (l1 : Int32) (s0 : Int32) (s1 : Nat) (h : AH) : zG X V RX7 "text" cX7_text 3 (some .int) (d + 63) n0 k0 (fX7_text_25 l0 l1 s0 s1 h) 25 [(0, .ref l0), (1, .int l1)] [.int s0, .ref s1] h := by
  unfold fX7_text_25
  refine z_iconst (v := 1) (by decide) dX7_text_25 ?_
  refine z_iconst (v := 1) (by decide) dX7_text_26 ?_
  refine z_cV (st := []) [.int s0, .int 1, .int 1] zk_RX7_215 rfl (Nat.le_of_ble_eq_true rfl) dX7_text_27 (mX7_bad hV (d + 61) s1 s0 1 1 h) (fun v1 h2 => ?_)
  refine z_vi (fun x3 => ?_)
  refine z_if_eq 35 (by decide) dX7_text_30 ?_ ?_
  · refine z_aload_n 0 rfl rfl dX7_text_35 ?_
    refine z_iconst (v := 0) (by decide) dX7_text_36 ?_
    refine z_pI zf_RX7_61 zq_7_2 rfl dX7_text_37 (fun h4 => ?_)
    refine z_aload_n 0 rfl rfl dX7_text_40 ?_
    refine z_iload_n 1 rfl rfl dX7_text_41 ?_
    refine z_pI zf_RX7_108 zq_7_3 rfl dX7_text_42 (fun h5 => ?_)
    refine z_aload_n 0 rfl rfl dX7_text_45 ?_
    refine z_iconst (v := 0) (by decide) dX7_text_46 ?_
    refine z_pI zf_RX7_111 zq_7_4 rfl dX7_text_47 (fun h6 => ?_)
    refine z_aload_n 0 rfl rfl dX7_text_50 ?_
    refine z_iconst (v := 0) (by decide) dX7_text_51 ?_
    refine z_pI zf_RX7_118 zq_7_6 rfl dX7_text_52 (fun h7 => ?_)
    refine z_aload_n 0 rfl rfl dX7_text_55 ?_
    refine z_iconst (v := (-1)) (by decide) dX7_text_56 ?_
    refine z_pI zf_RX7_121 zq_7_7 rfl dX7_text_57 (fun h8 => ?_)
    refine z_iconst (v := 0) (by decide) dX7_text_60 ?_
    refine z_istore_n (lv' := [(2, .int 0), (0, .ref l0), (1, .int l1)]) rfl (by decide) rfl dX7_text_61 ?_
    exact z_sub [1, 0] rfl (rX7_text_62 hV FU l0 0 h8)
  · refine z_iconst (v := 0) (by decide) dX7_text_33 ?_
    exact z_iret rfl dX7_text_34
def fX7_text (a0 : Nat) (a1 : Int32) (h : AH) : RR :=
  (zpf h a0 7 0 (.int 0)).bind fun h1 =>
  (zgI h1 a0 7 2).bind fun x2 =>
  zca (fX7_in a1.toInt64 0 x2.toInt64 h1) fun v3 h4 =>
  zvi v3 fun x5 =>
  if x5 = 0 then (
    fX7_text_25 a0 a1 1 a0 h4)
  else
  fX7_text_25 a0 a1 0 a0 h4
set_option maxRecDepth 20000 in
theorem mX7_text {V : VT} (hV : V.2.2.2.2.2.stackTraces = false) (d : Nat) (a0 : Nat) (a1 : Int32) (h : AH) : zM V yX7_text cX7_text 3 (some .int) (d + 63) [.ref a0, .int a1] h (fX7_text a0 a1 h) := by
  refine z_meth hV (by decide +kernel) (Nat.le_of_ble_eq_true rfl) [(0, .ref a0), (1, .int a1)] rfl (fun X => ?_)
  show zG X V RX7 "text" cX7_text 3 (some .int) (d + 63) h.1 h.2.1 (fX7_text a0 a1 h) 0 [(0, .ref a0), (1, .int a1)] [] h
  unfold fX7_text
  refine z_aload_n 0 rfl rfl dX7_text_0 ?_
  refine z_iconst (v := 0) (by decide) dX7_text_1 ?_
  refine z_pI zf_RX7_58 zq_7_0 rfl dX7_text_2 (fun h1 => ?_)
  refine z_aload_n 0 rfl rfl dX7_text_5 ?_
  refine z_iload_n 1 rfl rfl dX7_text_6 ?_
  refine z_i2l dX7_text_7 ?_
  refine z_lconst (v := 0) (by decide) dX7_text_8 ?_
  refine z_aload_n 0 rfl rfl dX7_text_9 ?_
  refine z_gI zf_RX7_61 dX7_text_10 (fun x2 => ?_)
  refine z_i2l dX7_text_13 ?_
  refine z_cS (st := [.ref a0]) [.long a1.toInt64, .long 0, .long x2.toInt64] zk_RX7_154 rfl (Nat.le_of_ble_eq_true rfl) dX7_text_14 (mX7_in hV (d + 61) a1.toInt64 0 x2.toInt64 h1) (fun v3 h4 => ?_)
  refine z_vi (fun x5 => ?_)
  refine z_if_ne 24 (by decide) dX7_text_17 ?_ ?_
  · refine z_iconst (v := 1) (by decide) dX7_text_20 ?_
    refine z_goto 25 (by decide) dX7_text_21 ?_
    exact z_sub [0, 1] rfl (rX7_text_25 hV a0 a1 1 a0 h4)
  · refine z_iconst (v := 0) (by decide) dX7_text_24 ?_
    exact z_sub [0, 1] rfl (rX7_text_25 hV a0 a1 0 a0 h4)
def fX7_fault (a0 : Nat) (h : AH) : RR :=
  (zpf h a0 7 0 (.int 0)).bind fun h1 =>
  (zgI h1 a0 7 5).bind fun x2 =>
  some (.inl (some (.int x2)), h1)
set_option maxRecDepth 20000 in
theorem mX7_fault {V : VT} (hV : V.2.2.2.2.2.stackTraces = false) (d : Nat) (a0 : Nat) (h : AH) : zM V yX7_fault cX7_fault 1 (some .int) (d + 1) [.ref a0] h (fX7_fault a0 h) := by
  refine z_meth hV (by decide +kernel) (Nat.le_of_ble_eq_true rfl) [(0, .ref a0)] rfl (fun X => ?_)
  show zG X V RX7 "fault" cX7_fault 1 (some .int) (d + 1) h.1 h.2.1 (fX7_fault a0 h) 0 [(0, .ref a0)] [] h
  unfold fX7_fault
  refine z_aload_n 0 rfl rfl dX7_fault_0 ?_
  refine z_iconst (v := 0) (by decide) dX7_fault_1 ?_
  refine z_pI zf_RX7_58 zq_7_0 rfl dX7_fault_2 (fun h1 => ?_)
  refine z_aload_n 0 rfl rfl dX7_fault_5 ?_
  refine z_gI zf_RX7_13 dX7_fault_6 (fun x2 => ?_)
  exact z_iret rfl dX7_fault_9
