/-! printed by a program of ours (wip/whole/drive.py) out of the code -/
def fX7_dicksons_43 (K33 : Nat → Int32 → Int64 → Int32 → AH → RR) : Nat → Nat → Int32 → Int64 → Int32 → Int32 → AH → RR
  | 0, _, _, _, _, _, _ => none
  | k + 1, l0, l1, l2, l4, l5, h =>
  (zgI h l0 7 15).bind fun x1 =>
  if x1 ≤ l5 then (
    zcv (zob h l0 7) (fX7_areAll l0 h) fun v2 h3 =>
    zvi v2 fun x4 =>
    if x4 = 0 then (
      K33 l0 l1 l2 (l4 + 1) h3)
    else
    zletJ (l2 ||| ((1 : Int64) <<< (l4.toInt64 &&& 63))) fun w5 =>
    K33 l0 l1 w5 (l4 + 1) h3)
  else
  (zgR h l0 7 24).bind fun x6 =>
  zcv (zob h l0 7) (fX7_dickson l0 l4 l1 l5 h) fun v7 h8 =>
  zvi v7 fun x9 =>
  (zsi h8 x6 l5 x9).bind fun h10 =>
  fX7_dicksons_43 K33 k l0 l1 l2 l4 (l5 + 1) h10
set_option maxRecDepth 20000 in
theorem rX7_dicksons_43 {X : CT} {V : VT} {d n0 k0 : Nat} (hV : V.2.2.2.2.2.stackTraces = false) (K33 : Nat → Int32 → Int64 → Int32 → AH → RR) (hK33 : ∀ l0 l1 l2 l4  h, zG X V RX7 "dicksons" cX7_dicksons 6 (some .long) (d + 6) n0 k0 (K33 l0 l1 l2 l4 h) 33 [(0, .ref l0), (1, .int l1), (2, .long l2), (4, .int l4)] [] h) (fu : Nat) : ∀ (l0 : Nat) (l1 : Int32) (l2 : Int64) (l4 : Int32) (l5 : Int32) (h : AH), zG X V RX7 "dicksons" cX7_dicksons 6 (some .long) (d + 6) n0 k0 (fX7_dicksons_43 K33 fu l0 l1 l2 l4 l5 h) 43 [(0, .ref l0), (1, .int l1), (2, .long l2), (4, .int l4), (5, .int l5)] [] h := by
  induction fu with
  | zero => intros; exact z_none
  | succ k ih =>
    intro l0 l1 l2 l4 l5 h
    rw [fX7_dicksons_43]
    refine z_iload 4 rfl dX7_dicksons_43 ?_
    refine z_aload_n 0 rfl rfl dX7_dicksons_45 ?_
    refine z_gI zf_RX7_92 dX7_dicksons_46 (fun x1 => ?_)
    refine z_icmp_ge 74 (by decide) dX7_dicksons_49 ?_ ?_
    · refine z_aload_n 0 rfl rfl dX7_dicksons_74 ?_
      refine z_cV (st := []) [] zk_RX7_297 rfl (Nat.le_of_ble_eq_true rfl) dX7_dicksons_75 (mX7_areAll hV (d + 4) l0 h) (fun v2 h3 => ?_)
      refine z_vi (fun x4 => ?_)
      refine z_if_eq 88 (by decide) dX7_dicksons_78 ?_ ?_
      · refine z_inc (w := 1) (lv' := [(4, .int (l4 + 1)), (0, .ref l0), (1, .int l1), (2, .long l2), (5, .int l5)]) 3 rfl (by decide) (by decide) rfl dX7_dicksons_88 ?_
        refine z_goto 33 (by decide) dX7_dicksons_91 ?_
        exact z_sub [1, 2, 3, 0] rfl (hK33 l0 l1 l2 (l4 + 1) h3)
      · refine z_lload_n 2 rfl rfl dX7_dicksons_81 ?_
        refine z_lconst (v := 1) (by decide) dX7_dicksons_82 ?_
        refine z_iload 3 rfl dX7_dicksons_83 ?_
        refine z_lshl dX7_dicksons_85 ?_
        refine z_lor dX7_dicksons_86 ?_
        refine z_topJ (fun w5 => ?_)
        refine z_lstore_n (lv' := [(2, .long w5), (0, .ref l0), (1, .int l1), (4, .int l4), (5, .int l5)]) rfl (by decide) rfl dX7_dicksons_87 ?_
        refine z_inc (w := 1) (lv' := [(4, .int (l4 + 1)), (2, .long w5), (0, .ref l0), (1, .int l1), (5, .int l5)]) 3 rfl (by decide) (by decide) rfl dX7_dicksons_88 ?_
        refine z_goto 33 (by decide) dX7_dicksons_91 ?_
        exact z_sub [2, 3, 1, 0] rfl (hK33 l0 l1 w5 (l4 + 1) h3)
    · refine z_aload_n 0 rfl rfl dX7_dicksons_52 ?_
      refine z_gR zf_RX7_46 dX7_dicksons_53 (fun x6 => ?_)
      refine z_iload 4 rfl dX7_dicksons_56 ?_
      refine z_aload_n 0 rfl rfl dX7_dicksons_58 ?_
      refine z_iload 3 rfl dX7_dicksons_59 ?_
      refine z_iload_n 1 rfl rfl dX7_dicksons_61 ?_
      refine z_iload 4 rfl dX7_dicksons_62 ?_
      refine z_cV (st := [.int l5, .ref x6]) [.int l4, .int l1, .int l5] zk_RX7_192 rfl (Nat.le_of_ble_eq_true rfl) dX7_dicksons_64 (mX7_dickson hV (d + 3) l0 l4 l1 l5 h) (fun v7 h8 => ?_)
      refine z_vi (fun x9 => ?_)
      refine z_sI dX7_dicksons_67 (fun h10 => ?_)
      refine z_inc (w := 1) (lv' := [(5, .int (l5 + 1)), (0, .ref l0), (1, .int l1), (2, .long l2), (4, .int l4)]) 4 rfl (by decide) (by decide) rfl dX7_dicksons_68 ?_
      refine z_goto 43 (by decide) dX7_dicksons_71 ?_
      exact z_sub [1, 2, 3, 4, 0] rfl (ih l0 l1 l2 l4 (l5 + 1) h10)
def fX7_dicksons_33 : Nat → Nat → Int32 → Int64 → Int32 → AH → RR
  | 0, _, _, _, _, _ => none
  | k + 1, l0, l1, l2, l4, h =>
  if 64 ≤ l4 then (
    some (.inl (some (.long l2)), h))
  else
  fX7_dicksons_43 (fun p0 p1 p2 p4 h => fX7_dicksons_33 k p0 p1 p2 p4 h) FU l0 l1 l2 l4 0 h
set_option maxRecDepth 20000 in
theorem rX7_dicksons_33 {X : CT} {V : VT} {d n0 k0 : Nat} (hV : V.2.2.2.2.2.stackTraces = false) (fu : Nat) : ∀ (l0 : Nat) (l1 : Int32) (l2 : Int64) (l4 : Int32) (h : AH), zG X V RX7 "dicksons" cX7_dicksons 6 (some .long) (d + 6) n0 k0 (fX7_dicksons_33 fu l0 l1 l2 l4 h) 33 [(0, .ref l0), (1, .int l1), (2, .long l2), (4, .int l4)] [] h := by
  induction fu with
  | zero => intros; exact z_none
  | succ k ih =>
    intro l0 l1 l2 l4 h
    rw [fX7_dicksons_33]
    refine z_iload 3 rfl dX7_dicksons_33 ?_
    refine z_bipush (v := 64) (by decide) dX7_dicksons_35 ?_
    refine z_icmp_ge 94 (by decide) dX7_dicksons_37 ?_ ?_
    · refine z_lload_n 2 rfl rfl dX7_dicksons_94 ?_
      exact z_lret rfl dX7_dicksons_95
    · refine z_iconst (v := 0) (by decide) dX7_dicksons_40 ?_
      refine z_istore (lv' := [(5, .int 0), (0, .ref l0), (1, .int l1), (2, .long l2), (4, .int l4)]) (by decide) rfl dX7_dicksons_41 ?_
      exact z_sub [1, 2, 3, 4, 0] rfl (rX7_dicksons_43 hV (fun p0 p1 p2 p4 h => fX7_dicksons_33 k p0 p1 p2 p4 h) ih FU l0 l1 l2 l4 0 h)
def fX7_dicksons_18 (l0 : Nat) (l1 : Int32) (s0 : Int32) (s1 : Nat) (h : AH) : RR :=
  zcv (zob h s1 7) (fX7_bad s1 s0 1 0 h) fun v1 h2 =>
  zvi v1 fun x3 =>
  if x3 = 0 then (
    fX7_dicksons_33 FU l0 l1 0 1 h2)
  else
  some (.inl (some (.long 0)), h2)
set_option maxRecDepth 20000 in
theorem rX7_dicksons_18 {X : CT} {V : VT} {d n0 k0 : Nat} (hV : V.2.2.2.2.2.stackTraces = false) (l0 : Nat) (l1 : Int32) (s0 : Int32) (s1 : Nat) (h : AH) : zG X V RX7 "dicksons" cX7_dicksons 6 (some .long) (d + 6) n0 k0 (fX7_dicksons_18 l0 l1 s0 s1 h) 18 [(0, .ref l0), (1, .int l1)] [.int s0, .ref s1] h := by
  unfold fX7_dicksons_18
  refine z_iconst (v := 1) (by decide) dX7_dicksons_18 ?_
  refine z_iconst (v := 0) (by decide) dX7_dicksons_19 ?_
  refine z_cV (st := []) [.int s0, .int 1, .int 0] zk_RX7_215 rfl (Nat.le_of_ble_eq_true rfl) dX7_dicksons_20 (mX7_bad hV (d + 4) s1 s0 1 0 h) (fun v1 h2 => ?_)
  refine z_vi (fun x3 => ?_)
  refine z_if_eq 28 (by decide) dX7_dicksons_23 ?_ ?_
  · refine z_lconst (v := 0) (by decide) dX7_dicksons_28 ?_
    refine z_lstore_n (lv' := [(2, .long 0), (0, .ref l0), (1, .int l1)]) rfl (by decide) rfl dX7_dicksons_29 ?_
    refine z_iconst (v := 1) (by decide) dX7_dicksons_30 ?_
    refine z_istore (lv' := [(4, .int 1), (2, .long 0), (0, .ref l0), (1, .int l1)]) (by decide) rfl dX7_dicksons_31 ?_
    exact z_sub [2, 3, 1, 0] rfl (rX7_dicksons_33 hV FU l0 l1 0 1 h2)
  · refine z_lconst (v := 0) (by decide) dX7_dicksons_26 ?_
    exact z_lret rfl dX7_dicksons_27
def fX7_dicksons (a0 : Nat) (a1 : Int32) (h : AH) : RR :=
  zcv (zob h a0 7) (fX7_begins a0 h) fun v1 h2 =>
  zvn v1 <|
  zcv (zob h2 a0 7) (fX7_isPoint a0 a1 h2) fun v3 h4 =>
  zvi v3 fun x5 =>
  if x5 = 0 then (
    fX7_dicksons_18 a0 a1 1 a0 h4)
  else
  fX7_dicksons_18 a0 a1 0 a0 h4
set_option maxRecDepth 20000 in
theorem mX7_dicksons {V : VT} (hV : V.2.2.2.2.2.stackTraces = false) (d : Nat) (a0 : Nat) (a1 : Int32) (h : AH) : zM V yX7_dicksons cX7_dicksons 6 (some .long) (d + 6) [.ref a0, .int a1] h (fX7_dicksons a0 a1 h) := by
  refine z_meth hV (by decide +kernel) (Nat.le_of_ble_eq_true rfl) [(0, .ref a0), (1, .int a1)] rfl (fun X => ?_)
  show zG X V RX7 "dicksons" cX7_dicksons 6 (some .long) (d + 6) h.1 h.2.1 (fX7_dicksons a0 a1 h) 0 [(0, .ref a0), (1, .int a1)] [] h
  unfold fX7_dicksons
  refine z_aload_n 0 rfl rfl dX7_dicksons_0 ?_
  refine z_cV (st := []) [] zk_RX7_240 rfl (Nat.le_of_ble_eq_true rfl) dX7_dicksons_1 (mX7_begins hV (d + 0) a0 h) (fun v1 h2 => ?_)
  refine z_vn ?_
  refine z_aload_n 0 rfl rfl dX7_dicksons_4 ?_
  refine z_aload_n 0 rfl rfl dX7_dicksons_5 ?_
  refine z_iload_n 1 rfl rfl dX7_dicksons_6 ?_
  refine z_cV (st := [.ref a0]) [.int a1] zk_RX7_246 rfl (Nat.le_of_ble_eq_true rfl) dX7_dicksons_7 (mX7_isPoint hV (d + 3) a0 a1 h2) (fun v3 h4 => ?_)
  refine z_vi (fun x5 => ?_)
  refine z_if_ne 17 (by decide) dX7_dicksons_10 ?_ ?_
  · refine z_iconst (v := 1) (by decide) dX7_dicksons_13 ?_
    refine z_goto 18 (by decide) dX7_dicksons_14 ?_
    exact z_sub [0, 1] rfl (rX7_dicksons_18 hV a0 a1 1 a0 h4)
  · refine z_iconst (v := 0) (by decide) dX7_dicksons_17 ?_
    exact z_sub [0, 1] rfl (rX7_dicksons_18 hV a0 a1 0 a0 h4)
def fX7_binomials_49 (K38 : Nat → Int32 → Int32 → Int32 → AH → RR) : Nat → Nat → Int32 → Int32 → Int32 → Int32 → AH → RR
  | 0, _, _, _, _, _, _ => none
  | k + 1, l0, l1, l2, l3, l4, h =>
  (zgI h l0 7 15).bind fun x1 =>
  if x1 ≤ l4 then (
    zcv (zob h l0 7) (fX7_areAll l0 h) fun v2 h3 =>
    zvi v2 fun x4 =>
    if x4 = 0 then (
      K38 l0 l1 (l2 + 0) (l3 + 1) h3)
    else
    K38 l0 l1 (l2 + 1) (l3 + 1) h3)
  else
  (zgR h l0 7 24).bind fun x5 =>
  (zgR h l0 7 17).bind fun x6 =>
  zcv (zob h l0 7) (fX7_raisedPoint l0 l4 l1 h) fun v7 h8 =>
  zvi v7 fun x9 =>
  (zar h8 x6 x9).bind fun x10 =>
  (zgR h8 l0 7 18).bind fun x11 =>
  (zar h8 x11 l3).bind fun x12 =>
  (zai h8 x12 l4).bind fun x13 =>
  (zai h8 x10 x13).bind fun x14 =>
  (zsi h8 x5 l4 x14).bind fun h15 =>
  fX7_binomials_49 K38 k l0 l1 l2 l3 (l4 + 1) h15
set_option maxRecDepth 20000 in
theorem rX7_binomials_49 {X : CT} {V : VT} {d n0 k0 : Nat} (hV : V.2.2.2.2.2.stackTraces = false) (K38 : Nat → Int32 → Int32 → Int32 → AH → RR) (hK38 : ∀ l0 l1 l2 l3  h, zG X V RX7 "binomials" cX7_binomials 5 (some .int) (d + 6) n0 k0 (K38 l0 l1 l2 l3 h) 38 [(0, .ref l0), (1, .int l1), (2, .int l2), (3, .int l3)] [] h) (fu : Nat) : ∀ (l0 : Nat) (l1 : Int32) (l2 : Int32) (l3 : Int32) (l4 : Int32) (h : AH), zG X V RX7 "binomials" cX7_binomials 5 (some .int) (d + 6) n0 k0 (fX7_binomials_49 K38 fu l0 l1 l2 l3 l4 h) 49 [(0, .ref l0), (1, .int l1), (2, .int l2), (3, .int l3), (4, .int l4)] [] h := by
  induction fu with
  | zero => intros; exact z_none
  | succ k ih =>
    intro l0 l1 l2 l3 l4 h
    rw [fX7_binomials_49]
    refine z_iload 4 rfl dX7_binomials_49 ?_
    refine z_aload_n 0 rfl rfl dX7_binomials_51 ?_
    refine z_gI zf_RX7_92 dX7_binomials_52 (fun x1 => ?_)
    refine z_icmp_ge 93 (by decide) dX7_binomials_55 ?_ ?_
    · refine z_iload_n 2 rfl rfl dX7_binomials_93 ?_
      refine z_aload_n 0 rfl rfl dX7_binomials_94 ?_
      refine z_cV (st := [.int l2]) [] zk_RX7_297 rfl (Nat.le_of_ble_eq_true rfl) dX7_binomials_95 (mX7_areAll hV (d + 4) l0 h) (fun v2 h3 => ?_)
      refine z_vi (fun x4 => ?_)
      refine z_if_eq 105 (by decide) dX7_binomials_98 ?_ ?_
      · refine z_iconst (v := 0) (by decide) dX7_binomials_105 ?_
        refine z_iadd dX7_binomials_106 ?_
        refine z_istore_n (lv' := [(2, .int (l2 + 0)), (0, .ref l0), (1, .int l1), (3, .int l3), (4, .int l4)]) rfl (by decide) rfl dX7_binomials_107 ?_
        refine z_inc (w := 1) (lv' := [(3, .int (l3 + 1)), (2, .int (l2 + 0)), (0, .ref l0), (1, .int l1), (4, .int l4)]) 3 rfl (by decide) (by decide) rfl dX7_binomials_108 ?_
        refine z_goto 38 (by decide) dX7_binomials_111 ?_
        exact z_sub [2, 3, 1, 0] rfl (hK38 l0 l1 (l2 + 0) (l3 + 1) h3)
      · refine z_iconst (v := 1) (by decide) dX7_binomials_101 ?_
        refine z_goto 106 (by decide) dX7_binomials_102 ?_
        refine z_iadd dX7_binomials_106 ?_
        refine z_istore_n (lv' := [(2, .int (l2 + 1)), (0, .ref l0), (1, .int l1), (3, .int l3), (4, .int l4)]) rfl (by decide) rfl dX7_binomials_107 ?_
        refine z_inc (w := 1) (lv' := [(3, .int (l3 + 1)), (2, .int (l2 + 1)), (0, .ref l0), (1, .int l1), (4, .int l4)]) 3 rfl (by decide) (by decide) rfl dX7_binomials_108 ?_
        refine z_goto 38 (by decide) dX7_binomials_111 ?_
        exact z_sub [2, 3, 1, 0] rfl (hK38 l0 l1 (l2 + 1) (l3 + 1) h3)
    · refine z_aload_n 0 rfl rfl dX7_binomials_58 ?_
      refine z_gR zf_RX7_46 dX7_binomials_59 (fun x5 => ?_)
      refine z_iload 4 rfl dX7_binomials_62 ?_
      refine z_aload_n 0 rfl rfl dX7_binomials_64 ?_
      refine z_gR zf_RX7_31 dX7_binomials_65 (fun x6 => ?_)
      refine z_aload_n 0 rfl rfl dX7_binomials_68 ?_
      refine z_iload 4 rfl dX7_binomials_69 ?_
      refine z_iload_n 1 rfl rfl dX7_binomials_71 ?_
      refine z_cV (st := [.ref x6, .int l4, .ref x5]) [.int l4, .int l1] zk_RX7_197 rfl (Nat.le_of_ble_eq_true rfl) dX7_binomials_72 (mX7_raisedPoint hV (d + 4) l0 l4 l1 h) (fun v7 h8 => ?_)
      refine z_vi (fun x9 => ?_)
      refine z_aR dX7_binomials_75 (fun x10 => ?_)
      refine z_aload_n 0 rfl rfl dX7_binomials_76 ?_
      refine z_gR zf_RX7_34 dX7_binomials_77 (fun x11 => ?_)
      refine z_iload_n 3 rfl rfl dX7_binomials_80 ?_
      refine z_aR dX7_binomials_81 (fun x12 => ?_)
      refine z_iload 4 rfl dX7_binomials_82 ?_
      refine z_aI dX7_binomials_84 (fun x13 => ?_)
      refine z_aI dX7_binomials_85 (fun x14 => ?_)
      refine z_sI dX7_binomials_86 (fun h15 => ?_)
      refine z_inc (w := 1) (lv' := [(4, .int (l4 + 1)), (0, .ref l0), (1, .int l1), (2, .int l2), (3, .int l3)]) 4 rfl (by decide) (by decide) rfl dX7_binomials_87 ?_
      refine z_goto 49 (by decide) dX7_binomials_90 ?_
      exact z_sub [1, 2, 3, 4, 0] rfl (ih l0 l1 l2 l3 (l4 + 1) h15)
def fX7_binomials_38 : Nat → Nat → Int32 → Int32 → Int32 → AH → RR
  | 0, _, _, _, _, _ => none
  | k + 1, l0, l1, l2, l3, h =>
  (zgI h l0 7 15).bind fun x1 =>
  if x1 ≤ l3 then (
    some (.inl (some (.int l2)), h))
  else
  fX7_binomials_49 (fun p0 p1 p2 p3 h => fX7_binomials_38 k p0 p1 p2 p3 h) FU l0 l1 l2 l3 0 h
set_option maxRecDepth 20000 in
theorem rX7_binomials_38 {X : CT} {V : VT} {d n0 k0 : Nat} (hV : V.2.2.2.2.2.stackTraces = false) (fu : Nat) : ∀ (l0 : Nat) (l1 : Int32) (l2 : Int32) (l3 : Int32) (h : AH), zG X V RX7 "binomials" cX7_binomials 5 (some .int) (d + 6) n0 k0 (fX7_binomials_38 fu l0 l1 l2 l3 h) 38 [(0, .ref l0), (1, .int l1), (2, .int l2), (3, .int l3)] [] h := by
  induction fu with
  | zero => intros; exact z_none
  | succ k ih =>
    intro l0 l1 l2 l3 h
    rw [fX7_binomials_38]
    refine z_iload_n 3 rfl rfl dX7_binomials_38 ?_
    refine z_aload_n 0 rfl rfl dX7_binomials_39 ?_
    refine z_gI zf_RX7_92 dX7_binomials_40 (fun x1 => ?_)
    refine z_icmp_ge 114 (by decide) dX7_binomials_43 ?_ ?_
    · refine z_iload_n 2 rfl rfl dX7_binomials_114 ?_
      exact z_iret rfl dX7_binomials_115
    · refine z_iconst (v := 0) (by decide) dX7_binomials_46 ?_
      refine z_istore (lv' := [(4, .int 0), (0, .ref l0), (1, .int l1), (2, .int l2), (3, .int l3)]) (by decide) rfl dX7_binomials_47 ?_
      exact z_sub [1, 2, 3, 4, 0] rfl (rX7_binomials_49 hV (fun p0 p1 p2 p3 h => fX7_binomials_38 k p0 p1 p2 p3 h) ih FU l0 l1 l2 l3 0 h)
def fX7_binomials_24 (l0 : Nat) (l1 : Int32) (s0 : Int32) (s1 : Nat) (h : AH) : RR :=
  zcv (zob h s1 7) (fX7_bad s1 s0 1 1 h) fun v1 h2 =>
  zvi v1 fun x3 =>
  if x3 = 0 then (
    fX7_binomials_38 FU l0 l1 0 0 h2)
  else
  some (.inl (some (.int 0)), h2)
set_option maxRecDepth 20000 in
theorem rX7_binomials_24 {X : CT} {V : VT} {d n0 k0 : Nat} (hV : V.2.2.2.2.2.stackTraces = false) (l0 : Nat) (l1 : Int32) (s0 : Int32) (s1 : Nat) (h : AH) : zG X V RX7 "binomials" cX7_binomials 5 (some .int) (d + 6) n0 k0 (fX7_binomials_24 l0 l1 s0 s1 h) 24 [(0, .ref l0), (1, .int l1)] [.int s0, .ref s1] h := by
  unfold fX7_binomials_24
  refine z_iconst (v := 1) (by decide) dX7_binomials_24 ?_
  refine z_iconst (v := 1) (by decide) dX7_binomials_25 ?_
  refine z_cV (st := []) [.int s0, .int 1, .int 1] zk_RX7_215 rfl (Nat.le_of_ble_eq_true rfl) dX7_binomials_26 (mX7_bad hV (d + 4) s1 s0 1 1 h) (fun v1 h2 => ?_)
  refine z_vi (fun x3 => ?_)
  refine z_if_eq 34 (by decide) dX7_binomials_29 ?_ ?_
  · refine z_iconst (v := 0) (by decide) dX7_binomials_34 ?_
    refine z_istore_n (lv' := [(2, .int 0), (0, .ref l0), (1, .int l1)]) rfl (by decide) rfl dX7_binomials_35 ?_
    refine z_iconst (v := 0) (by decide) dX7_binomials_36 ?_
    refine z_istore_n (lv' := [(3, .int 0), (2, .int 0), (0, .ref l0), (1, .int l1)]) rfl (by decide) rfl dX7_binomials_37 ?_
    exact z_sub [2, 3, 1, 0] rfl (rX7_binomials_38 hV FU l0 l1 0 0 h2)
  · refine z_iconst (v := 0) (by decide) dX7_binomials_32 ?_
    exact z_iret rfl dX7_binomials_33
def fX7_binomials (a0 : Nat) (a1 : Int32) (h : AH) : RR :=
  zcv (zob h a0 7) (fX7_begins a0 h) fun v1 h2 =>
  zvn v1 <|
  zca (fX7_in a1.toInt64 2 63 h2) fun v3 h4 =>
  zvi v3 fun x5 =>
  if x5 = 0 then (
    fX7_binomials_24 a0 a1 1 a0 h4)
  else
  fX7_binomials_24 a0 a1 0 a0 h4
set_option maxRecDepth 20000 in
theorem mX7_binomials {V : VT} (hV : V.2.2.2.2.2.stackTraces = false) (d : Nat) (a0 : Nat) (a1 : Int32) (h : AH) : zM V yX7_binomials cX7_binomials 5 (some .int) (d + 6) [.ref a0, .int a1] h (fX7_binomials a0 a1 h) := by
  refine z_meth hV (by decide +kernel) (Nat.le_of_ble_eq_true rfl) [(0, .ref a0), (1, .int a1)] rfl (fun X => ?_)
  show zG X V RX7 "binomials" cX7_binomials 5 (some .int) (d + 6) h.1 h.2.1 (fX7_binomials a0 a1 h) 0 [(0, .ref a0), (1, .int a1)] [] h
  unfold fX7_binomials
  refine z_aload_n 0 rfl rfl dX7_binomials_0 ?_
  refine z_cV (st := []) [] zk_RX7_240 rfl (Nat.le_of_ble_eq_true rfl) dX7_binomials_1 (mX7_begins hV (d + 0) a0 h) (fun v1 h2 => ?_)
  refine z_vn ?_
  refine z_aload_n 0 rfl rfl dX7_binomials_4 ?_
  refine z_iload_n 1 rfl rfl dX7_binomials_5 ?_
  refine z_i2l dX7_binomials_6 ?_
  refine z_ldc2 zw_1361 dX7_binomials_7 ?_
  refine z_ldc2 zw_1362 dX7_binomials_10 ?_
  refine z_cS (st := [.ref a0]) [.long a1.toInt64, .long 2, .long 63] zk_RX7_154 rfl (Nat.le_of_ble_eq_true rfl) dX7_binomials_13 (mX7_in hV (d + 4) a1.toInt64 2 63 h2) (fun v3 h4 => ?_)
  refine z_vi (fun x5 => ?_)
  refine z_if_ne 23 (by decide) dX7_binomials_16 ?_ ?_
  · refine z_iconst (v := 1) (by decide) dX7_binomials_19 ?_
    refine z_goto 24 (by decide) dX7_binomials_20 ?_
    exact z_sub [0, 1] rfl (rX7_binomials_24 hV a0 a1 1 a0 h4)
  · refine z_iconst (v := 0) (by decide) dX7_binomials_23 ?_
    exact z_sub [0, 1] rfl (rX7_binomials_24 hV a0 a1 0 a0 h4)
def fX7_print_21 (K8 : Nat → Int64 → Int32 → AH → RR) : Nat → Nat → Int64 → Int32 → Int32 → AH → RR
  | 0, _, _, _, _, _ => none
  | k + 1, l0, l1, l3, l4, h =>
  (zgI h l0 7 15).bind fun x1 =>
  if x1 ≤ l4 then (
    K8 l0 l1 (l3 + 1) h)
  else
  zcv (zob h l0 7) (fX7_of l0 l3 l4 h) fun v2 h3 =>
  zvi v2 fun x4 =>
  zletJ (((31 : Int64) * l1) + x4.toInt64) fun w5 =>
  fX7_print_21 K8 k l0 w5 l3 (l4 + 1) h3
set_option maxRecDepth 20000 in
theorem rX7_print_21 {X : CT} {V : VT} {d n0 k0 : Nat} (hV : V.2.2.2.2.2.stackTraces = false) (K8 : Nat → Int64 → Int32 → AH → RR) (hK8 : ∀ l0 l1 l3  h, zG X V RX7 "print" cX7_print 5 (some .long) (d + 6) n0 k0 (K8 l0 l1 l3 h) 8 [(0, .ref l0), (1, .long l1), (3, .int l3)] [] h) (fu : Nat) : ∀ (l0 : Nat) (l1 : Int64) (l3 : Int32) (l4 : Int32) (h : AH), zG X V RX7 "print" cX7_print 5 (some .long) (d + 6) n0 k0 (fX7_print_21 K8 fu l0 l1 l3 l4 h) 21 [(0, .ref l0), (1, .long l1), (3, .int l3), (4, .int l4)] [] h := by
  induction fu with
  | zero => intros; exact z_none
  | succ k ih =>
    intro l0 l1 l3 l4 h
    rw [fX7_print_21]
    refine z_iload 3 rfl dX7_print_21 ?_
    refine z_aload_n 0 rfl rfl dX7_print_23 ?_
    refine z_gI zf_RX7_92 dX7_print_24 (fun x1 => ?_)
    refine z_icmp_ge 51 (by decide) dX7_print_27 ?_ ?_
    · refine z_inc (w := 1) (lv' := [(3, .int (l3 + 1)), (0, .ref l0), (1, .long l1), (4, .int l4)]) 2 rfl (by decide) (by decide) rfl dX7_print_51 ?_
      refine z_goto 8 (by decide) dX7_print_54 ?_
      exact z_sub [1, 2, 0] rfl (hK8 l0 l1 (l3 + 1) h)
    · refine z_ldc2 zw_1367 dX7_print_30 ?_
      refine z_lload_n 1 rfl rfl dX7_print_33 ?_
      refine z_lmul dX7_print_34 ?_
      refine z_aload_n 0 rfl rfl dX7_print_35 ?_
      refine z_iload_n 2 rfl rfl dX7_print_36 ?_
      refine z_iload 3 rfl dX7_print_37 ?_
      refine z_cV (st := [.long ((31 : Int64) * l1)]) [.int l3, .int l4] zk_RX7_237 rfl (Nat.le_of_ble_eq_true rfl) dX7_print_39 (mX7_of hV (d + 4) l0 l3 l4 h) (fun v2 h3 => ?_)
      refine z_vi (fun x4 => ?_)
      refine z_i2l dX7_print_42 ?_
      refine z_ladd dX7_print_43 ?_
      refine z_topJ (fun w5 => ?_)
      refine z_lstore_n (lv' := [(1, .long w5), (0, .ref l0), (3, .int l3), (4, .int l4)]) rfl (by decide) rfl dX7_print_44 ?_
      refine z_inc (w := 1) (lv' := [(4, .int (l4 + 1)), (1, .long w5), (0, .ref l0), (3, .int l3)]) 3 rfl (by decide) (by decide) rfl dX7_print_45 ?_
      refine z_goto 21 (by decide) dX7_print_48 ?_
      exact z_sub [2, 1, 3, 0] rfl (ih l0 w5 l3 (l4 + 1) h3)
def fX7_print_8 : Nat → Nat → Int64 → Int32 → AH → RR
  | 0, _, _, _, _ => none
  | k + 1, l0, l1, l3, h =>
  (zgR h l0 7 9).bind fun x1 =>
  (zai h x1 2).bind fun x2 =>
  if x2 ≤ l3 then (
    some (.inl (some (.long l1)), h))
  else
  fX7_print_21 (fun p0 p1 p3 h => fX7_print_8 k p0 p1 p3 h) FU l0 l1 l3 0 h
set_option maxRecDepth 20000 in
theorem rX7_print_8 {X : CT} {V : VT} {d n0 k0 : Nat} (hV : V.2.2.2.2.2.stackTraces = false) (fu : Nat) : ∀ (l0 : Nat) (l1 : Int64) (l3 : Int32) (h : AH), zG X V RX7 "print" cX7_print 5 (some .long) (d + 6) n0 k0 (fX7_print_8 fu l0 l1 l3 h) 8 [(0, .ref l0), (1, .long l1), (3, .int l3)] [] h := by
  induction fu with
  | zero => intros; exact z_none
  | succ k ih =>
    intro l0 l1 l3 h
    rw [fX7_print_8]
    refine z_iload_n 2 rfl rfl dX7_print_8 ?_
    refine z_aload_n 0 rfl rfl dX7_print_9 ?_
    refine z_gR zf_RX7_20 dX7_print_10 (fun x1 => ?_)
    refine z_iconst (v := 2) (by decide) dX7_print_13 ?_
    refine z_aI dX7_print_14 (fun x2 => ?_)
    refine z_icmp_ge 57 (by decide) dX7_print_15 ?_ ?_
    · refine z_lload_n 1 rfl rfl dX7_print_57 ?_
      exact z_lret rfl dX7_print_58
    · refine z_iconst (v := 0) (by decide) dX7_print_18 ?_
      refine z_istore (lv' := [(4, .int 0), (0, .ref l0), (1, .long l1), (3, .int l3)]) (by decide) rfl dX7_print_19 ?_
      exact z_sub [1, 2, 3, 0] rfl (rX7_print_21 hV (fun p0 p1 p3 h => fX7_print_8 k p0 p1 p3 h) ih FU l0 l1 l3 0 h)
def fX7_print (a0 : Nat) (h : AH) : RR :=
  zcv (zob h a0 7) (fX7_begins a0 h) fun v1 h2 =>
  zvn v1 <|
  fX7_print_8 FU a0 0 0 h2
set_option maxRecDepth 20000 in
theorem mX7_print {V : VT} (hV : V.2.2.2.2.2.stackTraces = false) (d : Nat) (a0 : Nat) (h : AH) : zM V yX7_print cX7_print 5 (some .long) (d + 6) [.ref a0] h (fX7_print a0 h) := by
  refine z_meth hV (by decide +kernel) (Nat.le_of_ble_eq_true rfl) [(0, .ref a0)] rfl (fun X => ?_)
  show zG X V RX7 "print" cX7_print 5 (some .long) (d + 6) h.1 h.2.1 (fX7_print a0 h) 0 [(0, .ref a0)] [] h
  unfold fX7_print
  refine z_aload_n 0 rfl rfl dX7_print_0 ?_
  refine z_cV (st := []) [] zk_RX7_240 rfl (Nat.le_of_ble_eq_true rfl) dX7_print_1 (mX7_begins hV (d + 0) a0 h) (fun v1 h2 => ?_)
  refine z_vn ?_
  refine z_lconst (v := 0) (by decide) dX7_print_4 ?_
  refine z_lstore_n (lv' := [(1, .long 0), (0, .ref a0)]) rfl (by decide) rfl dX7_print_5 ?_
  refine z_iconst (v := 0) (by decide) dX7_print_6 ?_
  refine z_istore_n (lv' := [(3, .int 0), (1, .long 0), (0, .ref a0)]) rfl (by decide) rfl dX7_print_7 ?_
  exact z_sub [2, 1, 0] rfl (rX7_print_8 hV FU a0 0 0 h2)
def fX7_status (a0 : Nat) (a1 : Int32) (h : AH) : RR :=
  (zpf h a0 7 0 (.int 0)).bind fun h1 =>
  zca (fX7_in a1.toInt64 0 2 h1) fun v2 h3 =>
  zvi v2 fun x4 =>
  if x4 = 0 then (
    some (.inl (some (.int (-1))), h3))
  else
  (zgR h3 a0 7 1).bind fun x5 =>
  (zai h3 x5 a1).bind fun x6 =>
  some (.inl (some (.int x6)), h3)
set_option maxRecDepth 20000 in
theorem mX7_status {V : VT} (hV : V.2.2.2.2.2.stackTraces = false) (d : Nat) (a0 : Nat) (a1 : Int32) (h : AH) : zM V yX7_status cX7_status 2 (some .int) (d + 2) [.ref a0, .int a1] h (fX7_status a0 a1 h) := by
  refine z_meth hV (by decide +kernel) (Nat.le_of_ble_eq_true rfl) [(0, .ref a0), (1, .int a1)] rfl (fun X => ?_)
  show zG X V RX7 "status" cX7_status 2 (some .int) (d + 2) h.1 h.2.1 (fX7_status a0 a1 h) 0 [(0, .ref a0), (1, .int a1)] [] h
  unfold fX7_status
  refine z_aload_n 0 rfl rfl dX7_status_0 ?_
  refine z_iconst (v := 0) (by decide) dX7_status_1 ?_
  refine z_pI zf_RX7_58 zq_7_0 rfl dX7_status_2 (fun h1 => ?_)
  refine z_iload_n 1 rfl rfl dX7_status_5 ?_
  refine z_i2l dX7_status_6 ?_
  refine z_lconst (v := 0) (by decide) dX7_status_7 ?_
  refine z_ldc2 zw_1361 dX7_status_8 ?_
  refine z_cS (st := []) [.long a1.toInt64, .long 0, .long 2] zk_RX7_154 rfl (Nat.le_of_ble_eq_true rfl) dX7_status_11 (mX7_in hV (d + 0) a1.toInt64 0 2 h1) (fun v2 h3 => ?_)
  refine z_vi (fun x4 => ?_)
  refine z_if_eq 26 (by decide) dX7_status_14 ?_ ?_
  · refine z_iconst (v := (-1)) (by decide) dX7_status_26 ?_
    exact z_iret rfl dX7_status_27
  · refine z_aload_n 0 rfl rfl dX7_status_17 ?_
    refine z_gR zf_RX7_9 dX7_status_18 (fun x5 => ?_)
    refine z_iload_n 1 rfl rfl dX7_status_21 ?_
    refine z_aI dX7_status_22 (fun x6 => ?_)
    refine z_goto 27 (by decide) dX7_status_23 ?_
    exact z_iret rfl dX7_status_27
