/-! printed by a program of ours (wip/whole/drive.py) out of the code -/
def fX0_sizeOf_4 : Nat → Int32 → Int32 → Int32 → Int32 → AH → RR
  | 0, _, _, _, _, _ => none
  | k + 1, l0, l1, l2, l3, h =>
  if l1 ≤ l3 then (
    some (.inl (some (.int l2)), h))
  else
  if 64 < l2 then (
    some (.inl (some (.int l2)), h))
  else
  fX0_sizeOf_4 k l0 l1 (l2 * l0) (l3 + 1) h
set_option maxRecDepth 20000 in
theorem rX0_sizeOf_4 {X : CT} {V : VT} {d n0 k0 : Nat} (hV : V.2.2.2.2.2.stackTraces = false) (fu : Nat) : ∀ (l0 : Int32) (l1 : Int32) (l2 : Int32) (l3 : Int32) (h : AH), zG X V RX0 "sizeOf" cX0_sizeOf 4 (some .int) (d + 1) n0 k0 (fX0_sizeOf_4 fu l0 l1 l2 l3 h) 4 [(0, .int l0), (1, .int l1), (2, .int l2), (3, .int l3)] [] h := by
  induction fu with
  | zero => intros; exact z_none
  | succ k ih =>
    intro l0 l1 l2 l3 h
    rw [fX0_sizeOf_4]
    refine z_iload_n 3 rfl rfl dX0_sizeOf_4 ?_
    refine z_iload_n 1 rfl rfl dX0_sizeOf_5 ?_
    refine z_icmp_ge 25 (by decide) dX0_sizeOf_6 ?_ ?_
    · refine z_iload_n 2 rfl rfl dX0_sizeOf_25 ?_
      exact z_iret rfl dX0_sizeOf_26
    · refine z_iload_n 2 rfl rfl dX0_sizeOf_9 ?_
      refine z_bipush (v := 64) (by decide) dX0_sizeOf_10 ?_
      refine z_icmp_gt 25 (by decide) dX0_sizeOf_12 ?_ ?_
      · refine z_iload_n 2 rfl rfl dX0_sizeOf_25 ?_
        exact z_iret rfl dX0_sizeOf_26
      · refine z_iload_n 2 rfl rfl dX0_sizeOf_15 ?_
        refine z_iload_n 0 rfl rfl dX0_sizeOf_16 ?_
        refine z_imul dX0_sizeOf_17 ?_
        refine z_istore_n (lv' := [(2, .int (l2 * l0)), (0, .int l0), (1, .int l1), (3, .int l3)]) rfl (by decide) rfl dX0_sizeOf_18 ?_
        refine z_inc (w := 1) (lv' := [(3, .int (l3 + 1)), (2, .int (l2 * l0)), (0, .int l0), (1, .int l1)]) 3 rfl (by decide) (by decide) rfl dX0_sizeOf_19 ?_
        refine z_goto 4 (by decide) dX0_sizeOf_22 ?_
        exact z_sub [2, 3, 1, 0] rfl (ih l0 l1 (l2 * l0) (l3 + 1) h)
def fX0_sizeOf (a0 : Int32) (a1 : Int32) (h : AH) : RR :=
  fX0_sizeOf_4 FU a0 a1 1 0 h
set_option maxRecDepth 20000 in
theorem mX0_sizeOf {V : VT} (hV : V.2.2.2.2.2.stackTraces = false) (d : Nat) (a0 : Int32) (a1 : Int32) (h : AH) : zM V yX0_sizeOf cX0_sizeOf 4 (some .int) (d + 1) [.int a0, .int a1] h (fX0_sizeOf a0 a1 h) := by
  refine z_meth hV (by decide +kernel) (Nat.le_of_ble_eq_true rfl) [(0, .int a0), (1, .int a1)] rfl (fun X => ?_)
  show zG X V RX0 "sizeOf" cX0_sizeOf 4 (some .int) (d + 1) h.1 h.2.1 (fX0_sizeOf a0 a1 h) 0 [(0, .int a0), (1, .int a1)] [] h
  unfold fX0_sizeOf
  refine z_iconst (v := 1) (by decide) dX0_sizeOf_0 ?_
  refine z_istore_n (lv' := [(2, .int 1), (0, .int a0), (1, .int a1)]) rfl (by decide) rfl dX0_sizeOf_1 ?_
  refine z_iconst (v := 0) (by decide) dX0_sizeOf_2 ?_
  refine z_istore_n (lv' := [(3, .int 0), (2, .int 1), (0, .int a0), (1, .int a1)]) rfl (by decide) rfl dX0_sizeOf_3 ?_
  exact z_sub [2, 3, 1, 0] rfl (rX0_sizeOf_4 hV FU a0 a1 1 0 h)
def fX0_leastModulus (a0 : Int32) (h : AH) : RR :=
  if a0 = 4 then (
    some (.inl (some (.int 3)), h))
  else
  if a0 = 8 then (
    some (.inl (some (.int 3)), h))
  else
  if a0 = 9 then (
    some (.inl (some (.int 1)), h))
  else
  if a0 = 16 then (
    some (.inl (some (.int 3)), h))
  else
  if a0 = 25 then (
    some (.inl (some (.int 2)), h))
  else
  if a0 = 27 then (
    some (.inl (some (.int 7)), h))
  else
  if a0 = 32 then (
    some (.inl (some (.int 5)), h))
  else
  if a0 = 49 then (
    some (.inl (some (.int 1)), h))
  else
  if a0 = 64 then (
    some (.inl (some (.int 3)), h))
  else
  some (.inl (some (.int 0)), h)
set_option maxRecDepth 20000 in
theorem mX0_leastModulus {V : VT} (hV : V.2.2.2.2.2.stackTraces = false) (d : Nat) (a0 : Int32) (h : AH) : zM V yX0_leastModulus cX0_leastModulus 1 (some .int) (d + 1) [.int a0] h (fX0_leastModulus a0 h) := by
  refine z_meth hV (by decide +kernel) (Nat.le_of_ble_eq_true rfl) [(0, .int a0)] rfl (fun X => ?_)
  show zG X V RX0 "leastModulus" cX0_leastModulus 1 (some .int) (d + 1) h.1 h.2.1 (fX0_leastModulus a0 h) 0 [(0, .int a0)] [] h
  unfold fX0_leastModulus
  refine z_iload_n 0 rfl rfl dX0_leastModulus_0 ?_
  refine z_if (fun q0 => ?_) (fun q0 => ?_)
  · refine z_look 84 (by decide) (by rw [q0]) (by decide) dX0_leastModulus_1 ?_
    refine z_iconst (v := 3) (by decide) dX0_leastModulus_84 ?_
    exact z_iret rfl dX0_leastModulus_85
  · refine z_if (fun q1 => ?_) (fun q1 => ?_)
    · refine z_look 84 (by decide) (by rw [q1]) (by decide) dX0_leastModulus_1 ?_
      refine z_iconst (v := 3) (by decide) dX0_leastModulus_84 ?_
      exact z_iret rfl dX0_leastModulus_85
    · refine z_if (fun q2 => ?_) (fun q2 => ?_)
      · refine z_look 88 (by decide) (by rw [q2]) (by decide) dX0_leastModulus_1 ?_
        refine z_iconst (v := 1) (by decide) dX0_leastModulus_88 ?_
        exact z_iret rfl dX0_leastModulus_89
      · refine z_if (fun q3 => ?_) (fun q3 => ?_)
        · refine z_look 84 (by decide) (by rw [q3]) (by decide) dX0_leastModulus_1 ?_
          refine z_iconst (v := 3) (by decide) dX0_leastModulus_84 ?_
          exact z_iret rfl dX0_leastModulus_85
        · refine z_if (fun q4 => ?_) (fun q4 => ?_)
          · refine z_look 93 (by decide) (by rw [q4]) (by decide) dX0_leastModulus_1 ?_
            refine z_iconst (v := 2) (by decide) dX0_leastModulus_93 ?_
            exact z_iret rfl dX0_leastModulus_94
          · refine z_if (fun q5 => ?_) (fun q5 => ?_)
            · refine z_look 90 (by decide) (by rw [q5]) (by decide) dX0_leastModulus_1 ?_
              refine z_bipush (v := 7) (by decide) dX0_leastModulus_90 ?_
              exact z_iret rfl dX0_leastModulus_92
            · refine z_if (fun q6 => ?_) (fun q6 => ?_)
              · refine z_look 86 (by decide) (by rw [q6]) (by decide) dX0_leastModulus_1 ?_
                refine z_iconst (v := 5) (by decide) dX0_leastModulus_86 ?_
                exact z_iret rfl dX0_leastModulus_87
              · refine z_if (fun q7 => ?_) (fun q7 => ?_)
                · refine z_look 88 (by decide) (by rw [q7]) (by decide) dX0_leastModulus_1 ?_
                  refine z_iconst (v := 1) (by decide) dX0_leastModulus_88 ?_
                  exact z_iret rfl dX0_leastModulus_89
                · refine z_if (fun q8 => ?_) (fun q8 => ?_)
                  · refine z_look 84 (by decide) (by rw [q8]) (by decide) dX0_leastModulus_1 ?_
                    refine z_iconst (v := 3) (by decide) dX0_leastModulus_84 ?_
                    exact z_iret rfl dX0_leastModulus_85
                  · refine z_look (off := 94) 95 (by decide) (by rw [lv_osw q0 (show Int32.toInt 4 = 4 from rfl)]; rw [lv_osw q1 (show Int32.toInt 8 = 8 from rfl)]; rw [lv_osw q2 (show Int32.toInt 9 = 9 from rfl)]; rw [lv_osw q3 (show Int32.toInt 16 = 16 from rfl)]; rw [lv_osw q4 (show Int32.toInt 25 = 25 from rfl)]; rw [lv_osw q5 (show Int32.toInt 27 = 27 from rfl)]; rw [lv_osw q6 (show Int32.toInt 32 = 32 from rfl)]; rw [lv_osw q7 (show Int32.toInt 49 = 49 from rfl)]; rw [lv_osw q8 (show Int32.toInt 64 = 64 from rfl)]; rfl) (by decide) dX0_leastModulus_1 ?_
                    refine z_iconst (v := 0) (by decide) dX0_leastModulus_95 ?_
                    exact z_iret rfl dX0_leastModulus_96
def fX0_sum (a0 : Nat) (a1 : Int32) (a2 : Int32) (h : AH) : RR :=
  (zgR h a0 0 4).bind fun x1 =>
  (zai h x1 ((a1 * 64) + a2)).bind fun x2 =>
  some (.inl (some (.int x2)), h)
set_option maxRecDepth 20000 in
theorem mX0_sum {V : VT} (hV : V.2.2.2.2.2.stackTraces = false) (d : Nat) (a0 : Nat) (a1 : Int32) (a2 : Int32) (h : AH) : zM V yX0_sum cX0_sum 3 (some .int) (d + 1) [.ref a0, .int a1, .int a2] h (fX0_sum a0 a1 a2 h) := by
  refine z_meth hV (by decide +kernel) (Nat.le_of_ble_eq_true rfl) [(0, .ref a0), (1, .int a1), (2, .int a2)] rfl (fun X => ?_)
  show zG X V RX0 "sum" cX0_sum 3 (some .int) (d + 1) h.1 h.2.1 (fX0_sum a0 a1 a2 h) 0 [(0, .ref a0), (1, .int a1), (2, .int a2)] [] h
  unfold fX0_sum
  refine z_aload_n 0 rfl rfl dX0_sum_0 ?_
  refine z_gR zf_RX0_9 dX0_sum_1 (fun x1 => ?_)
  refine z_iload_n 1 rfl rfl dX0_sum_4 ?_
  refine z_bipush (v := 64) (by decide) dX0_sum_5 ?_
  refine z_imul dX0_sum_7 ?_
  refine z_iload_n 2 rfl rfl dX0_sum_8 ?_
  refine z_iadd dX0_sum_9 ?_
  refine z_aI dX0_sum_10 (fun x2 => ?_)
  exact z_iret rfl dX0_sum_11
def fX0_fillSums_40 (K8 : Nat → Int32 → Int32 → Int32 → AH → RR) : Nat → Nat → Int32 → Int32 → Int32 → Int32 → AH → RR
  | 0, _, _, _, _, _, _ => none
  | k + 1, l0, l1, l2, l3, l4, h =>
  if l2 ≤ l4 then (
    K8 l0 l1 l2 (l3 + 1) h)
  else
  (zgR h l0 0 4).bind fun x1 =>
  if l1 = 0 then none else
  if l1 = 0 then none else
  zcv (zob h l0 0) (fX0_sum l0 (l3 / l1) (l4 / l1) h) fun v2 h3 =>
  zvi v2 fun x4 =>
  if l1 = 0 then none else
  if l1 = 0 then none else
  if l1 = 0 then none else
  (zsi h3 x1 ((l3 * 64) + l4) ((x4 * l1) + (((l3 - l3 / l1 * l1) + (l4 - l4 / l1 * l1)) - ((l3 - l3 / l1 * l1) + (l4 - l4 / l1 * l1)) / l1 * l1))).bind fun h5 =>
  fX0_fillSums_40 K8 k l0 l1 l2 l3 (l4 + 1) h5
set_option maxRecDepth 20000 in
theorem rX0_fillSums_40 {X : CT} {V : VT} {d n0 k0 : Nat} (hV : V.2.2.2.2.2.stackTraces = false) (K8 : Nat → Int32 → Int32 → Int32 → AH → RR) (hK8 : ∀ l0 l1 l2 l3  h, zG X V RX0 "fillSums" cX0_fillSums 5 none (d + 2) n0 k0 (K8 l0 l1 l2 l3 h) 8 [(0, .ref l0), (1, .int l1), (2, .int l2), (3, .int l3)] [] h) (fu : Nat) : ∀ (l0 : Nat) (l1 : Int32) (l2 : Int32) (l3 : Int32) (l4 : Int32) (h : AH), zG X V RX0 "fillSums" cX0_fillSums 5 none (d + 2) n0 k0 (fX0_fillSums_40 K8 fu l0 l1 l2 l3 l4 h) 40 [(0, .ref l0), (1, .int l1), (2, .int l2), (3, .int l3), (4, .int l4)] [] h := by
  induction fu with
  | zero => intros; exact z_none
  | succ k ih =>
    intro l0 l1 l2 l3 l4 h
    rw [fX0_fillSums_40]
    refine z_iload 4 rfl dX0_fillSums_40 ?_
    refine z_iload_n 2 rfl rfl dX0_fillSums_42 ?_
    refine z_icmp_ge 88 (by decide) dX0_fillSums_43 ?_ ?_
    · refine z_inc (w := 1) (lv' := [(3, .int (l3 + 1)), (0, .ref l0), (1, .int l1), (2, .int l2), (4, .int l4)]) 3 rfl (by decide) (by decide) rfl dX0_fillSums_88 ?_
      refine z_goto 8 (by decide) dX0_fillSums_91 ?_
      exact z_sub [1, 2, 3, 0] rfl (hK8 l0 l1 l2 (l3 + 1) h)
    · refine z_aload_n 0 rfl rfl dX0_fillSums_46 ?_
      refine z_gR zf_RX0_9 dX0_fillSums_47 (fun x1 => ?_)
      refine z_iload_n 3 rfl rfl dX0_fillSums_50 ?_
      refine z_bipush (v := 64) (by decide) dX0_fillSums_51 ?_
      refine z_imul dX0_fillSums_53 ?_
      refine z_iload 4 rfl dX0_fillSums_54 ?_
      refine z_iadd dX0_fillSums_56 ?_
      refine z_aload_n 0 rfl rfl dX0_fillSums_57 ?_
      refine z_iload_n 3 rfl rfl dX0_fillSums_58 ?_
      refine z_iload_n 1 rfl rfl dX0_fillSums_59 ?_
      refine z_idiv dX0_fillSums_60 ?_
      refine z_iload 4 rfl dX0_fillSums_61 ?_
      refine z_iload_n 1 rfl rfl dX0_fillSums_63 ?_
      refine z_idiv dX0_fillSums_64 ?_
      refine z_cV (st := [.int ((l3 * 64) + l4), .ref x1]) [.int (l3 / l1), .int (l4 / l1)] zk_RX0_61 rfl (Nat.le_of_ble_eq_true rfl) dX0_fillSums_65 (mX0_sum hV (d + 0) l0 (l3 / l1) (l4 / l1) h) (fun v2 h3 => ?_)
      refine z_vi (fun x4 => ?_)
      refine z_iload_n 1 rfl rfl dX0_fillSums_68 ?_
      refine z_imul dX0_fillSums_69 ?_
      refine z_iload_n 3 rfl rfl dX0_fillSums_70 ?_
      refine z_iload_n 1 rfl rfl dX0_fillSums_71 ?_
      refine z_irem dX0_fillSums_72 ?_
      refine z_iload 4 rfl dX0_fillSums_73 ?_
      refine z_iload_n 1 rfl rfl dX0_fillSums_75 ?_
      refine z_irem dX0_fillSums_76 ?_
      refine z_iadd dX0_fillSums_77 ?_
      refine z_iload_n 1 rfl rfl dX0_fillSums_78 ?_
      refine z_irem dX0_fillSums_79 ?_
      refine z_iadd dX0_fillSums_80 ?_
      refine z_sI dX0_fillSums_81 (fun h5 => ?_)
      refine z_inc (w := 1) (lv' := [(4, .int (l4 + 1)), (0, .ref l0), (1, .int l1), (2, .int l2), (3, .int l3)]) 4 rfl (by decide) (by decide) rfl dX0_fillSums_82 ?_
      refine z_goto 40 (by decide) dX0_fillSums_85 ?_
      exact z_sub [1, 2, 3, 4, 0] rfl (ih l0 l1 l2 l3 (l4 + 1) h5)
def fX0_fillSums_8 : Nat → Nat → Int32 → Int32 → Int32 → AH → RR
  | 0, _, _, _, _, _ => none
  | k + 1, l0, l1, l2, l3, h =>
  if l2 ≤ l3 then (
    some (.inl none, h))
  else
  (zgR h l0 0 6).bind fun x1 =>
  (zgR h l0 0 6).bind fun x2 =>
  if l1 = 0 then none else
  (zai h x2 (l3 / l1)).bind fun x3 =>
  if l1 = 0 then none else
  if l1 = 0 then none else
  (zsi h x1 l3 ((x3 * l1) + ((l1 - (l3 - l3 / l1 * l1)) - (l1 - (l3 - l3 / l1 * l1)) / l1 * l1))).bind fun h4 =>
  fX0_fillSums_40 (fun p0 p1 p2 p3 h => fX0_fillSums_8 k p0 p1 p2 p3 h) FU l0 l1 l2 l3 0 h4
set_option maxRecDepth 20000 in
theorem rX0_fillSums_8 {X : CT} {V : VT} {d n0 k0 : Nat} (hV : V.2.2.2.2.2.stackTraces = false) (fu : Nat) : ∀ (l0 : Nat) (l1 : Int32) (l2 : Int32) (l3 : Int32) (h : AH), zG X V RX0 "fillSums" cX0_fillSums 5 none (d + 2) n0 k0 (fX0_fillSums_8 fu l0 l1 l2 l3 h) 8 [(0, .ref l0), (1, .int l1), (2, .int l2), (3, .int l3)] [] h := by
  induction fu with
  | zero => intros; exact z_none
  | succ k ih =>
    intro l0 l1 l2 l3 h
    rw [fX0_fillSums_8]
    refine z_iload_n 3 rfl rfl dX0_fillSums_8 ?_
    refine z_iload_n 2 rfl rfl dX0_fillSums_9 ?_
    refine z_icmp_ge 94 (by decide) dX0_fillSums_10 ?_ ?_
    · exact z_vret rfl dX0_fillSums_94
    · refine z_aload_n 0 rfl rfl dX0_fillSums_13 ?_
      refine z_gR zf_RX0_18 dX0_fillSums_14 (fun x1 => ?_)
      refine z_iload_n 3 rfl rfl dX0_fillSums_17 ?_
      refine z_aload_n 0 rfl rfl dX0_fillSums_18 ?_
      refine z_gR zf_RX0_18 dX0_fillSums_19 (fun x2 => ?_)
      refine z_iload_n 3 rfl rfl dX0_fillSums_22 ?_
      refine z_iload_n 1 rfl rfl dX0_fillSums_23 ?_
      refine z_idiv dX0_fillSums_24 ?_
      refine z_aI dX0_fillSums_25 (fun x3 => ?_)
      refine z_iload_n 1 rfl rfl dX0_fillSums_26 ?_
      refine z_imul dX0_fillSums_27 ?_
      refine z_iload_n 1 rfl rfl dX0_fillSums_28 ?_
      refine z_iload_n 3 rfl rfl dX0_fillSums_29 ?_
      refine z_iload_n 1 rfl rfl dX0_fillSums_30 ?_
      refine z_irem dX0_fillSums_31 ?_
      refine z_isub dX0_fillSums_32 ?_
      refine z_iload_n 1 rfl rfl dX0_fillSums_33 ?_
      refine z_irem dX0_fillSums_34 ?_
      refine z_iadd dX0_fillSums_35 ?_
      refine z_sI dX0_fillSums_36 (fun h4 => ?_)
      refine z_iconst (v := 0) (by decide) dX0_fillSums_37 ?_
      refine z_istore (lv' := [(4, .int 0), (0, .ref l0), (1, .int l1), (2, .int l2), (3, .int l3)]) (by decide) rfl dX0_fillSums_38 ?_
      exact z_sub [1, 2, 3, 4, 0] rfl (rX0_fillSums_40 hV (fun p0 p1 p2 p3 h => fX0_fillSums_8 k p0 p1 p2 p3 h) ih FU l0 l1 l2 l3 0 h4)
def fX0_fillSums (a0 : Nat) (a1 : Int32) (a2 : Int32) (h : AH) : RR :=
  if 2 ≤ a1 then (
    fX0_fillSums_8 FU a0 a1 a2 0 h)
  else
  some (.inl none, h)
set_option maxRecDepth 20000 in
theorem mX0_fillSums {V : VT} (hV : V.2.2.2.2.2.stackTraces = false) (d : Nat) (a0 : Nat) (a1 : Int32) (a2 : Int32) (h : AH) : zM V yX0_fillSums cX0_fillSums 5 none (d + 2) [.ref a0, .int a1, .int a2] h (fX0_fillSums a0 a1 a2 h) := by
  refine z_meth hV (by decide +kernel) (Nat.le_of_ble_eq_true rfl) [(0, .ref a0), (1, .int a1), (2, .int a2)] rfl (fun X => ?_)
  show zG X V RX0 "fillSums" cX0_fillSums 5 none (d + 2) h.1 h.2.1 (fX0_fillSums a0 a1 a2 h) 0 [(0, .ref a0), (1, .int a1), (2, .int a2)] [] h
  unfold fX0_fillSums
  refine z_iload_n 1 rfl rfl dX0_fillSums_0 ?_
  refine z_iconst (v := 2) (by decide) dX0_fillSums_1 ?_
  refine z_icmp_ge 6 (by decide) dX0_fillSums_2 ?_ ?_
  · refine z_iconst (v := 0) (by decide) dX0_fillSums_6 ?_
    refine z_istore_n (lv' := [(3, .int 0), (0, .ref a0), (1, .int a1), (2, .int a2)]) rfl (by decide) rfl dX0_fillSums_7 ?_
    exact z_sub [1, 2, 3, 0] rfl (rX0_fillSums_8 hV FU a0 a1 a2 0 h)
  · exact z_vret rfl dX0_fillSums_5
def fX0_fillRisen_60 (K13 : Nat → Int32 → Int32 → Int32 → Int32 → AH → RR) (l0 : Nat) (l1 : Int32) (l2 : Int32) (l3 : Int32) (l4 : Int32) (s0 : Int32) (s1 : Int32) (s2 : Nat) (h : AH) : RR :=
  (zsi h s2 s1 s0).bind fun h1 =>
  K13 l0 l1 l2 l3 (l4 + 1) h1
set_option maxRecDepth 20000 in
theorem rX0_fillRisen_60 {X : CT} {V : VT} {d n0 k0 : Nat} (hV : V.2.2.2.2.2.stackTraces = false) (K13 : Nat → Int32 → Int32 → Int32 → Int32 → AH → RR) (hK13 : ∀ l0 l1 l2 l3 l4  h, zG X V RX0 "fillRisen" cX0_fillRisen 5 none (d + 2) n0 k0 (K13 l0 l1 l2 l3 l4 h) 13 [(0, .ref l0), (1, .int l1), (2, .int l2), (3, .int l3), (4, .int l4)] [] h) (l0 : Nat) (l1 : Int32) (l2 : Int32) (l3 : Int32) (l4 : Int32) (s0 : Int32) (s1 : Int32) (s2 : Nat) (h : AH) : zG X V RX0 "fillRisen" cX0_fillRisen 5 none (d + 2) n0 k0 (fX0_fillRisen_60 K13 l0 l1 l2 l3 l4 s0 s1 s2 h) 60 [(0, .ref l0), (1, .int l1), (2, .int l2), (3, .int l3), (4, .int l4)] [.int s0, .int s1, .ref s2] h := by
  unfold fX0_fillRisen_60
  refine z_sI dX0_fillRisen_60 (fun h1 => ?_)
  refine z_inc (w := 1) (lv' := [(4, .int (l4 + 1)), (0, .ref l0), (1, .int l1), (2, .int l2), (3, .int l3)]) 4 rfl (by decide) (by decide) rfl dX0_fillRisen_61 ?_
  refine z_goto 13 (by decide) dX0_fillRisen_64 ?_
  exact z_sub [1, 2, 3, 4, 0] rfl (hK13 l0 l1 l2 l3 (l4 + 1) h1)
def fX0_fillRisen_13 : Nat → Nat → Int32 → Int32 → Int32 → Int32 → AH → RR
  | 0, _, _, _, _, _, _ => none
  | k + 1, l0, l1, l2, l3, l4, h =>
  if l2 ≤ l4 then (
    some (.inl none, h))
  else
  (zgR h l0 0 8).bind fun x1 =>
  if l3 ≤ l4 then (
    (zgR h l0 0 8).bind fun x2 =>
    (zai h x2 (l4 - l3)).bind fun x3 =>
    (zgR h l0 0 6).bind fun x4 =>
    (zgI h l0 0 3).bind fun x5 =>
    (zai h x4 x5).bind fun x6 =>
    zcv (zob h l0 0) (fX0_sum l0 x3 x6 h) fun v7 h8 =>
    zvi v7 fun x9 =>
    fX0_fillRisen_60 (fun p0 p1 p2 p3 p4 h => fX0_fillRisen_13 k p0 p1 p2 p3 p4 h) l0 l1 l2 l3 l4 x9 l4 x1 h8)
  else
  fX0_fillRisen_60 (fun p0 p1 p2 p3 p4 h => fX0_fillRisen_13 k p0 p1 p2 p3 p4 h) l0 l1 l2 l3 l4 (l4 * l1) l4 x1 h
set_option maxRecDepth 20000 in
theorem rX0_fillRisen_13 {X : CT} {V : VT} {d n0 k0 : Nat} (hV : V.2.2.2.2.2.stackTraces = false) (fu : Nat) : ∀ (l0 : Nat) (l1 : Int32) (l2 : Int32) (l3 : Int32) (l4 : Int32) (h : AH), zG X V RX0 "fillRisen" cX0_fillRisen 5 none (d + 2) n0 k0 (fX0_fillRisen_13 fu l0 l1 l2 l3 l4 h) 13 [(0, .ref l0), (1, .int l1), (2, .int l2), (3, .int l3), (4, .int l4)] [] h := by
  induction fu with
  | zero => intros; exact z_none
  | succ k ih =>
    intro l0 l1 l2 l3 l4 h
    rw [fX0_fillRisen_13]
    refine z_iload 4 rfl dX0_fillRisen_13 ?_
    refine z_iload_n 2 rfl rfl dX0_fillRisen_15 ?_
    refine z_icmp_ge 67 (by decide) dX0_fillRisen_16 ?_ ?_
    · exact z_vret rfl dX0_fillRisen_67
    · refine z_aload_n 0 rfl rfl dX0_fillRisen_19 ?_
      refine z_gR zf_RX0_24 dX0_fillRisen_20 (fun x1 => ?_)
      refine z_iload 4 rfl dX0_fillRisen_23 ?_
      refine z_iload 4 rfl dX0_fillRisen_25 ?_
      refine z_iload_n 3 rfl rfl dX0_fillRisen_27 ?_
      refine z_icmp_ge 38 (by decide) dX0_fillRisen_28 ?_ ?_
      · refine z_aload_n 0 rfl rfl dX0_fillRisen_38 ?_
        refine z_aload_n 0 rfl rfl dX0_fillRisen_39 ?_
        refine z_gR zf_RX0_24 dX0_fillRisen_40 (fun x2 => ?_)
        refine z_iload 4 rfl dX0_fillRisen_43 ?_
        refine z_iload_n 3 rfl rfl dX0_fillRisen_45 ?_
        refine z_isub dX0_fillRisen_46 ?_
        refine z_aI dX0_fillRisen_47 (fun x3 => ?_)
        refine z_aload_n 0 rfl rfl dX0_fillRisen_48 ?_
        refine z_gR zf_RX0_18 dX0_fillRisen_49 (fun x4 => ?_)
        refine z_aload_n 0 rfl rfl dX0_fillRisen_52 ?_
        refine z_gI zf_RX0_49 dX0_fillRisen_53 (fun x5 => ?_)
        refine z_aI dX0_fillRisen_56 (fun x6 => ?_)
        refine z_cV (st := [.int l4, .ref x1]) [.int x3, .int x6] zk_RX0_61 rfl (Nat.le_of_ble_eq_true rfl) dX0_fillRisen_57 (mX0_sum hV (d + 0) l0 x3 x6 h) (fun v7 h8 => ?_)
        refine z_vi (fun x9 => ?_)
        exact z_sub [0, 1, 2, 3, 4] rfl (rX0_fillRisen_60 hV (fun p0 p1 p2 p3 p4 h => fX0_fillRisen_13 k p0 p1 p2 p3 p4 h) ih l0 l1 l2 l3 l4 x9 l4 x1 h8)
      · refine z_iload 4 rfl dX0_fillRisen_31 ?_
        refine z_iload_n 1 rfl rfl dX0_fillRisen_33 ?_
        refine z_imul dX0_fillRisen_34 ?_
        refine z_goto 60 (by decide) dX0_fillRisen_35 ?_
        exact z_sub [0, 1, 2, 3, 4] rfl (rX0_fillRisen_60 hV (fun p0 p1 p2 p3 p4 h => fX0_fillRisen_13 k p0 p1 p2 p3 p4 h) ih l0 l1 l2 l3 l4 (l4 * l1) l4 x1 h)
def fX0_fillRisen (a0 : Nat) (a1 : Int32) (a2 : Int32) (h : AH) : RR :=
  if 2 ≤ a1 then (
    if a1 = 0 then none else
    fX0_fillRisen_13 FU a0 a1 a2 (a2 / a1) 0 h)
  else
  some (.inl none, h)
set_option maxRecDepth 20000 in
theorem mX0_fillRisen {V : VT} (hV : V.2.2.2.2.2.stackTraces = false) (d : Nat) (a0 : Nat) (a1 : Int32) (a2 : Int32) (h : AH) : zM V yX0_fillRisen cX0_fillRisen 5 none (d + 2) [.ref a0, .int a1, .int a2] h (fX0_fillRisen a0 a1 a2 h) := by
  refine z_meth hV (by decide +kernel) (Nat.le_of_ble_eq_true rfl) [(0, .ref a0), (1, .int a1), (2, .int a2)] rfl (fun X => ?_)
  show zG X V RX0 "fillRisen" cX0_fillRisen 5 none (d + 2) h.1 h.2.1 (fX0_fillRisen a0 a1 a2 h) 0 [(0, .ref a0), (1, .int a1), (2, .int a2)] [] h
  unfold fX0_fillRisen
  refine z_iload_n 1 rfl rfl dX0_fillRisen_0 ?_
  refine z_iconst (v := 2) (by decide) dX0_fillRisen_1 ?_
  refine z_icmp_ge 6 (by decide) dX0_fillRisen_2 ?_ ?_
  · refine z_iload_n 2 rfl rfl dX0_fillRisen_6 ?_
    refine z_iload_n 1 rfl rfl dX0_fillRisen_7 ?_
    refine z_idiv dX0_fillRisen_8 ?_
    refine z_istore_n (lv' := [(3, .int (a2 / a1)), (0, .ref a0), (1, .int a1), (2, .int a2)]) rfl (by decide) rfl dX0_fillRisen_9 ?_
    refine z_iconst (v := 0) (by decide) dX0_fillRisen_10 ?_
    refine z_istore (lv' := [(4, .int 0), (3, .int (a2 / a1)), (0, .ref a0), (1, .int a1), (2, .int a2)]) (by decide) rfl dX0_fillRisen_11 ?_
    exact z_sub [2, 3, 4, 1, 0] rfl (rX0_fillRisen_13 hV FU a0 a1 a2 (a2 / a1) 0 h)
  · exact z_vret rfl dX0_fillRisen_5
def fX0_product (a0 : Nat) (a1 : Int32) (a2 : Int32) (h : AH) : RR :=
  (zgR h a0 0 5).bind fun x1 =>
  (zai h x1 ((a1 * 64) + a2)).bind fun x2 =>
  some (.inl (some (.int x2)), h)
set_option maxRecDepth 20000 in
theorem mX0_product {V : VT} (hV : V.2.2.2.2.2.stackTraces = false) (d : Nat) (a0 : Nat) (a1 : Int32) (a2 : Int32) (h : AH) : zM V yX0_product cX0_product 3 (some .int) (d + 1) [.ref a0, .int a1, .int a2] h (fX0_product a0 a1 a2 h) := by
  refine z_meth hV (by decide +kernel) (Nat.le_of_ble_eq_true rfl) [(0, .ref a0), (1, .int a1), (2, .int a2)] rfl (fun X => ?_)
  show zG X V RX0 "product" cX0_product 3 (some .int) (d + 1) h.1 h.2.1 (fX0_product a0 a1 a2 h) 0 [(0, .ref a0), (1, .int a1), (2, .int a2)] [] h
  unfold fX0_product
  refine z_aload_n 0 rfl rfl dX0_product_0 ?_
  refine z_gR zf_RX0_15 dX0_product_1 (fun x1 => ?_)
  refine z_iload_n 1 rfl rfl dX0_product_4 ?_
  refine z_bipush (v := 64) (by decide) dX0_product_5 ?_
  refine z_imul dX0_product_7 ?_
  refine z_iload_n 2 rfl rfl dX0_product_8 ?_
  refine z_iadd dX0_product_9 ?_
  refine z_aI dX0_product_10 (fun x2 => ?_)
  exact z_iret rfl dX0_product_11
def fX0_fillProducts_82 (K8 : Nat → Int32 → Int32 → Int32 → AH → RR) (K26 : Nat → Int32 → Int32 → Int32 → Int32 → AH → RR) (l0 : Nat) (l1 : Int32) (l2 : Int32) (l3 : Int32) (l4 : Int32) (s0 : Int32) (h : AH) : RR :=
  (zgR h l0 0 5).bind fun x1 =>
  (zsi h x1 ((l3 * 64) + l4) s0).bind fun h2 =>
  if s0 = 1 then (
    (zgR h2 l0 0 7).bind fun x3 =>
    (zsi h2 x3 l3 l4).bind fun h4 =>
    K26 l0 l1 l2 l3 (l4 + 1) h4)
  else
  K26 l0 l1 l2 l3 (l4 + 1) h2
set_option maxRecDepth 20000 in
theorem rX0_fillProducts_82 {X : CT} {V : VT} {d n0 k0 : Nat} (hV : V.2.2.2.2.2.stackTraces = false) (K8 : Nat → Int32 → Int32 → Int32 → AH → RR) (K26 : Nat → Int32 → Int32 → Int32 → Int32 → AH → RR) (hK8 : ∀ l0 l1 l2 l3  h, zG X V RX0 "fillProducts" cX0_fillProducts 6 none (d + 2) n0 k0 (K8 l0 l1 l2 l3 h) 8 [(0, .ref l0), (1, .int l1), (2, .int l2), (3, .int l3)] [] h) (hK26 : ∀ l0 l1 l2 l3 l4  h, zG X V RX0 "fillProducts" cX0_fillProducts 6 none (d + 2) n0 k0 (K26 l0 l1 l2 l3 l4 h) 26 [(0, .ref l0), (1, .int l1), (2, .int l2), (3, .int l3), (4, .int l4)] [] h) (l0 : Nat) (l1 : Int32) (l2 : Int32) (l3 : Int32) (l4 : Int32) (s0 : Int32) (h : AH) : zG X V RX0 "fillProducts" cX0_fillProducts 6 none (d + 2) n0 k0 (fX0_fillProducts_82 K8 K26 l0 l1 l2 l3 l4 s0 h) 82 [(0, .ref l0), (1, .int l1), (2, .int l2), (3, .int l3), (4, .int l4)] [.int s0] h := by
  unfold fX0_fillProducts_82
  refine z_istore (lv' := [(5, .int s0), (0, .ref l0), (1, .int l1), (2, .int l2), (3, .int l3), (4, .int l4)]) (by decide) rfl dX0_fillProducts_82 ?_
  refine z_aload_n 1 rfl rfl dX0_fillProducts_84 ?_
  refine z_gR zf_RX0_15 dX0_fillProducts_85 (fun x1 => ?_)
  refine z_iload_n 4 rfl rfl dX0_fillProducts_88 ?_
  refine z_bipush (v := 64) (by decide) dX0_fillProducts_89 ?_
  refine z_imul dX0_fillProducts_91 ?_
  refine z_iload 5 rfl dX0_fillProducts_92 ?_
  refine z_iadd dX0_fillProducts_94 ?_
  refine z_iload 0 rfl dX0_fillProducts_95 ?_
  refine z_sI dX0_fillProducts_97 (fun h2 => ?_)
  refine z_iload 0 rfl dX0_fillProducts_98 ?_
  refine z_iconst (v := 1) (by decide) dX0_fillProducts_100 ?_
  refine z_icmp_ne 112 (by decide) dX0_fillProducts_101 ?_ ?_
  · refine z_aload_n 1 rfl rfl dX0_fillProducts_104 ?_
    refine z_gR zf_RX0_21 dX0_fillProducts_105 (fun x3 => ?_)
    refine z_iload_n 4 rfl rfl dX0_fillProducts_108 ?_
    refine z_iload 5 rfl dX0_fillProducts_109 ?_
    refine z_sI dX0_fillProducts_111 (fun h4 => ?_)
    refine z_inc (w := 1) (lv' := [(4, .int (l4 + 1)), (5, .int s0), (0, .ref l0), (1, .int l1), (2, .int l2), (3, .int l3)]) 5 rfl (by decide) (by decide) rfl dX0_fillProducts_112 ?_
    refine z_goto 26 (by decide) dX0_fillProducts_115 ?_
    exact z_sub [2, 3, 4, 5, 0] rfl (hK26 l0 l1 l2 l3 (l4 + 1) h4)
  · refine z_inc (w := 1) (lv' := [(4, .int (l4 + 1)), (5, .int s0), (0, .ref l0), (1, .int l1), (2, .int l2), (3, .int l3)]) 5 rfl (by decide) (by decide) rfl dX0_fillProducts_112 ?_
    refine z_goto 26 (by decide) dX0_fillProducts_115 ?_
    exact z_sub [2, 3, 4, 5, 0] rfl (hK26 l0 l1 l2 l3 (l4 + 1) h2)
def fX0_fillProducts_26 (K8 : Nat → Int32 → Int32 → Int32 → AH → RR) : Nat → Nat → Int32 → Int32 → Int32 → Int32 → AH → RR
  | 0, _, _, _, _, _, _ => none
  | k + 1, l0, l1, l2, l3, l4, h =>
  if l2 ≤ l4 then (
    K8 l0 l1 l2 (l3 + 1) h)
  else
  if l1 ≤ l4 then (
    (zgR h l0 0 8).bind fun x1 =>
    if l1 = 0 then none else
    zcv (zob h l0 0) (fX0_product l0 l3 (l4 / l1) h) fun v2 h3 =>
    zvi v2 fun x4 =>
    (zai h3 x1 x4).bind fun x5 =>
    if l1 = 0 then none else
    zcv (zob h3 l0 0) (fX0_product l0 l3 (l4 - l4 / l1 * l1) h3) fun v6 h7 =>
    zvi v6 fun x8 =>
    zcv (zob h7 l0 0) (fX0_sum l0 x5 x8 h7) fun v9 h10 =>
    zvi v9 fun x11 =>
    fX0_fillProducts_82 K8 (fun p0 p1 p2 p3 p4 h => fX0_fillProducts_26 K8 k p0 p1 p2 p3 p4 h) l0 l1 l2 l3 l4 x11 h10)
  else
  zcv (zob h l0 0) (fX0_product l0 l3 (l4 - 1) h) fun v12 h13 =>
  zvi v12 fun x14 =>
  zcv (zob h13 l0 0) (fX0_sum l0 x14 l3 h13) fun v15 h16 =>
  zvi v15 fun x17 =>
  fX0_fillProducts_82 K8 (fun p0 p1 p2 p3 p4 h => fX0_fillProducts_26 K8 k p0 p1 p2 p3 p4 h) l0 l1 l2 l3 l4 x17 h16
set_option maxRecDepth 20000 in
theorem rX0_fillProducts_26 {X : CT} {V : VT} {d n0 k0 : Nat} (hV : V.2.2.2.2.2.stackTraces = false) (K8 : Nat → Int32 → Int32 → Int32 → AH → RR) (hK8 : ∀ l0 l1 l2 l3  h, zG X V RX0 "fillProducts" cX0_fillProducts 6 none (d + 2) n0 k0 (K8 l0 l1 l2 l3 h) 8 [(0, .ref l0), (1, .int l1), (2, .int l2), (3, .int l3)] [] h) (fu : Nat) : ∀ (l0 : Nat) (l1 : Int32) (l2 : Int32) (l3 : Int32) (l4 : Int32) (h : AH), zG X V RX0 "fillProducts" cX0_fillProducts 6 none (d + 2) n0 k0 (fX0_fillProducts_26 K8 fu l0 l1 l2 l3 l4 h) 26 [(0, .ref l0), (1, .int l1), (2, .int l2), (3, .int l3), (4, .int l4)] [] h := by
  induction fu with
  | zero => intros; exact z_none
  | succ k ih =>
    intro l0 l1 l2 l3 l4 h
    rw [fX0_fillProducts_26]
    refine z_iload 4 rfl dX0_fillProducts_26 ?_
    refine z_iload_n 2 rfl rfl dX0_fillProducts_28 ?_
    refine z_icmp_ge 118 (by decide) dX0_fillProducts_29 ?_ ?_
    · refine z_inc (w := 1) (lv' := [(3, .int (l3 + 1)), (0, .ref l0), (1, .int l1), (2, .int l2), (4, .int l4)]) 3 rfl (by decide) (by decide) rfl dX0_fillProducts_118 ?_
      refine z_goto 8 (by decide) dX0_fillProducts_121 ?_
      exact z_sub [1, 2, 3, 0] rfl (hK8 l0 l1 l2 (l3 + 1) h)
    · refine z_iload 4 rfl dX0_fillProducts_32 ?_
      refine z_iload_n 1 rfl rfl dX0_fillProducts_34 ?_
      refine z_icmp_ge 55 (by decide) dX0_fillProducts_35 ?_ ?_
      · refine z_aload_n 0 rfl rfl dX0_fillProducts_55 ?_
        refine z_aload_n 0 rfl rfl dX0_fillProducts_56 ?_
        refine z_gR zf_RX0_24 dX0_fillProducts_57 (fun x1 => ?_)
        refine z_aload_n 0 rfl rfl dX0_fillProducts_60 ?_
        refine z_iload_n 3 rfl rfl dX0_fillProducts_61 ?_
        refine z_iload 4 rfl dX0_fillProducts_62 ?_
        refine z_iload_n 1 rfl rfl dX0_fillProducts_64 ?_
        refine z_idiv dX0_fillProducts_65 ?_
        refine z_cV (st := [.ref x1, .ref l0]) [.int l3, .int (l4 / l1)] zk_RX0_64 rfl (Nat.le_of_ble_eq_true rfl) dX0_fillProducts_66 (mX0_product hV (d + 0) l0 l3 (l4 / l1) h) (fun v2 h3 => ?_)
        refine z_vi (fun x4 => ?_)
        refine z_aI dX0_fillProducts_69 (fun x5 => ?_)
        refine z_aload_n 0 rfl rfl dX0_fillProducts_70 ?_
        refine z_iload_n 3 rfl rfl dX0_fillProducts_71 ?_
        refine z_iload 4 rfl dX0_fillProducts_72 ?_
        refine z_iload_n 1 rfl rfl dX0_fillProducts_74 ?_
        refine z_irem dX0_fillProducts_75 ?_
        refine z_cV (st := [.int x5, .ref l0]) [.int l3, .int (l4 - l4 / l1 * l1)] zk_RX0_64 rfl (Nat.le_of_ble_eq_true rfl) dX0_fillProducts_76 (mX0_product hV (d + 0) l0 l3 (l4 - l4 / l1 * l1) h3) (fun v6 h7 => ?_)
        refine z_vi (fun x8 => ?_)
        refine z_cV (st := []) [.int x5, .int x8] zk_RX0_61 rfl (Nat.le_of_ble_eq_true rfl) dX0_fillProducts_79 (mX0_sum hV (d + 0) l0 x5 x8 h7) (fun v9 h10 => ?_)
        refine z_vi (fun x11 => ?_)
        exact z_sub [0, 1, 2, 3, 4] rfl (rX0_fillProducts_82 hV K8 (fun p0 p1 p2 p3 p4 h => fX0_fillProducts_26 K8 k p0 p1 p2 p3 p4 h) hK8 ih l0 l1 l2 l3 l4 x11 h10)
      · refine z_aload_n 0 rfl rfl dX0_fillProducts_38 ?_
        refine z_aload_n 0 rfl rfl dX0_fillProducts_39 ?_
        refine z_iload_n 3 rfl rfl dX0_fillProducts_40 ?_
        refine z_iload 4 rfl dX0_fillProducts_41 ?_
        refine z_iconst (v := 1) (by decide) dX0_fillProducts_43 ?_
        refine z_isub dX0_fillProducts_44 ?_
        refine z_cV (st := [.ref l0]) [.int l3, .int (l4 - 1)] zk_RX0_64 rfl (Nat.le_of_ble_eq_true rfl) dX0_fillProducts_45 (mX0_product hV (d + 0) l0 l3 (l4 - 1) h) (fun v12 h13 => ?_)
        refine z_vi (fun x14 => ?_)
        refine z_iload_n 3 rfl rfl dX0_fillProducts_48 ?_
        refine z_cV (st := []) [.int x14, .int l3] zk_RX0_61 rfl (Nat.le_of_ble_eq_true rfl) dX0_fillProducts_49 (mX0_sum hV (d + 0) l0 x14 l3 h13) (fun v15 h16 => ?_)
        refine z_vi (fun x17 => ?_)
        refine z_goto 82 (by decide) dX0_fillProducts_52 ?_
        exact z_sub [0, 1, 2, 3, 4] rfl (rX0_fillProducts_82 hV K8 (fun p0 p1 p2 p3 p4 h => fX0_fillProducts_26 K8 k p0 p1 p2 p3 p4 h) hK8 ih l0 l1 l2 l3 l4 x17 h16)
def fX0_fillProducts_8 : Nat → Nat → Int32 → Int32 → Int32 → AH → RR
  | 0, _, _, _, _, _ => none
  | k + 1, l0, l1, l2, l3, h =>
  if l2 ≤ l3 then (
    some (.inl none, h))
  else
  (zgR h l0 0 5).bind fun x1 =>
  (zsi h x1 (l3 * 64) 0).bind fun h2 =>
  fX0_fillProducts_26 (fun p0 p1 p2 p3 h => fX0_fillProducts_8 k p0 p1 p2 p3 h) FU l0 l1 l2 l3 1 h2
set_option maxRecDepth 20000 in
theorem rX0_fillProducts_8 {X : CT} {V : VT} {d n0 k0 : Nat} (hV : V.2.2.2.2.2.stackTraces = false) (fu : Nat) : ∀ (l0 : Nat) (l1 : Int32) (l2 : Int32) (l3 : Int32) (h : AH), zG X V RX0 "fillProducts" cX0_fillProducts 6 none (d + 2) n0 k0 (fX0_fillProducts_8 fu l0 l1 l2 l3 h) 8 [(0, .ref l0), (1, .int l1), (2, .int l2), (3, .int l3)] [] h := by
  induction fu with
  | zero => intros; exact z_none
  | succ k ih =>
    intro l0 l1 l2 l3 h
    rw [fX0_fillProducts_8]
    refine z_iload_n 3 rfl rfl dX0_fillProducts_8 ?_
    refine z_iload_n 2 rfl rfl dX0_fillProducts_9 ?_
    refine z_icmp_ge 124 (by decide) dX0_fillProducts_10 ?_ ?_
    · exact z_vret rfl dX0_fillProducts_124
    · refine z_aload_n 0 rfl rfl dX0_fillProducts_13 ?_
      refine z_gR zf_RX0_15 dX0_fillProducts_14 (fun x1 => ?_)
      refine z_iload_n 3 rfl rfl dX0_fillProducts_17 ?_
      refine z_bipush (v := 64) (by decide) dX0_fillProducts_18 ?_
      refine z_imul dX0_fillProducts_20 ?_
      refine z_iconst (v := 0) (by decide) dX0_fillProducts_21 ?_
      refine z_sI dX0_fillProducts_22 (fun h2 => ?_)
      refine z_iconst (v := 1) (by decide) dX0_fillProducts_23 ?_
      refine z_istore (lv' := [(4, .int 1), (0, .ref l0), (1, .int l1), (2, .int l2), (3, .int l3)]) (by decide) rfl dX0_fillProducts_24 ?_
      exact z_sub [1, 2, 3, 4, 0] rfl (rX0_fillProducts_26 hV (fun p0 p1 p2 p3 h => fX0_fillProducts_8 k p0 p1 p2 p3 h) ih FU l0 l1 l2 l3 1 h2)
def fX0_fillProducts (a0 : Nat) (a1 : Int32) (a2 : Int32) (h : AH) : RR :=
  if 2 ≤ a1 then (
    fX0_fillProducts_8 FU a0 a1 a2 0 h)
  else
  some (.inl none, h)
set_option maxRecDepth 20000 in
theorem mX0_fillProducts {V : VT} (hV : V.2.2.2.2.2.stackTraces = false) (d : Nat) (a0 : Nat) (a1 : Int32) (a2 : Int32) (h : AH) : zM V yX0_fillProducts cX0_fillProducts 6 none (d + 2) [.ref a0, .int a1, .int a2] h (fX0_fillProducts a0 a1 a2 h) := by
  refine z_meth hV (by decide +kernel) (Nat.le_of_ble_eq_true rfl) [(0, .ref a0), (1, .int a1), (2, .int a2)] rfl (fun X => ?_)
  show zG X V RX0 "fillProducts" cX0_fillProducts 6 none (d + 2) h.1 h.2.1 (fX0_fillProducts a0 a1 a2 h) 0 [(0, .ref a0), (1, .int a1), (2, .int a2)] [] h
  unfold fX0_fillProducts
  refine z_iload_n 1 rfl rfl dX0_fillProducts_0 ?_
  refine z_iconst (v := 2) (by decide) dX0_fillProducts_1 ?_
  refine z_icmp_ge 6 (by decide) dX0_fillProducts_2 ?_ ?_
  · refine z_iconst (v := 0) (by decide) dX0_fillProducts_6 ?_
    refine z_istore_n (lv' := [(3, .int 0), (0, .ref a0), (1, .int a1), (2, .int a2)]) rfl (by decide) rfl dX0_fillProducts_7 ?_
    exact z_sub [1, 2, 3, 0] rfl (rX0_fillProducts_8 hV FU a0 a1 a2 0 h)
  · exact z_vret rfl dX0_fillProducts_5
def fX0_tune_17 (l0 : Nat) (l1 : Int32) (l2 : Int32) (h : AH) : RR :=
  zca (fX0_sizeOf l1 l2 h) fun v1 h2 =>
  zvi v1 fun x3 =>
  if l1 < 2 then (
    some (.inl none, h2))
  else
  if l2 < 1 then (
    some (.inl none, h2))
  else
  if x3 ≤ 64 then (
    (zpf h2 l0 0 0 (.int l1)).bind fun h4 =>
    (zpf h4 l0 0 1 (.int l2)).bind fun h5 =>
    (zpf h5 l0 0 2 (.int x3)).bind fun h6 =>
    zca (fX0_leastModulus x3 h6) fun v7 h8 =>
    zvi v7 fun x9 =>
    (zpf h8 l0 0 3 (.int x9)).bind fun h10 =>
    zcv (zob h10 l0 0) (fX0_fillSums l0 l1 x3 h10) fun v11 h12 =>
    zvn v11 <|
    zcv (zob h12 l0 0) (fX0_fillRisen l0 l1 x3 h12) fun v13 h14 =>
    zvn v13 <|
    zcv (zob h14 l0 0) (fX0_fillProducts l0 l1 x3 h14) fun v15 h16 =>
    zvn v15 <|
    some (.inl none, h16))
  else
  some (.inl none, h2)
set_option maxRecDepth 20000 in
theorem rX0_tune_17 {X : CT} {V : VT} {d n0 k0 : Nat} (hV : V.2.2.2.2.2.stackTraces = false) (l0 : Nat) (l1 : Int32) (l2 : Int32) (h : AH) : zG X V RX0 "tune" cX0_tune 4 none (d + 3) n0 k0 (fX0_tune_17 l0 l1 l2 h) 17 [(0, .ref l0), (1, .int l1), (2, .int l2)] [] h := by
  unfold fX0_tune_17
  refine z_iload_n 1 rfl rfl dX0_tune_17 ?_
  refine z_iload_n 2 rfl rfl dX0_tune_18 ?_
  refine z_cS (st := []) [.int l1, .int l2] zk_RX0_38 rfl (Nat.le_of_ble_eq_true rfl) dX0_tune_19 (mX0_sizeOf hV (d + 1) l1 l2 h) (fun v1 h2 => ?_)
  refine z_vi (fun x3 => ?_)
  refine z_istore_n (lv' := [(3, .int x3), (0, .ref l0), (1, .int l1), (2, .int l2)]) rfl (by decide) rfl dX0_tune_22 ?_
  refine z_iload_n 2 rfl rfl dX0_tune_23 ?_
  refine z_iconst (v := 2) (by decide) dX0_tune_24 ?_
  refine z_icmp_lt 39 (by decide) dX0_tune_25 ?_ ?_
  · exact z_vret rfl dX0_tune_39
  · refine z_iload_n 3 rfl rfl dX0_tune_28 ?_
    refine z_iconst (v := 1) (by decide) dX0_tune_29 ?_
    refine z_icmp_lt 39 (by decide) dX0_tune_30 ?_ ?_
    · exact z_vret rfl dX0_tune_39
    · refine z_iload_n 0 rfl rfl dX0_tune_33 ?_
      refine z_bipush (v := 64) (by decide) dX0_tune_34 ?_
      refine z_icmp_le 40 (by decide) dX0_tune_36 ?_ ?_
      · refine z_aload_n 1 rfl rfl dX0_tune_40 ?_
        refine z_iload_n 2 rfl rfl dX0_tune_41 ?_
        refine z_pI zf_RX0_31 zq_0_0 rfl dX0_tune_42 (fun h4 => ?_)
        refine z_aload_n 1 rfl rfl dX0_tune_45 ?_
        refine z_iload_n 3 rfl rfl dX0_tune_46 ?_
        refine z_pI zf_RX0_35 zq_0_1 rfl dX0_tune_47 (fun h5 => ?_)
        refine z_aload_n 1 rfl rfl dX0_tune_50 ?_
        refine z_iload_n 0 rfl rfl dX0_tune_51 ?_
        refine z_pI zf_RX0_42 zq_0_2 rfl dX0_tune_52 (fun h6 => ?_)
        refine z_aload_n 1 rfl rfl dX0_tune_55 ?_
        refine z_iload_n 0 rfl rfl dX0_tune_56 ?_
        refine z_cS (st := [.ref l0]) [.int x3] zk_RX0_45 rfl (Nat.le_of_ble_eq_true rfl) dX0_tune_57 (mX0_leastModulus hV (d + 1) x3 h6) (fun v7 h8 => ?_)
        refine z_vi (fun x9 => ?_)
        refine z_pI zf_RX0_49 zq_0_3 rfl dX0_tune_60 (fun h10 => ?_)
        refine z_aload_n 1 rfl rfl dX0_tune_63 ?_
        refine z_iload_n 2 rfl rfl dX0_tune_64 ?_
        refine z_iload_n 0 rfl rfl dX0_tune_65 ?_
        refine z_cV (st := []) [.int l1, .int x3] zk_RX0_52 rfl (Nat.le_of_ble_eq_true rfl) dX0_tune_66 (mX0_fillSums hV (d + 0) l0 l1 x3 h10) (fun v11 h12 => ?_)
        refine z_vn ?_
        refine z_aload_n 1 rfl rfl dX0_tune_69 ?_
        refine z_iload_n 2 rfl rfl dX0_tune_70 ?_
        refine z_iload_n 0 rfl rfl dX0_tune_71 ?_
        refine z_cV (st := []) [.int l1, .int x3] zk_RX0_55 rfl (Nat.le_of_ble_eq_true rfl) dX0_tune_72 (mX0_fillRisen hV (d + 0) l0 l1 x3 h12) (fun v13 h14 => ?_)
        refine z_vn ?_
        refine z_aload_n 1 rfl rfl dX0_tune_75 ?_
        refine z_iload_n 2 rfl rfl dX0_tune_76 ?_
        refine z_iload_n 0 rfl rfl dX0_tune_77 ?_
        refine z_cV (st := []) [.int l1, .int x3] zk_RX0_58 rfl (Nat.le_of_ble_eq_true rfl) dX0_tune_78 (mX0_fillProducts hV (d + 0) l0 l1 x3 h14) (fun v15 h16 => ?_)
        refine z_vn ?_
        exact z_vret rfl dX0_tune_81
      · exact z_vret rfl dX0_tune_39
def fX0_tune (a0 : Nat) (a1 : Int32) (a2 : Int32) (h : AH) : RR :=
  (zgI h a0 0 0).bind fun x1 =>
  if a1 = x1 then (
    (zgI h a0 0 1).bind fun x2 =>
    if a2 = x2 then (
      some (.inl none, h))
    else
    fX0_tune_17 a0 a1 a2 h)
  else
  fX0_tune_17 a0 a1 a2 h
set_option maxRecDepth 20000 in
theorem mX0_tune {V : VT} (hV : V.2.2.2.2.2.stackTraces = false) (d : Nat) (a0 : Nat) (a1 : Int32) (a2 : Int32) (h : AH) : zM V yX0_tune cX0_tune 4 none (d + 3) [.ref a0, .int a1, .int a2] h (fX0_tune a0 a1 a2 h) := by
  refine z_meth hV (by decide +kernel) (Nat.le_of_ble_eq_true rfl) [(0, .ref a0), (1, .int a1), (2, .int a2)] rfl (fun X => ?_)
  show zG X V RX0 "tune" cX0_tune 4 none (d + 3) h.1 h.2.1 (fX0_tune a0 a1 a2 h) 0 [(0, .ref a0), (1, .int a1), (2, .int a2)] [] h
  unfold fX0_tune
  refine z_iload_n 1 rfl rfl dX0_tune_0 ?_
  refine z_aload_n 0 rfl rfl dX0_tune_1 ?_
  refine z_gI zf_RX0_31 dX0_tune_2 (fun x1 => ?_)
  refine z_icmp_ne 17 (by decide) dX0_tune_5 ?_ ?_
  · refine z_iload_n 2 rfl rfl dX0_tune_8 ?_
    refine z_aload_n 0 rfl rfl dX0_tune_9 ?_
    refine z_gI zf_RX0_35 dX0_tune_10 (fun x2 => ?_)
    refine z_icmp_ne 17 (by decide) dX0_tune_13 ?_ ?_
    · exact z_vret rfl dX0_tune_16
    · exact z_sub [0, 1, 2] rfl (rX0_tune_17 hV a0 a1 a2 h)
  · exact z_sub [0, 1, 2] rfl (rX0_tune_17 hV a0 a1 a2 h)
def fX0_init (a0 : Nat) (h : AH) : RR :=
  zb2 (znI h 4096) fun b1 h2 =>
  (zpf h2 a0 0 4 (.ref b1)).bind fun h3 =>
  zb2 (znI h3 4096) fun b4 h5 =>
  (zpf h5 a0 0 5 (.ref b4)).bind fun h6 =>
  zb2 (znI h6 64) fun b7 h8 =>
  (zpf h8 a0 0 6 (.ref b7)).bind fun h9 =>
  zb2 (znI h9 64) fun b10 h11 =>
  (zpf h11 a0 0 7 (.ref b10)).bind fun h12 =>
  zb2 (znI h12 64) fun b13 h14 =>
  (zpf h14 a0 0 8 (.ref b13)).bind fun h15 =>
  zcv (zob h15 a0 0) (fX0_tune a0 2 1 h15) fun v16 h17 =>
  zvn v16 <|
  some (.inl none, h17)
set_option maxRecDepth 20000 in
theorem mX0_init {V : VT} (hV : V.2.2.2.2.2.stackTraces = false) (d : Nat) (a0 : Nat) (h : AH) : zM V yX0_init cX0_init 1 none (d + 4) [.ref a0] h (fX0_init a0 h) := by
  refine z_meth hV (by decide +kernel) (Nat.le_of_ble_eq_true rfl) [(0, .ref a0)] rfl (fun X => ?_)
  show zG X V RX0 "<init>" cX0_init 1 none (d + 4) h.1 h.2.1 (fX0_init a0 h) 0 [(0, .ref a0)] [] h
  unfold fX0_init
  refine z_aload_n 0 rfl rfl dX0_init_0 ?_
  refine z_objInit zw_105 zw_98 zw_99 (Nat.le_of_ble_eq_true rfl) (by omega) dX0_init_1 ?_
  refine z_aload_n 0 rfl rfl dX0_init_4 ?_
  refine z_sipush (v := 4096) (by decide) dX0_init_5 ?_
  refine z_nI zw_173 dX0_init_8 (fun b1 h2 => ?_)
  refine z_pR zf_RX0_9 zq_0_4 (Or.inr ⟨_, rfl⟩) dX0_init_10 (fun h3 => ?_)
  refine z_aload_n 0 rfl rfl dX0_init_13 ?_
  refine z_sipush (v := 4096) (by decide) dX0_init_14 ?_
  refine z_nI zw_173 dX0_init_17 (fun b4 h5 => ?_)
  refine z_pR zf_RX0_15 zq_0_5 (Or.inr ⟨_, rfl⟩) dX0_init_19 (fun h6 => ?_)
  refine z_aload_n 0 rfl rfl dX0_init_22 ?_
  refine z_bipush (v := 64) (by decide) dX0_init_23 ?_
  refine z_nI zw_173 dX0_init_25 (fun b7 h8 => ?_)
  refine z_pR zf_RX0_18 zq_0_6 (Or.inr ⟨_, rfl⟩) dX0_init_27 (fun h9 => ?_)
  refine z_aload_n 0 rfl rfl dX0_init_30 ?_
  refine z_bipush (v := 64) (by decide) dX0_init_31 ?_
  refine z_nI zw_173 dX0_init_33 (fun b10 h11 => ?_)
  refine z_pR zf_RX0_21 zq_0_7 (Or.inr ⟨_, rfl⟩) dX0_init_35 (fun h12 => ?_)
  refine z_aload_n 0 rfl rfl dX0_init_38 ?_
  refine z_bipush (v := 64) (by decide) dX0_init_39 ?_
  refine z_nI zw_173 dX0_init_41 (fun b13 h14 => ?_)
  refine z_pR zf_RX0_24 zq_0_8 (Or.inr ⟨_, rfl⟩) dX0_init_43 (fun h15 => ?_)
  refine z_aload_n 0 rfl rfl dX0_init_46 ?_
  refine z_iconst (v := 2) (by decide) dX0_init_47 ?_
  refine z_iconst (v := 1) (by decide) dX0_init_48 ?_
  refine z_cV (st := []) [.int 2, .int 1] zk_RX0_27 rfl (Nat.le_of_ble_eq_true rfl) dX0_init_49 (mX0_tune hV (d + 0) a0 2 1 h15) (fun v16 h17 => ?_)
  refine z_vn ?_
  exact z_vret rfl dX0_init_52
def fX0_difference (a0 : Nat) (a1 : Int32) (a2 : Int32) (h : AH) : RR :=
  (zgR h a0 0 4).bind fun x1 =>
  (zgR h a0 0 6).bind fun x2 =>
  (zai h x2 a2).bind fun x3 =>
  (zai h x1 ((a1 * 64) + x3)).bind fun x4 =>
  some (.inl (some (.int x4)), h)
set_option maxRecDepth 20000 in
theorem mX0_difference {V : VT} (hV : V.2.2.2.2.2.stackTraces = false) (d : Nat) (a0 : Nat) (a1 : Int32) (a2 : Int32) (h : AH) : zM V yX0_difference cX0_difference 3 (some .int) (d + 1) [.ref a0, .int a1, .int a2] h (fX0_difference a0 a1 a2 h) := by
  refine z_meth hV (by decide +kernel) (Nat.le_of_ble_eq_true rfl) [(0, .ref a0), (1, .int a1), (2, .int a2)] rfl (fun X => ?_)
  show zG X V RX0 "difference" cX0_difference 3 (some .int) (d + 1) h.1 h.2.1 (fX0_difference a0 a1 a2 h) 0 [(0, .ref a0), (1, .int a1), (2, .int a2)] [] h
  unfold fX0_difference
  refine z_aload_n 0 rfl rfl dX0_difference_0 ?_
  refine z_gR zf_RX0_9 dX0_difference_1 (fun x1 => ?_)
  refine z_iload_n 1 rfl rfl dX0_difference_4 ?_
  refine z_bipush (v := 64) (by decide) dX0_difference_5 ?_
  refine z_imul dX0_difference_7 ?_
  refine z_aload_n 0 rfl rfl dX0_difference_8 ?_
  refine z_gR zf_RX0_18 dX0_difference_9 (fun x2 => ?_)
  refine z_iload_n 2 rfl rfl dX0_difference_12 ?_
  refine z_aI dX0_difference_13 (fun x3 => ?_)
  refine z_iadd dX0_difference_14 ?_
  refine z_aI dX0_difference_15 (fun x4 => ?_)
  exact z_iret rfl dX0_difference_16
def fX0_raised_29 (K8 : Nat → Int32 → Int32 → Int32 → AH → RR) (l0 : Nat) (l3 : Int32) (l4 : Int32) (l5 : Int32) (h : AH) : RR :=
  zcv (zob h l0 0) (fX0_product l0 l4 l4 h) fun v1 h2 =>
  zvi v1 fun x3 =>
  K8 l0 l3 x3 (l5 >>> (1 &&& 31)) h2
set_option maxRecDepth 20000 in
theorem rX0_raised_29 {X : CT} {V : VT} {d n0 k0 : Nat} (hV : V.2.2.2.2.2.stackTraces = false) (K8 : Nat → Int32 → Int32 → Int32 → AH → RR) (hK8 : ∀ l0 l3 l4 l5  h, zG X V RX0 "raised" cX0_raised 6 (some .int) (d + 2) n0 k0 (K8 l0 l3 l4 l5 h) 8 [(0, .ref l0), (3, .int l3), (4, .int l4), (5, .int l5)] [] h) (l0 : Nat) (l3 : Int32) (l4 : Int32) (l5 : Int32) (h : AH) : zG X V RX0 "raised" cX0_raised 6 (some .int) (d + 2) n0 k0 (fX0_raised_29 K8 l0 l3 l4 l5 h) 29 [(0, .ref l0), (3, .int l3), (4, .int l4), (5, .int l5)] [] h := by
  unfold fX0_raised_29
  refine z_aload_n 0 rfl rfl dX0_raised_29 ?_
  refine z_iload 2 rfl dX0_raised_30 ?_
  refine z_iload 2 rfl dX0_raised_32 ?_
  refine z_cV (st := []) [.int l4, .int l4] zk_RX0_64 rfl (Nat.le_of_ble_eq_true rfl) dX0_raised_34 (mX0_product hV (d + 0) l0 l4 l4 h) (fun v1 h2 => ?_)
  refine z_vi (fun x3 => ?_)
  refine z_istore (lv' := [(4, .int x3), (0, .ref l0), (3, .int l3), (5, .int l5)]) (by decide) rfl dX0_raised_37 ?_
  refine z_iload 3 rfl dX0_raised_39 ?_
  refine z_iconst (v := 1) (by decide) dX0_raised_41 ?_
  refine z_ishr dX0_raised_42 ?_
  refine z_istore (lv' := [(5, .int (l5 >>> (1 &&& 31))), (4, .int x3), (0, .ref l0), (3, .int l3)]) (by decide) rfl dX0_raised_43 ?_
  refine z_goto 8 (by decide) dX0_raised_45 ?_
  exact z_sub [2, 3, 1, 0] rfl (hK8 l0 l3 x3 (l5 >>> (1 &&& 31)) h2)
def fX0_raised_8 : Nat → Nat → Int32 → Int32 → Int32 → AH → RR
  | 0, _, _, _, _, _ => none
  | k + 1, l0, l3, l4, l5, h =>
  if l5 ≤ 0 then (
    some (.inl (some (.int l3)), h))
  else
  if (l5 &&& 1) = 1 then (
    zcv (zob h l0 0) (fX0_product l0 l3 l4 h) fun v1 h2 =>
    zvi v1 fun x3 =>
    fX0_raised_29 (fun p0 p3 p4 p5 h => fX0_raised_8 k p0 p3 p4 p5 h) l0 x3 l4 l5 h2)
  else
  fX0_raised_29 (fun p0 p3 p4 p5 h => fX0_raised_8 k p0 p3 p4 p5 h) l0 l3 l4 l5 h
set_option maxRecDepth 20000 in
theorem rX0_raised_8 {X : CT} {V : VT} {d n0 k0 : Nat} (hV : V.2.2.2.2.2.stackTraces = false) (fu : Nat) : ∀ (l0 : Nat) (l3 : Int32) (l4 : Int32) (l5 : Int32) (h : AH), zG X V RX0 "raised" cX0_raised 6 (some .int) (d + 2) n0 k0 (fX0_raised_8 fu l0 l3 l4 l5 h) 8 [(0, .ref l0), (3, .int l3), (4, .int l4), (5, .int l5)] [] h := by
  induction fu with
  | zero => intros; exact z_none
  | succ k ih =>
    intro l0 l3 l4 l5 h
    rw [fX0_raised_8]
    refine z_iload 3 rfl dX0_raised_8 ?_
    refine z_if_le 48 (by decide) dX0_raised_10 ?_ ?_
    · refine z_iload_n 1 rfl rfl dX0_raised_48 ?_
      exact z_iret rfl dX0_raised_49
    · refine z_iload 3 rfl dX0_raised_13 ?_
      refine z_iconst (v := 1) (by decide) dX0_raised_15 ?_
      refine z_iand dX0_raised_16 ?_
      refine z_iconst (v := 1) (by decide) dX0_raised_17 ?_
      refine z_icmp_ne 29 (by decide) dX0_raised_18 ?_ ?_
      · refine z_aload_n 0 rfl rfl dX0_raised_21 ?_
        refine z_iload_n 1 rfl rfl dX0_raised_22 ?_
        refine z_iload 2 rfl dX0_raised_23 ?_
        refine z_cV (st := []) [.int l3, .int l4] zk_RX0_64 rfl (Nat.le_of_ble_eq_true rfl) dX0_raised_25 (mX0_product hV (d + 0) l0 l3 l4 h) (fun v1 h2 => ?_)
        refine z_vi (fun x3 => ?_)
        refine z_istore_n (lv' := [(3, .int x3), (0, .ref l0), (4, .int l4), (5, .int l5)]) rfl (by decide) rfl dX0_raised_28 ?_
        exact z_sub [1, 0, 2, 3] rfl (rX0_raised_29 hV (fun p0 p3 p4 p5 h => fX0_raised_8 k p0 p3 p4 p5 h) ih l0 x3 l4 l5 h2)
      · exact z_sub [0, 1, 2, 3] rfl (rX0_raised_29 hV (fun p0 p3 p4 p5 h => fX0_raised_8 k p0 p3 p4 p5 h) ih l0 l3 l4 l5 h)
def fX0_raised (a0 : Nat) (a1 : Int32) (a2 : Int32) (h : AH) : RR :=
  fX0_raised_8 FU a0 1 a1 a2 h
set_option maxRecDepth 20000 in
theorem mX0_raised {V : VT} (hV : V.2.2.2.2.2.stackTraces = false) (d : Nat) (a0 : Nat) (a1 : Int32) (a2 : Int32) (h : AH) : zM V yX0_raised cX0_raised 6 (some .int) (d + 2) [.ref a0, .int a1, .int a2] h (fX0_raised a0 a1 a2 h) := by
  refine z_meth hV (by decide +kernel) (Nat.le_of_ble_eq_true rfl) [(0, .ref a0), (1, .int a1), (2, .int a2)] rfl (fun X => ?_)
  show zG X V RX0 "raised" cX0_raised 6 (some .int) (d + 2) h.1 h.2.1 (fX0_raised a0 a1 a2 h) 0 [(0, .ref a0), (1, .int a1), (2, .int a2)] [] h
  unfold fX0_raised
  refine z_iconst (v := 1) (by decide) dX0_raised_0 ?_
  refine z_istore_n (lv' := [(3, .int 1), (0, .ref a0), (1, .int a1), (2, .int a2)]) rfl (by decide) rfl dX0_raised_1 ?_
  refine z_iload_n 2 rfl rfl dX0_raised_2 ?_
  refine z_istore (lv' := [(4, .int a1), (3, .int 1), (0, .ref a0), (1, .int a1), (2, .int a2)]) (by decide) rfl dX0_raised_3 ?_
  refine z_iload_n 4 rfl rfl dX0_raised_5 ?_
  refine z_istore (lv' := [(5, .int a2), (4, .int a1), (3, .int 1), (0, .ref a0), (1, .int a1), (2, .int a2)]) (by decide) rfl dX0_raised_6 ?_
  exact z_sub [3, 2, 1, 0] rfl (rX0_raised_8 hV FU a0 1 a1 a2 h)
def fX0_dicksonAt_18 : Nat → Nat → Int32 → Int32 → Int32 → Int32 → Int32 → Int32 → Int32 → AH → RR
  | 0, _, _, _, _, _, _, _, _, _ => none
  | k + 1, l0, l1, l2, l3, l4, l5, l6, l7, h =>
  if l7 < 0 then (
    some (.inl (some (.int l4)), h))
  else
  zcv (zob h l0 0) (fX0_product l0 l4 l5 h) fun v1 h2 =>
  zvi v1 fun x3 =>
  zcv (zob h2 l0 0) (fX0_product l0 l6 l3 h2) fun v4 h5 =>
  zvi v4 fun x6 =>
  zcv (zob h5 l0 0) (fX0_difference l0 x3 x6 h5) fun v7 h8 =>
  zvi v7 fun x9 =>
  zcv (zob h8 l0 0) (fX0_product l0 l6 l6 h8) fun v10 h11 =>
  zvi v10 fun x12 =>
  if ((l1 >>> (l7 &&& 31)) &&& 1) = 0 then (
    zcv (zob h11 l0 0) (fX0_product l0 l4 l4 h11) fun v13 h14 =>
    zvi v13 fun x15 =>
    zcv (zob h14 l0 0) (fX0_sum l0 l6 l6 h14) fun v16 h17 =>
    zvi v16 fun x18 =>
    zcv (zob h17 l0 0) (fX0_difference l0 x15 x18 h17) fun v19 h20 =>
    zvi v19 fun x21 =>
    fX0_dicksonAt_18 k l0 l1 l2 l3 x21 x9 x12 (l7 + (-1)) h20)
  else
  zcv (zob h11 l0 0) (fX0_product l0 l6 l2 h11) fun v22 h23 =>
  zvi v22 fun x24 =>
  zcv (zob h23 l0 0) (fX0_product l0 l5 l5 h23) fun v25 h26 =>
  zvi v25 fun x27 =>
  zcv (zob h26 l0 0) (fX0_sum l0 x24 x24 h26) fun v28 h29 =>
  zvi v28 fun x30 =>
  zcv (zob h29 l0 0) (fX0_difference l0 x27 x30 h29) fun v31 h32 =>
  zvi v31 fun x33 =>
  zcv (zob h32 l0 0) (fX0_product l0 x12 l2 h32) fun v34 h35 =>
  zvi v34 fun x36 =>
  fX0_dicksonAt_18 k l0 l1 l2 l3 x9 x33 x36 (l7 + (-1)) h35
set_option maxRecDepth 20000 in
theorem rX0_dicksonAt_18 {X : CT} {V : VT} {d n0 k0 : Nat} (hV : V.2.2.2.2.2.stackTraces = false) (fu : Nat) : ∀ (l0 : Nat) (l1 : Int32) (l2 : Int32) (l3 : Int32) (l4 : Int32) (l5 : Int32) (l6 : Int32) (l7 : Int32) (h : AH), zG X V RX0 "dicksonAt" cX0_dicksonAt 11 (some .int) (d + 2) n0 k0 (fX0_dicksonAt_18 fu l0 l1 l2 l3 l4 l5 l6 l7 h) 18 [(0, .ref l0), (1, .int l1), (2, .int l2), (3, .int l3), (4, .int l4), (5, .int l5), (6, .int l6), (7, .int l7)] [] h := by
  induction fu with
  | zero => intros; exact z_none
  | succ k ih =>
    intro l0 l1 l2 l3 l4 l5 l6 l7 h
    rw [fX0_dicksonAt_18]
    refine z_iload 7 rfl dX0_dicksonAt_18 ?_
    refine z_if_lt 146 (by decide) dX0_dicksonAt_20 ?_ ?_
    · refine z_iload 4 rfl dX0_dicksonAt_146 ?_
      exact z_iret rfl dX0_dicksonAt_148
    · refine z_aload_n 0 rfl rfl dX0_dicksonAt_23 ?_
      refine z_aload_n 0 rfl rfl dX0_dicksonAt_24 ?_
      refine z_iload 4 rfl dX0_dicksonAt_25 ?_
      refine z_iload 5 rfl dX0_dicksonAt_27 ?_
      refine z_cV (st := [.ref l0]) [.int l4, .int l5] zk_RX0_64 rfl (Nat.le_of_ble_eq_true rfl) dX0_dicksonAt_29 (mX0_product hV (d + 0) l0 l4 l5 h) (fun v1 h2 => ?_)
      refine z_vi (fun x3 => ?_)
      refine z_aload_n 0 rfl rfl dX0_dicksonAt_32 ?_
      refine z_iload 6 rfl dX0_dicksonAt_33 ?_
      refine z_iload_n 3 rfl rfl dX0_dicksonAt_35 ?_
      refine z_cV (st := [.int x3, .ref l0]) [.int l6, .int l3] zk_RX0_64 rfl (Nat.le_of_ble_eq_true rfl) dX0_dicksonAt_36 (mX0_product hV (d + 0) l0 l6 l3 h2) (fun v4 h5 => ?_)
      refine z_vi (fun x6 => ?_)
      refine z_cV (st := []) [.int x3, .int x6] zk_RX0_67 rfl (Nat.le_of_ble_eq_true rfl) dX0_dicksonAt_39 (mX0_difference hV (d + 0) l0 x3 x6 h5) (fun v7 h8 => ?_)
      refine z_vi (fun x9 => ?_)
      refine z_istore (lv' := [(8, .int x9), (0, .ref l0), (1, .int l1), (2, .int l2), (3, .int l3), (4, .int l4), (5, .int l5), (6, .int l6), (7, .int l7)]) (by decide) rfl dX0_dicksonAt_42 ?_
      refine z_aload_n 1 rfl rfl dX0_dicksonAt_44 ?_
      refine z_iload 7 rfl dX0_dicksonAt_45 ?_
      refine z_iload 7 rfl dX0_dicksonAt_47 ?_
      refine z_cV (st := []) [.int l6, .int l6] zk_RX0_64 rfl (Nat.le_of_ble_eq_true rfl) dX0_dicksonAt_49 (mX0_product hV (d + 0) l0 l6 l6 h8) (fun v10 h11 => ?_)
      refine z_vi (fun x12 => ?_)
      refine z_istore (lv' := [(9, .int x12), (8, .int x9), (0, .ref l0), (1, .int l1), (2, .int l2), (3, .int l3), (4, .int l4), (5, .int l5), (6, .int l6), (7, .int l7)]) (by decide) rfl dX0_dicksonAt_52 ?_
      refine z_iload_n 3 rfl rfl dX0_dicksonAt_54 ?_
      refine z_iload 9 rfl dX0_dicksonAt_55 ?_
      refine z_ishr dX0_dicksonAt_57 ?_
      refine z_iconst (v := 1) (by decide) dX0_dicksonAt_58 ?_
      refine z_iand dX0_dicksonAt_59 ?_
      refine z_if_ne 96 (by decide) dX0_dicksonAt_60 ?_ ?_
      · refine z_aload_n 2 rfl rfl dX0_dicksonAt_63 ?_
        refine z_aload_n 2 rfl rfl dX0_dicksonAt_64 ?_
        refine z_iload 6 rfl dX0_dicksonAt_65 ?_
        refine z_iload 6 rfl dX0_dicksonAt_67 ?_
        refine z_cV (st := [.ref l0]) [.int l4, .int l4] zk_RX0_64 rfl (Nat.le_of_ble_eq_true rfl) dX0_dicksonAt_69 (mX0_product hV (d + 0) l0 l4 l4 h11) (fun v13 h14 => ?_)
        refine z_vi (fun x15 => ?_)
        refine z_aload_n 2 rfl rfl dX0_dicksonAt_72 ?_
        refine z_iload 8 rfl dX0_dicksonAt_73 ?_
        refine z_iload 8 rfl dX0_dicksonAt_75 ?_
        refine z_cV (st := [.int x15, .ref l0]) [.int l6, .int l6] zk_RX0_61 rfl (Nat.le_of_ble_eq_true rfl) dX0_dicksonAt_77 (mX0_sum hV (d + 0) l0 l6 l6 h14) (fun v16 h17 => ?_)
        refine z_vi (fun x18 => ?_)
        refine z_cV (st := []) [.int x15, .int x18] zk_RX0_67 rfl (Nat.le_of_ble_eq_true rfl) dX0_dicksonAt_80 (mX0_difference hV (d + 0) l0 x15 x18 h17) (fun v19 h20 => ?_)
        refine z_vi (fun x21 => ?_)
        refine z_istore (lv' := [(4, .int x21), (9, .int x12), (8, .int x9), (0, .ref l0), (1, .int l1), (2, .int l2), (3, .int l3), (5, .int l5), (6, .int l6), (7, .int l7)]) (by decide) rfl dX0_dicksonAt_83 ?_
        refine z_iload 2 rfl dX0_dicksonAt_85 ?_
        refine z_istore (lv' := [(5, .int x9), (4, .int x21), (9, .int x12), (8, .int x9), (0, .ref l0), (1, .int l1), (2, .int l2), (3, .int l3), (6, .int l6), (7, .int l7)]) (by decide) rfl dX0_dicksonAt_87 ?_
        refine z_iload 2 rfl dX0_dicksonAt_89 ?_
        refine z_istore (lv' := [(6, .int x12), (5, .int x9), (4, .int x21), (9, .int x12), (8, .int x9), (0, .ref l0), (1, .int l1), (2, .int l2), (3, .int l3), (7, .int l7)]) (by decide) rfl dX0_dicksonAt_91 ?_
        refine z_goto 140 (by decide) dX0_dicksonAt_93 ?_
        refine z_inc (w := (-1)) (lv' := [(7, .int (l7 + (-1))), (6, .int x12), (5, .int x9), (4, .int x21), (9, .int x12), (8, .int x9), (0, .ref l0), (1, .int l1), (2, .int l2), (3, .int l3)]) 9 rfl (by decide) (by decide) rfl dX0_dicksonAt_140 ?_
        refine z_goto 18 (by decide) dX0_dicksonAt_143 ?_
        exact z_sub [6, 7, 8, 9, 3, 2, 1, 0] rfl (ih l0 l1 l2 l3 x21 x9 x12 (l7 + (-1)) h20)
      · refine z_aload_n 2 rfl rfl dX0_dicksonAt_96 ?_
        refine z_iload 8 rfl dX0_dicksonAt_97 ?_
        refine z_iload_n 4 rfl rfl dX0_dicksonAt_99 ?_
        refine z_cV (st := []) [.int l6, .int l2] zk_RX0_64 rfl (Nat.le_of_ble_eq_true rfl) dX0_dicksonAt_100 (mX0_product hV (d + 0) l0 l6 l2 h11) (fun v22 h23 => ?_)
        refine z_vi (fun x24 => ?_)
        refine z_istore (lv' := [(10, .int x24), (9, .int x12), (8, .int x9), (0, .ref l0), (1, .int l1), (2, .int l2), (3, .int l3), (4, .int l4), (5, .int l5), (6, .int l6), (7, .int l7)]) (by decide) rfl dX0_dicksonAt_103 ?_
        refine z_iload 2 rfl dX0_dicksonAt_105 ?_
        refine z_istore (lv' := [(4, .int x9), (10, .int x24), (9, .int x12), (8, .int x9), (0, .ref l0), (1, .int l1), (2, .int l2), (3, .int l3), (5, .int l5), (6, .int l6), (7, .int l7)]) (by decide) rfl dX0_dicksonAt_107 ?_
        refine z_aload_n 4 rfl rfl dX0_dicksonAt_109 ?_
        refine z_aload_n 4 rfl rfl dX0_dicksonAt_110 ?_
        refine z_iload 8 rfl dX0_dicksonAt_111 ?_
        refine z_iload 8 rfl dX0_dicksonAt_113 ?_
        refine z_cV (st := [.ref l0]) [.int l5, .int l5] zk_RX0_64 rfl (Nat.le_of_ble_eq_true rfl) dX0_dicksonAt_115 (mX0_product hV (d + 0) l0 l5 l5 h23) (fun v25 h26 => ?_)
        refine z_vi (fun x27 => ?_)
        refine z_aload_n 4 rfl rfl dX0_dicksonAt_118 ?_
        refine z_iload 1 rfl dX0_dicksonAt_119 ?_
        refine z_iload 1 rfl dX0_dicksonAt_121 ?_
        refine z_cV (st := [.int x27, .ref l0]) [.int x24, .int x24] zk_RX0_61 rfl (Nat.le_of_ble_eq_true rfl) dX0_dicksonAt_123 (mX0_sum hV (d + 0) l0 x24 x24 h26) (fun v28 h29 => ?_)
        refine z_vi (fun x30 => ?_)
        refine z_cV (st := []) [.int x27, .int x30] zk_RX0_67 rfl (Nat.le_of_ble_eq_true rfl) dX0_dicksonAt_126 (mX0_difference hV (d + 0) l0 x27 x30 h29) (fun v31 h32 => ?_)
        refine z_vi (fun x33 => ?_)
        refine z_istore (lv' := [(5, .int x33), (4, .int x9), (10, .int x24), (9, .int x12), (8, .int x9), (0, .ref l0), (1, .int l1), (2, .int l2), (3, .int l3), (6, .int l6), (7, .int l7)]) (by decide) rfl dX0_dicksonAt_129 ?_
        refine z_aload_n 5 rfl rfl dX0_dicksonAt_131 ?_
        refine z_iload 3 rfl dX0_dicksonAt_132 ?_
        refine z_iload_n 7 rfl rfl dX0_dicksonAt_134 ?_
        refine z_cV (st := []) [.int x12, .int l2] zk_RX0_64 rfl (Nat.le_of_ble_eq_true rfl) dX0_dicksonAt_135 (mX0_product hV (d + 0) l0 x12 l2 h32) (fun v34 h35 => ?_)
        refine z_vi (fun x36 => ?_)
        refine z_istore (lv' := [(6, .int x36), (5, .int x33), (4, .int x9), (10, .int x24), (9, .int x12), (8, .int x9), (0, .ref l0), (1, .int l1), (2, .int l2), (3, .int l3), (7, .int l7)]) (by decide) rfl dX0_dicksonAt_138 ?_
        refine z_inc (w := (-1)) (lv' := [(7, .int (l7 + (-1))), (6, .int x36), (5, .int x33), (4, .int x9), (10, .int x24), (9, .int x12), (8, .int x9), (0, .ref l0), (1, .int l1), (2, .int l2), (3, .int l3)]) 10 rfl (by decide) (by decide) rfl dX0_dicksonAt_140 ?_
        refine z_goto 18 (by decide) dX0_dicksonAt_143 ?_
        exact z_sub [7, 8, 9, 10, 3, 2, 1, 0] rfl (ih l0 l1 l2 l3 x9 x33 x36 (l7 + (-1)) h35)
def fX0_dicksonAt (a0 : Nat) (a1 : Int32) (a2 : Int32) (a3 : Int32) (h : AH) : RR :=
  zcv (zob h a0 0) (fX0_sum a0 1 1 h) fun v1 h2 =>
  zvi v1 fun x3 =>
  fX0_dicksonAt_18 FU a0 a1 a2 a3 x3 a3 1 13 h2
set_option maxRecDepth 20000 in
theorem mX0_dicksonAt {V : VT} (hV : V.2.2.2.2.2.stackTraces = false) (d : Nat) (a0 : Nat) (a1 : Int32) (a2 : Int32) (a3 : Int32) (h : AH) : zM V yX0_dicksonAt cX0_dicksonAt 11 (some .int) (d + 2) [.ref a0, .int a1, .int a2, .int a3] h (fX0_dicksonAt a0 a1 a2 a3 h) := by
  refine z_meth hV (by decide +kernel) (Nat.le_of_ble_eq_true rfl) [(0, .ref a0), (1, .int a1), (2, .int a2), (3, .int a3)] rfl (fun X => ?_)
  show zG X V RX0 "dicksonAt" cX0_dicksonAt 11 (some .int) (d + 2) h.1 h.2.1 (fX0_dicksonAt a0 a1 a2 a3 h) 0 [(0, .ref a0), (1, .int a1), (2, .int a2), (3, .int a3)] [] h
  unfold fX0_dicksonAt
  refine z_aload_n 0 rfl rfl dX0_dicksonAt_0 ?_
  refine z_iconst (v := 1) (by decide) dX0_dicksonAt_1 ?_
  refine z_iconst (v := 1) (by decide) dX0_dicksonAt_2 ?_
  refine z_cV (st := []) [.int 1, .int 1] zk_RX0_61 rfl (Nat.le_of_ble_eq_true rfl) dX0_dicksonAt_3 (mX0_sum hV (d + 0) a0 1 1 h) (fun v1 h2 => ?_)
  refine z_vi (fun x3 => ?_)
  refine z_istore (lv' := [(4, .int x3), (0, .ref a0), (1, .int a1), (2, .int a2), (3, .int a3)]) (by decide) rfl dX0_dicksonAt_6 ?_
  refine z_iload_n 4 rfl rfl dX0_dicksonAt_8 ?_
  refine z_istore (lv' := [(5, .int a3), (4, .int x3), (0, .ref a0), (1, .int a1), (2, .int a2), (3, .int a3)]) (by decide) rfl dX0_dicksonAt_9 ?_
  refine z_iconst (v := 1) (by decide) dX0_dicksonAt_11 ?_
  refine z_istore (lv' := [(6, .int 1), (5, .int a3), (4, .int x3), (0, .ref a0), (1, .int a1), (2, .int a2), (3, .int a3)]) (by decide) rfl dX0_dicksonAt_12 ?_
  refine z_bipush (v := 13) (by decide) dX0_dicksonAt_14 ?_
  refine z_istore (lv' := [(7, .int 13), (6, .int 1), (5, .int a3), (4, .int x3), (0, .ref a0), (1, .int a1), (2, .int a2), (3, .int a3)]) (by decide) rfl dX0_dicksonAt_16 ?_
  exact z_sub [4, 5, 6, 7, 3, 2, 1, 0] rfl (rX0_dicksonAt_18 hV FU a0 a1 a2 a3 x3 a3 1 13 h2)
