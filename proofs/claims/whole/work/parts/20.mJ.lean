/-! printed by a program of ours (wip/whole/drive.py) out of the code -/
def fJ13_bitCount_95d88 (a0 : Int64) (h : AH) : RR :=
  zletJ (a0 - (((a0.toUInt64 >>> ((1 : Int32).toInt64.toUInt64 &&& Int64.toUInt64 63)).toInt64) &&& 6148914691236517205)) fun w1 =>
  zletJ ((w1 &&& 3689348814741910323) + (((w1.toUInt64 >>> ((2 : Int32).toInt64.toUInt64 &&& Int64.toUInt64 63)).toInt64) &&& 3689348814741910323)) fun w2 =>
  zletJ ((w2 + ((w2.toUInt64 >>> ((4 : Int32).toInt64.toUInt64 &&& Int64.toUInt64 63)).toInt64)) &&& 1085102592571150095) fun w3 =>
  zletJ (w3 + ((w3.toUInt64 >>> ((8 : Int32).toInt64.toUInt64 &&& Int64.toUInt64 63)).toInt64)) fun w4 =>
  zletJ (w4 + ((w4.toUInt64 >>> ((16 : Int32).toInt64.toUInt64 &&& Int64.toUInt64 63)).toInt64)) fun w5 =>
  zletJ (w5 + ((w5.toUInt64 >>> ((32 : Int32).toInt64.toUInt64 &&& Int64.toUInt64 63)).toInt64)) fun w6 =>
  some (.inl (some (.int (w6.toInt32 &&& 127))), h)
set_option maxRecDepth 20000 in
theorem mJ13_bitCount_95d88 {V : VT} (hV : V.2.2.2.2.2.stackTraces = false) (d : Nat) (a0 : Int64) (h : AH) : zM V yJ13_bitCount_95d88 cJ13_bitCount_95d88 2 (some .int) (d + 1) [.long a0] h (fJ13_bitCount_95d88 a0 h) := by
  refine z_meth hV (by decide +kernel) (Nat.le_of_ble_eq_true rfl) [(0, .long a0)] rfl (fun X => ?_)
  show zG X V RJ13 "bitCount" cJ13_bitCount_95d88 2 (some .int) (d + 1) h.1 h.2.1 (fJ13_bitCount_95d88 a0 h) 0 [(0, .long a0)] [] h
  unfold fJ13_bitCount_95d88
  refine z_lload_n 0 rfl rfl dJ13_bitCount_95d88_0 ?_
  refine z_lload_n 0 rfl rfl dJ13_bitCount_95d88_1 ?_
  refine z_iconst (v := 1) (by decide) dJ13_bitCount_95d88_2 ?_
  refine z_lushr dJ13_bitCount_95d88_3 ?_
  refine z_ldc2 zw_399 dJ13_bitCount_95d88_4 ?_
  refine z_land dJ13_bitCount_95d88_7 ?_
  refine z_lsub dJ13_bitCount_95d88_8 ?_
  refine z_topJ (fun w1 => ?_)
  refine z_lstore_n (lv' := [(0, .long w1)]) rfl (by decide) rfl dJ13_bitCount_95d88_9 ?_
  refine z_lload_n 0 rfl rfl dJ13_bitCount_95d88_10 ?_
  refine z_ldc2 zw_400 dJ13_bitCount_95d88_11 ?_
  refine z_land dJ13_bitCount_95d88_14 ?_
  refine z_lload_n 0 rfl rfl dJ13_bitCount_95d88_15 ?_
  refine z_iconst (v := 2) (by decide) dJ13_bitCount_95d88_16 ?_
  refine z_lushr dJ13_bitCount_95d88_17 ?_
  refine z_ldc2 zw_400 dJ13_bitCount_95d88_18 ?_
  refine z_land dJ13_bitCount_95d88_21 ?_
  refine z_ladd dJ13_bitCount_95d88_22 ?_
  refine z_topJ (fun w2 => ?_)
  refine z_lstore_n (lv' := [(0, .long w2)]) rfl (by decide) rfl dJ13_bitCount_95d88_23 ?_
  refine z_lload_n 0 rfl rfl dJ13_bitCount_95d88_24 ?_
  refine z_lload_n 0 rfl rfl dJ13_bitCount_95d88_25 ?_
  refine z_iconst (v := 4) (by decide) dJ13_bitCount_95d88_26 ?_
  refine z_lushr dJ13_bitCount_95d88_27 ?_
  refine z_ladd dJ13_bitCount_95d88_28 ?_
  refine z_ldc2 zw_401 dJ13_bitCount_95d88_29 ?_
  refine z_land dJ13_bitCount_95d88_32 ?_
  refine z_topJ (fun w3 => ?_)
  refine z_lstore_n (lv' := [(0, .long w3)]) rfl (by decide) rfl dJ13_bitCount_95d88_33 ?_
  refine z_lload_n 0 rfl rfl dJ13_bitCount_95d88_34 ?_
  refine z_lload_n 0 rfl rfl dJ13_bitCount_95d88_35 ?_
  refine z_bipush (v := 8) (by decide) dJ13_bitCount_95d88_36 ?_
  refine z_lushr dJ13_bitCount_95d88_38 ?_
  refine z_ladd dJ13_bitCount_95d88_39 ?_
  refine z_topJ (fun w4 => ?_)
  refine z_lstore_n (lv' := [(0, .long w4)]) rfl (by decide) rfl dJ13_bitCount_95d88_40 ?_
  refine z_lload_n 0 rfl rfl dJ13_bitCount_95d88_41 ?_
  refine z_lload_n 0 rfl rfl dJ13_bitCount_95d88_42 ?_
  refine z_bipush (v := 16) (by decide) dJ13_bitCount_95d88_43 ?_
  refine z_lushr dJ13_bitCount_95d88_45 ?_
  refine z_ladd dJ13_bitCount_95d88_46 ?_
  refine z_topJ (fun w5 => ?_)
  refine z_lstore_n (lv' := [(0, .long w5)]) rfl (by decide) rfl dJ13_bitCount_95d88_47 ?_
  refine z_lload_n 0 rfl rfl dJ13_bitCount_95d88_48 ?_
  refine z_lload_n 0 rfl rfl dJ13_bitCount_95d88_49 ?_
  refine z_bipush (v := 32) (by decide) dJ13_bitCount_95d88_50 ?_
  refine z_lushr dJ13_bitCount_95d88_52 ?_
  refine z_ladd dJ13_bitCount_95d88_53 ?_
  refine z_topJ (fun w6 => ?_)
  refine z_lstore_n (lv' := [(0, .long w6)]) rfl (by decide) rfl dJ13_bitCount_95d88_54 ?_
  refine z_lload_n 0 rfl rfl dJ13_bitCount_95d88_55 ?_
  refine z_l2i dJ13_bitCount_95d88_56 ?_
  refine z_bipush (v := 127) (by decide) dJ13_bitCount_95d88_57 ?_
  refine z_iand dJ13_bitCount_95d88_59 ?_
  exact z_iret rfl dJ13_bitCount_95d88_60
