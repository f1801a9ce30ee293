/-! printed by a program of ours (wip/whole/drive.py) out of the code -/
def fX7_init (a0 : Nat) (h : AH) : RR :=
  zb2 (znI h 3) fun b1 h2 =>
  (zpf h2 a0 7 1 (.ref b1)).bind fun h3 =>
  (zpf h3 a0 7 5 (.int (-1))).bind fun h4 =>
  zb2 (znI h4 300) fun b5 h6 =>
  (zpf h6 a0 7 8 (.ref b5)).bind fun h7 =>
  zb2 (znI h7 387) fun b8 h9 =>
  (zpf h9 a0 7 9 (.ref b8)).bind fun h10 =>
  zb2 (znI h10 387) fun b11 h12 =>
  (zpf h12 a0 7 10 (.ref b11)).bind fun h13 =>
  zb2 (znM h13 8 387) fun b14 h15 =>
  (zpf h15 a0 7 11 (.ref b14)).bind fun h16 =>
  zb2 (znM h16 64 64) fun b17 h18 =>
  (zpf h18 a0 7 17 (.ref b17)).bind fun h19 =>
  zb2 (znM h19 64 64) fun b20 h21 =>
  (zpf h21 a0 7 18 (.ref b20)).bind fun h22 =>
  zb2 (znI h22 64) fun b23 h24 =>
  (zpf h24 a0 7 19 (.ref b23)).bind fun h25 =>
  zb2 (znI h25 64) fun b26 h27 =>
  (zpf h27 a0 7 20 (.ref b26)).bind fun h28 =>
  zb2 (znI h28 14) fun b29 h30 =>
  (zpf h30 a0 7 21 (.ref b29)).bind fun h31 =>
  zb2 (znI h31 64) fun b32 h33 =>
  (zpf h33 a0 7 24 (.ref b32)).bind fun h34 =>
  zb2 (znI h34 64) fun b35 h36 =>
  (zpf h36 a0 7 25 (.ref b35)).bind fun h37 =>
  zb2 (znI h37 64) fun b38 h39 =>
  (zpf h39 a0 7 26 (.ref b38)).bind fun h40 =>
  zb2 (znI h40 64) fun b41 h42 =>
  (zpf h42 a0 7 27 (.ref b41)).bind fun h43 =>
  (zgR h43 a0 7 9).bind fun x44 =>
  (zsi h43 x44 0 2).bind fun h45 =>
  (zgR h45 a0 7 9).bind fun x46 =>
  (zsi h45 x46 1 1).bind fun h47 =>
  some (.inl none, h47)
set_option maxRecDepth 20000 in
theorem mX7_init {V : VT} (hV : V.2.2.2.2.2.stackTraces = false) (d : Nat) (a0 : Nat) (h : AH) : zM V yX7_init cX7_init 1 none (d + 1) [.ref a0] h (fX7_init a0 h) := by
  refine z_meth hV (by decide +kernel) (Nat.le_of_ble_eq_true rfl) [(0, .ref a0)] rfl (fun X => ?_)
  show zG X V RX7 "<init>" cX7_init 1 none (d + 1) h.1 h.2.1 (fX7_init a0 h) 0 [(0, .ref a0)] [] h
  unfold fX7_init
  refine z_aload_n 0 rfl rfl dX7_init_0 ?_
  refine z_objInit zw_947 zw_98 zw_99 (Nat.le_of_ble_eq_true rfl) (by omega) dX7_init_1 ?_
  refine z_aload_n 0 rfl rfl dX7_init_4 ?_
  refine z_iconst (v := 3) (by decide) dX7_init_5 ?_
  refine z_nI zw_173 dX7_init_6 (fun b1 h2 => ?_)
  refine z_pR zf_RX7_9 zq_7_1 (Or.inr ⟨_, rfl⟩) dX7_init_8 (fun h3 => ?_)
  refine z_aload_n 0 rfl rfl dX7_init_11 ?_
  refine z_iconst (v := (-1)) (by decide) dX7_init_12 ?_
  refine z_pI zf_RX7_13 zq_7_5 rfl dX7_init_13 (fun h4 => ?_)
  refine z_aload_n 0 rfl rfl dX7_init_16 ?_
  refine z_sipush (v := 300) (by decide) dX7_init_17 ?_
  refine z_nI zw_173 dX7_init_20 (fun b5 h6 => ?_)
  refine z_pR zf_RX7_17 zq_7_8 (Or.inr ⟨_, rfl⟩) dX7_init_22 (fun h7 => ?_)
  refine z_aload_n 0 rfl rfl dX7_init_25 ?_
  refine z_sipush (v := 387) (by decide) dX7_init_26 ?_
  refine z_nI zw_173 dX7_init_29 (fun b8 h9 => ?_)
  refine z_pR zf_RX7_20 zq_7_9 (Or.inr ⟨_, rfl⟩) dX7_init_31 (fun h10 => ?_)
  refine z_aload_n 0 rfl rfl dX7_init_34 ?_
  refine z_sipush (v := 387) (by decide) dX7_init_35 ?_
  refine z_nI zw_173 dX7_init_38 (fun b11 h12 => ?_)
  refine z_pR zf_RX7_23 zq_7_10 (Or.inr ⟨_, rfl⟩) dX7_init_40 (fun h13 => ?_)
  refine z_aload_n 0 rfl rfl dX7_init_43 ?_
  refine z_bipush (v := 8) (by decide) dX7_init_44 ?_
  refine z_sipush (v := 387) (by decide) dX7_init_46 ?_
  refine z_nM zw_948 zw_173 dX7_init_49 (fun b14 h15 => ?_)
  refine z_pR zf_RX7_28 zq_7_11 (Or.inr ⟨_, rfl⟩) dX7_init_53 (fun h16 => ?_)
  refine z_aload_n 0 rfl rfl dX7_init_56 ?_
  refine z_bipush (v := 64) (by decide) dX7_init_57 ?_
  refine z_bipush (v := 64) (by decide) dX7_init_59 ?_
  refine z_nM zw_948 zw_173 dX7_init_61 (fun b17 h18 => ?_)
  refine z_pR zf_RX7_31 zq_7_17 (Or.inr ⟨_, rfl⟩) dX7_init_65 (fun h19 => ?_)
  refine z_aload_n 0 rfl rfl dX7_init_68 ?_
  refine z_bipush (v := 64) (by decide) dX7_init_69 ?_
  refine z_bipush (v := 64) (by decide) dX7_init_71 ?_
  refine z_nM zw_948 zw_173 dX7_init_73 (fun b20 h21 => ?_)
  refine z_pR zf_RX7_34 zq_7_18 (Or.inr ⟨_, rfl⟩) dX7_init_77 (fun h22 => ?_)
  refine z_aload_n 0 rfl rfl dX7_init_80 ?_
  refine z_bipush (v := 64) (by decide) dX7_init_81 ?_
  refine z_nI zw_173 dX7_init_83 (fun b23 h24 => ?_)
  refine z_pR zf_RX7_37 zq_7_19 (Or.inr ⟨_, rfl⟩) dX7_init_85 (fun h25 => ?_)
  refine z_aload_n 0 rfl rfl dX7_init_88 ?_
  refine z_bipush (v := 64) (by decide) dX7_init_89 ?_
  refine z_nI zw_173 dX7_init_91 (fun b26 h27 => ?_)
  refine z_pR zf_RX7_40 zq_7_20 (Or.inr ⟨_, rfl⟩) dX7_init_93 (fun h28 => ?_)
  refine z_aload_n 0 rfl rfl dX7_init_96 ?_
  refine z_bipush (v := 14) (by decide) dX7_init_97 ?_
  refine z_nI zw_173 dX7_init_99 (fun b29 h30 => ?_)
  refine z_pR zf_RX7_43 zq_7_21 (Or.inr ⟨_, rfl⟩) dX7_init_101 (fun h31 => ?_)
  refine z_aload_n 0 rfl rfl dX7_init_104 ?_
  refine z_bipush (v := 64) (by decide) dX7_init_105 ?_
  refine z_nI zw_173 dX7_init_107 (fun b32 h33 => ?_)
  refine z_pR zf_RX7_46 zq_7_24 (Or.inr ⟨_, rfl⟩) dX7_init_109 (fun h34 => ?_)
  refine z_aload_n 0 rfl rfl dX7_init_112 ?_
  refine z_bipush (v := 64) (by decide) dX7_init_113 ?_
  refine z_nI zw_173 dX7_init_115 (fun b35 h36 => ?_)
  refine z_pR zf_RX7_49 zq_7_25 (Or.inr ⟨_, rfl⟩) dX7_init_117 (fun h37 => ?_)
  refine z_aload_n 0 rfl rfl dX7_init_120 ?_
  refine z_bipush (v := 64) (by decide) dX7_init_121 ?_
  refine z_nI zw_173 dX7_init_123 (fun b38 h39 => ?_)
  refine z_pR zf_RX7_52 zq_7_26 (Or.inr ⟨_, rfl⟩) dX7_init_125 (fun h40 => ?_)
  refine z_aload_n 0 rfl rfl dX7_init_128 ?_
  refine z_bipush (v := 64) (by decide) dX7_init_129 ?_
  refine z_nI zw_173 dX7_init_131 (fun b41 h42 => ?_)
  refine z_pR zf_RX7_55 zq_7_27 (Or.inr ⟨_, rfl⟩) dX7_init_133 (fun h43 => ?_)
  refine z_aload_n 0 rfl rfl dX7_init_136 ?_
  refine z_gR zf_RX7_20 dX7_init_137 (fun x44 => ?_)
  refine z_iconst (v := 0) (by decide) dX7_init_140 ?_
  refine z_iconst (v := 2) (by decide) dX7_init_141 ?_
  refine z_sI dX7_init_142 (fun h45 => ?_)
  refine z_aload_n 0 rfl rfl dX7_init_143 ?_
  refine z_gR zf_RX7_20 dX7_init_144 (fun x46 => ?_)
  refine z_iconst (v := 1) (by decide) dX7_init_147 ?_
  refine z_iconst (v := 1) (by decide) dX7_init_148 ?_
  refine z_sI dX7_init_149 (fun h47 => ?_)
  exact z_vret rfl dX7_init_150
def fX7_thrown (a0 : Nat) (h : AH) : RR :=
  (zgI h a0 7 0).bind fun x1 =>
  some (.inl (some (.int x1)), h)
set_option maxRecDepth 20000 in
theorem mX7_thrown {V : VT} (hV : V.2.2.2.2.2.stackTraces = false) (d : Nat) (a0 : Nat) (h : AH) : zM V yX7_thrown cX7_thrown 1 (some .int) (d + 1) [.ref a0] h (fX7_thrown a0 h) := by
  refine z_meth hV (by decide +kernel) (Nat.le_of_ble_eq_true rfl) [(0, .ref a0)] rfl (fun X => ?_)
  show zG X V RX7 "thrown" cX7_thrown 1 (some .int) (d + 1) h.1 h.2.1 (fX7_thrown a0 h) 0 [(0, .ref a0)] [] h
  unfold fX7_thrown
  refine z_aload_n 0 rfl rfl dX7_thrown_0 ?_
  refine z_gI zf_RX7_58 dX7_thrown_1 (fun x1 => ?_)
  exact z_iret rfl dX7_thrown_4
def fX7_bad_26 (l0 : Nat) (h : AH) : RR :=
  (zgI h l0 7 0).bind fun x1 =>
  if x1 = 0 then (
    zbr 0 h)
  else
  zbr 1 h
set_option maxRecDepth 20000 in
theorem rX7_bad_26 {X : CT} {V : VT} {d n0 k0 : Nat} (hV : V.2.2.2.2.2.stackTraces = false) (l0 : Nat) (h : AH) : zG X V RX7 "bad" cX7_bad 4 (some .boolean) (d + 1) n0 k0 (fX7_bad_26 l0 h) 26 [(0, .ref l0)] [] h := by
  unfold fX7_bad_26
  refine z_aload_n 0 rfl rfl dX7_bad_26 ?_
  refine z_gI zf_RX7_58 dX7_bad_27 (fun x1 => ?_)
  refine z_if_eq 37 (by decide) dX7_bad_30 ?_ ?_
  · refine z_iconst (v := 0) (by decide) dX7_bad_37 ?_
    exact z_zret rfl dX7_bad_38
  · refine z_iconst (v := 1) (by decide) dX7_bad_33 ?_
    refine z_goto 38 (by decide) dX7_bad_34 ?_
    exact z_zret rfl dX7_bad_38
def fX7_bad (a0 : Nat) (a1 : Int32) (a2 : Int32) (a3 : Int32) (h : AH) : RR :=
  if a1 = 0 then (
    fX7_bad_26 a0 h)
  else
  (zgI h a0 7 0).bind fun x1 =>
  if x1 = 0 then (
    (zpf h a0 7 0 (.int a2)).bind fun h2 =>
    (zgR h2 a0 7 1).bind fun x3 =>
    (zai h2 x3 a3).bind fun x4 =>
    (zsi h2 x3 a3 (x4 + 1)).bind fun h5 =>
    fX7_bad_26 a0 h5)
  else
  fX7_bad_26 a0 h
set_option maxRecDepth 20000 in
theorem mX7_bad {V : VT} (hV : V.2.2.2.2.2.stackTraces = false) (d : Nat) (a0 : Nat) (a1 : Int32) (a2 : Int32) (a3 : Int32) (h : AH) : zM V yX7_bad cX7_bad 4 (some .boolean) (d + 1) [.ref a0, .int a1, .int a2, .int a3] h (fX7_bad a0 a1 a2 a3 h) := by
  refine z_meth hV (by decide +kernel) (Nat.le_of_ble_eq_true rfl) [(0, .ref a0), (1, .int a1), (2, .int a2), (3, .int a3)] rfl (fun X => ?_)
  show zG X V RX7 "bad" cX7_bad 4 (some .boolean) (d + 1) h.1 h.2.1 (fX7_bad a0 a1 a2 a3 h) 0 [(0, .ref a0), (1, .int a1), (2, .int a2), (3, .int a3)] [] h
  unfold fX7_bad
  refine z_iload_n 1 rfl rfl dX7_bad_0 ?_
  refine z_if_eq 26 (by decide) dX7_bad_1 ?_ ?_
  · exact z_sub [0] rfl (rX7_bad_26 hV a0 h)
  · refine z_aload_n 0 rfl rfl dX7_bad_4 ?_
    refine z_gI zf_RX7_58 dX7_bad_5 (fun x1 => ?_)
    refine z_if_ne 26 (by decide) dX7_bad_8 ?_ ?_
    · refine z_aload_n 0 rfl rfl dX7_bad_11 ?_
      refine z_iload_n 2 rfl rfl dX7_bad_12 ?_
      refine z_pI zf_RX7_58 zq_7_0 rfl dX7_bad_13 (fun h2 => ?_)
      refine z_aload_n 0 rfl rfl dX7_bad_16 ?_
      refine z_gR zf_RX7_9 dX7_bad_17 (fun x3 => ?_)
      refine z_iload_n 3 rfl rfl dX7_bad_20 ?_
      refine z_dup2 rfl rfl dX7_bad_21 ?_
      refine z_aI dX7_bad_22 (fun x4 => ?_)
      refine z_iconst (v := 1) (by decide) dX7_bad_23 ?_
      refine z_iadd dX7_bad_24 ?_
      refine z_sI dX7_bad_25 (fun h5 => ?_)
      exact z_sub [0] rfl (rX7_bad_26 hV a0 h5)
    · exact z_sub [0] rfl (rX7_bad_26 hV a0 h)
def fX7_in (a0 : Int64) (a1 : Int64) (a2 : Int64) (h : AH) : RR :=
  if (lg_cmp a0 a1) < 0 then (
    zbr 0 h)
  else
  if 0 < (lg_cmp a0 a2) then (
    zbr 0 h)
  else
  zbr 1 h
set_option maxRecDepth 20000 in
theorem mX7_in {V : VT} (hV : V.2.2.2.2.2.stackTraces = false) (d : Nat) (a0 : Int64) (a1 : Int64) (a2 : Int64) (h : AH) : zM V yX7_in cX7_in 6 (some .boolean) (d + 1) [.long a0, .long a1, .long a2] h (fX7_in a0 a1 a2 h) := by
  refine z_meth hV (by decide +kernel) (Nat.le_of_ble_eq_true rfl) [(0, .long a0), (2, .long a1), (4, .long a2)] rfl (fun X => ?_)
  show zG X V RX7 "in" cX7_in 6 (some .boolean) (d + 1) h.1 h.2.1 (fX7_in a0 a1 a2 h) 0 [(0, .long a0), (2, .long a1), (4, .long a2)] [] h
  unfold fX7_in
  refine z_lload_n 0 rfl rfl dX7_in_0 ?_
  refine z_lload_n 1 rfl rfl dX7_in_1 ?_
  refine z_lcmp dX7_in_2 ?_
  refine z_if_lt 17 (by decide) dX7_in_3 ?_ ?_
  · refine z_iconst (v := 0) (by decide) dX7_in_17 ?_
    exact z_zret rfl dX7_in_18
  · refine z_lload_n 0 rfl rfl dX7_in_6 ?_
    refine z_lload 2 rfl dX7_in_7 ?_
    refine z_lcmp dX7_in_9 ?_
    refine z_if_gt 17 (by decide) dX7_in_10 ?_ ?_
    · refine z_iconst (v := 0) (by decide) dX7_in_17 ?_
      exact z_zret rfl dX7_in_18
    · refine z_iconst (v := 1) (by decide) dX7_in_13 ?_
      refine z_goto 18 (by decide) dX7_in_14 ?_
      exact z_zret rfl dX7_in_18
def fX7_less (a0 : Int32) (a1 : Int32) (h : AH) : RR :=
  if a1 ≤ a0 then (
    some (.inl (some (.int a1)), h))
  else
  some (.inl (some (.int a0)), h)
set_option maxRecDepth 20000 in
theorem mX7_less {V : VT} (hV : V.2.2.2.2.2.stackTraces = false) (d : Nat) (a0 : Int32) (a1 : Int32) (h : AH) : zM V yX7_less cX7_less 2 (some .int) (d + 1) [.int a0, .int a1] h (fX7_less a0 a1 h) := by
  refine z_meth hV (by decide +kernel) (Nat.le_of_ble_eq_true rfl) [(0, .int a0), (1, .int a1)] rfl (fun X => ?_)
  show zG X V RX7 "less" cX7_less 2 (some .int) (d + 1) h.1 h.2.1 (fX7_less a0 a1 h) 0 [(0, .int a0), (1, .int a1)] [] h
  unfold fX7_less
  refine z_iload_n 0 rfl rfl dX7_less_0 ?_
  refine z_iload_n 1 rfl rfl dX7_less_1 ?_
  refine z_icmp_ge 9 (by decide) dX7_less_2 ?_ ?_
  · refine z_iload_n 1 rfl rfl dX7_less_9 ?_
    exact z_iret rfl dX7_less_10
  · refine z_iload_n 0 rfl rfl dX7_less_5 ?_
    refine z_goto 10 (by decide) dX7_less_6 ?_
    exact z_iret rfl dX7_less_10
def fX7_feed_76 (K23 : Nat → Int32 → Int32 → Int32 → Int32 → Int32 → Int32 → AH → RR) (l0 : Nat) (l1 : Int32) (l2 : Int32) (l3 : Int32) (l4 : Int32) (l5 : Int32) (l6 : Int32) (s0 : Int32) (h : AH) : RR :=
  (zgR h l0 7 8).bind fun x1 =>
  (zgI h l0 7 2).bind fun x2 =>
  if (4 : Int32) = 0 then none else
  (zsi h x1 x2 ((s0 >>> (((24 : Int32) - ((8 : Int32) * (l6 - l6 / 4 * 4))) &&& 31)) &&& 255)).bind fun h3 =>
  (zgI h3 l0 7 2).bind fun x4 =>
  (zpf h3 l0 7 2 (.int (x4 + 1))).bind fun h5 =>
  K23 l0 l1 l2 l3 l4 l5 (l6 + 1) h5
set_option maxRecDepth 20000 in
theorem rX7_feed_76 {X : CT} {V : VT} {d n0 k0 : Nat} (hV : V.2.2.2.2.2.stackTraces = false) (K23 : Nat → Int32 → Int32 → Int32 → Int32 → Int32 → Int32 → AH → RR) (hK23 : ∀ l0 l1 l2 l3 l4 l5 l6  h, zG X V RX7 "feed" cX7_feed 8 (some .int) (d + 1) n0 k0 (K23 l0 l1 l2 l3 l4 l5 l6 h) 23 [(0, .ref l0), (1, .int l1), (2, .int l2), (3, .int l3), (4, .int l4), (5, .int l5), (6, .int l6)] [] h) (l0 : Nat) (l1 : Int32) (l2 : Int32) (l3 : Int32) (l4 : Int32) (l5 : Int32) (l6 : Int32) (s0 : Int32) (h : AH) : zG X V RX7 "feed" cX7_feed 8 (some .int) (d + 1) n0 k0 (fX7_feed_76 K23 l0 l1 l2 l3 l4 l5 l6 s0 h) 76 [(0, .ref l0), (1, .int l1), (2, .int l2), (3, .int l3), (4, .int l4), (5, .int l5), (6, .int l6)] [.int s0] h := by
  unfold fX7_feed_76
  refine z_istore (lv' := [(7, .int s0), (0, .ref l0), (1, .int l1), (2, .int l2), (3, .int l3), (4, .int l4), (5, .int l5), (6, .int l6)]) (by decide) rfl dX7_feed_76 ?_
  refine z_aload_n 1 rfl rfl dX7_feed_78 ?_
  refine z_gR zf_RX7_17 dX7_feed_79 (fun x1 => ?_)
  refine z_aload_n 1 rfl rfl dX7_feed_82 ?_
  refine z_gI zf_RX7_61 dX7_feed_83 (fun x2 => ?_)
  refine z_iload 0 rfl dX7_feed_86 ?_
  refine z_bipush (v := 24) (by decide) dX7_feed_88 ?_
  refine z_bipush (v := 8) (by decide) dX7_feed_90 ?_
  refine z_iload 7 rfl dX7_feed_92 ?_
  refine z_iconst (v := 4) (by decide) dX7_feed_94 ?_
  refine z_irem dX7_feed_95 ?_
  refine z_imul dX7_feed_96 ?_
  refine z_isub dX7_feed_97 ?_
  refine z_ishr dX7_feed_98 ?_
  refine z_sipush (v := 255) (by decide) dX7_feed_99 ?_
  refine z_iand dX7_feed_102 ?_
  refine z_sI dX7_feed_103 (fun h3 => ?_)
  refine z_aload_n 1 rfl rfl dX7_feed_104 ?_
  refine z_dup rfl dX7_feed_105 ?_
  refine z_gI zf_RX7_61 dX7_feed_106 (fun x4 => ?_)
  refine z_iconst (v := 1) (by decide) dX7_feed_109 ?_
  refine z_iadd dX7_feed_110 ?_
  refine z_pI zf_RX7_61 zq_7_2 rfl dX7_feed_111 (fun h5 => ?_)
  refine z_inc (w := 1) (lv' := [(6, .int (l6 + 1)), (7, .int s0), (0, .ref l0), (1, .int l1), (2, .int l2), (3, .int l3), (4, .int l4), (5, .int l5)]) 7 rfl (by decide) (by decide) rfl dX7_feed_114 ?_
  refine z_goto 23 (by decide) dX7_feed_117 ?_
  exact z_sub [2, 3, 4, 5, 6, 7, 0] rfl (hK23 l0 l1 l2 l3 l4 l5 (l6 + 1) h5)
def fX7_feed_23 : Nat → Nat → Int32 → Int32 → Int32 → Int32 → Int32 → Int32 → AH → RR
  | 0, _, _, _, _, _, _, _, _ => none
  | k + 1, l0, l1, l2, l3, l4, l5, l6, h =>
  if 20 ≤ l6 then (
    (zgI h l0 7 2).bind fun x1 =>
    some (.inl (some (.int x1)), h))
  else
  if 4 ≤ l6 then (
    if 8 ≤ l6 then (
      if 12 ≤ l6 then (
        if 16 ≤ l6 then (
          fX7_feed_76 (fun p0 p1 p2 p3 p4 p5 p6 h => fX7_feed_23 k p0 p1 p2 p3 p4 p5 p6 h) l0 l1 l2 l3 l4 l5 l6 l5 h)
        else
        fX7_feed_76 (fun p0 p1 p2 p3 p4 p5 p6 h => fX7_feed_23 k p0 p1 p2 p3 p4 p5 p6 h) l0 l1 l2 l3 l4 l5 l6 l4 h)
      else
      fX7_feed_76 (fun p0 p1 p2 p3 p4 p5 p6 h => fX7_feed_23 k p0 p1 p2 p3 p4 p5 p6 h) l0 l1 l2 l3 l4 l5 l6 l3 h)
    else
    fX7_feed_76 (fun p0 p1 p2 p3 p4 p5 p6 h => fX7_feed_23 k p0 p1 p2 p3 p4 p5 p6 h) l0 l1 l2 l3 l4 l5 l6 l2 h)
  else
  fX7_feed_76 (fun p0 p1 p2 p3 p4 p5 p6 h => fX7_feed_23 k p0 p1 p2 p3 p4 p5 p6 h) l0 l1 l2 l3 l4 l5 l6 l1 h
set_option maxRecDepth 20000 in
theorem rX7_feed_23 {X : CT} {V : VT} {d n0 k0 : Nat} (hV : V.2.2.2.2.2.stackTraces = false) (fu : Nat) : ∀ (l0 : Nat) (l1 : Int32) (l2 : Int32) (l3 : Int32) (l4 : Int32) (l5 : Int32) (l6 : Int32) (h : AH), zG X V RX7 "feed" cX7_feed 8 (some .int) (d + 1) n0 k0 (fX7_feed_23 fu l0 l1 l2 l3 l4 l5 l6 h) 23 [(0, .ref l0), (1, .int l1), (2, .int l2), (3, .int l3), (4, .int l4), (5, .int l5), (6, .int l6)] [] h := by
  induction fu with
  | zero => intros; exact z_none
  | succ k ih =>
    intro l0 l1 l2 l3 l4 l5 l6 h
    rw [fX7_feed_23]
    refine z_iload 6 rfl dX7_feed_23 ?_
    refine z_bipush (v := 20) (by decide) dX7_feed_25 ?_
    refine z_icmp_ge 120 (by decide) dX7_feed_27 ?_ ?_
    · refine z_aload_n 0 rfl rfl dX7_feed_120 ?_
      refine z_gI zf_RX7_61 dX7_feed_121 (fun x1 => ?_)
      exact z_iret rfl dX7_feed_124
    · refine z_iload 6 rfl dX7_feed_30 ?_
      refine z_iconst (v := 4) (by decide) dX7_feed_32 ?_
      refine z_icmp_ge 40 (by decide) dX7_feed_33 ?_ ?_
      · refine z_iload 6 rfl dX7_feed_40 ?_
        refine z_bipush (v := 8) (by decide) dX7_feed_42 ?_
        refine z_icmp_ge 51 (by decide) dX7_feed_44 ?_ ?_
        · refine z_iload 6 rfl dX7_feed_51 ?_
          refine z_bipush (v := 12) (by decide) dX7_feed_53 ?_
          refine z_icmp_ge 62 (by decide) dX7_feed_55 ?_ ?_
          · refine z_iload 6 rfl dX7_feed_62 ?_
            refine z_bipush (v := 16) (by decide) dX7_feed_64 ?_
            refine z_icmp_ge 74 (by decide) dX7_feed_66 ?_ ?_
            · refine z_iload 5 rfl dX7_feed_74 ?_
              exact z_sub [0, 1, 2, 3, 4, 5, 6] rfl (rX7_feed_76 hV (fun p0 p1 p2 p3 p4 p5 p6 h => fX7_feed_23 k p0 p1 p2 p3 p4 p5 p6 h) ih l0 l1 l2 l3 l4 l5 l6 l5 h)
            · refine z_iload 4 rfl dX7_feed_69 ?_
              refine z_goto 76 (by decide) dX7_feed_71 ?_
              exact z_sub [0, 1, 2, 3, 4, 5, 6] rfl (rX7_feed_76 hV (fun p0 p1 p2 p3 p4 p5 p6 h => fX7_feed_23 k p0 p1 p2 p3 p4 p5 p6 h) ih l0 l1 l2 l3 l4 l5 l6 l4 h)
          · refine z_iload_n 3 rfl rfl dX7_feed_58 ?_
            refine z_goto 76 (by decide) dX7_feed_59 ?_
            exact z_sub [0, 1, 2, 3, 4, 5, 6] rfl (rX7_feed_76 hV (fun p0 p1 p2 p3 p4 p5 p6 h => fX7_feed_23 k p0 p1 p2 p3 p4 p5 p6 h) ih l0 l1 l2 l3 l4 l5 l6 l3 h)
        · refine z_iload_n 2 rfl rfl dX7_feed_47 ?_
          refine z_goto 76 (by decide) dX7_feed_48 ?_
          exact z_sub [0, 1, 2, 3, 4, 5, 6] rfl (rX7_feed_76 hV (fun p0 p1 p2 p3 p4 p5 p6 h => fX7_feed_23 k p0 p1 p2 p3 p4 p5 p6 h) ih l0 l1 l2 l3 l4 l5 l6 l2 h)
      · refine z_iload_n 1 rfl rfl dX7_feed_36 ?_
        refine z_goto 76 (by decide) dX7_feed_37 ?_
        exact z_sub [0, 1, 2, 3, 4, 5, 6] rfl (rX7_feed_76 hV (fun p0 p1 p2 p3 p4 p5 p6 h => fX7_feed_23 k p0 p1 p2 p3 p4 p5 p6 h) ih l0 l1 l2 l3 l4 l5 l6 l1 h)
def fX7_feed (a0 : Nat) (a1 : Int32) (a2 : Int32) (a3 : Int32) (a4 : Int32) (a5 : Int32) (h : AH) : RR :=
  (zpf h a0 7 0 (.int 0)).bind fun h1 =>
  (zgI h1 a0 7 2).bind fun x2 =>
  if (x2 + 20) ≤ 300 then (
    fX7_feed_23 FU a0 a1 a2 a3 a4 a5 0 h1)
  else
  some (.inl (some (.int (-1))), h1)
set_option maxRecDepth 20000 in
theorem mX7_feed {V : VT} (hV : V.2.2.2.2.2.stackTraces = false) (d : Nat) (a0 : Nat) (a1 : Int32) (a2 : Int32) (a3 : Int32) (a4 : Int32) (a5 : Int32) (h : AH) : zM V yX7_feed cX7_feed 8 (some .int) (d + 1) [.ref a0, .int a1, .int a2, .int a3, .int a4, .int a5] h (fX7_feed a0 a1 a2 a3 a4 a5 h) := by
  refine z_meth hV (by decide +kernel) (Nat.le_of_ble_eq_true rfl) [(0, .ref a0), (1, .int a1), (2, .int a2), (3, .int a3), (4, .int a4), (5, .int a5)] rfl (fun X => ?_)
  show zG X V RX7 "feed" cX7_feed 8 (some .int) (d + 1) h.1 h.2.1 (fX7_feed a0 a1 a2 a3 a4 a5 h) 0 [(0, .ref a0), (1, .int a1), (2, .int a2), (3, .int a3), (4, .int a4), (5, .int a5)] [] h
  unfold fX7_feed
  refine z_aload_n 0 rfl rfl dX7_feed_0 ?_
  refine z_iconst (v := 0) (by decide) dX7_feed_1 ?_
  refine z_pI zf_RX7_58 zq_7_0 rfl dX7_feed_2 (fun h1 => ?_)
  refine z_aload_n 0 rfl rfl dX7_feed_5 ?_
  refine z_gI zf_RX7_61 dX7_feed_6 (fun x2 => ?_)
  refine z_bipush (v := 20) (by decide) dX7_feed_9 ?_
  refine z_iadd dX7_feed_11 ?_
  refine z_sipush (v := 300) (by decide) dX7_feed_12 ?_
  refine z_icmp_le 20 (by decide) dX7_feed_15 ?_ ?_
  · refine z_iconst (v := 0) (by decide) dX7_feed_20 ?_
    refine z_istore (lv' := [(6, .int 0), (0, .ref a0), (1, .int a1), (2, .int a2), (3, .int a3), (4, .int a4), (5, .int a5)]) (by decide) rfl dX7_feed_21 ?_
    exact z_sub [1, 2, 3, 4, 5, 6, 0] rfl (rX7_feed_23 hV FU a0 a1 a2 a3 a4 a5 0 h1)
  · refine z_iconst (v := (-1)) (by decide) dX7_feed_18 ?_
    exact z_iret rfl dX7_feed_19
def fX7_copies_2 : Nat → Nat → Nat → Int32 → AH → RR
  | 0, _, _, _, _ => none
  | k + 1, l0, l1, l2, h =>
  if 387 ≤ l2 then (
    some (.inl none, h))
  else
  (zai h l0 l2).bind fun x1 =>
  (zsi h l1 l2 x1).bind fun h2 =>
  fX7_copies_2 k l0 l1 (l2 + 1) h2
set_option maxRecDepth 20000 in
theorem rX7_copies_2 {X : CT} {V : VT} {d n0 k0 : Nat} (hV : V.2.2.2.2.2.stackTraces = false) (fu : Nat) : ∀ (l0 : Nat) (l1 : Nat) (l2 : Int32) (h : AH), zG X V RX7 "copies" cX7_copies 3 none (d + 1) n0 k0 (fX7_copies_2 fu l0 l1 l2 h) 2 [(0, .ref l0), (1, .ref l1), (2, .int l2)] [] h := by
  induction fu with
  | zero => intros; exact z_none
  | succ k ih =>
    intro l0 l1 l2 h
    rw [fX7_copies_2]
    refine z_iload_n 2 rfl rfl dX7_copies_2 ?_
    refine z_sipush (v := 387) (by decide) dX7_copies_3 ?_
    refine z_icmp_ge 21 (by decide) dX7_copies_6 ?_ ?_
    · exact z_vret rfl dX7_copies_21
    · refine z_aload_n 1 rfl rfl dX7_copies_9 ?_
      refine z_iload_n 2 rfl rfl dX7_copies_10 ?_
      refine z_aload_n 0 rfl rfl dX7_copies_11 ?_
      refine z_iload_n 2 rfl rfl dX7_copies_12 ?_
      refine z_aI dX7_copies_13 (fun x1 => ?_)
      refine z_sI dX7_copies_14 (fun h2 => ?_)
      refine z_inc (w := 1) (lv' := [(2, .int (l2 + 1)), (0, .ref l0), (1, .ref l1)]) 2 rfl (by decide) (by decide) rfl dX7_copies_15 ?_
      refine z_goto 2 (by decide) dX7_copies_18 ?_
      exact z_sub [1, 2, 0] rfl (ih l0 l1 (l2 + 1) h2)
def fX7_copies (a0 : Nat) (a1 : Nat) (h : AH) : RR :=
  fX7_copies_2 FU a0 a1 0 h
set_option maxRecDepth 20000 in
theorem mX7_copies {V : VT} (hV : V.2.2.2.2.2.stackTraces = false) (d : Nat) (a0 : Nat) (a1 : Nat) (h : AH) : zM V yX7_copies cX7_copies 3 none (d + 1) [.ref a0, .ref a1] h (fX7_copies a0 a1 h) := by
  refine z_meth hV (by decide +kernel) (Nat.le_of_ble_eq_true rfl) [(0, .ref a0), (1, .ref a1)] rfl (fun X => ?_)
  show zG X V RX7 "copies" cX7_copies 3 none (d + 1) h.1 h.2.1 (fX7_copies a0 a1 h) 0 [(0, .ref a0), (1, .ref a1)] [] h
  unfold fX7_copies
  refine z_iconst (v := 0) (by decide) dX7_copies_0 ?_
  refine z_istore_n (lv' := [(2, .int 0), (0, .ref a0), (1, .ref a1)]) rfl (by decide) rfl dX7_copies_1 ?_
  exact z_sub [1, 2, 0] rfl (rX7_copies_2 hV FU a0 a1 0 h)
def fX7_digit_5 : Nat → Int32 → Int32 → Int32 → Int32 → AH → RR
  | 0, _, _, _, _, _ => none
  | k + 1, l1, l2, l3, l4, h =>
  if l2 ≤ l4 then (
    if l1 = 0 then none else
    some (.inl (some (.int (l3 - l3 / l1 * l1))), h))
  else
  if l1 = 0 then none else
  fX7_digit_5 k l1 l2 (l3 / l1) (l4 + 1) h
set_option maxRecDepth 20000 in
theorem rX7_digit_5 {X : CT} {V : VT} {d n0 k0 : Nat} (hV : V.2.2.2.2.2.stackTraces = false) (fu : Nat) : ∀ (l1 : Int32) (l2 : Int32) (l3 : Int32) (l4 : Int32) (h : AH), zG X V RX7 "digit" cX7_digit 5 (some .int) (d + 1) n0 k0 (fX7_digit_5 fu l1 l2 l3 l4 h) 5 [(1, .int l1), (2, .int l2), (3, .int l3), (4, .int l4)] [] h := by
  induction fu with
  | zero => intros; exact z_none
  | succ k ih =>
    intro l1 l2 l3 l4 h
    rw [fX7_digit_5]
    refine z_iload 3 rfl dX7_digit_5 ?_
    refine z_iload_n 1 rfl rfl dX7_digit_7 ?_
    refine z_icmp_ge 21 (by decide) dX7_digit_8 ?_ ?_
    · refine z_iload_n 2 rfl rfl dX7_digit_21 ?_
      refine z_iload_n 0 rfl rfl dX7_digit_22 ?_
      refine z_irem dX7_digit_23 ?_
      exact z_iret rfl dX7_digit_24
    · refine z_iload_n 2 rfl rfl dX7_digit_11 ?_
      refine z_iload_n 0 rfl rfl dX7_digit_12 ?_
      refine z_idiv dX7_digit_13 ?_
      refine z_istore_n (lv' := [(3, .int (l3 / l1)), (1, .int l1), (2, .int l2), (4, .int l4)]) rfl (by decide) rfl dX7_digit_14 ?_
      refine z_inc (w := 1) (lv' := [(4, .int (l4 + 1)), (3, .int (l3 / l1)), (1, .int l1), (2, .int l2)]) 3 rfl (by decide) (by decide) rfl dX7_digit_15 ?_
      refine z_goto 5 (by decide) dX7_digit_18 ?_
      exact z_sub [2, 3, 1, 0] rfl (ih l1 l2 (l3 / l1) (l4 + 1) h)
def fX7_digit (a0 : Int32) (a1 : Int32) (a2 : Int32) (h : AH) : RR :=
  fX7_digit_5 FU a1 a2 a0 0 h
set_option maxRecDepth 20000 in
theorem mX7_digit {V : VT} (hV : V.2.2.2.2.2.stackTraces = false) (d : Nat) (a0 : Int32) (a1 : Int32) (a2 : Int32) (h : AH) : zM V yX7_digit cX7_digit 5 (some .int) (d + 1) [.int a0, .int a1, .int a2] h (fX7_digit a0 a1 a2 h) := by
  refine z_meth hV (by decide +kernel) (Nat.le_of_ble_eq_true rfl) [(0, .int a0), (1, .int a1), (2, .int a2)] rfl (fun X => ?_)
  show zG X V RX7 "digit" cX7_digit 5 (some .int) (d + 1) h.1 h.2.1 (fX7_digit a0 a1 a2 h) 0 [(0, .int a0), (1, .int a1), (2, .int a2)] [] h
  unfold fX7_digit
  refine z_iload_n 0 rfl rfl dX7_digit_0 ?_
  refine z_istore_n (lv' := [(3, .int a0), (0, .int a0), (1, .int a1), (2, .int a2)]) rfl (by decide) rfl dX7_digit_1 ?_
  refine z_iconst (v := 0) (by decide) dX7_digit_2 ?_
  refine z_istore (lv' := [(4, .int 0), (3, .int a0), (0, .int a0), (1, .int a1), (2, .int a2)]) (by decide) rfl dX7_digit_3 ?_
  exact z_sub [3, 4, 1, 0] rfl (rX7_digit_5 hV FU a1 a2 a0 0 h)
def fX7_raised_4 : Nat → Int32 → Int32 → Int32 → Int32 → AH → RR
  | 0, _, _, _, _, _ => none
  | k + 1, l0, l1, l2, l3, h =>
  if l1 ≤ l3 then (
    some (.inl (some (.int l2)), h))
  else
  zca (fX7_less 1000 (l2 * l0) h) fun v1 h2 =>
  zvi v1 fun x3 =>
  fX7_raised_4 k l0 l1 x3 (l3 + 1) h2
set_option maxRecDepth 20000 in
theorem rX7_raised_4 {X : CT} {V : VT} {d n0 k0 : Nat} (hV : V.2.2.2.2.2.stackTraces = false) (fu : Nat) : ∀ (l0 : Int32) (l1 : Int32) (l2 : Int32) (l3 : Int32) (h : AH), zG X V RX7 "raised" cX7_raised 4 (some .int) (d + 2) n0 k0 (fX7_raised_4 fu l0 l1 l2 l3 h) 4 [(0, .int l0), (1, .int l1), (2, .int l2), (3, .int l3)] [] h := by
  induction fu with
  | zero => intros; exact z_none
  | succ k ih =>
    intro l0 l1 l2 l3 h
    rw [fX7_raised_4]
    refine z_iload_n 3 rfl rfl dX7_raised_4 ?_
    refine z_iload_n 1 rfl rfl dX7_raised_5 ?_
    refine z_icmp_ge 25 (by decide) dX7_raised_6 ?_ ?_
    · refine z_iload_n 2 rfl rfl dX7_raised_25 ?_
      exact z_iret rfl dX7_raised_26
    · refine z_sipush (v := 1000) (by decide) dX7_raised_9 ?_
      refine z_iload_n 2 rfl rfl dX7_raised_12 ?_
      refine z_iload_n 0 rfl rfl dX7_raised_13 ?_
      refine z_imul dX7_raised_14 ?_
      refine z_cS (st := []) [.int 1000, .int (l2 * l0)] zk_RX7_64 rfl (Nat.le_of_ble_eq_true rfl) dX7_raised_15 (mX7_less hV (d + 0) 1000 (l2 * l0) h) (fun v1 h2 => ?_)
      refine z_vi (fun x3 => ?_)
      refine z_istore_n (lv' := [(2, .int x3), (0, .int l0), (1, .int l1), (3, .int l3)]) rfl (by decide) rfl dX7_raised_18 ?_
      refine z_inc (w := 1) (lv' := [(3, .int (l3 + 1)), (2, .int x3), (0, .int l0), (1, .int l1)]) 3 rfl (by decide) (by decide) rfl dX7_raised_19 ?_
      refine z_goto 4 (by decide) dX7_raised_22 ?_
      exact z_sub [2, 3, 1, 0] rfl (ih l0 l1 x3 (l3 + 1) h2)
def fX7_raised (a0 : Int32) (a1 : Int32) (h : AH) : RR :=
  fX7_raised_4 FU a0 a1 1 0 h
set_option maxRecDepth 20000 in
theorem mX7_raised {V : VT} (hV : V.2.2.2.2.2.stackTraces = false) (d : Nat) (a0 : Int32) (a1 : Int32) (h : AH) : zM V yX7_raised cX7_raised 4 (some .int) (d + 2) [.int a0, .int a1] h (fX7_raised a0 a1 h) := by
  refine z_meth hV (by decide +kernel) (Nat.le_of_ble_eq_true rfl) [(0, .int a0), (1, .int a1)] rfl (fun X => ?_)
  show zG X V RX7 "raised" cX7_raised 4 (some .int) (d + 2) h.1 h.2.1 (fX7_raised a0 a1 h) 0 [(0, .int a0), (1, .int a1)] [] h
  unfold fX7_raised
  refine z_iconst (v := 1) (by decide) dX7_raised_0 ?_
  refine z_istore_n (lv' := [(2, .int 1), (0, .int a0), (1, .int a1)]) rfl (by decide) rfl dX7_raised_1 ?_
  refine z_iconst (v := 0) (by decide) dX7_raised_2 ?_
  refine z_istore_n (lv' := [(3, .int 0), (2, .int 1), (0, .int a0), (1, .int a1)]) rfl (by decide) rfl dX7_raised_3 ?_
  exact z_sub [2, 3, 1, 0] rfl (rX7_raised_4 hV FU a0 a1 1 0 h)
def fX7_rests_37 (K3 : Nat → Int32 → Int32 → Int32 → AH → RR) : Nat → Nat → Int32 → Int32 → Int32 → Int32 → Int32 → AH → RR
  | 0, _, _, _, _, _, _, _ => none
  | k + 1, l0, l2, l3, l4, l5, l6, h =>
  if l3 ≤ l6 then (
    K3 l0 l2 l3 (l4 + (-1)) h)
  else
  (zgR h l0 7 21).bind fun x1 =>
  (zgR h l0 7 21).bind fun x2 =>
  (zai h x2 ((l4 - l3) + l6)).bind fun x3 =>
  (zgI h l0 7 13).bind fun x4 =>
  (zgI h l0 7 13).bind fun x5 =>
  zca (fX7_digit l2 x5 l6 h) fun v6 h7 =>
  zvi v6 fun x8 =>
  (zgI h7 l0 7 13).bind fun x9 =>
  if x9 = 0 then none else
  (zsi h7 x1 ((l4 - l3) + l6) ((x3 + ((x4 - x8) * l5)) - (x3 + ((x4 - x8) * l5)) / x9 * x9)).bind fun h10 =>
  fX7_rests_37 K3 k l0 l2 l3 l4 l5 (l6 + 1) h10
set_option maxRecDepth 20000 in
theorem rX7_rests_37 {X : CT} {V : VT} {d n0 k0 : Nat} (hV : V.2.2.2.2.2.stackTraces = false) (K3 : Nat → Int32 → Int32 → Int32 → AH → RR) (hK3 : ∀ l0 l2 l3 l4  h, zG X V RX7 "rests" cX7_rests 7 none (d + 2) n0 k0 (K3 l0 l2 l3 l4 h) 3 [(0, .ref l0), (2, .int l2), (3, .int l3), (4, .int l4)] [] h) (fu : Nat) : ∀ (l0 : Nat) (l2 : Int32) (l3 : Int32) (l4 : Int32) (l5 : Int32) (l6 : Int32) (h : AH), zG X V RX7 "rests" cX7_rests 7 none (d + 2) n0 k0 (fX7_rests_37 K3 fu l0 l2 l3 l4 l5 l6 h) 37 [(0, .ref l0), (2, .int l2), (3, .int l3), (4, .int l4), (5, .int l5), (6, .int l6)] [] h := by
  induction fu with
  | zero => intros; exact z_none
  | succ k ih =>
    intro l0 l2 l3 l4 l5 l6 h
    rw [fX7_rests_37]
    refine z_iload 5 rfl dX7_rests_37 ?_
    refine z_iload_n 2 rfl rfl dX7_rests_39 ?_
    refine z_icmp_ge 97 (by decide) dX7_rests_40 ?_ ?_
    · refine z_inc (w := (-1)) (lv' := [(4, .int (l4 + (-1))), (0, .ref l0), (2, .int l2), (3, .int l3), (5, .int l5), (6, .int l6)]) 3 rfl (by decide) (by decide) rfl dX7_rests_97 ?_
      refine z_goto 3 (by decide) dX7_rests_100 ?_
      exact z_sub [1, 2, 3, 0] rfl (hK3 l0 l2 l3 (l4 + (-1)) h)
    · refine z_aload_n 0 rfl rfl dX7_rests_43 ?_
      refine z_gR zf_RX7_43 dX7_rests_44 (fun x1 => ?_)
      refine z_iload 3 rfl dX7_rests_47 ?_
      refine z_iload_n 2 rfl rfl dX7_rests_49 ?_
      refine z_isub dX7_rests_50 ?_
      refine z_iload 5 rfl dX7_rests_51 ?_
      refine z_iadd dX7_rests_53 ?_
      refine z_aload_n 0 rfl rfl dX7_rests_54 ?_
      refine z_gR zf_RX7_43 dX7_rests_55 (fun x2 => ?_)
      refine z_iload 3 rfl dX7_rests_58 ?_
      refine z_iload_n 2 rfl rfl dX7_rests_60 ?_
      refine z_isub dX7_rests_61 ?_
      refine z_iload 5 rfl dX7_rests_62 ?_
      refine z_iadd dX7_rests_64 ?_
      refine z_aI dX7_rests_65 (fun x3 => ?_)
      refine z_aload_n 0 rfl rfl dX7_rests_66 ?_
      refine z_gI zf_RX7_68 dX7_rests_67 (fun x4 => ?_)
      refine z_iload_n 1 rfl rfl dX7_rests_70 ?_
      refine z_aload_n 0 rfl rfl dX7_rests_71 ?_
      refine z_gI zf_RX7_68 dX7_rests_72 (fun x5 => ?_)
      refine z_iload 5 rfl dX7_rests_75 ?_
      refine z_cS (st := [.int x4, .int x3, .int ((l4 - l3) + l6), .ref x1]) [.int l2, .int x5, .int l6] zk_RX7_71 rfl (Nat.le_of_ble_eq_true rfl) dX7_rests_77 (mX7_digit hV (d + 0) l2 x5 l6 h) (fun v6 h7 => ?_)
      refine z_vi (fun x8 => ?_)
      refine z_isub dX7_rests_80 ?_
      refine z_iload 4 rfl dX7_rests_81 ?_
      refine z_imul dX7_rests_83 ?_
      refine z_iadd dX7_rests_84 ?_
      refine z_aload_n 0 rfl rfl dX7_rests_85 ?_
      refine z_gI zf_RX7_68 dX7_rests_86 (fun x9 => ?_)
      refine z_irem dX7_rests_89 ?_
      refine z_sI dX7_rests_90 (fun h10 => ?_)
      refine z_inc (w := 1) (lv' := [(6, .int (l6 + 1)), (0, .ref l0), (2, .int l2), (3, .int l3), (4, .int l4), (5, .int l5)]) 5 rfl (by decide) (by decide) rfl dX7_rests_91 ?_
      refine z_goto 37 (by decide) dX7_rests_94 ?_
      exact z_sub [1, 2, 3, 4, 5, 0] rfl (ih l0 l2 l3 l4 l5 (l6 + 1) h10)
def fX7_rests_3 : Nat → Nat → Int32 → Int32 → Int32 → AH → RR
  | 0, _, _, _, _, _ => none
  | k + 1, l0, l2, l3, l4, h =>
  if l4 < l3 then (
    some (.inl none, h))
  else
  (zgR h l0 7 21).bind fun x1 =>
  (zai h x1 l4).bind fun x2 =>
  if x2 = 0 then (
    fX7_rests_3 k l0 l2 l3 (l4 + (-1)) h)
  else
  (zgR h l0 7 21).bind fun x3 =>
  (zsi h x3 l4 0).bind fun h4 =>
  fX7_rests_37 (fun p0 p2 p3 p4 h => fX7_rests_3 k p0 p2 p3 p4 h) FU l0 l2 l3 l4 x2 0 h4
set_option maxRecDepth 20000 in
theorem rX7_rests_3 {X : CT} {V : VT} {d n0 k0 : Nat} (hV : V.2.2.2.2.2.stackTraces = false) (fu : Nat) : ∀ (l0 : Nat) (l2 : Int32) (l3 : Int32) (l4 : Int32) (h : AH), zG X V RX7 "rests" cX7_rests 7 none (d + 2) n0 k0 (fX7_rests_3 fu l0 l2 l3 l4 h) 3 [(0, .ref l0), (2, .int l2), (3, .int l3), (4, .int l4)] [] h := by
  induction fu with
  | zero => intros; exact z_none
  | succ k ih =>
    intro l0 l2 l3 l4 h
    rw [fX7_rests_3]
    refine z_iload 3 rfl dX7_rests_3 ?_
    refine z_iload_n 2 rfl rfl dX7_rests_5 ?_
    refine z_icmp_lt 103 (by decide) dX7_rests_6 ?_ ?_
    · exact z_vret rfl dX7_rests_103
    · refine z_aload_n 0 rfl rfl dX7_rests_9 ?_
      refine z_gR zf_RX7_43 dX7_rests_10 (fun x1 => ?_)
      refine z_iload 3 rfl dX7_rests_13 ?_
      refine z_aI dX7_rests_15 (fun x2 => ?_)
      refine z_istore (lv' := [(5, .int x2), (0, .ref l0), (2, .int l2), (3, .int l3), (4, .int l4)]) (by decide) rfl dX7_rests_16 ?_
      refine z_iload 0 rfl dX7_rests_18 ?_
      refine z_if_ne 26 (by decide) dX7_rests_20 ?_ ?_
      · refine z_goto 97 (by decide) dX7_rests_23 ?_
        refine z_inc (w := (-1)) (lv' := [(4, .int (l4 + (-1))), (5, .int x2), (0, .ref l0), (2, .int l2), (3, .int l3)]) 4 rfl (by decide) (by decide) rfl dX7_rests_97 ?_
        refine z_goto 3 (by decide) dX7_rests_100 ?_
        exact z_sub [2, 3, 4, 0] rfl (ih l0 l2 l3 (l4 + (-1)) h)
      · refine z_aload_n 1 rfl rfl dX7_rests_26 ?_
        refine z_gR zf_RX7_43 dX7_rests_27 (fun x3 => ?_)
        refine z_iload 4 rfl dX7_rests_30 ?_
        refine z_iconst (v := 0) (by decide) dX7_rests_32 ?_
        refine z_sI dX7_rests_33 (fun h4 => ?_)
        refine z_iconst (v := 0) (by decide) dX7_rests_34 ?_
        refine z_istore (lv' := [(6, .int 0), (5, .int x2), (0, .ref l0), (2, .int l2), (3, .int l3), (4, .int l4)]) (by decide) rfl dX7_rests_35 ?_
        exact z_sub [2, 3, 4, 5, 1, 0] rfl (rX7_rests_37 hV (fun p0 p2 p3 p4 h => fX7_rests_3 k p0 p2 p3 p4 h) ih FU l0 l2 l3 l4 x2 0 h4)
def fX7_rests (a0 : Nat) (a1 : Int32) (a2 : Int32) (a3 : Int32) (h : AH) : RR :=
  fX7_rests_3 FU a0 a2 a3 a1 h
set_option maxRecDepth 20000 in
theorem mX7_rests {V : VT} (hV : V.2.2.2.2.2.stackTraces = false) (d : Nat) (a0 : Nat) (a1 : Int32) (a2 : Int32) (a3 : Int32) (h : AH) : zM V yX7_rests cX7_rests 7 none (d + 2) [.ref a0, .int a1, .int a2, .int a3] h (fX7_rests a0 a1 a2 a3 h) := by
  refine z_meth hV (by decide +kernel) (Nat.le_of_ble_eq_true rfl) [(0, .ref a0), (1, .int a1), (2, .int a2), (3, .int a3)] rfl (fun X => ?_)
  show zG X V RX7 "rests" cX7_rests 7 none (d + 2) h.1 h.2.1 (fX7_rests a0 a1 a2 a3 h) 0 [(0, .ref a0), (1, .int a1), (2, .int a2), (3, .int a3)] [] h
  unfold fX7_rests
  refine z_iload_n 1 rfl rfl dX7_rests_0 ?_
  refine z_istore (lv' := [(4, .int a1), (0, .ref a0), (1, .int a1), (2, .int a2), (3, .int a3)]) (by decide) rfl dX7_rests_1 ?_
  exact z_sub [1, 3, 4, 0] rfl (rX7_rests_3 hV FU a0 a2 a3 a1 h)
def fX7_isProduct_87 (K2 : Nat → Int32 → Int32 → AH → RR) (K14 : Nat → Int32 → Int32 → Int32 → AH → RR) : Nat → Nat → Int32 → Int32 → Int32 → Int32 → Int32 → AH → RR
  | 0, _, _, _, _, _, _, _ => none
  | k + 1, l0, l1, l2, l3, l4, l5, h =>
  if l2 ≤ l5 then (
    if l4 = 0 then (
      zbr 1 h)
    else
    K14 l0 l1 l2 (l3 + 1) h)
  else
  if l4 = 0 then (
    (zgR h l0 7 21).bind fun x1 =>
    (zai h x1 l5).bind fun x2 =>
    if x2 = 0 then (
      fX7_isProduct_87 K2 K14 k l0 l1 l2 l3 0 (l5 + 1) h)
    else
    fX7_isProduct_87 K2 K14 k l0 l1 l2 l3 1 (l5 + 1) h)
  else
  fX7_isProduct_87 K2 K14 k l0 l1 l2 l3 1 (l5 + 1) h
set_option maxRecDepth 20000 in
theorem rX7_isProduct_87 {X : CT} {V : VT} {d n0 k0 : Nat} (hV : V.2.2.2.2.2.stackTraces = false) (K2 : Nat → Int32 → Int32 → AH → RR) (K14 : Nat → Int32 → Int32 → Int32 → AH → RR) (hK2 : ∀ l0 l1 l2  h, zG X V RX7 "isProduct" cX7_isProduct 6 (some .boolean) (d + 3) n0 k0 (K2 l0 l1 l2 h) 2 [(0, .ref l0), (1, .int l1), (2, .int l2)] [] h) (hK14 : ∀ l0 l1 l2 l3  h, zG X V RX7 "isProduct" cX7_isProduct 6 (some .boolean) (d + 3) n0 k0 (K14 l0 l1 l2 l3 h) 14 [(0, .ref l0), (1, .int l1), (2, .int l2), (3, .int l3)] [] h) (fu : Nat) : ∀ (l0 : Nat) (l1 : Int32) (l2 : Int32) (l3 : Int32) (l4 : Int32) (l5 : Int32) (h : AH), zG X V RX7 "isProduct" cX7_isProduct 6 (some .boolean) (d + 3) n0 k0 (fX7_isProduct_87 K2 K14 fu l0 l1 l2 l3 l4 l5 h) 87 [(0, .ref l0), (1, .int l1), (2, .int l2), (3, .int l3), (4, .int l4), (5, .int l5)] [] h := by
  induction fu with
  | zero => intros; exact z_none
  | succ k ih =>
    intro l0 l1 l2 l3 l4 l5 h
    rw [fX7_isProduct_87]
    refine z_iload 5 rfl dX7_isProduct_87 ?_
    refine z_iload_n 2 rfl rfl dX7_isProduct_89 ?_
    refine z_icmp_ge 121 (by decide) dX7_isProduct_90 ?_ ?_
    · refine z_iload 4 rfl dX7_isProduct_121 ?_
      refine z_if_ne 128 (by decide) dX7_isProduct_123 ?_ ?_
      · refine z_iconst (v := 1) (by decide) dX7_isProduct_126 ?_
        exact z_zret rfl dX7_isProduct_127
      · refine z_inc (w := 1) (lv' := [(3, .int (l3 + 1)), (0, .ref l0), (1, .int l1), (2, .int l2), (4, .int l4), (5, .int l5)]) 3 rfl (by decide) (by decide) rfl dX7_isProduct_128 ?_
        refine z_goto 14 (by decide) dX7_isProduct_131 ?_
        exact z_sub [1, 2, 3, 0] rfl (hK14 l0 l1 l2 (l3 + 1) h)
    · refine z_iload 4 rfl dX7_isProduct_93 ?_
      refine z_if_ne 108 (by decide) dX7_isProduct_95 ?_ ?_
      · refine z_aload_n 0 rfl rfl dX7_isProduct_98 ?_
        refine z_gR zf_RX7_43 dX7_isProduct_99 (fun x1 => ?_)
        refine z_iload 5 rfl dX7_isProduct_102 ?_
        refine z_aI dX7_isProduct_104 (fun x2 => ?_)
        refine z_if_eq 112 (by decide) dX7_isProduct_105 ?_ ?_
        · refine z_iconst (v := 0) (by decide) dX7_isProduct_112 ?_
          refine z_istore (lv' := [(4, .int 0), (0, .ref l0), (1, .int l1), (2, .int l2), (3, .int l3), (5, .int l5)]) (by decide) rfl dX7_isProduct_113 ?_
          refine z_inc (w := 1) (lv' := [(5, .int (l5 + 1)), (4, .int 0), (0, .ref l0), (1, .int l1), (2, .int l2), (3, .int l3)]) 5 rfl (by decide) (by decide) rfl dX7_isProduct_115 ?_
          refine z_goto 87 (by decide) dX7_isProduct_118 ?_
          exact z_sub [2, 3, 4, 5, 1, 0] rfl (ih l0 l1 l2 l3 0 (l5 + 1) h)
        · refine z_iconst (v := 1) (by decide) dX7_isProduct_108 ?_
          refine z_goto 113 (by decide) dX7_isProduct_109 ?_
          refine z_istore (lv' := [(4, .int 1), (0, .ref l0), (1, .int l1), (2, .int l2), (3, .int l3), (5, .int l5)]) (by decide) rfl dX7_isProduct_113 ?_
          refine z_inc (w := 1) (lv' := [(5, .int (l5 + 1)), (4, .int 1), (0, .ref l0), (1, .int l1), (2, .int l2), (3, .int l3)]) 5 rfl (by decide) (by decide) rfl dX7_isProduct_115 ?_
          refine z_goto 87 (by decide) dX7_isProduct_118 ?_
          exact z_sub [2, 3, 4, 5, 1, 0] rfl (ih l0 l1 l2 l3 1 (l5 + 1) h)
      · refine z_iconst (v := 1) (by decide) dX7_isProduct_108 ?_
        refine z_goto 113 (by decide) dX7_isProduct_109 ?_
        refine z_istore (lv' := [(4, .int 1), (0, .ref l0), (1, .int l1), (2, .int l2), (3, .int l3), (5, .int l5)]) (by decide) rfl dX7_isProduct_113 ?_
        refine z_inc (w := 1) (lv' := [(5, .int (l5 + 1)), (4, .int 1), (0, .ref l0), (1, .int l1), (2, .int l2), (3, .int l3)]) 5 rfl (by decide) (by decide) rfl dX7_isProduct_115 ?_
        refine z_goto 87 (by decide) dX7_isProduct_118 ?_
        exact z_sub [2, 3, 4, 5, 1, 0] rfl (ih l0 l1 l2 l3 1 (l5 + 1) h)
def fX7_isProduct_29 (K2 : Nat → Int32 → Int32 → AH → RR) (K14 : Nat → Int32 → Int32 → Int32 → AH → RR) : Nat → Nat → Int32 → Int32 → Int32 → Int32 → AH → RR
  | 0, _, _, _, _, _, _ => none
  | k + 1, l0, l1, l2, l3, l4, h =>
  (zgI h l0 7 14).bind fun x1 =>
  if x1 ≤ l4 then (
    (zgR h l0 7 21).bind fun x2 =>
    (zgI h l0 7 14).bind fun x3 =>
    (zsi h x2 x3 1).bind fun h4 =>
    (zgI h4 l0 7 14).bind fun x5 =>
    zcv (zob h4 l0 7) (fX7_rests l0 x5 l3 l2 h4) fun v6 h7 =>
    zvn v6 <|
    fX7_isProduct_87 K2 K14 FU l0 l1 l2 l3 0 0 h7)
  else
  (zgR h l0 7 21).bind fun x8 =>
  (zgI h l0 7 13).bind fun x9 =>
  zca (fX7_digit l1 x9 l4 h) fun v10 h11 =>
  zvi v10 fun x12 =>
  (zsi h11 x8 l4 x12).bind fun h13 =>
  fX7_isProduct_29 K2 K14 k l0 l1 l2 l3 (l4 + 1) h13
set_option maxRecDepth 20000 in
theorem rX7_isProduct_29 {X : CT} {V : VT} {d n0 k0 : Nat} (hV : V.2.2.2.2.2.stackTraces = false) (K2 : Nat → Int32 → Int32 → AH → RR) (K14 : Nat → Int32 → Int32 → Int32 → AH → RR) (hK2 : ∀ l0 l1 l2  h, zG X V RX7 "isProduct" cX7_isProduct 6 (some .boolean) (d + 3) n0 k0 (K2 l0 l1 l2 h) 2 [(0, .ref l0), (1, .int l1), (2, .int l2)] [] h) (hK14 : ∀ l0 l1 l2 l3  h, zG X V RX7 "isProduct" cX7_isProduct 6 (some .boolean) (d + 3) n0 k0 (K14 l0 l1 l2 l3 h) 14 [(0, .ref l0), (1, .int l1), (2, .int l2), (3, .int l3)] [] h) (fu : Nat) : ∀ (l0 : Nat) (l1 : Int32) (l2 : Int32) (l3 : Int32) (l4 : Int32) (h : AH), zG X V RX7 "isProduct" cX7_isProduct 6 (some .boolean) (d + 3) n0 k0 (fX7_isProduct_29 K2 K14 fu l0 l1 l2 l3 l4 h) 29 [(0, .ref l0), (1, .int l1), (2, .int l2), (3, .int l3), (4, .int l4)] [] h := by
  induction fu with
  | zero => intros; exact z_none
  | succ k ih =>
    intro l0 l1 l2 l3 l4 h
    rw [fX7_isProduct_29]
    refine z_iload 4 rfl dX7_isProduct_29 ?_
    refine z_aload_n 0 rfl rfl dX7_isProduct_31 ?_
    refine z_gI zf_RX7_75 dX7_isProduct_32 (fun x1 => ?_)
    refine z_icmp_ge 61 (by decide) dX7_isProduct_35 ?_ ?_
    · refine z_aload_n 0 rfl rfl dX7_isProduct_61 ?_
      refine z_gR zf_RX7_43 dX7_isProduct_62 (fun x2 => ?_)
      refine z_aload_n 0 rfl rfl dX7_isProduct_65 ?_
      refine z_gI zf_RX7_75 dX7_isProduct_66 (fun x3 => ?_)
      refine z_iconst (v := 1) (by decide) dX7_isProduct_69 ?_
      refine z_sI dX7_isProduct_70 (fun h4 => ?_)
      refine z_aload_n 0 rfl rfl dX7_isProduct_71 ?_
      refine z_aload_n 0 rfl rfl dX7_isProduct_72 ?_
      refine z_gI zf_RX7_75 dX7_isProduct_73 (fun x5 => ?_)
      refine z_iload_n 3 rfl rfl dX7_isProduct_76 ?_
      refine z_iload_n 2 rfl rfl dX7_isProduct_77 ?_
      refine z_cV (st := []) [.int x5, .int l3, .int l2] zk_RX7_81 rfl (Nat.le_of_ble_eq_true rfl) dX7_isProduct_78 (mX7_rests hV (d + 0) l0 x5 l3 l2 h4) (fun v6 h7 => ?_)
      refine z_vn ?_
      refine z_iconst (v := 0) (by decide) dX7_isProduct_81 ?_
      refine z_istore (lv' := [(4, .int 0), (0, .ref l0), (1, .int l1), (2, .int l2), (3, .int l3)]) (by decide) rfl dX7_isProduct_82 ?_
      refine z_iconst (v := 0) (by decide) dX7_isProduct_84 ?_
      refine z_istore (lv' := [(5, .int 0), (4, .int 0), (0, .ref l0), (1, .int l1), (2, .int l2), (3, .int l3)]) (by decide) rfl dX7_isProduct_85 ?_
      exact z_sub [2, 3, 4, 5, 1, 0] rfl (rX7_isProduct_87 hV K2 K14 hK2 hK14 FU l0 l1 l2 l3 0 0 h7)
    · refine z_aload_n 0 rfl rfl dX7_isProduct_38 ?_
      refine z_gR zf_RX7_43 dX7_isProduct_39 (fun x8 => ?_)
      refine z_iload 4 rfl dX7_isProduct_42 ?_
      refine z_iload_n 1 rfl rfl dX7_isProduct_44 ?_
      refine z_aload_n 0 rfl rfl dX7_isProduct_45 ?_
      refine z_gI zf_RX7_68 dX7_isProduct_46 (fun x9 => ?_)
      refine z_iload 4 rfl dX7_isProduct_49 ?_
      refine z_cS (st := [.int l4, .ref x8]) [.int l1, .int x9, .int l4] zk_RX7_71 rfl (Nat.le_of_ble_eq_true rfl) dX7_isProduct_51 (mX7_digit hV (d + 1) l1 x9 l4 h) (fun v10 h11 => ?_)
      refine z_vi (fun x12 => ?_)
      refine z_sI dX7_isProduct_54 (fun h13 => ?_)
      refine z_inc (w := 1) (lv' := [(4, .int (l4 + 1)), (0, .ref l0), (1, .int l1), (2, .int l2), (3, .int l3)]) 4 rfl (by decide) (by decide) rfl dX7_isProduct_55 ?_
      refine z_goto 29 (by decide) dX7_isProduct_58 ?_
      exact z_sub [1, 2, 3, 4, 0] rfl (ih l0 l1 l2 l3 (l4 + 1) h13)
def fX7_isProduct_14 (K2 : Nat → Int32 → Int32 → AH → RR) : Nat → Nat → Int32 → Int32 → Int32 → AH → RR
  | 0, _, _, _, _, _ => none
  | k + 1, l0, l1, l2, l3, h =>
  (zgI h l0 7 13).bind fun x1 =>
  zca (fX7_raised x1 l2 h) fun v2 h3 =>
  zvi v2 fun x4 =>
  if x4 ≤ l3 then (
    K2 l0 l1 (l2 + 1) h3)
  else
  fX7_isProduct_29 K2 (fun p0 p1 p2 p3 h => fX7_isProduct_14 K2 k p0 p1 p2 p3 h) FU l0 l1 l2 l3 0 h3
set_option maxRecDepth 20000 in
theorem rX7_isProduct_14 {X : CT} {V : VT} {d n0 k0 : Nat} (hV : V.2.2.2.2.2.stackTraces = false) (K2 : Nat → Int32 → Int32 → AH → RR) (hK2 : ∀ l0 l1 l2  h, zG X V RX7 "isProduct" cX7_isProduct 6 (some .boolean) (d + 3) n0 k0 (K2 l0 l1 l2 h) 2 [(0, .ref l0), (1, .int l1), (2, .int l2)] [] h) (fu : Nat) : ∀ (l0 : Nat) (l1 : Int32) (l2 : Int32) (l3 : Int32) (h : AH), zG X V RX7 "isProduct" cX7_isProduct 6 (some .boolean) (d + 3) n0 k0 (fX7_isProduct_14 K2 fu l0 l1 l2 l3 h) 14 [(0, .ref l0), (1, .int l1), (2, .int l2), (3, .int l3)] [] h := by
  induction fu with
  | zero => intros; exact z_none
  | succ k ih =>
    intro l0 l1 l2 l3 h
    rw [fX7_isProduct_14]
    refine z_iload_n 3 rfl rfl dX7_isProduct_14 ?_
    refine z_aload_n 0 rfl rfl dX7_isProduct_15 ?_
    refine z_gI zf_RX7_68 dX7_isProduct_16 (fun x1 => ?_)
    refine z_iload_n 2 rfl rfl dX7_isProduct_19 ?_
    refine z_cS (st := [.int l3]) [.int x1, .int l2] zk_RX7_78 rfl (Nat.le_of_ble_eq_true rfl) dX7_isProduct_20 (mX7_raised hV (d + 0) x1 l2 h) (fun v2 h3 => ?_)
    refine z_vi (fun x4 => ?_)
    refine z_icmp_ge 134 (by decide) dX7_isProduct_23 ?_ ?_
    · refine z_inc (w := 1) (lv' := [(2, .int (l2 + 1)), (0, .ref l0), (1, .int l1), (3, .int l3)]) 2 rfl (by decide) (by decide) rfl dX7_isProduct_134 ?_
      refine z_goto 2 (by decide) dX7_isProduct_137 ?_
      exact z_sub [1, 2, 0] rfl (hK2 l0 l1 (l2 + 1) h3)
    · refine z_iconst (v := 0) (by decide) dX7_isProduct_26 ?_
      refine z_istore (lv' := [(4, .int 0), (0, .ref l0), (1, .int l1), (2, .int l2), (3, .int l3)]) (by decide) rfl dX7_isProduct_27 ?_
      exact z_sub [1, 2, 3, 4, 0] rfl (rX7_isProduct_29 hV K2 (fun p0 p1 p2 p3 h => fX7_isProduct_14 K2 k p0 p1 p2 p3 h) hK2 ih FU l0 l1 l2 l3 0 h3)
def fX7_isProduct_2 : Nat → Nat → Int32 → Int32 → AH → RR
  | 0, _, _, _, _ => none
  | k + 1, l0, l1, l2, h =>
  (zgI h l0 7 14).bind fun x1 =>
  if x1 < ((2 : Int32) * l2) then (
    zbr 0 h)
  else
  fX7_isProduct_14 (fun p0 p1 p2 h => fX7_isProduct_2 k p0 p1 p2 h) FU l0 l1 l2 0 h
set_option maxRecDepth 20000 in
theorem rX7_isProduct_2 {X : CT} {V : VT} {d n0 k0 : Nat} (hV : V.2.2.2.2.2.stackTraces = false) (fu : Nat) : ∀ (l0 : Nat) (l1 : Int32) (l2 : Int32) (h : AH), zG X V RX7 "isProduct" cX7_isProduct 6 (some .boolean) (d + 3) n0 k0 (fX7_isProduct_2 fu l0 l1 l2 h) 2 [(0, .ref l0), (1, .int l1), (2, .int l2)] [] h := by
  induction fu with
  | zero => intros; exact z_none
  | succ k ih =>
    intro l0 l1 l2 h
    rw [fX7_isProduct_2]
    refine z_iconst (v := 2) (by decide) dX7_isProduct_2 ?_
    refine z_iload_n 2 rfl rfl dX7_isProduct_3 ?_
    refine z_imul dX7_isProduct_4 ?_
    refine z_aload_n 0 rfl rfl dX7_isProduct_5 ?_
    refine z_gI zf_RX7_75 dX7_isProduct_6 (fun x1 => ?_)
    refine z_icmp_gt 140 (by decide) dX7_isProduct_9 ?_ ?_
    · refine z_iconst (v := 0) (by decide) dX7_isProduct_140 ?_
      exact z_zret rfl dX7_isProduct_141
    · refine z_iconst (v := 0) (by decide) dX7_isProduct_12 ?_
      refine z_istore_n (lv' := [(3, .int 0), (0, .ref l0), (1, .int l1), (2, .int l2)]) rfl (by decide) rfl dX7_isProduct_13 ?_
      exact z_sub [1, 2, 3, 0] rfl (rX7_isProduct_14 hV (fun p0 p1 p2 h => fX7_isProduct_2 k p0 p1 p2 h) ih FU l0 l1 l2 0 h)
def fX7_isProduct (a0 : Nat) (a1 : Int32) (h : AH) : RR :=
  fX7_isProduct_2 FU a0 a1 1 h
set_option maxRecDepth 20000 in
theorem mX7_isProduct {V : VT} (hV : V.2.2.2.2.2.stackTraces = false) (d : Nat) (a0 : Nat) (a1 : Int32) (h : AH) : zM V yX7_isProduct cX7_isProduct 6 (some .boolean) (d + 3) [.ref a0, .int a1] h (fX7_isProduct a0 a1 h) := by
  refine z_meth hV (by decide +kernel) (Nat.le_of_ble_eq_true rfl) [(0, .ref a0), (1, .int a1)] rfl (fun X => ?_)
  show zG X V RX7 "isProduct" cX7_isProduct 6 (some .boolean) (d + 3) h.1 h.2.1 (fX7_isProduct a0 a1 h) 0 [(0, .ref a0), (1, .int a1)] [] h
  unfold fX7_isProduct
  refine z_iconst (v := 1) (by decide) dX7_isProduct_0 ?_
  refine z_istore_n (lv' := [(2, .int 1), (0, .ref a0), (1, .int a1)]) rfl (by decide) rfl dX7_isProduct_1 ?_
  exact z_sub [1, 2, 0] rfl (rX7_isProduct_2 hV FU a0 a1 1 h)
def fX7_numberOf_9 : Nat → Nat → Int32 → Int32 → AH → RR
  | 0, _, _, _, _ => none
  | k + 1, l0, l1, l2, h =>
  if l2 < 0 then (
    some (.inl (some (.int l1)), h))
  else
  (zgI h l0 7 13).bind fun x1 =>
  (zgR h l0 7 21).bind fun x2 =>
  (zai h x2 l2).bind fun x3 =>
  fX7_numberOf_9 k l0 ((l1 * x1) + x3) (l2 + (-1)) h
set_option maxRecDepth 20000 in
theorem rX7_numberOf_9 {X : CT} {V : VT} {d n0 k0 : Nat} (hV : V.2.2.2.2.2.stackTraces = false) (fu : Nat) : ∀ (l0 : Nat) (l1 : Int32) (l2 : Int32) (h : AH), zG X V RX7 "numberOf" cX7_numberOf 3 (some .int) (d + 1) n0 k0 (fX7_numberOf_9 fu l0 l1 l2 h) 9 [(0, .ref l0), (1, .int l1), (2, .int l2)] [] h := by
  induction fu with
  | zero => intros; exact z_none
  | succ k ih =>
    intro l0 l1 l2 h
    rw [fX7_numberOf_9]
    refine z_iload_n 2 rfl rfl dX7_numberOf_9 ?_
    refine z_if_lt 33 (by decide) dX7_numberOf_10 ?_ ?_
    · refine z_iload_n 1 rfl rfl dX7_numberOf_33 ?_
      exact z_iret rfl dX7_numberOf_34
    · refine z_iload_n 1 rfl rfl dX7_numberOf_13 ?_
      refine z_aload_n 0 rfl rfl dX7_numberOf_14 ?_
      refine z_gI zf_RX7_68 dX7_numberOf_15 (fun x1 => ?_)
      refine z_imul dX7_numberOf_18 ?_
      refine z_aload_n 0 rfl rfl dX7_numberOf_19 ?_
      refine z_gR zf_RX7_43 dX7_numberOf_20 (fun x2 => ?_)
      refine z_iload_n 2 rfl rfl dX7_numberOf_23 ?_
      refine z_aI dX7_numberOf_24 (fun x3 => ?_)
      refine z_iadd dX7_numberOf_25 ?_
      refine z_istore_n (lv' := [(1, .int ((l1 * x1) + x3)), (0, .ref l0), (2, .int l2)]) rfl (by decide) rfl dX7_numberOf_26 ?_
      refine z_inc (w := (-1)) (lv' := [(2, .int (l2 + (-1))), (1, .int ((l1 * x1) + x3)), (0, .ref l0)]) 2 rfl (by decide) (by decide) rfl dX7_numberOf_27 ?_
      refine z_goto 9 (by decide) dX7_numberOf_30 ?_
      exact z_sub [2, 1, 0] rfl (ih l0 ((l1 * x1) + x3) (l2 + (-1)) h)
def fX7_numberOf (a0 : Nat) (h : AH) : RR :=
  (zgI h a0 7 14).bind fun x1 =>
  fX7_numberOf_9 FU a0 0 (x1 - 1) h
set_option maxRecDepth 20000 in
theorem mX7_numberOf {V : VT} (hV : V.2.2.2.2.2.stackTraces = false) (d : Nat) (a0 : Nat) (h : AH) : zM V yX7_numberOf cX7_numberOf 3 (some .int) (d + 1) [.ref a0] h (fX7_numberOf a0 h) := by
  refine z_meth hV (by decide +kernel) (Nat.le_of_ble_eq_true rfl) [(0, .ref a0)] rfl (fun X => ?_)
  show zG X V RX7 "numberOf" cX7_numberOf 3 (some .int) (d + 1) h.1 h.2.1 (fX7_numberOf a0 h) 0 [(0, .ref a0)] [] h
  unfold fX7_numberOf
  refine z_iconst (v := 0) (by decide) dX7_numberOf_0 ?_
  refine z_istore_n (lv' := [(1, .int 0), (0, .ref a0)]) rfl (by decide) rfl dX7_numberOf_1 ?_
  refine z_aload_n 1 rfl rfl dX7_numberOf_2 ?_
  refine z_gI zf_RX7_75 dX7_numberOf_3 (fun x1 => ?_)
  refine z_iconst (v := 1) (by decide) dX7_numberOf_6 ?_
  refine z_isub dX7_numberOf_7 ?_
  refine z_istore_n (lv' := [(2, .int (x1 - 1)), (1, .int 0), (0, .ref a0)]) rfl (by decide) rfl dX7_numberOf_8 ?_
  exact z_sub [2, 1, 0] rfl (rX7_numberOf_9 hV FU a0 0 (x1 - 1) h)
def fX7_summed_2 : Nat → Nat → Int32 → Int32 → Int32 → AH → RR
  | 0, _, _, _, _, _ => none
  | k + 1, l0, l1, l2, l3, h =>
  (zgI h l0 7 14).bind fun x1 =>
  if x1 ≤ l3 then (
    zcv (zob h l0 7) (fX7_numberOf l0 h) fun v2 h3 =>
    zvi v2 fun x4 =>
    some (.inl (some (.int x4)), h3))
  else
  (zgR h l0 7 21).bind fun x5 =>
  (zgI h l0 7 13).bind fun x6 =>
  zca (fX7_digit l1 x6 l3 h) fun v7 h8 =>
  zvi v7 fun x9 =>
  (zgI h8 l0 7 13).bind fun x10 =>
  zca (fX7_digit l2 x10 l3 h8) fun v11 h12 =>
  zvi v11 fun x13 =>
  (zgI h12 l0 7 13).bind fun x14 =>
  if x14 = 0 then none else
  (zsi h12 x5 l3 ((x9 + x13) - (x9 + x13) / x14 * x14)).bind fun h15 =>
  fX7_summed_2 k l0 l1 l2 (l3 + 1) h15
set_option maxRecDepth 20000 in
theorem rX7_summed_2 {X : CT} {V : VT} {d n0 k0 : Nat} (hV : V.2.2.2.2.2.stackTraces = false) (fu : Nat) : ∀ (l0 : Nat) (l1 : Int32) (l2 : Int32) (l3 : Int32) (h : AH), zG X V RX7 "summed" cX7_summed 4 (some .int) (d + 2) n0 k0 (fX7_summed_2 fu l0 l1 l2 l3 h) 2 [(0, .ref l0), (1, .int l1), (2, .int l2), (3, .int l3)] [] h := by
  induction fu with
  | zero => intros; exact z_none
  | succ k ih =>
    intro l0 l1 l2 l3 h
    rw [fX7_summed_2]
    refine z_iload_n 3 rfl rfl dX7_summed_2 ?_
    refine z_aload_n 0 rfl rfl dX7_summed_3 ?_
    refine z_gI zf_RX7_75 dX7_summed_4 (fun x1 => ?_)
    refine z_icmp_ge 46 (by decide) dX7_summed_7 ?_ ?_
    · refine z_aload_n 0 rfl rfl dX7_summed_46 ?_
      refine z_cV (st := []) [] zk_RX7_85 rfl (Nat.le_of_ble_eq_true rfl) dX7_summed_47 (mX7_numberOf hV (d + 0) l0 h) (fun v2 h3 => ?_)
      refine z_vi (fun x4 => ?_)
      exact z_iret rfl dX7_summed_50
    · refine z_aload_n 0 rfl rfl dX7_summed_10 ?_
      refine z_gR zf_RX7_43 dX7_summed_11 (fun x5 => ?_)
      refine z_iload_n 3 rfl rfl dX7_summed_14 ?_
      refine z_iload_n 1 rfl rfl dX7_summed_15 ?_
      refine z_aload_n 0 rfl rfl dX7_summed_16 ?_
      refine z_gI zf_RX7_68 dX7_summed_17 (fun x6 => ?_)
      refine z_iload_n 3 rfl rfl dX7_summed_20 ?_
      refine z_cS (st := [.int l3, .ref x5]) [.int l1, .int x6, .int l3] zk_RX7_71 rfl (Nat.le_of_ble_eq_true rfl) dX7_summed_21 (mX7_digit hV (d + 0) l1 x6 l3 h) (fun v7 h8 => ?_)
      refine z_vi (fun x9 => ?_)
      refine z_iload_n 2 rfl rfl dX7_summed_24 ?_
      refine z_aload_n 0 rfl rfl dX7_summed_25 ?_
      refine z_gI zf_RX7_68 dX7_summed_26 (fun x10 => ?_)
      refine z_iload_n 3 rfl rfl dX7_summed_29 ?_
      refine z_cS (st := [.int x9, .int l3, .ref x5]) [.int l2, .int x10, .int l3] zk_RX7_71 rfl (Nat.le_of_ble_eq_true rfl) dX7_summed_30 (mX7_digit hV (d + 0) l2 x10 l3 h8) (fun v11 h12 => ?_)
      refine z_vi (fun x13 => ?_)
      refine z_iadd dX7_summed_33 ?_
      refine z_aload_n 0 rfl rfl dX7_summed_34 ?_
      refine z_gI zf_RX7_68 dX7_summed_35 (fun x14 => ?_)
      refine z_irem dX7_summed_38 ?_
      refine z_sI dX7_summed_39 (fun h15 => ?_)
      refine z_inc (w := 1) (lv' := [(3, .int (l3 + 1)), (0, .ref l0), (1, .int l1), (2, .int l2)]) 3 rfl (by decide) (by decide) rfl dX7_summed_40 ?_
      refine z_goto 2 (by decide) dX7_summed_43 ?_
      exact z_sub [1, 2, 3, 0] rfl (ih l0 l1 l2 (l3 + 1) h15)
def fX7_summed (a0 : Nat) (a1 : Int32) (a2 : Int32) (h : AH) : RR :=
  fX7_summed_2 FU a0 a1 a2 0 h
set_option maxRecDepth 20000 in
theorem mX7_summed {V : VT} (hV : V.2.2.2.2.2.stackTraces = false) (d : Nat) (a0 : Nat) (a1 : Int32) (a2 : Int32) (h : AH) : zM V yX7_summed cX7_summed 4 (some .int) (d + 2) [.ref a0, .int a1, .int a2] h (fX7_summed a0 a1 a2 h) := by
  refine z_meth hV (by decide +kernel) (Nat.le_of_ble_eq_true rfl) [(0, .ref a0), (1, .int a1), (2, .int a2)] rfl (fun X => ?_)
  show zG X V RX7 "summed" cX7_summed 4 (some .int) (d + 2) h.1 h.2.1 (fX7_summed a0 a1 a2 h) 0 [(0, .ref a0), (1, .int a1), (2, .int a2)] [] h
  unfold fX7_summed
  refine z_iconst (v := 0) (by decide) dX7_summed_0 ?_
  refine z_istore_n (lv' := [(3, .int 0), (0, .ref a0), (1, .int a1), (2, .int a2)]) rfl (by decide) rfl dX7_summed_1 ?_
  exact z_sub [1, 2, 3, 0] rfl (rX7_summed_2 hV FU a0 a1 a2 0 h)
def fX7_multiplied_38 (K27 : Nat → Int32 → Int32 → Int32 → AH → RR) : Nat → Nat → Int32 → Int32 → Int32 → Int32 → AH → RR
  | 0, _, _, _, _, _, _ => none
  | k + 1, l0, l1, l2, l3, l4, h =>
  (zgI h l0 7 14).bind fun x1 =>
  if x1 ≤ l4 then (
    K27 l0 l1 l2 (l3 + 1) h)
  else
  (zgR h l0 7 21).bind fun x2 =>
  (zgR h l0 7 21).bind fun x3 =>
  (zai h x3 (l3 + l4)).bind fun x4 =>
  (zgI h l0 7 13).bind fun x5 =>
  zca (fX7_digit l1 x5 l3 h) fun v6 h7 =>
  zvi v6 fun x8 =>
  (zgI h7 l0 7 13).bind fun x9 =>
  zca (fX7_digit l2 x9 l4 h7) fun v10 h11 =>
  zvi v10 fun x12 =>
  (zgI h11 l0 7 13).bind fun x13 =>
  if x13 = 0 then none else
  (zsi h11 x2 (l3 + l4) ((x4 + (x8 * x12)) - (x4 + (x8 * x12)) / x13 * x13)).bind fun h14 =>
  fX7_multiplied_38 K27 k l0 l1 l2 l3 (l4 + 1) h14
set_option maxRecDepth 20000 in
theorem rX7_multiplied_38 {X : CT} {V : VT} {d n0 k0 : Nat} (hV : V.2.2.2.2.2.stackTraces = false) (K27 : Nat → Int32 → Int32 → Int32 → AH → RR) (hK27 : ∀ l0 l1 l2 l3  h, zG X V RX7 "multiplied" cX7_multiplied 5 (some .int) (d + 3) n0 k0 (K27 l0 l1 l2 l3 h) 27 [(0, .ref l0), (1, .int l1), (2, .int l2), (3, .int l3)] [] h) (fu : Nat) : ∀ (l0 : Nat) (l1 : Int32) (l2 : Int32) (l3 : Int32) (l4 : Int32) (h : AH), zG X V RX7 "multiplied" cX7_multiplied 5 (some .int) (d + 3) n0 k0 (fX7_multiplied_38 K27 fu l0 l1 l2 l3 l4 h) 38 [(0, .ref l0), (1, .int l1), (2, .int l2), (3, .int l3), (4, .int l4)] [] h := by
  induction fu with
  | zero => intros; exact z_none
  | succ k ih =>
    intro l0 l1 l2 l3 l4 h
    rw [fX7_multiplied_38]
    refine z_iload 4 rfl dX7_multiplied_38 ?_
    refine z_aload_n 0 rfl rfl dX7_multiplied_40 ?_
    refine z_gI zf_RX7_75 dX7_multiplied_41 (fun x1 => ?_)
    refine z_icmp_ge 97 (by decide) dX7_multiplied_44 ?_ ?_
    · refine z_inc (w := 1) (lv' := [(3, .int (l3 + 1)), (0, .ref l0), (1, .int l1), (2, .int l2), (4, .int l4)]) 3 rfl (by decide) (by decide) rfl dX7_multiplied_97 ?_
      refine z_goto 27 (by decide) dX7_multiplied_100 ?_
      exact z_sub [1, 2, 3, 0] rfl (hK27 l0 l1 l2 (l3 + 1) h)
    · refine z_aload_n 0 rfl rfl dX7_multiplied_47 ?_
      refine z_gR zf_RX7_43 dX7_multiplied_48 (fun x2 => ?_)
      refine z_iload_n 3 rfl rfl dX7_multiplied_51 ?_
      refine z_iload 4 rfl dX7_multiplied_52 ?_
      refine z_iadd dX7_multiplied_54 ?_
      refine z_aload_n 0 rfl rfl dX7_multiplied_55 ?_
      refine z_gR zf_RX7_43 dX7_multiplied_56 (fun x3 => ?_)
      refine z_iload_n 3 rfl rfl dX7_multiplied_59 ?_
      refine z_iload 4 rfl dX7_multiplied_60 ?_
      refine z_iadd dX7_multiplied_62 ?_
      refine z_aI dX7_multiplied_63 (fun x4 => ?_)
      refine z_iload_n 1 rfl rfl dX7_multiplied_64 ?_
      refine z_aload_n 0 rfl rfl dX7_multiplied_65 ?_
      refine z_gI zf_RX7_68 dX7_multiplied_66 (fun x5 => ?_)
      refine z_iload_n 3 rfl rfl dX7_multiplied_69 ?_
      refine z_cS (st := [.int x4, .int (l3 + l4), .ref x2]) [.int l1, .int x5, .int l3] zk_RX7_71 rfl (Nat.le_of_ble_eq_true rfl) dX7_multiplied_70 (mX7_digit hV (d + 1) l1 x5 l3 h) (fun v6 h7 => ?_)
      refine z_vi (fun x8 => ?_)
      refine z_iload_n 2 rfl rfl dX7_multiplied_73 ?_
      refine z_aload_n 0 rfl rfl dX7_multiplied_74 ?_
      refine z_gI zf_RX7_68 dX7_multiplied_75 (fun x9 => ?_)
      refine z_iload 4 rfl dX7_multiplied_78 ?_
      refine z_cS (st := [.int x8, .int x4, .int (l3 + l4), .ref x2]) [.int l2, .int x9, .int l4] zk_RX7_71 rfl (Nat.le_of_ble_eq_true rfl) dX7_multiplied_80 (mX7_digit hV (d + 1) l2 x9 l4 h7) (fun v10 h11 => ?_)
      refine z_vi (fun x12 => ?_)
      refine z_imul dX7_multiplied_83 ?_
      refine z_iadd dX7_multiplied_84 ?_
      refine z_aload_n 0 rfl rfl dX7_multiplied_85 ?_
      refine z_gI zf_RX7_68 dX7_multiplied_86 (fun x13 => ?_)
      refine z_irem dX7_multiplied_89 ?_
      refine z_sI dX7_multiplied_90 (fun h14 => ?_)
      refine z_inc (w := 1) (lv' := [(4, .int (l4 + 1)), (0, .ref l0), (1, .int l1), (2, .int l2), (3, .int l3)]) 4 rfl (by decide) (by decide) rfl dX7_multiplied_91 ?_
      refine z_goto 38 (by decide) dX7_multiplied_94 ?_
      exact z_sub [1, 2, 3, 4, 0] rfl (ih l0 l1 l2 l3 (l4 + 1) h14)
def fX7_multiplied_27 : Nat → Nat → Int32 → Int32 → Int32 → AH → RR
  | 0, _, _, _, _, _ => none
  | k + 1, l0, l1, l2, l3, h =>
  (zgI h l0 7 14).bind fun x1 =>
  if x1 ≤ l3 then (
    (zgI h l0 7 14).bind fun x2 =>
    (zgI h l0 7 16).bind fun x3 =>
    (zgI h l0 7 14).bind fun x4 =>
    zcv (zob h l0 7) (fX7_rests l0 (((2 : Int32) * x2) - 2) x3 x4 h) fun v5 h6 =>
    zvn v5 <|
    zcv (zob h6 l0 7) (fX7_numberOf l0 h6) fun v7 h8 =>
    zvi v7 fun x9 =>
    some (.inl (some (.int x9)), h8))
  else
  fX7_multiplied_38 (fun p0 p1 p2 p3 h => fX7_multiplied_27 k p0 p1 p2 p3 h) FU l0 l1 l2 l3 0 h
set_option maxRecDepth 20000 in
theorem rX7_multiplied_27 {X : CT} {V : VT} {d n0 k0 : Nat} (hV : V.2.2.2.2.2.stackTraces = false) (fu : Nat) : ∀ (l0 : Nat) (l1 : Int32) (l2 : Int32) (l3 : Int32) (h : AH), zG X V RX7 "multiplied" cX7_multiplied 5 (some .int) (d + 3) n0 k0 (fX7_multiplied_27 fu l0 l1 l2 l3 h) 27 [(0, .ref l0), (1, .int l1), (2, .int l2), (3, .int l3)] [] h := by
  induction fu with
  | zero => intros; exact z_none
  | succ k ih =>
    intro l0 l1 l2 l3 h
    rw [fX7_multiplied_27]
    refine z_iload_n 3 rfl rfl dX7_multiplied_27 ?_
    refine z_aload_n 0 rfl rfl dX7_multiplied_28 ?_
    refine z_gI zf_RX7_75 dX7_multiplied_29 (fun x1 => ?_)
    refine z_icmp_ge 103 (by decide) dX7_multiplied_32 ?_ ?_
    · refine z_aload_n 0 rfl rfl dX7_multiplied_103 ?_
      refine z_iconst (v := 2) (by decide) dX7_multiplied_104 ?_
      refine z_aload_n 0 rfl rfl dX7_multiplied_105 ?_
      refine z_gI zf_RX7_75 dX7_multiplied_106 (fun x2 => ?_)
      refine z_imul dX7_multiplied_109 ?_
      refine z_iconst (v := 2) (by decide) dX7_multiplied_110 ?_
      refine z_isub dX7_multiplied_111 ?_
      refine z_aload_n 0 rfl rfl dX7_multiplied_112 ?_
      refine z_gI zf_RX7_89 dX7_multiplied_113 (fun x3 => ?_)
      refine z_aload_n 0 rfl rfl dX7_multiplied_116 ?_
      refine z_gI zf_RX7_75 dX7_multiplied_117 (fun x4 => ?_)
      refine z_cV (st := []) [.int (((2 : Int32) * x2) - 2), .int x3, .int x4] zk_RX7_81 rfl (Nat.le_of_ble_eq_true rfl) dX7_multiplied_120 (mX7_rests hV (d + 0) l0 (((2 : Int32) * x2) - 2) x3 x4 h) (fun v5 h6 => ?_)
      refine z_vn ?_
      refine z_aload_n 0 rfl rfl dX7_multiplied_123 ?_
      refine z_cV (st := []) [] zk_RX7_85 rfl (Nat.le_of_ble_eq_true rfl) dX7_multiplied_124 (mX7_numberOf hV (d + 1) l0 h6) (fun v7 h8 => ?_)
      refine z_vi (fun x9 => ?_)
      exact z_iret rfl dX7_multiplied_127
    · refine z_iconst (v := 0) (by decide) dX7_multiplied_35 ?_
      refine z_istore (lv' := [(4, .int 0), (0, .ref l0), (1, .int l1), (2, .int l2), (3, .int l3)]) (by decide) rfl dX7_multiplied_36 ?_
      exact z_sub [1, 2, 3, 4, 0] rfl (rX7_multiplied_38 hV (fun p0 p1 p2 p3 h => fX7_multiplied_27 k p0 p1 p2 p3 h) ih FU l0 l1 l2 l3 0 h)
def fX7_multiplied_2 : Nat → Nat → Int32 → Int32 → Int32 → AH → RR
  | 0, _, _, _, _, _ => none
  | k + 1, l0, l1, l2, l3, h =>
  (zgI h l0 7 14).bind fun x1 =>
  if ((2 : Int32) * x1) ≤ l3 then (
    fX7_multiplied_27 FU l0 l1 l2 0 h)
  else
  (zgR h l0 7 21).bind fun x2 =>
  (zsi h x2 l3 0).bind fun h3 =>
  fX7_multiplied_2 k l0 l1 l2 (l3 + 1) h3
set_option maxRecDepth 20000 in
theorem rX7_multiplied_2 {X : CT} {V : VT} {d n0 k0 : Nat} (hV : V.2.2.2.2.2.stackTraces = false) (fu : Nat) : ∀ (l0 : Nat) (l1 : Int32) (l2 : Int32) (l3 : Int32) (h : AH), zG X V RX7 "multiplied" cX7_multiplied 5 (some .int) (d + 3) n0 k0 (fX7_multiplied_2 fu l0 l1 l2 l3 h) 2 [(0, .ref l0), (1, .int l1), (2, .int l2), (3, .int l3)] [] h := by
  induction fu with
  | zero => intros; exact z_none
  | succ k ih =>
    intro l0 l1 l2 l3 h
    rw [fX7_multiplied_2]
    refine z_iload_n 3 rfl rfl dX7_multiplied_2 ?_
    refine z_iconst (v := 2) (by decide) dX7_multiplied_3 ?_
    refine z_aload_n 0 rfl rfl dX7_multiplied_4 ?_
    refine z_gI zf_RX7_75 dX7_multiplied_5 (fun x1 => ?_)
    refine z_imul dX7_multiplied_8 ?_
    refine z_icmp_ge 25 (by decide) dX7_multiplied_9 ?_ ?_
    · refine z_iconst (v := 0) (by decide) dX7_multiplied_25 ?_
      refine z_istore_n (lv' := [(3, .int 0), (0, .ref l0), (1, .int l1), (2, .int l2)]) rfl (by decide) rfl dX7_multiplied_26 ?_
      exact z_sub [1, 2, 3, 0] rfl (rX7_multiplied_27 hV FU l0 l1 l2 0 h)
    · refine z_aload_n 0 rfl rfl dX7_multiplied_12 ?_
      refine z_gR zf_RX7_43 dX7_multiplied_13 (fun x2 => ?_)
      refine z_iload_n 3 rfl rfl dX7_multiplied_16 ?_
      refine z_iconst (v := 0) (by decide) dX7_multiplied_17 ?_
      refine z_sI dX7_multiplied_18 (fun h3 => ?_)
      refine z_inc (w := 1) (lv' := [(3, .int (l3 + 1)), (0, .ref l0), (1, .int l1), (2, .int l2)]) 3 rfl (by decide) (by decide) rfl dX7_multiplied_19 ?_
      refine z_goto 2 (by decide) dX7_multiplied_22 ?_
      exact z_sub [1, 2, 3, 0] rfl (ih l0 l1 l2 (l3 + 1) h3)
def fX7_multiplied (a0 : Nat) (a1 : Int32) (a2 : Int32) (h : AH) : RR :=
  fX7_multiplied_2 FU a0 a1 a2 0 h
set_option maxRecDepth 20000 in
theorem mX7_multiplied {V : VT} (hV : V.2.2.2.2.2.stackTraces = false) (d : Nat) (a0 : Nat) (a1 : Int32) (a2 : Int32) (h : AH) : zM V yX7_multiplied cX7_multiplied 5 (some .int) (d + 3) [.ref a0, .int a1, .int a2] h (fX7_multiplied a0 a1 a2 h) := by
  refine z_meth hV (by decide +kernel) (Nat.le_of_ble_eq_true rfl) [(0, .ref a0), (1, .int a1), (2, .int a2)] rfl (fun X => ?_)
  show zG X V RX7 "multiplied" cX7_multiplied 5 (some .int) (d + 3) h.1 h.2.1 (fX7_multiplied a0 a1 a2 h) 0 [(0, .ref a0), (1, .int a1), (2, .int a2)] [] h
  unfold fX7_multiplied
  refine z_iconst (v := 0) (by decide) dX7_multiplied_0 ?_
  refine z_istore_n (lv' := [(3, .int 0), (0, .ref a0), (1, .int a1), (2, .int a2)]) rfl (by decide) rfl dX7_multiplied_1 ?_
  exact z_sub [1, 2, 3, 0] rfl (rX7_multiplied_2 hV FU a0 a1 a2 0 h)
def fX7_lays_153 (K89 : Nat → Int32 → AH → RR) (K99 : Nat → Int32 → Int32 → AH → RR) (l0 : Nat) (l2 : Int32) (l3 : Int32) (h : AH) : RR :=
  (zgR h l0 7 18).bind fun x1 =>
  (zar h x1 l2).bind fun x2 =>
  (zai h x2 l3).bind fun x3 =>
  if x3 = 1 then (
    (zgR h l0 7 20).bind fun x4 =>
    (zsi h x4 l2 l3).bind fun h5 =>
    K99 l0 l2 (l3 + 1) h5)
  else
  K99 l0 l2 (l3 + 1) h
set_option maxRecDepth 20000 in
theorem rX7_lays_153 {X : CT} {V : VT} {d n0 k0 : Nat} (hV : V.2.2.2.2.2.stackTraces = false) (K89 : Nat → Int32 → AH → RR) (K99 : Nat → Int32 → Int32 → AH → RR) (hK89 : ∀ l0 l2  h, zG X V RX7 "lays" cX7_lays 4 none (d + 4) n0 k0 (K89 l0 l2 h) 89 [(0, .ref l0), (2, .int l2)] [] h) (hK99 : ∀ l0 l2 l3  h, zG X V RX7 "lays" cX7_lays 4 none (d + 4) n0 k0 (K99 l0 l2 l3 h) 99 [(0, .ref l0), (2, .int l2), (3, .int l3)] [] h) (l0 : Nat) (l2 : Int32) (l3 : Int32) (h : AH) : zG X V RX7 "lays" cX7_lays 4 none (d + 4) n0 k0 (fX7_lays_153 K89 K99 l0 l2 l3 h) 153 [(0, .ref l0), (2, .int l2), (3, .int l3)] [] h := by
  unfold fX7_lays_153
  refine z_aload_n 0 rfl rfl dX7_lays_153 ?_
  refine z_gR zf_RX7_34 dX7_lays_154 (fun x1 => ?_)
  refine z_iload_n 1 rfl rfl dX7_lays_157 ?_
  refine z_aR dX7_lays_158 (fun x2 => ?_)
  refine z_iload_n 2 rfl rfl dX7_lays_159 ?_
  refine z_aI dX7_lays_160 (fun x3 => ?_)
  refine z_iconst (v := 1) (by decide) dX7_lays_161 ?_
  refine z_icmp_ne 172 (by decide) dX7_lays_162 ?_ ?_
  · refine z_aload_n 0 rfl rfl dX7_lays_165 ?_
    refine z_gR zf_RX7_40 dX7_lays_166 (fun x4 => ?_)
    refine z_iload_n 1 rfl rfl dX7_lays_169 ?_
    refine z_iload_n 2 rfl rfl dX7_lays_170 ?_
    refine z_sI dX7_lays_171 (fun h5 => ?_)
    refine z_inc (w := 1) (lv' := [(3, .int (l3 + 1)), (0, .ref l0), (2, .int l2)]) 2 rfl (by decide) (by decide) rfl dX7_lays_172 ?_
    refine z_goto 99 (by decide) dX7_lays_175 ?_
    exact z_sub [1, 2, 0] rfl (hK99 l0 l2 (l3 + 1) h5)
  · refine z_inc (w := 1) (lv' := [(3, .int (l3 + 1)), (0, .ref l0), (2, .int l2)]) 2 rfl (by decide) (by decide) rfl dX7_lays_172 ?_
    refine z_goto 99 (by decide) dX7_lays_175 ?_
    exact z_sub [1, 2, 0] rfl (hK99 l0 l2 (l3 + 1) h)
def fX7_lays_99 (K89 : Nat → Int32 → AH → RR) : Nat → Nat → Int32 → Int32 → AH → RR
  | 0, _, _, _, _ => none
  | k + 1, l0, l2, l3, h =>
  (zgI h l0 7 15).bind fun x1 =>
  if x1 ≤ l3 then (
    K89 l0 (l2 + 1) h)
  else
  (zgR h l0 7 17).bind fun x2 =>
  (zar h x2 l2).bind fun x3 =>
  zcv (zob h l0 7) (fX7_summed l0 l2 l3 h) fun v4 h5 =>
  zvi v4 fun x6 =>
  (zsi h5 x3 l3 x6).bind fun h7 =>
  (zgR h7 l0 7 18).bind fun x8 =>
  (zar h7 x8 l2).bind fun x9 =>
  zcv (zob h7 l0 7) (fX7_multiplied l0 l2 l3 h7) fun v10 h11 =>
  zvi v10 fun x12 =>
  (zsi h11 x9 l3 x12).bind fun h13 =>
  (zgR h13 l0 7 17).bind fun x14 =>
  (zar h13 x14 l2).bind fun x15 =>
  (zai h13 x15 l3).bind fun x16 =>
  if x16 = 0 then (
    (zgR h13 l0 7 19).bind fun x17 =>
    (zsi h13 x17 l2 l3).bind fun h18 =>
    fX7_lays_153 K89 (fun p0 p2 p3 h => fX7_lays_99 K89 k p0 p2 p3 h) l0 l2 l3 h18)
  else
  fX7_lays_153 K89 (fun p0 p2 p3 h => fX7_lays_99 K89 k p0 p2 p3 h) l0 l2 l3 h13
set_option maxRecDepth 20000 in
theorem rX7_lays_99 {X : CT} {V : VT} {d n0 k0 : Nat} (hV : V.2.2.2.2.2.stackTraces = false) (K89 : Nat → Int32 → AH → RR) (hK89 : ∀ l0 l2  h, zG X V RX7 "lays" cX7_lays 4 none (d + 4) n0 k0 (K89 l0 l2 h) 89 [(0, .ref l0), (2, .int l2)] [] h) (fu : Nat) : ∀ (l0 : Nat) (l2 : Int32) (l3 : Int32) (h : AH), zG X V RX7 "lays" cX7_lays 4 none (d + 4) n0 k0 (fX7_lays_99 K89 fu l0 l2 l3 h) 99 [(0, .ref l0), (2, .int l2), (3, .int l3)] [] h := by
  induction fu with
  | zero => intros; exact z_none
  | succ k ih =>
    intro l0 l2 l3 h
    rw [fX7_lays_99]
    refine z_iload_n 2 rfl rfl dX7_lays_99 ?_
    refine z_aload_n 0 rfl rfl dX7_lays_100 ?_
    refine z_gI zf_RX7_92 dX7_lays_101 (fun x1 => ?_)
    refine z_icmp_ge 178 (by decide) dX7_lays_104 ?_ ?_
    · refine z_inc (w := 1) (lv' := [(2, .int (l2 + 1)), (0, .ref l0), (3, .int l3)]) 1 rfl (by decide) (by decide) rfl dX7_lays_178 ?_
      refine z_goto 89 (by decide) dX7_lays_181 ?_
      exact z_sub [1, 0] rfl (hK89 l0 (l2 + 1) h)
    · refine z_aload_n 0 rfl rfl dX7_lays_107 ?_
      refine z_gR zf_RX7_31 dX7_lays_108 (fun x2 => ?_)
      refine z_iload_n 1 rfl rfl dX7_lays_111 ?_
      refine z_aR dX7_lays_112 (fun x3 => ?_)
      refine z_iload_n 2 rfl rfl dX7_lays_113 ?_
      refine z_aload_n 0 rfl rfl dX7_lays_114 ?_
      refine z_iload_n 1 rfl rfl dX7_lays_115 ?_
      refine z_iload_n 2 rfl rfl dX7_lays_116 ?_
      refine z_cV (st := [.int l3, .ref x3]) [.int l2, .int l3] zk_RX7_99 rfl (Nat.le_of_ble_eq_true rfl) dX7_lays_117 (mX7_summed hV (d + 1) l0 l2 l3 h) (fun v4 h5 => ?_)
      refine z_vi (fun x6 => ?_)
      refine z_sI dX7_lays_120 (fun h7 => ?_)
      refine z_aload_n 0 rfl rfl dX7_lays_121 ?_
      refine z_gR zf_RX7_34 dX7_lays_122 (fun x8 => ?_)
      refine z_iload_n 1 rfl rfl dX7_lays_125 ?_
      refine z_aR dX7_lays_126 (fun x9 => ?_)
      refine z_iload_n 2 rfl rfl dX7_lays_127 ?_
      refine z_aload_n 0 rfl rfl dX7_lays_128 ?_
      refine z_iload_n 1 rfl rfl dX7_lays_129 ?_
      refine z_iload_n 2 rfl rfl dX7_lays_130 ?_
      refine z_cV (st := [.int l3, .ref x9]) [.int l2, .int l3] zk_RX7_102 rfl (Nat.le_of_ble_eq_true rfl) dX7_lays_131 (mX7_multiplied hV (d + 0) l0 l2 l3 h7) (fun v10 h11 => ?_)
      refine z_vi (fun x12 => ?_)
      refine z_sI dX7_lays_134 (fun h13 => ?_)
      refine z_aload_n 0 rfl rfl dX7_lays_135 ?_
      refine z_gR zf_RX7_31 dX7_lays_136 (fun x14 => ?_)
      refine z_iload_n 1 rfl rfl dX7_lays_139 ?_
      refine z_aR dX7_lays_140 (fun x15 => ?_)
      refine z_iload_n 2 rfl rfl dX7_lays_141 ?_
      refine z_aI dX7_lays_142 (fun x16 => ?_)
      refine z_if_ne 153 (by decide) dX7_lays_143 ?_ ?_
      · refine z_aload_n 0 rfl rfl dX7_lays_146 ?_
        refine z_gR zf_RX7_37 dX7_lays_147 (fun x17 => ?_)
        refine z_iload_n 1 rfl rfl dX7_lays_150 ?_
        refine z_iload_n 2 rfl rfl dX7_lays_151 ?_
        refine z_sI dX7_lays_152 (fun h18 => ?_)
        exact z_sub [0, 1, 2] rfl (rX7_lays_153 hV K89 (fun p0 p2 p3 h => fX7_lays_99 K89 k p0 p2 p3 h) hK89 ih l0 l2 l3 h18)
      · exact z_sub [0, 1, 2] rfl (rX7_lays_153 hV K89 (fun p0 p2 p3 h => fX7_lays_99 K89 k p0 p2 p3 h) hK89 ih l0 l2 l3 h13)
def fX7_lays_89 : Nat → Nat → Int32 → AH → RR
  | 0, _, _, _ => none
  | k + 1, l0, l2, h =>
  (zgI h l0 7 15).bind fun x1 =>
  if x1 ≤ l2 then (
    some (.inl none, h))
  else
  fX7_lays_99 (fun p0 p2 h => fX7_lays_89 k p0 p2 h) FU l0 l2 0 h
set_option maxRecDepth 20000 in
theorem rX7_lays_89 {X : CT} {V : VT} {d n0 k0 : Nat} (hV : V.2.2.2.2.2.stackTraces = false) (fu : Nat) : ∀ (l0 : Nat) (l2 : Int32) (h : AH), zG X V RX7 "lays" cX7_lays 4 none (d + 4) n0 k0 (fX7_lays_89 fu l0 l2 h) 89 [(0, .ref l0), (2, .int l2)] [] h := by
  induction fu with
  | zero => intros; exact z_none
  | succ k ih =>
    intro l0 l2 h
    rw [fX7_lays_89]
    refine z_iload_n 1 rfl rfl dX7_lays_89 ?_
    refine z_aload_n 0 rfl rfl dX7_lays_90 ?_
    refine z_gI zf_RX7_92 dX7_lays_91 (fun x1 => ?_)
    refine z_icmp_ge 184 (by decide) dX7_lays_94 ?_ ?_
    · exact z_vret rfl dX7_lays_184
    · refine z_iconst (v := 0) (by decide) dX7_lays_97 ?_
      refine z_istore_n (lv' := [(3, .int 0), (0, .ref l0), (2, .int l2)]) rfl (by decide) rfl dX7_lays_98 ?_
      exact z_sub [1, 2, 0] rfl (rX7_lays_99 hV (fun p0 p2 h => fX7_lays_89 k p0 p2 h) ih FU l0 l2 0 h)
def fX7_lays_87 (l0 : Nat) (h : AH) : RR :=
  fX7_lays_89 FU l0 0 h
set_option maxRecDepth 20000 in
theorem rX7_lays_87 {X : CT} {V : VT} {d n0 k0 : Nat} (hV : V.2.2.2.2.2.stackTraces = false) (l0 : Nat) (h : AH) : zG X V RX7 "lays" cX7_lays 4 none (d + 4) n0 k0 (fX7_lays_87 l0 h) 87 [(0, .ref l0)] [] h := by
  unfold fX7_lays_87
  refine z_iconst (v := 0) (by decide) dX7_lays_87 ?_
  refine z_istore_n (lv' := [(2, .int 0), (0, .ref l0)]) rfl (by decide) rfl dX7_lays_88 ?_
  exact z_sub [1, 0] rfl (rX7_lays_89 hV FU l0 0 h)
def fX7_lays_55 : Nat → Nat → AH → RR
  | 0, _, _ => none
  | k + 1, l0, h =>
  (zgI h l0 7 14).bind fun x1 =>
  if x1 ≤ 1 then (
    fX7_lays_87 l0 h)
  else
  (zgI h l0 7 16).bind fun x2 =>
  zcv (zob h l0 7) (fX7_isProduct l0 x2 h) fun v3 h4 =>
  zvi v3 fun x5 =>
  if x5 = 0 then (
    fX7_lays_87 l0 h4)
  else
  (zgI h4 l0 7 16).bind fun x6 =>
  (zpf h4 l0 7 16 (.int (x6 + 1))).bind fun h7 =>
  fX7_lays_55 k l0 h7
set_option maxRecDepth 20000 in
theorem rX7_lays_55 {X : CT} {V : VT} {d n0 k0 : Nat} (hV : V.2.2.2.2.2.stackTraces = false) (fu : Nat) : ∀ (l0 : Nat) (h : AH), zG X V RX7 "lays" cX7_lays 4 none (d + 4) n0 k0 (fX7_lays_55 fu l0 h) 55 [(0, .ref l0)] [] h := by
  induction fu with
  | zero => intros; exact z_none
  | succ k ih =>
    intro l0 h
    rw [fX7_lays_55]
    refine z_aload_n 0 rfl rfl dX7_lays_55 ?_
    refine z_gI zf_RX7_75 dX7_lays_56 (fun x1 => ?_)
    refine z_iconst (v := 1) (by decide) dX7_lays_59 ?_
    refine z_icmp_le 87 (by decide) dX7_lays_60 ?_ ?_
    · exact z_sub [0] rfl (rX7_lays_87 hV l0 h)
    · refine z_aload_n 0 rfl rfl dX7_lays_63 ?_
      refine z_aload_n 0 rfl rfl dX7_lays_64 ?_
      refine z_gI zf_RX7_89 dX7_lays_65 (fun x2 => ?_)
      refine z_cV (st := []) [.int x2] zk_RX7_95 rfl (Nat.le_of_ble_eq_true rfl) dX7_lays_68 (mX7_isProduct hV (d + 0) l0 x2 h) (fun v3 h4 => ?_)
      refine z_vi (fun x5 => ?_)
      refine z_if_eq 87 (by decide) dX7_lays_71 ?_ ?_
      · exact z_sub [0] rfl (rX7_lays_87 hV l0 h4)
      · refine z_aload_n 0 rfl rfl dX7_lays_74 ?_
        refine z_dup rfl dX7_lays_75 ?_
        refine z_gI zf_RX7_89 dX7_lays_76 (fun x6 => ?_)
        refine z_iconst (v := 1) (by decide) dX7_lays_79 ?_
        refine z_iadd dX7_lays_80 ?_
        refine z_pI zf_RX7_89 zq_7_16 rfl dX7_lays_81 (fun h7 => ?_)
        refine z_goto 55 (by decide) dX7_lays_84 ?_
        exact z_sub [0] rfl (ih l0 h7)
def fX7_lays_21 (l0 : Nat) (l1 : Nat) (h : AH) : RR :=
  (zai h l1 0).bind fun x1 =>
  (zpf h l0 7 13 (.int x1)).bind fun h2 =>
  (zai h2 l1 1).bind fun x3 =>
  (zpf h2 l0 7 14 (.int x3)).bind fun h4 =>
  (zgI h4 l0 7 13).bind fun x5 =>
  (zgI h4 l0 7 14).bind fun x6 =>
  zca (fX7_raised x5 x6 h4) fun v7 h8 =>
  zvi v7 fun x9 =>
  (zpf h8 l0 7 15 (.int x9)).bind fun h10 =>
  (zpf h10 l0 7 16 (.int 0)).bind fun h11 =>
  fX7_lays_55 FU l0 h11
set_option maxRecDepth 20000 in
theorem rX7_lays_21 {X : CT} {V : VT} {d n0 k0 : Nat} (hV : V.2.2.2.2.2.stackTraces = false) (l0 : Nat) (l1 : Nat) (h : AH) : zG X V RX7 "lays" cX7_lays 4 none (d + 4) n0 k0 (fX7_lays_21 l0 l1 h) 21 [(0, .ref l0), (1, .ref l1)] [] h := by
  unfold fX7_lays_21
  refine z_aload_n 0 rfl rfl dX7_lays_21 ?_
  refine z_aload_n 1 rfl rfl dX7_lays_22 ?_
  refine z_iconst (v := 0) (by decide) dX7_lays_23 ?_
  refine z_aI dX7_lays_24 (fun x1 => ?_)
  refine z_pI zf_RX7_68 zq_7_13 rfl dX7_lays_25 (fun h2 => ?_)
  refine z_aload_n 0 rfl rfl dX7_lays_28 ?_
  refine z_aload_n 1 rfl rfl dX7_lays_29 ?_
  refine z_iconst (v := 1) (by decide) dX7_lays_30 ?_
  refine z_aI dX7_lays_31 (fun x3 => ?_)
  refine z_pI zf_RX7_75 zq_7_14 rfl dX7_lays_32 (fun h4 => ?_)
  refine z_aload_n 0 rfl rfl dX7_lays_35 ?_
  refine z_aload_n 0 rfl rfl dX7_lays_36 ?_
  refine z_gI zf_RX7_68 dX7_lays_37 (fun x5 => ?_)
  refine z_aload_n 0 rfl rfl dX7_lays_40 ?_
  refine z_gI zf_RX7_75 dX7_lays_41 (fun x6 => ?_)
  refine z_cS (st := [.ref l0]) [.int x5, .int x6] zk_RX7_78 rfl (Nat.le_of_ble_eq_true rfl) dX7_lays_44 (mX7_raised hV (d + 1) x5 x6 h4) (fun v7 h8 => ?_)
  refine z_vi (fun x9 => ?_)
  refine z_pI zf_RX7_92 zq_7_15 rfl dX7_lays_47 (fun h10 => ?_)
  refine z_aload_n 0 rfl rfl dX7_lays_50 ?_
  refine z_iconst (v := 0) (by decide) dX7_lays_51 ?_
  refine z_pI zf_RX7_89 zq_7_16 rfl dX7_lays_52 (fun h11 => ?_)
  exact z_sub [0] rfl (rX7_lays_55 hV FU l0 h11)
def fX7_lays (a0 : Nat) (a1 : Nat) (h : AH) : RR :=
  (zgI h a0 7 13).bind fun x1 =>
  (zai h a1 0).bind fun x2 =>
  if x1 = x2 then (
    (zgI h a0 7 14).bind fun x3 =>
    (zai h a1 1).bind fun x4 =>
    if x3 = x4 then (
      some (.inl none, h))
    else
    fX7_lays_21 a0 a1 h)
  else
  fX7_lays_21 a0 a1 h
set_option maxRecDepth 20000 in
theorem mX7_lays {V : VT} (hV : V.2.2.2.2.2.stackTraces = false) (d : Nat) (a0 : Nat) (a1 : Nat) (h : AH) : zM V yX7_lays cX7_lays 4 none (d + 4) [.ref a0, .ref a1] h (fX7_lays a0 a1 h) := by
  refine z_meth hV (by decide +kernel) (Nat.le_of_ble_eq_true rfl) [(0, .ref a0), (1, .ref a1)] rfl (fun X => ?_)
  show zG X V RX7 "lays" cX7_lays 4 none (d + 4) h.1 h.2.1 (fX7_lays a0 a1 h) 0 [(0, .ref a0), (1, .ref a1)] [] h
  unfold fX7_lays
  refine z_aload_n 0 rfl rfl dX7_lays_0 ?_
  refine z_gI zf_RX7_68 dX7_lays_1 (fun x1 => ?_)
  refine z_aload_n 1 rfl rfl dX7_lays_4 ?_
  refine z_iconst (v := 0) (by decide) dX7_lays_5 ?_
  refine z_aI dX7_lays_6 (fun x2 => ?_)
  refine z_icmp_ne 21 (by decide) dX7_lays_7 ?_ ?_
  · refine z_aload_n 0 rfl rfl dX7_lays_10 ?_
    refine z_gI zf_RX7_75 dX7_lays_11 (fun x3 => ?_)
    refine z_aload_n 1 rfl rfl dX7_lays_14 ?_
    refine z_iconst (v := 1) (by decide) dX7_lays_15 ?_
    refine z_aI dX7_lays_16 (fun x4 => ?_)
    refine z_icmp_ne 21 (by decide) dX7_lays_17 ?_ ?_
    · exact z_vret rfl dX7_lays_20
    · exact z_sub [0, 1] rfl (rX7_lays_21 hV a0 a1 h)
  · exact z_sub [0, 1] rfl (rX7_lays_21 hV a0 a1 h)
def fX7_raisedPoint_31 (K8 : Nat → Int32 → Int32 → Int32 → AH → RR) (l0 : Nat) (l3 : Int32) (l4 : Int32) (l5 : Int32) (h : AH) : RR :=
  (zgR h l0 7 18).bind fun x1 =>
  (zar h x1 l4).bind fun x2 =>
  (zai h x2 l4).bind fun x3 =>
  if (2 : Int32) = 0 then none else
  K8 l0 l3 x3 (l5 / 2) h
set_option maxRecDepth 20000 in
theorem rX7_raisedPoint_31 {X : CT} {V : VT} {d n0 k0 : Nat} (hV : V.2.2.2.2.2.stackTraces = false) (K8 : Nat → Int32 → Int32 → Int32 → AH → RR) (hK8 : ∀ l0 l3 l4 l5  h, zG X V RX7 "raisedPoint" cX7_raisedPoint 6 (some .int) (d + 1) n0 k0 (K8 l0 l3 l4 l5 h) 8 [(0, .ref l0), (3, .int l3), (4, .int l4), (5, .int l5)] [] h) (l0 : Nat) (l3 : Int32) (l4 : Int32) (l5 : Int32) (h : AH) : zG X V RX7 "raisedPoint" cX7_raisedPoint 6 (some .int) (d + 1) n0 k0 (fX7_raisedPoint_31 K8 l0 l3 l4 l5 h) 31 [(0, .ref l0), (3, .int l3), (4, .int l4), (5, .int l5)] [] h := by
  unfold fX7_raisedPoint_31
  refine z_aload_n 0 rfl rfl dX7_raisedPoint_31 ?_
  refine z_gR zf_RX7_34 dX7_raisedPoint_32 (fun x1 => ?_)
  refine z_iload 2 rfl dX7_raisedPoint_35 ?_
  refine z_aR dX7_raisedPoint_37 (fun x2 => ?_)
  refine z_iload 2 rfl dX7_raisedPoint_38 ?_
  refine z_aI dX7_raisedPoint_40 (fun x3 => ?_)
  refine z_istore (lv' := [(4, .int x3), (0, .ref l0), (3, .int l3), (5, .int l5)]) (by decide) rfl dX7_raisedPoint_41 ?_
  refine z_iload 3 rfl dX7_raisedPoint_43 ?_
  refine z_iconst (v := 2) (by decide) dX7_raisedPoint_45 ?_
  refine z_idiv dX7_raisedPoint_46 ?_
  refine z_istore (lv' := [(5, .int (l5 / 2)), (4, .int x3), (0, .ref l0), (3, .int l3)]) (by decide) rfl dX7_raisedPoint_47 ?_
  refine z_goto 8 (by decide) dX7_raisedPoint_49 ?_
  exact z_sub [2, 3, 1, 0] rfl (hK8 l0 l3 x3 (l5 / 2) h)
def fX7_raisedPoint_8 : Nat → Nat → Int32 → Int32 → Int32 → AH → RR
  | 0, _, _, _, _, _ => none
  | k + 1, l0, l3, l4, l5, h =>
  if l5 ≤ 0 then (
    some (.inl (some (.int l3)), h))
  else
  if (2 : Int32) = 0 then none else
  if (l5 - l5 / 2 * 2) = 1 then (
    (zgR h l0 7 18).bind fun x1 =>
    (zar h x1 l3).bind fun x2 =>
    (zai h x2 l4).bind fun x3 =>
    fX7_raisedPoint_31 (fun p0 p3 p4 p5 h => fX7_raisedPoint_8 k p0 p3 p4 p5 h) l0 x3 l4 l5 h)
  else
  fX7_raisedPoint_31 (fun p0 p3 p4 p5 h => fX7_raisedPoint_8 k p0 p3 p4 p5 h) l0 l3 l4 l5 h
set_option maxRecDepth 20000 in
theorem rX7_raisedPoint_8 {X : CT} {V : VT} {d n0 k0 : Nat} (hV : V.2.2.2.2.2.stackTraces = false) (fu : Nat) : ∀ (l0 : Nat) (l3 : Int32) (l4 : Int32) (l5 : Int32) (h : AH), zG X V RX7 "raisedPoint" cX7_raisedPoint 6 (some .int) (d + 1) n0 k0 (fX7_raisedPoint_8 fu l0 l3 l4 l5 h) 8 [(0, .ref l0), (3, .int l3), (4, .int l4), (5, .int l5)] [] h := by
  induction fu with
  | zero => intros; exact z_none
  | succ k ih =>
    intro l0 l3 l4 l5 h
    rw [fX7_raisedPoint_8]
    refine z_iload 3 rfl dX7_raisedPoint_8 ?_
    refine z_if_le 52 (by decide) dX7_raisedPoint_10 ?_ ?_
    · refine z_iload_n 1 rfl rfl dX7_raisedPoint_52 ?_
      exact z_iret rfl dX7_raisedPoint_53
    · refine z_iload 3 rfl dX7_raisedPoint_13 ?_
      refine z_iconst (v := 2) (by decide) dX7_raisedPoint_15 ?_
      refine z_irem dX7_raisedPoint_16 ?_
      refine z_iconst (v := 1) (by decide) dX7_raisedPoint_17 ?_
      refine z_icmp_ne 31 (by decide) dX7_raisedPoint_18 ?_ ?_
      · refine z_aload_n 0 rfl rfl dX7_raisedPoint_21 ?_
        refine z_gR zf_RX7_34 dX7_raisedPoint_22 (fun x1 => ?_)
        refine z_iload_n 1 rfl rfl dX7_raisedPoint_25 ?_
        refine z_aR dX7_raisedPoint_26 (fun x2 => ?_)
        refine z_iload 2 rfl dX7_raisedPoint_27 ?_
        refine z_aI dX7_raisedPoint_29 (fun x3 => ?_)
        refine z_istore_n (lv' := [(3, .int x3), (0, .ref l0), (4, .int l4), (5, .int l5)]) rfl (by decide) rfl dX7_raisedPoint_30 ?_
        exact z_sub [1, 0, 2, 3] rfl (rX7_raisedPoint_31 hV (fun p0 p3 p4 p5 h => fX7_raisedPoint_8 k p0 p3 p4 p5 h) ih l0 x3 l4 l5 h)
      · exact z_sub [0, 1, 2, 3] rfl (rX7_raisedPoint_31 hV (fun p0 p3 p4 p5 h => fX7_raisedPoint_8 k p0 p3 p4 p5 h) ih l0 l3 l4 l5 h)
def fX7_raisedPoint (a0 : Nat) (a1 : Int32) (a2 : Int32) (h : AH) : RR :=
  fX7_raisedPoint_8 FU a0 1 a1 a2 h
set_option maxRecDepth 20000 in
theorem mX7_raisedPoint {V : VT} (hV : V.2.2.2.2.2.stackTraces = false) (d : Nat) (a0 : Nat) (a1 : Int32) (a2 : Int32) (h : AH) : zM V yX7_raisedPoint cX7_raisedPoint 6 (some .int) (d + 1) [.ref a0, .int a1, .int a2] h (fX7_raisedPoint a0 a1 a2 h) := by
  refine z_meth hV (by decide +kernel) (Nat.le_of_ble_eq_true rfl) [(0, .ref a0), (1, .int a1), (2, .int a2)] rfl (fun X => ?_)
  show zG X V RX7 "raisedPoint" cX7_raisedPoint 6 (some .int) (d + 1) h.1 h.2.1 (fX7_raisedPoint a0 a1 a2 h) 0 [(0, .ref a0), (1, .int a1), (2, .int a2)] [] h
  unfold fX7_raisedPoint
  refine z_iconst (v := 1) (by decide) dX7_raisedPoint_0 ?_
  refine z_istore_n (lv' := [(3, .int 1), (0, .ref a0), (1, .int a1), (2, .int a2)]) rfl (by decide) rfl dX7_raisedPoint_1 ?_
  refine z_iload_n 2 rfl rfl dX7_raisedPoint_2 ?_
  refine z_istore (lv' := [(4, .int a1), (3, .int 1), (0, .ref a0), (1, .int a1), (2, .int a2)]) (by decide) rfl dX7_raisedPoint_3 ?_
  refine z_iload_n 4 rfl rfl dX7_raisedPoint_5 ?_
  refine z_istore (lv' := [(5, .int a2), (4, .int a1), (3, .int 1), (0, .ref a0), (1, .int a1), (2, .int a2)]) (by decide) rfl dX7_raisedPoint_6 ?_
  exact z_sub [3, 2, 1, 0] rfl (rX7_raisedPoint_8 hV FU a0 1 a1 a2 h)
def fX7_apart (a0 : Nat) (a1 : Int32) (a2 : Int32) (h : AH) : RR :=
  (zgR h a0 7 17).bind fun x1 =>
  (zar h x1 a1).bind fun x2 =>
  (zgR h a0 7 19).bind fun x3 =>
  (zai h x3 a2).bind fun x4 =>
  (zai h x2 x4).bind fun x5 =>
  some (.inl (some (.int x5)), h)
set_option maxRecDepth 20000 in
theorem mX7_apart {V : VT} (hV : V.2.2.2.2.2.stackTraces = false) (d : Nat) (a0 : Nat) (a1 : Int32) (a2 : Int32) (h : AH) : zM V yX7_apart cX7_apart 3 (some .int) (d + 1) [.ref a0, .int a1, .int a2] h (fX7_apart a0 a1 a2 h) := by
  refine z_meth hV (by decide +kernel) (Nat.le_of_ble_eq_true rfl) [(0, .ref a0), (1, .int a1), (2, .int a2)] rfl (fun X => ?_)
  show zG X V RX7 "apart" cX7_apart 3 (some .int) (d + 1) h.1 h.2.1 (fX7_apart a0 a1 a2 h) 0 [(0, .ref a0), (1, .int a1), (2, .int a2)] [] h
  unfold fX7_apart
  refine z_aload_n 0 rfl rfl dX7_apart_0 ?_
  refine z_gR zf_RX7_31 dX7_apart_1 (fun x1 => ?_)
  refine z_iload_n 1 rfl rfl dX7_apart_4 ?_
  refine z_aR dX7_apart_5 (fun x2 => ?_)
  refine z_aload_n 0 rfl rfl dX7_apart_6 ?_
  refine z_gR zf_RX7_37 dX7_apart_7 (fun x3 => ?_)
  refine z_iload_n 2 rfl rfl dX7_apart_10 ?_
  refine z_aI dX7_apart_11 (fun x4 => ?_)
  refine z_aI dX7_apart_12 (fun x5 => ?_)
  exact z_iret rfl dX7_apart_13
def fX7_dickson_23 : Nat → Nat → Int32 → Int32 → Int32 → Int32 → Int32 → Int32 → AH → RR
  | 0, _, _, _, _, _, _, _, _ => none
  | k + 1, l0, l1, l2, l3, l4, l5, l6, h =>
  if l1 ≤ l6 then (
    some (.inl (some (.int l5)), h))
  else
  (zgR h l0 7 18).bind fun x1 =>
  (zar h x1 l3).bind fun x2 =>
  (zai h x2 l5).bind fun x3 =>
  (zgR h l0 7 18).bind fun x4 =>
  (zar h x4 l2).bind fun x5 =>
  (zai h x5 l4).bind fun x6 =>
  zcv (zob h l0 7) (fX7_apart l0 x3 x6 h) fun v7 h8 =>
  zvi v7 fun x9 =>
  fX7_dickson_23 k l0 l1 l2 l3 l5 x9 (l6 + 1) h8
set_option maxRecDepth 20000 in
theorem rX7_dickson_23 {X : CT} {V : VT} {d n0 k0 : Nat} (hV : V.2.2.2.2.2.stackTraces = false) (fu : Nat) : ∀ (l0 : Nat) (l1 : Int32) (l2 : Int32) (l3 : Int32) (l4 : Int32) (l5 : Int32) (l6 : Int32) (h : AH), zG X V RX7 "dickson" cX7_dickson 8 (some .int) (d + 2) n0 k0 (fX7_dickson_23 fu l0 l1 l2 l3 l4 l5 l6 h) 23 [(0, .ref l0), (1, .int l1), (2, .int l2), (3, .int l3), (4, .int l4), (5, .int l5), (6, .int l6)] [] h := by
  induction fu with
  | zero => intros; exact z_none
  | succ k ih =>
    intro l0 l1 l2 l3 l4 l5 l6 h
    rw [fX7_dickson_23]
    refine z_iload 6 rfl dX7_dickson_23 ?_
    refine z_iload_n 1 rfl rfl dX7_dickson_25 ?_
    refine z_icmp_ge 67 (by decide) dX7_dickson_26 ?_ ?_
    · refine z_iload 5 rfl dX7_dickson_67 ?_
      exact z_iret rfl dX7_dickson_69
    · refine z_aload_n 0 rfl rfl dX7_dickson_29 ?_
      refine z_aload_n 0 rfl rfl dX7_dickson_30 ?_
      refine z_gR zf_RX7_34 dX7_dickson_31 (fun x1 => ?_)
      refine z_iload_n 3 rfl rfl dX7_dickson_34 ?_
      refine z_aR dX7_dickson_35 (fun x2 => ?_)
      refine z_iload 5 rfl dX7_dickson_36 ?_
      refine z_aI dX7_dickson_38 (fun x3 => ?_)
      refine z_aload_n 0 rfl rfl dX7_dickson_39 ?_
      refine z_gR zf_RX7_34 dX7_dickson_40 (fun x4 => ?_)
      refine z_iload_n 2 rfl rfl dX7_dickson_43 ?_
      refine z_aR dX7_dickson_44 (fun x5 => ?_)
      refine z_iload 4 rfl dX7_dickson_45 ?_
      refine z_aI dX7_dickson_47 (fun x6 => ?_)
      refine z_cV (st := []) [.int x3, .int x6] zk_RX7_105 rfl (Nat.le_of_ble_eq_true rfl) dX7_dickson_48 (mX7_apart hV (d + 0) l0 x3 x6 h) (fun v7 h8 => ?_)
      refine z_vi (fun x9 => ?_)
      refine z_istore (lv' := [(7, .int x9), (0, .ref l0), (1, .int l1), (2, .int l2), (3, .int l3), (4, .int l4), (5, .int l5), (6, .int l6)]) (by decide) rfl dX7_dickson_51 ?_
      refine z_iload 6 rfl dX7_dickson_53 ?_
      refine z_istore (lv' := [(4, .int l5), (7, .int x9), (0, .ref l0), (1, .int l1), (2, .int l2), (3, .int l3), (5, .int l5), (6, .int l6)]) (by decide) rfl dX7_dickson_55 ?_
      refine z_iload 1 rfl dX7_dickson_57 ?_
      refine z_istore (lv' := [(5, .int x9), (4, .int l5), (7, .int x9), (0, .ref l0), (1, .int l1), (2, .int l2), (3, .int l3), (6, .int l6)]) (by decide) rfl dX7_dickson_59 ?_
      refine z_inc (w := 1) (lv' := [(6, .int (l6 + 1)), (5, .int x9), (4, .int l5), (7, .int x9), (0, .ref l0), (1, .int l1), (2, .int l2), (3, .int l3)]) 7 rfl (by decide) (by decide) rfl dX7_dickson_61 ?_
      refine z_goto 23 (by decide) dX7_dickson_64 ?_
      exact z_sub [4, 5, 6, 7, 2, 1, 0] rfl (ih l0 l1 l2 l3 l5 x9 (l6 + 1) h8)
def fX7_dickson (a0 : Nat) (a1 : Int32) (a2 : Int32) (a3 : Int32) (h : AH) : RR :=
  (zgR h a0 7 17).bind fun x1 =>
  (zar h x1 1).bind fun x2 =>
  (zai h x2 1).bind fun x3 =>
  if a1 = 0 then (
    some (.inl (some (.int x3)), h))
  else
  fX7_dickson_23 FU a0 a1 a2 a3 x3 a3 1 h
set_option maxRecDepth 20000 in
theorem mX7_dickson {V : VT} (hV : V.2.2.2.2.2.stackTraces = false) (d : Nat) (a0 : Nat) (a1 : Int32) (a2 : Int32) (a3 : Int32) (h : AH) : zM V yX7_dickson cX7_dickson 8 (some .int) (d + 2) [.ref a0, .int a1, .int a2, .int a3] h (fX7_dickson a0 a1 a2 a3 h) := by
  refine z_meth hV (by decide +kernel) (Nat.le_of_ble_eq_true rfl) [(0, .ref a0), (1, .int a1), (2, .int a2), (3, .int a3)] rfl (fun X => ?_)
  show zG X V RX7 "dickson" cX7_dickson 8 (some .int) (d + 2) h.1 h.2.1 (fX7_dickson a0 a1 a2 a3 h) 0 [(0, .ref a0), (1, .int a1), (2, .int a2), (3, .int a3)] [] h
  unfold fX7_dickson
  refine z_aload_n 0 rfl rfl dX7_dickson_0 ?_
  refine z_gR zf_RX7_31 dX7_dickson_1 (fun x1 => ?_)
  refine z_iconst (v := 1) (by decide) dX7_dickson_4 ?_
  refine z_aR dX7_dickson_5 (fun x2 => ?_)
  refine z_iconst (v := 1) (by decide) dX7_dickson_6 ?_
  refine z_aI dX7_dickson_7 (fun x3 => ?_)
  refine z_istore (lv' := [(4, .int x3), (0, .ref a0), (1, .int a1), (2, .int a2), (3, .int a3)]) (by decide) rfl dX7_dickson_8 ?_
  refine z_iload_n 4 rfl rfl dX7_dickson_10 ?_
  refine z_istore (lv' := [(5, .int a3), (4, .int x3), (0, .ref a0), (1, .int a1), (2, .int a2), (3, .int a3)]) (by decide) rfl dX7_dickson_11 ?_
  refine z_iload_n 3 rfl rfl dX7_dickson_13 ?_
  refine z_if_ne 20 (by decide) dX7_dickson_14 ?_ ?_
  · refine z_iload 1 rfl dX7_dickson_17 ?_
    exact z_iret rfl dX7_dickson_19
  · refine z_iconst (v := 1) (by decide) dX7_dickson_20 ?_
    refine z_istore (lv' := [(6, .int 1), (5, .int a3), (4, .int x3), (0, .ref a0), (1, .int a1), (2, .int a2), (3, .int a3)]) (by decide) rfl dX7_dickson_21 ?_
    exact z_sub [3, 4, 5, 6, 2, 1, 0] rfl (rX7_dickson_23 hV FU a0 a1 a2 a3 x3 a3 1 h)
def fX7_byteAt (a0 : Nat) (a1 : Int32) (h : AH) : RR :=
  (zgI h a0 7 3).bind fun x1 =>
  if a1 < x1 then (
    (zgR h a0 7 8).bind fun x2 =>
    (zai h x2 a1).bind fun x3 =>
    some (.inl (some (.int x3)), h))
  else
  some (.inl (some (.int (-1))), h)
set_option maxRecDepth 20000 in
theorem mX7_byteAt {V : VT} (hV : V.2.2.2.2.2.stackTraces = false) (d : Nat) (a0 : Nat) (a1 : Int32) (h : AH) : zM V yX7_byteAt cX7_byteAt 2 (some .int) (d + 1) [.ref a0, .int a1] h (fX7_byteAt a0 a1 h) := by
  refine z_meth hV (by decide +kernel) (Nat.le_of_ble_eq_true rfl) [(0, .ref a0), (1, .int a1)] rfl (fun X => ?_)
  show zG X V RX7 "byteAt" cX7_byteAt 2 (some .int) (d + 1) h.1 h.2.1 (fX7_byteAt a0 a1 h) 0 [(0, .ref a0), (1, .int a1)] [] h
  unfold fX7_byteAt
  refine z_iload_n 1 rfl rfl dX7_byteAt_0 ?_
  refine z_aload_n 0 rfl rfl dX7_byteAt_1 ?_
  refine z_gI zf_RX7_108 dX7_byteAt_2 (fun x1 => ?_)
  refine z_icmp_lt 12 (by decide) dX7_byteAt_5 ?_ ?_
  · refine z_aload_n 0 rfl rfl dX7_byteAt_12 ?_
    refine z_gR zf_RX7_17 dX7_byteAt_13 (fun x2 => ?_)
    refine z_iload_n 1 rfl rfl dX7_byteAt_16 ?_
    refine z_aI dX7_byteAt_17 (fun x3 => ?_)
    exact z_iret rfl dX7_byteAt_18
  · refine z_iconst (v := (-1)) (by decide) dX7_byteAt_8 ?_
    refine z_goto 18 (by decide) dX7_byteAt_9 ?_
    exact z_iret rfl dX7_byteAt_18
def fX7_here_0 : Nat → Nat → AH → RR
  | 0, _, _ => none
  | k + 1, l0, h =>
  (zgI h l0 7 4).bind fun x1 =>
  zcv (zob h l0 7) (fX7_byteAt l0 x1 h) fun v2 h3 =>
  zvi v2 fun x4 =>
  if x4 = 32 then (
    (zgI h3 l0 7 4).bind fun x5 =>
    (zpf h3 l0 7 4 (.int (x5 + 1))).bind fun h6 =>
    fX7_here_0 k l0 h6)
  else
  (zgI h3 l0 7 4).bind fun x7 =>
  zcv (zob h3 l0 7) (fX7_byteAt l0 x7 h3) fun v8 h9 =>
  zvi v8 fun x10 =>
  some (.inl (some (.int x10)), h9)
set_option maxRecDepth 20000 in
theorem rX7_here_0 {X : CT} {V : VT} {d n0 k0 : Nat} (hV : V.2.2.2.2.2.stackTraces = false) (fu : Nat) : ∀ (l0 : Nat) (h : AH), zG X V RX7 "here" cX7_here 1 (some .int) (d + 2) n0 k0 (fX7_here_0 fu l0 h) 0 [(0, .ref l0)] [] h := by
  induction fu with
  | zero => intros; exact z_none
  | succ k ih =>
    intro l0 h
    rw [fX7_here_0]
    refine z_aload_n 0 rfl rfl dX7_here_0 ?_
    refine z_aload_n 0 rfl rfl dX7_here_1 ?_
    refine z_gI zf_RX7_111 dX7_here_2 (fun x1 => ?_)
    refine z_cV (st := []) [.int x1] zk_RX7_114 rfl (Nat.le_of_ble_eq_true rfl) dX7_here_5 (mX7_byteAt hV (d + 0) l0 x1 h) (fun v2 h3 => ?_)
    refine z_vi (fun x4 => ?_)
    refine z_bipush (v := 32) (by decide) dX7_here_8 ?_
    refine z_icmp_ne 26 (by decide) dX7_here_10 ?_ ?_
    · refine z_aload_n 0 rfl rfl dX7_here_13 ?_
      refine z_dup rfl dX7_here_14 ?_
      refine z_gI zf_RX7_111 dX7_here_15 (fun x5 => ?_)
      refine z_iconst (v := 1) (by decide) dX7_here_18 ?_
      refine z_iadd dX7_here_19 ?_
      refine z_pI zf_RX7_111 zq_7_4 rfl dX7_here_20 (fun h6 => ?_)
      refine z_goto 0 (by decide) dX7_here_23 ?_
      exact z_sub [0] rfl (ih l0 h6)
    · refine z_aload_n 0 rfl rfl dX7_here_26 ?_
      refine z_aload_n 0 rfl rfl dX7_here_27 ?_
      refine z_gI zf_RX7_111 dX7_here_28 (fun x7 => ?_)
      refine z_cV (st := []) [.int x7] zk_RX7_114 rfl (Nat.le_of_ble_eq_true rfl) dX7_here_31 (mX7_byteAt hV (d + 0) l0 x7 h3) (fun v8 h9 => ?_)
      refine z_vi (fun x10 => ?_)
      exact z_iret rfl dX7_here_34
def fX7_here (a0 : Nat) (h : AH) : RR :=
  fX7_here_0 FU a0 h
set_option maxRecDepth 20000 in
theorem mX7_here {V : VT} (hV : V.2.2.2.2.2.stackTraces = false) (d : Nat) (a0 : Nat) (h : AH) : zM V yX7_here cX7_here 1 (some .int) (d + 2) [.ref a0] h (fX7_here a0 h) := by
  refine z_meth hV (by decide +kernel) (Nat.le_of_ble_eq_true rfl) [(0, .ref a0)] rfl (fun X => ?_)
  show zG X V RX7 "here" cX7_here 1 (some .int) (d + 2) h.1 h.2.1 (fX7_here a0 h) 0 [(0, .ref a0)] [] h
  unfold fX7_here
  exact z_sub [0] rfl (rX7_here_0 hV FU a0 h)
