/-! printed by a program of ours (wip/whole/drive.py) out of the code -/
def fX6_init (a0 : Nat) (h : AH) : RR :=
  zb2 (znO h 0) fun b1 h2 =>
  zca (fX0_init b1 h2) fun v3 h4 =>
  zvn v3 <|
  (zpf h4 a0 6 0 (.ref b1)).bind fun h5 =>
  zb2 (znO h5 3) fun b6 h7 =>
  zca (fX3_init b6 h7) fun v8 h9 =>
  zvn v8 <|
  (zpf h9 a0 6 1 (.ref b6)).bind fun h10 =>
  zb2 (znO h10 3) fun b11 h12 =>
  zca (fX3_init b11 h12) fun v13 h14 =>
  zvn v13 <|
  (zpf h14 a0 6 2 (.ref b11)).bind fun h15 =>
  zb2 (znO h15 1) fun b16 h17 =>
  zca (fX1_init b16 h17) fun v18 h19 =>
  zvn v18 <|
  (zpf h19 a0 6 3 (.ref b16)).bind fun h20 =>
  zb2 (znO h20 5) fun b21 h22 =>
  zca (fX5_init b21 h22) fun v23 h24 =>
  zvn v23 <|
  (zpf h24 a0 6 4 (.ref b21)).bind fun h25 =>
  zb2 (znO h25 2) fun b26 h27 =>
  (zgR h27 a0 6 4).bind fun x28 =>
  (zgR h27 a0 6 0).bind fun x29 =>
  (zgR h27 a0 6 2).bind fun x30 =>
  zca (fX2_init b26 x28 x29 x30 h27) fun v31 h32 =>
  zvn v31 <|
  (zpf h32 a0 6 5 (.ref b26)).bind fun h33 =>
  zb2 (znO h33 4) fun b34 h35 =>
  (zgR h35 a0 6 0).bind fun x36 =>
  zca (fX4_init b34 x36 h35) fun v37 h38 =>
  zvn v37 <|
  (zpf h38 a0 6 6 (.ref b34)).bind fun h39 =>
  zb2 (znI h39 3) fun b40 h41 =>
  (zpf h41 a0 6 7 (.ref b40)).bind fun h42 =>
  (zpf h42 a0 6 8 (.int (-1))).bind fun h43 =>
  some (.inl none, h43)
set_option maxRecDepth 20000 in
theorem mX6_init {V : VT} (hV : V.2.2.2.2.2.stackTraces = false) (d : Nat) (a0 : Nat) (h : AH) : zM V yX6_init cX6_init 1 none (d + 5) [.ref a0] h (fX6_init a0 h) := by
  refine z_meth hV (by decide +kernel) (Nat.le_of_ble_eq_true rfl) [(0, .ref a0)] rfl (fun X => ?_)
  show zG X V RX6 "<init>" cX6_init 1 none (d + 5) h.1 h.2.1 (fX6_init a0 h) 0 [(0, .ref a0)] [] h
  unfold fX6_init
  refine z_aload_n 0 rfl rfl dX6_init_0 ?_
  refine z_objInit zw_97 zw_98 zw_99 (Nat.le_of_ble_eq_true rfl) (by omega) dX6_init_1 ?_
  refine z_aload_n 0 rfl rfl dX6_init_4 ?_
  refine z_nO zn_RX6_7 dX6_init_5 (fun b1 h2 => ?_)
  refine z_dup rfl dX6_init_8 ?_
  refine z_cI (st := [.ref b1, .ref a0]) [] zk_RX6_9 rfl (Nat.le_of_ble_eq_true rfl) dX6_init_9 (mX0_init hV (d + 0) b1 h2) (fun v3 h4 => ?_)
  refine z_vn ?_
  refine z_pR zf_RX6_10 zq_6_0 (Or.inl ⟨_, rfl⟩) dX6_init_12 (fun h5 => ?_)
  refine z_aload_n 0 rfl rfl dX6_init_15 ?_
  refine z_nO zn_RX6_16 dX6_init_16 (fun b6 h7 => ?_)
  refine z_dup rfl dX6_init_19 ?_
  refine z_cI (st := [.ref b6, .ref a0]) [] zk_RX6_18 rfl (Nat.le_of_ble_eq_true rfl) dX6_init_20 (mX3_init hV (d + 3) b6 h7) (fun v8 h9 => ?_)
  refine z_vn ?_
  refine z_pR zf_RX6_19 zq_6_1 (Or.inl ⟨_, rfl⟩) dX6_init_23 (fun h10 => ?_)
  refine z_aload_n 0 rfl rfl dX6_init_26 ?_
  refine z_nO zn_RX6_16 dX6_init_27 (fun b11 h12 => ?_)
  refine z_dup rfl dX6_init_30 ?_
  refine z_cI (st := [.ref b11, .ref a0]) [] zk_RX6_18 rfl (Nat.le_of_ble_eq_true rfl) dX6_init_31 (mX3_init hV (d + 3) b11 h12) (fun v13 h14 => ?_)
  refine z_vn ?_
  refine z_pR zf_RX6_23 zq_6_2 (Or.inl ⟨_, rfl⟩) dX6_init_34 (fun h15 => ?_)
  refine z_aload_n 0 rfl rfl dX6_init_37 ?_
  refine z_nO zn_RX6_26 dX6_init_38 (fun b16 h17 => ?_)
  refine z_dup rfl dX6_init_41 ?_
  refine z_cI (st := [.ref b16, .ref a0]) [] zk_RX6_28 rfl (Nat.le_of_ble_eq_true rfl) dX6_init_42 (mX1_init hV (d + 2) b16 h17) (fun v18 h19 => ?_)
  refine z_vn ?_
  refine z_pR zf_RX6_29 zq_6_3 (Or.inl ⟨_, rfl⟩) dX6_init_45 (fun h20 => ?_)
  refine z_aload_n 0 rfl rfl dX6_init_48 ?_
  refine z_nO zn_RX6_33 dX6_init_49 (fun b21 h22 => ?_)
  refine z_dup rfl dX6_init_52 ?_
  refine z_cI (st := [.ref b21, .ref a0]) [] zk_RX6_35 rfl (Nat.le_of_ble_eq_true rfl) dX6_init_53 (mX5_init hV (d + 3) b21 h22) (fun v23 h24 => ?_)
  refine z_vn ?_
  refine z_pR zf_RX6_36 zq_6_4 (Or.inl ⟨_, rfl⟩) dX6_init_56 (fun h25 => ?_)
  refine z_aload_n 0 rfl rfl dX6_init_59 ?_
  refine z_nO zn_RX6_40 dX6_init_60 (fun b26 h27 => ?_)
  refine z_dup rfl dX6_init_63 ?_
  refine z_aload_n 0 rfl rfl dX6_init_64 ?_
  refine z_gR zf_RX6_36 dX6_init_65 (fun x28 => ?_)
  refine z_aload_n 0 rfl rfl dX6_init_68 ?_
  refine z_gR zf_RX6_10 dX6_init_69 (fun x29 => ?_)
  refine z_aload_n 0 rfl rfl dX6_init_72 ?_
  refine z_gR zf_RX6_23 dX6_init_73 (fun x30 => ?_)
  refine z_cI (st := [.ref b26, .ref a0]) [.ref x28, .ref x29, .ref x30] zk_RX6_42 rfl (Nat.le_of_ble_eq_true rfl) dX6_init_76 (mX2_init hV (d + 3) b26 x28 x29 x30 h27) (fun v31 h32 => ?_)
  refine z_vn ?_
  refine z_pR zf_RX6_45 zq_6_5 (Or.inl ⟨_, rfl⟩) dX6_init_79 (fun h33 => ?_)
  refine z_aload_n 0 rfl rfl dX6_init_82 ?_
  refine z_nO zn_RX6_49 dX6_init_83 (fun b34 h35 => ?_)
  refine z_dup rfl dX6_init_86 ?_
  refine z_aload_n 0 rfl rfl dX6_init_87 ?_
  refine z_gR zf_RX6_10 dX6_init_88 (fun x36 => ?_)
  refine z_cI (st := [.ref b34, .ref a0]) [.ref x36] zk_RX6_51 rfl (Nat.le_of_ble_eq_true rfl) dX6_init_91 (mX4_init hV (d + 3) b34 x36 h35) (fun v37 h38 => ?_)
  refine z_vn ?_
  refine z_pR zf_RX6_54 zq_6_6 (Or.inl ⟨_, rfl⟩) dX6_init_94 (fun h39 => ?_)
  refine z_aload_n 0 rfl rfl dX6_init_97 ?_
  refine z_iconst (v := 3) (by decide) dX6_init_98 ?_
  refine z_nI zw_173 dX6_init_99 (fun b40 h41 => ?_)
  refine z_pR zf_RX6_58 zq_6_7 (Or.inr ⟨_, rfl⟩) dX6_init_101 (fun h42 => ?_)
  refine z_aload_n 0 rfl rfl dX6_init_104 ?_
  refine z_iconst (v := (-1)) (by decide) dX6_init_105 ?_
  refine z_pI zf_RX6_62 zq_6_8 rfl dX6_init_106 (fun h43 => ?_)
  exact z_vret rfl dX6_init_109
def fX6_feed (a0 : Nat) (a1 : Int32) (a2 : Int32) (a3 : Int32) (a4 : Int32) (a5 : Int32) (h : AH) : RR :=
  (zgR h a0 6 4).bind fun x1 =>
  (zgI h x1 5 0).bind fun x2 =>
  if (x2 + 20) ≤ 300 then (
    (zgR h a0 6 4).bind fun x3 =>
    zcv (zob h x3 5) (fX5_put x3 a1 h) fun v4 h5 =>
    zvn v4 <|
    (zgR h5 a0 6 4).bind fun x6 =>
    zcv (zob h5 x6 5) (fX5_put x6 a2 h5) fun v7 h8 =>
    zvn v7 <|
    (zgR h8 a0 6 4).bind fun x9 =>
    zcv (zob h8 x9 5) (fX5_put x9 a3 h8) fun v10 h11 =>
    zvn v10 <|
    (zgR h11 a0 6 4).bind fun x12 =>
    zcv (zob h11 x12 5) (fX5_put x12 a4 h11) fun v13 h14 =>
    zvn v13 <|
    (zgR h14 a0 6 4).bind fun x15 =>
    zcv (zob h14 x15 5) (fX5_put x15 a5 h14) fun v16 h17 =>
    zvn v16 <|
    (zgR h17 a0 6 4).bind fun x18 =>
    (zgI h17 x18 5 0).bind fun x19 =>
    some (.inl (some (.int x19)), h17))
  else
  some (.inl (some (.int (-1))), h)
set_option maxRecDepth 20000 in
theorem mX6_feed {V : VT} (hV : V.2.2.2.2.2.stackTraces = false) (d : Nat) (a0 : Nat) (a1 : Int32) (a2 : Int32) (a3 : Int32) (a4 : Int32) (a5 : Int32) (h : AH) : zM V yX6_feed cX6_feed 6 (some .int) (d + 2) [.ref a0, .int a1, .int a2, .int a3, .int a4, .int a5] h (fX6_feed a0 a1 a2 a3 a4 a5 h) := by
  refine z_meth hV (by decide +kernel) (Nat.le_of_ble_eq_true rfl) [(0, .ref a0), (1, .int a1), (2, .int a2), (3, .int a3), (4, .int a4), (5, .int a5)] rfl (fun X => ?_)
  show zG X V RX6 "feed" cX6_feed 6 (some .int) (d + 2) h.1 h.2.1 (fX6_feed a0 a1 a2 a3 a4 a5 h) 0 [(0, .ref a0), (1, .int a1), (2, .int a2), (3, .int a3), (4, .int a4), (5, .int a5)] [] h
  unfold fX6_feed
  refine z_aload_n 0 rfl rfl dX6_feed_0 ?_
  refine z_gR zf_RX6_36 dX6_feed_1 (fun x1 => ?_)
  refine z_gI zf_RX6_66 dX6_feed_4 (fun x2 => ?_)
  refine z_bipush (v := 20) (by decide) dX6_feed_7 ?_
  refine z_iadd dX6_feed_9 ?_
  refine z_sipush (v := 300) (by decide) dX6_feed_10 ?_
  refine z_icmp_le 18 (by decide) dX6_feed_13 ?_ ?_
  · refine z_aload_n 0 rfl rfl dX6_feed_18 ?_
    refine z_gR zf_RX6_36 dX6_feed_19 (fun x3 => ?_)
    refine z_iload_n 1 rfl rfl dX6_feed_22 ?_
    refine z_cV (st := []) [.int a1] zk_RX6_69 rfl (Nat.le_of_ble_eq_true rfl) dX6_feed_23 (mX5_put hV (d + 0) x3 a1 h) (fun v4 h5 => ?_)
    refine z_vn ?_
    refine z_aload_n 0 rfl rfl dX6_feed_26 ?_
    refine z_gR zf_RX6_36 dX6_feed_27 (fun x6 => ?_)
    refine z_iload_n 2 rfl rfl dX6_feed_30 ?_
    refine z_cV (st := []) [.int a2] zk_RX6_69 rfl (Nat.le_of_ble_eq_true rfl) dX6_feed_31 (mX5_put hV (d + 0) x6 a2 h5) (fun v7 h8 => ?_)
    refine z_vn ?_
    refine z_aload_n 0 rfl rfl dX6_feed_34 ?_
    refine z_gR zf_RX6_36 dX6_feed_35 (fun x9 => ?_)
    refine z_iload_n 3 rfl rfl dX6_feed_38 ?_
    refine z_cV (st := []) [.int a3] zk_RX6_69 rfl (Nat.le_of_ble_eq_true rfl) dX6_feed_39 (mX5_put hV (d + 0) x9 a3 h8) (fun v10 h11 => ?_)
    refine z_vn ?_
    refine z_aload_n 0 rfl rfl dX6_feed_42 ?_
    refine z_gR zf_RX6_36 dX6_feed_43 (fun x12 => ?_)
    refine z_iload 4 rfl dX6_feed_46 ?_
    refine z_cV (st := []) [.int a4] zk_RX6_69 rfl (Nat.le_of_ble_eq_true rfl) dX6_feed_48 (mX5_put hV (d + 0) x12 a4 h11) (fun v13 h14 => ?_)
    refine z_vn ?_
    refine z_aload_n 0 rfl rfl dX6_feed_51 ?_
    refine z_gR zf_RX6_36 dX6_feed_52 (fun x15 => ?_)
    refine z_iload 5 rfl dX6_feed_55 ?_
    refine z_cV (st := []) [.int a5] zk_RX6_69 rfl (Nat.le_of_ble_eq_true rfl) dX6_feed_57 (mX5_put hV (d + 0) x15 a5 h14) (fun v16 h17 => ?_)
    refine z_vn ?_
    refine z_aload_n 0 rfl rfl dX6_feed_60 ?_
    refine z_gR zf_RX6_36 dX6_feed_61 (fun x18 => ?_)
    refine z_gI zf_RX6_66 dX6_feed_64 (fun x19 => ?_)
    exact z_iret rfl dX6_feed_67
  · refine z_iconst (v := (-1)) (by decide) dX6_feed_16 ?_
    exact z_iret rfl dX6_feed_17
def fX6_needNumber_10 (l0 : Nat) (h : AH) : RR :=
  (zgR h l0 6 7).bind fun x1 =>
  (zai h x1 1).bind fun x2 =>
  (zsi h x1 1 (x2 + 1)).bind fun h3 =>
  some (.inr 1, zjnk h3 6)
set_option maxRecDepth 20000 in
theorem rX6_needNumber_10 {X : CT} {V : VT} {d n0 k0 : Nat} (hV : V.2.2.2.2.2.stackTraces = false) (l0 : Nat) (h : AH) : zG X V RX6 "needNumber" cX6_needNumber 4 none (d + 6) n0 k0 (fX6_needNumber_10 l0 h) 10 [(0, .ref l0)] [] h := by
  unfold fX6_needNumber_10
  refine z_aload_n 0 rfl rfl dX6_needNumber_10 ?_
  refine z_gR zf_RX6_58 dX6_needNumber_11 (fun x1 => ?_)
  refine z_iconst (v := 1) (by decide) dX6_needNumber_14 ?_
  refine z_dup2 rfl rfl dX6_needNumber_15 ?_
  refine z_aI dX6_needNumber_16 (fun x2 => ?_)
  refine z_iconst (v := 1) (by decide) dX6_needNumber_17 ?_
  refine z_iadd dX6_needNumber_18 ?_
  refine z_sI dX6_needNumber_19 (fun h3 => ?_)
  exact z_throw 1 (by decide) "a number that is none such" 7 zs_RX6_239 zt_RX6_237_241 (Nat.le_of_ble_eq_true rfl) (by omega) dX6_needNumber_20 dX6_needNumber_23 dX6_needNumber_24 dX6_needNumber_26 dX6_needNumber_29
def fX6_needNumber (a0 : Nat) (a1 : Int32) (a2 : Int32) (a3 : Int32) (h : AH) : RR :=
  if a1 < a2 then (
    fX6_needNumber_10 a0 h)
  else
  if a1 ≤ a3 then (
    some (.inl none, h))
  else
  fX6_needNumber_10 a0 h
set_option maxRecDepth 20000 in
theorem mX6_needNumber {V : VT} (hV : V.2.2.2.2.2.stackTraces = false) (d : Nat) (a0 : Nat) (a1 : Int32) (a2 : Int32) (a3 : Int32) (h : AH) : zM V yX6_needNumber cX6_needNumber 4 none (d + 6) [.ref a0, .int a1, .int a2, .int a3] h (fX6_needNumber a0 a1 a2 a3 h) := by
  refine z_meth hV (by decide +kernel) (Nat.le_of_ble_eq_true rfl) [(0, .ref a0), (1, .int a1), (2, .int a2), (3, .int a3)] rfl (fun X => ?_)
  show zG X V RX6 "needNumber" cX6_needNumber 4 none (d + 6) h.1 h.2.1 (fX6_needNumber a0 a1 a2 a3 h) 0 [(0, .ref a0), (1, .int a1), (2, .int a2), (3, .int a3)] [] h
  unfold fX6_needNumber
  refine z_iload_n 1 rfl rfl dX6_needNumber_0 ?_
  refine z_iload_n 2 rfl rfl dX6_needNumber_1 ?_
  refine z_icmp_lt 10 (by decide) dX6_needNumber_2 ?_ ?_
  · exact z_sub [0] rfl (rX6_needNumber_10 hV a0 h)
  · refine z_iload_n 1 rfl rfl dX6_needNumber_5 ?_
    refine z_iload_n 3 rfl rfl dX6_needNumber_6 ?_
    refine z_icmp_le 30 (by decide) dX6_needNumber_7 ?_ ?_
    · exact z_vret rfl dX6_needNumber_30
    · exact z_sub [0] rfl (rX6_needNumber_10 hV a0 h)
def fX6_text (a0 : Nat) (a1 : Int32) (h : AH) : RR :=
  (zgR h a0 6 4).bind fun x1 =>
  (zgI h x1 5 0).bind fun x2 =>
  zcv (zob h a0 6) (fX6_needNumber a0 a1 0 x2 h) fun v3 h4 =>
  zvn v3 <|
  (zgR h4 a0 6 4).bind fun x5 =>
  zcv (zob h4 x5 5) (fX5_cut x5 a1 h4) fun v6 h7 =>
  zvn v6 <|
  (zgR h7 a0 6 5).bind fun x8 =>
  zcv (zob h7 x8 2) (fX2_read x8 h7) fun v9 h10 =>
  zvi v9 fun x11 =>
  (zgR h10 a0 6 4).bind fun x12 =>
  (zpf h10 x12 5 0 (.int 0)).bind fun h13 =>
  (zgR h13 a0 6 5).bind fun x14 =>
  (zgI h13 x14 2 1).bind fun x15 =>
  (zpf h13 a0 6 8 (.int x15)).bind fun h16 =>
  if x11 = 0 then (
    (zgR h16 a0 6 0).bind fun x17 =>
    (zgR h16 a0 6 1).bind fun x18 =>
    (zgI h16 x18 3 0).bind fun x19 =>
    (zgR h16 a0 6 1).bind fun x20 =>
    (zgI h16 x20 3 1).bind fun x21 =>
    zcv (zob h16 x17 0) (fX0_tune x17 x19 x21 h16) fun v22 h23 =>
    zvn v22 <|
    (zgR h23 a0 6 5).bind fun x24 =>
    (zgI h23 x24 2 0).bind fun x25 =>
    some (.inl (some (.int (x25 - 10))), h23))
  else
  (zgR h16 a0 6 3).bind fun x26 =>
  (zgR h16 a0 6 1).bind fun x27 =>
  zcv (zob h16 x26 1) (fX1_keep x26 x27 h16) fun v28 h29 =>
  zvn v28 <|
  (zgR h29 a0 6 1).bind fun x30 =>
  (zgR h29 a0 6 2).bind fun x31 =>
  zcv (zob h29 x30 3) (fX3_become x30 x31 h29) fun v32 h33 =>
  zvn v32 <|
  (zgR h33 a0 6 1).bind fun x34 =>
  (zgI h33 x34 3 2).bind fun x35 =>
  some (.inl (some (.int x35)), h33)
set_option maxRecDepth 20000 in
theorem mX6_text {V : VT} (hV : V.2.2.2.2.2.stackTraces = false) (d : Nat) (a0 : Nat) (a1 : Int32) (h : AH) : zM V yX6_text cX6_text 3 (some .int) (d + 66) [.ref a0, .int a1] h (fX6_text a0 a1 h) := by
  refine z_meth hV (by decide +kernel) (Nat.le_of_ble_eq_true rfl) [(0, .ref a0), (1, .int a1)] rfl (fun X => ?_)
  show zG X V RX6 "text" cX6_text 3 (some .int) (d + 66) h.1 h.2.1 (fX6_text a0 a1 h) 0 [(0, .ref a0), (1, .int a1)] [] h
  unfold fX6_text
  refine z_aload_n 0 rfl rfl dX6_text_0 ?_
  refine z_iload_n 1 rfl rfl dX6_text_1 ?_
  refine z_iconst (v := 0) (by decide) dX6_text_2 ?_
  refine z_aload_n 0 rfl rfl dX6_text_3 ?_
  refine z_gR zf_RX6_36 dX6_text_4 (fun x1 => ?_)
  refine z_gI zf_RX6_66 dX6_text_7 (fun x2 => ?_)
  refine z_cV (st := []) [.int a1, .int 0, .int x2] zk_RX6_73 rfl (Nat.le_of_ble_eq_true rfl) dX6_text_10 (mX6_needNumber hV (d + 59) a0 a1 0 x2 h) (fun v3 h4 => ?_)
  refine z_vn ?_
  refine z_aload_n 0 rfl rfl dX6_text_13 ?_
  refine z_gR zf_RX6_36 dX6_text_14 (fun x5 => ?_)
  refine z_iload_n 1 rfl rfl dX6_text_17 ?_
  refine z_cV (st := []) [.int a1] zk_RX6_77 rfl (Nat.le_of_ble_eq_true rfl) dX6_text_18 (mX5_cut hV (d + 50) x5 a1 h4) (fun v6 h7 => ?_)
  refine z_vn ?_
  refine z_aload_n 0 rfl rfl dX6_text_21 ?_
  refine z_gR zf_RX6_45 dX6_text_22 (fun x8 => ?_)
  refine z_cV (st := []) [] zk_RX6_80 rfl (Nat.le_of_ble_eq_true rfl) dX6_text_25 (mX2_read hV (d + 0) x8 h7) (fun v9 h10 => ?_)
  refine z_vi (fun x11 => ?_)
  refine z_istore_n (lv' := [(2, .int x11), (0, .ref a0), (1, .int a1)]) rfl (by decide) rfl dX6_text_28 ?_
  refine z_aload_n 1 rfl rfl dX6_text_29 ?_
  refine z_gR zf_RX6_36 dX6_text_30 (fun x12 => ?_)
  refine z_iconst (v := 0) (by decide) dX6_text_33 ?_
  refine z_pI zf_RX6_66 zq_5_0 rfl dX6_text_34 (fun h13 => ?_)
  refine z_aload_n 1 rfl rfl dX6_text_37 ?_
  refine z_aload_n 1 rfl rfl dX6_text_38 ?_
  refine z_gR zf_RX6_45 dX6_text_39 (fun x14 => ?_)
  refine z_gI zf_RX6_84 dX6_text_42 (fun x15 => ?_)
  refine z_pI zf_RX6_62 zq_6_8 rfl dX6_text_45 (fun h16 => ?_)
  refine z_iload_n 0 rfl rfl dX6_text_48 ?_
  refine z_if_ne 84 (by decide) dX6_text_49 ?_ ?_
  · refine z_aload_n 1 rfl rfl dX6_text_52 ?_
    refine z_gR zf_RX6_10 dX6_text_53 (fun x17 => ?_)
    refine z_aload_n 1 rfl rfl dX6_text_56 ?_
    refine z_gR zf_RX6_19 dX6_text_57 (fun x18 => ?_)
    refine z_gI zf_RX6_85 dX6_text_60 (fun x19 => ?_)
    refine z_aload_n 1 rfl rfl dX6_text_63 ?_
    refine z_gR zf_RX6_19 dX6_text_64 (fun x20 => ?_)
    refine z_gI zf_RX6_88 dX6_text_67 (fun x21 => ?_)
    refine z_cV (st := []) [.int x19, .int x21] zk_RX6_91 rfl (Nat.le_of_ble_eq_true rfl) dX6_text_70 (mX0_tune hV (d + 62) x17 x19 x21 h16) (fun v22 h23 => ?_)
    refine z_vn ?_
    refine z_aload_n 1 rfl rfl dX6_text_73 ?_
    refine z_gR zf_RX6_45 dX6_text_74 (fun x24 => ?_)
    refine z_gI zf_RX6_95 dX6_text_77 (fun x25 => ?_)
    refine z_bipush (v := 10) (by decide) dX6_text_80 ?_
    refine z_isub dX6_text_82 ?_
    exact z_iret rfl dX6_text_83
  · refine z_aload_n 1 rfl rfl dX6_text_84 ?_
    refine z_gR zf_RX6_29 dX6_text_85 (fun x26 => ?_)
    refine z_aload_n 1 rfl rfl dX6_text_88 ?_
    refine z_gR zf_RX6_19 dX6_text_89 (fun x27 => ?_)
    refine z_cV (st := []) [.ref x27] zk_RX6_98 rfl (Nat.le_of_ble_eq_true rfl) dX6_text_92 (mX1_keep hV (d + 63) x26 x27 h16) (fun v28 h29 => ?_)
    refine z_vn ?_
    refine z_aload_n 1 rfl rfl dX6_text_95 ?_
    refine z_gR zf_RX6_19 dX6_text_96 (fun x30 => ?_)
    refine z_aload_n 1 rfl rfl dX6_text_99 ?_
    refine z_gR zf_RX6_23 dX6_text_100 (fun x31 => ?_)
    refine z_cV (st := []) [.ref x31] zk_RX6_102 rfl (Nat.le_of_ble_eq_true rfl) dX6_text_103 (mX3_become hV (d + 64) x30 x31 h29) (fun v32 h33 => ?_)
    refine z_vn ?_
    refine z_aload_n 1 rfl rfl dX6_text_106 ?_
    refine z_gR zf_RX6_19 dX6_text_107 (fun x34 => ?_)
    refine z_gI zf_RX6_105 dX6_text_110 (fun x35 => ?_)
    exact z_iret rfl dX6_text_113
def fX6_fault (a0 : Nat) (h : AH) : RR :=
  (zgI h a0 6 8).bind fun x1 =>
  some (.inl (some (.int x1)), h)
set_option maxRecDepth 20000 in
theorem mX6_fault {V : VT} (hV : V.2.2.2.2.2.stackTraces = false) (d : Nat) (a0 : Nat) (h : AH) : zM V yX6_fault cX6_fault 1 (some .int) (d + 1) [.ref a0] h (fX6_fault a0 h) := by
  refine z_meth hV (by decide +kernel) (Nat.le_of_ble_eq_true rfl) [(0, .ref a0)] rfl (fun X => ?_)
  show zG X V RX6 "fault" cX6_fault 1 (some .int) (d + 1) h.1 h.2.1 (fX6_fault a0 h) 0 [(0, .ref a0)] [] h
  unfold fX6_fault
  refine z_aload_n 0 rfl rfl dX6_fault_0 ?_
  refine z_gI zf_RX6_62 dX6_fault_1 (fun x1 => ?_)
  exact z_iret rfl dX6_fault_4
def fX6_needPoly_15 (l0 : Nat) (h : AH) : RR :=
  (zgR h l0 6 7).bind fun x1 =>
  (zai h x1 0).bind fun x2 =>
  (zsi h x1 0 (x2 + 1)).bind fun h3 =>
  some (.inr 0, zjnk h3 6)
set_option maxRecDepth 20000 in
theorem rX6_needPoly_15 {X : CT} {V : VT} {d n0 k0 : Nat} (hV : V.2.2.2.2.2.stackTraces = false) (l0 : Nat) (h : AH) : zG X V RX6 "needPoly" cX6_needPoly 2 none (d + 6) n0 k0 (fX6_needPoly_15 l0 h) 15 [(0, .ref l0)] [] h := by
  unfold fX6_needPoly_15
  refine z_aload_n 0 rfl rfl dX6_needPoly_15 ?_
  refine z_gR zf_RX6_58 dX6_needPoly_16 (fun x1 => ?_)
  refine z_iconst (v := 0) (by decide) dX6_needPoly_19 ?_
  refine z_dup2 rfl rfl dX6_needPoly_20 ?_
  refine z_aI dX6_needPoly_21 (fun x2 => ?_)
  refine z_iconst (v := 1) (by decide) dX6_needPoly_22 ?_
  refine z_iadd dX6_needPoly_23 ?_
  refine z_sI dX6_needPoly_24 (fun h3 => ?_)
  exact z_throw 0 (by decide) "no such polynomial" 5 zs_RX6_230 zt_RX6_228_232 (Nat.le_of_ble_eq_true rfl) (by omega) dX6_needPoly_25 dX6_needPoly_28 dX6_needPoly_29 dX6_needPoly_31 dX6_needPoly_34
def fX6_needPoly (a0 : Nat) (a1 : Int32) (h : AH) : RR :=
  if a1 < 0 then (
    fX6_needPoly_15 a0 h)
  else
  (zgR h a0 6 1).bind fun x1 =>
  (zgI h x1 3 2).bind fun x2 =>
  if a1 < x2 then (
    some (.inl none, h))
  else
  fX6_needPoly_15 a0 h
set_option maxRecDepth 20000 in
theorem mX6_needPoly {V : VT} (hV : V.2.2.2.2.2.stackTraces = false) (d : Nat) (a0 : Nat) (a1 : Int32) (h : AH) : zM V yX6_needPoly cX6_needPoly 2 none (d + 6) [.ref a0, .int a1] h (fX6_needPoly a0 a1 h) := by
  refine z_meth hV (by decide +kernel) (Nat.le_of_ble_eq_true rfl) [(0, .ref a0), (1, .int a1)] rfl (fun X => ?_)
  show zG X V RX6 "needPoly" cX6_needPoly 2 none (d + 6) h.1 h.2.1 (fX6_needPoly a0 a1 h) 0 [(0, .ref a0), (1, .int a1)] [] h
  unfold fX6_needPoly
  refine z_iload_n 1 rfl rfl dX6_needPoly_0 ?_
  refine z_if_lt 15 (by decide) dX6_needPoly_1 ?_ ?_
  · exact z_sub [0] rfl (rX6_needPoly_15 hV a0 h)
  · refine z_iload_n 1 rfl rfl dX6_needPoly_4 ?_
    refine z_aload_n 0 rfl rfl dX6_needPoly_5 ?_
    refine z_gR zf_RX6_19 dX6_needPoly_6 (fun x1 => ?_)
    refine z_gI zf_RX6_105 dX6_needPoly_9 (fun x2 => ?_)
    refine z_icmp_lt 35 (by decide) dX6_needPoly_12 ?_ ?_
    · exact z_vret rfl dX6_needPoly_35
    · exact z_sub [0] rfl (rX6_needPoly_15 hV a0 h)
def fX6_needPoint_15 (l0 : Nat) (h : AH) : RR :=
  (zgR h l0 6 7).bind fun x1 =>
  (zai h x1 0).bind fun x2 =>
  (zsi h x1 0 (x2 + 1)).bind fun h3 =>
  some (.inr 0, zjnk h3 6)
set_option maxRecDepth 20000 in
theorem rX6_needPoint_15 {X : CT} {V : VT} {d n0 k0 : Nat} (hV : V.2.2.2.2.2.stackTraces = false) (l0 : Nat) (h : AH) : zG X V RX6 "needPoint" cX6_needPoint 2 none (d + 6) n0 k0 (fX6_needPoint_15 l0 h) 15 [(0, .ref l0)] [] h := by
  unfold fX6_needPoint_15
  refine z_aload_n 0 rfl rfl dX6_needPoint_15 ?_
  refine z_gR zf_RX6_58 dX6_needPoint_16 (fun x1 => ?_)
  refine z_iconst (v := 0) (by decide) dX6_needPoint_19 ?_
  refine z_dup2 rfl rfl dX6_needPoint_20 ?_
  refine z_aI dX6_needPoint_21 (fun x2 => ?_)
  refine z_iconst (v := 1) (by decide) dX6_needPoint_22 ?_
  refine z_iadd dX6_needPoint_23 ?_
  refine z_sI dX6_needPoint_24 (fun h3 => ?_)
  exact z_throw 0 (by decide) "no such point" 6 zs_RX6_235 zt_RX6_228_232 (Nat.le_of_ble_eq_true rfl) (by omega) dX6_needPoint_25 dX6_needPoint_28 dX6_needPoint_29 dX6_needPoint_31 dX6_needPoint_34
def fX6_needPoint (a0 : Nat) (a1 : Int32) (h : AH) : RR :=
  if a1 < 0 then (
    fX6_needPoint_15 a0 h)
  else
  (zgR h a0 6 0).bind fun x1 =>
  (zgI h x1 0 2).bind fun x2 =>
  if a1 < x2 then (
    some (.inl none, h))
  else
  fX6_needPoint_15 a0 h
set_option maxRecDepth 20000 in
theorem mX6_needPoint {V : VT} (hV : V.2.2.2.2.2.stackTraces = false) (d : Nat) (a0 : Nat) (a1 : Int32) (h : AH) : zM V yX6_needPoint cX6_needPoint 2 none (d + 6) [.ref a0, .int a1] h (fX6_needPoint a0 a1 h) := by
  refine z_meth hV (by decide +kernel) (Nat.le_of_ble_eq_true rfl) [(0, .ref a0), (1, .int a1)] rfl (fun X => ?_)
  show zG X V RX6 "needPoint" cX6_needPoint 2 none (d + 6) h.1 h.2.1 (fX6_needPoint a0 a1 h) 0 [(0, .ref a0), (1, .int a1)] [] h
  unfold fX6_needPoint
  refine z_iload_n 1 rfl rfl dX6_needPoint_0 ?_
  refine z_if_lt 15 (by decide) dX6_needPoint_1 ?_ ?_
  · exact z_sub [0] rfl (rX6_needPoint_15 hV a0 h)
  · refine z_iload_n 1 rfl rfl dX6_needPoint_4 ?_
    refine z_aload_n 0 rfl rfl dX6_needPoint_5 ?_
    refine z_gR zf_RX6_10 dX6_needPoint_6 (fun x1 => ?_)
    refine z_gI zf_RX6_147 dX6_needPoint_9 (fun x2 => ?_)
    refine z_icmp_lt 35 (by decide) dX6_needPoint_12 ?_ ?_
    · exact z_vret rfl dX6_needPoint_35
    · exact z_sub [0] rfl (rX6_needPoint_15 hV a0 h)
def fX6_value (a0 : Nat) (a1 : Int32) (a2 : Int32) (a3 : Int32) (h : AH) : RR :=
  zcv (zob h a0 6) (fX6_needPoly a0 a1 h) fun v1 h2 =>
  zvn v1 <|
  zcv (zob h2 a0 6) (fX6_needPoint a0 a2 h2) fun v3 h4 =>
  zvn v3 <|
  zcv (zob h4 a0 6) (fX6_needPoint a0 a3 h4) fun v5 h6 =>
  zvn v5 <|
  (zgR h6 a0 6 3).bind fun x7 =>
  (zgR h6 a0 6 1).bind fun x8 =>
  zcv (zob h6 x7 1) (fX1_keep x7 x8 h6) fun v9 h10 =>
  zvn v9 <|
  (zgR h10 a0 6 1).bind fun x11 =>
  (zgR h10 x11 3 3).bind fun x12 =>
  (zar h10 x12 a1).bind fun x13 =>
  (zai h10 x13 a2).bind fun x14 =>
  (zgR h10 a0 6 1).bind fun x15 =>
  (zgR h10 x15 3 3).bind fun x16 =>
  (zar h10 x16 a1).bind fun x17 =>
  (zsi h10 x17 a2 a3).bind fun h18 =>
  some (.inl (some (.int x14)), h18)
set_option maxRecDepth 20000 in
theorem mX6_value {V : VT} (hV : V.2.2.2.2.2.stackTraces = false) (d : Nat) (a0 : Nat) (a1 : Int32) (a2 : Int32) (a3 : Int32) (h : AH) : zM V yX6_value cX6_value 5 (some .int) (d + 7) [.ref a0, .int a1, .int a2, .int a3] h (fX6_value a0 a1 a2 a3 h) := by
  refine z_meth hV (by decide +kernel) (Nat.le_of_ble_eq_true rfl) [(0, .ref a0), (1, .int a1), (2, .int a2), (3, .int a3)] rfl (fun X => ?_)
  show zG X V RX6 "value" cX6_value 5 (some .int) (d + 7) h.1 h.2.1 (fX6_value a0 a1 a2 a3 h) 0 [(0, .ref a0), (1, .int a1), (2, .int a2), (3, .int a3)] [] h
  unfold fX6_value
  refine z_aload_n 0 rfl rfl dX6_value_0 ?_
  refine z_iload_n 1 rfl rfl dX6_value_1 ?_
  refine z_cV (st := []) [.int a1] zk_RX6_108 rfl (Nat.le_of_ble_eq_true rfl) dX6_value_2 (mX6_needPoly hV (d + 0) a0 a1 h) (fun v1 h2 => ?_)
  refine z_vn ?_
  refine z_aload_n 0 rfl rfl dX6_value_5 ?_
  refine z_iload_n 2 rfl rfl dX6_value_6 ?_
  refine z_cV (st := []) [.int a2] zk_RX6_111 rfl (Nat.le_of_ble_eq_true rfl) dX6_value_7 (mX6_needPoint hV (d + 0) a0 a2 h2) (fun v3 h4 => ?_)
  refine z_vn ?_
  refine z_aload_n 0 rfl rfl dX6_value_10 ?_
  refine z_iload_n 3 rfl rfl dX6_value_11 ?_
  refine z_cV (st := []) [.int a3] zk_RX6_111 rfl (Nat.le_of_ble_eq_true rfl) dX6_value_12 (mX6_needPoint hV (d + 0) a0 a3 h4) (fun v5 h6 => ?_)
  refine z_vn ?_
  refine z_aload_n 0 rfl rfl dX6_value_15 ?_
  refine z_gR zf_RX6_29 dX6_value_16 (fun x7 => ?_)
  refine z_aload_n 0 rfl rfl dX6_value_19 ?_
  refine z_gR zf_RX6_19 dX6_value_20 (fun x8 => ?_)
  refine z_cV (st := []) [.ref x8] zk_RX6_98 rfl (Nat.le_of_ble_eq_true rfl) dX6_value_23 (mX1_keep hV (d + 4) x7 x8 h6) (fun v9 h10 => ?_)
  refine z_vn ?_
  refine z_aload_n 0 rfl rfl dX6_value_26 ?_
  refine z_gR zf_RX6_19 dX6_value_27 (fun x11 => ?_)
  refine z_gR zf_RX6_114 dX6_value_30 (fun x12 => ?_)
  refine z_iload_n 1 rfl rfl dX6_value_33 ?_
  refine z_aR dX6_value_34 (fun x13 => ?_)
  refine z_iload_n 2 rfl rfl dX6_value_35 ?_
  refine z_aI dX6_value_36 (fun x14 => ?_)
  refine z_istore (lv' := [(4, .int x14), (0, .ref a0), (1, .int a1), (2, .int a2), (3, .int a3)]) (by decide) rfl dX6_value_37 ?_
  refine z_aload_n 1 rfl rfl dX6_value_39 ?_
  refine z_gR zf_RX6_19 dX6_value_40 (fun x15 => ?_)
  refine z_gR zf_RX6_114 dX6_value_43 (fun x16 => ?_)
  refine z_iload_n 2 rfl rfl dX6_value_46 ?_
  refine z_aR dX6_value_47 (fun x17 => ?_)
  refine z_iload_n 3 rfl rfl dX6_value_48 ?_
  refine z_iload_n 4 rfl rfl dX6_value_49 ?_
  refine z_sI dX6_value_50 (fun h18 => ?_)
  refine z_iload 0 rfl dX6_value_51 ?_
  exact z_iret rfl dX6_value_53
def fX6_needRoom (a0 : Nat) (h : AH) : RR :=
  (zgR h a0 6 1).bind fun x1 =>
  (zgI h x1 3 2).bind fun x2 =>
  if x2 < 6 then (
    some (.inl none, h))
  else
  (zgR h a0 6 7).bind fun x3 =>
  (zai h x3 2).bind fun x4 =>
  (zsi h x3 2 (x4 + 1)).bind fun h5 =>
  some (.inr 2, zjnk h5 6)
set_option maxRecDepth 20000 in
theorem mX6_needRoom {V : VT} (hV : V.2.2.2.2.2.stackTraces = false) (d : Nat) (a0 : Nat) (h : AH) : zM V yX6_needRoom cX6_needRoom 1 none (d + 6) [.ref a0] h (fX6_needRoom a0 h) := by
  refine z_meth hV (by decide +kernel) (Nat.le_of_ble_eq_true rfl) [(0, .ref a0)] rfl (fun X => ?_)
  show zG X V RX6 "needRoom" cX6_needRoom 1 none (d + 6) h.1 h.2.1 (fX6_needRoom a0 h) 0 [(0, .ref a0)] [] h
  unfold fX6_needRoom
  refine z_aload_n 0 rfl rfl dX6_needRoom_0 ?_
  refine z_gR zf_RX6_19 dX6_needRoom_1 (fun x1 => ?_)
  refine z_gI zf_RX6_105 dX6_needRoom_4 (fun x2 => ?_)
  refine z_bipush (v := 6) (by decide) dX6_needRoom_7 ?_
  refine z_icmp_lt 32 (by decide) dX6_needRoom_9 ?_ ?_
  · exact z_vret rfl dX6_needRoom_32
  · refine z_aload_n 0 rfl rfl dX6_needRoom_12 ?_
    refine z_gR zf_RX6_58 dX6_needRoom_13 (fun x3 => ?_)
    refine z_iconst (v := 2) (by decide) dX6_needRoom_16 ?_
    refine z_dup2 rfl rfl dX6_needRoom_17 ?_
    refine z_aI dX6_needRoom_18 (fun x4 => ?_)
    refine z_iconst (v := 1) (by decide) dX6_needRoom_19 ?_
    refine z_iadd dX6_needRoom_20 ?_
    refine z_sI dX6_needRoom_21 (fun h5 => ?_)
    exact z_throw 2 (by decide) "there are six polynomials" 8 zs_RX6_244 zt_RX6_242_246 (Nat.le_of_ble_eq_true rfl) (by omega) dX6_needRoom_22 dX6_needRoom_25 dX6_needRoom_26 dX6_needRoom_28 dX6_needRoom_31
def fX6_after (a0 : Nat) (a1 : Int32) (a2 : Int32) (h : AH) : RR :=
  zcv (zob h a0 6) (fX6_needPoly a0 a1 h) fun v1 h2 =>
  zvn v1 <|
  zcv (zob h2 a0 6) (fX6_needPoly a0 a2 h2) fun v3 h4 =>
  zvn v3 <|
  zcv (zob h4 a0 6) (fX6_needRoom a0 h4) fun v5 h6 =>
  zvn v5 <|
  (zgR h6 a0 6 3).bind fun x7 =>
  (zgR h6 a0 6 1).bind fun x8 =>
  zcv (zob h6 x7 1) (fX1_keep x7 x8 h6) fun v9 h10 =>
  zvn v9 <|
  (zgR h10 a0 6 6).bind fun x11 =>
  (zgR h10 a0 6 1).bind fun x12 =>
  (zgR h10 x12 3 3).bind fun x13 =>
  (zar h10 x13 a1).bind fun x14 =>
  (zgR h10 a0 6 1).bind fun x15 =>
  (zgR h10 x15 3 3).bind fun x16 =>
  (zar h10 x16 a2).bind fun x17 =>
  (zgR h10 a0 6 1).bind fun x18 =>
  (zgR h10 x18 3 3).bind fun x19 =>
  (zgR h10 a0 6 1).bind fun x20 =>
  (zgI h10 x20 3 2).bind fun x21 =>
  (zar h10 x19 x21).bind fun x22 =>
  zcv (zob h10 x11 4) (fX4_join x11 x14 x17 x22 h10) fun v23 h24 =>
  zvn v23 <|
  (zgR h24 a0 6 1).bind fun x25 =>
  (zgI h24 x25 3 2).bind fun x26 =>
  (zpf h24 x25 3 2 (.int (x26 + 1))).bind fun h27 =>
  (zgR h27 a0 6 1).bind fun x28 =>
  (zgI h27 x28 3 2).bind fun x29 =>
  some (.inl (some (.int (x29 - 1))), h27)
set_option maxRecDepth 20000 in
theorem mX6_after {V : VT} (hV : V.2.2.2.2.2.stackTraces = false) (d : Nat) (a0 : Nat) (a1 : Int32) (a2 : Int32) (h : AH) : zM V yX6_after cX6_after 3 (some .int) (d + 7) [.ref a0, .int a1, .int a2] h (fX6_after a0 a1 a2 h) := by
  refine z_meth hV (by decide +kernel) (Nat.le_of_ble_eq_true rfl) [(0, .ref a0), (1, .int a1), (2, .int a2)] rfl (fun X => ?_)
  show zG X V RX6 "after" cX6_after 3 (some .int) (d + 7) h.1 h.2.1 (fX6_after a0 a1 a2 h) 0 [(0, .ref a0), (1, .int a1), (2, .int a2)] [] h
  unfold fX6_after
  refine z_aload_n 0 rfl rfl dX6_after_0 ?_
  refine z_iload_n 1 rfl rfl dX6_after_1 ?_
  refine z_cV (st := []) [.int a1] zk_RX6_108 rfl (Nat.le_of_ble_eq_true rfl) dX6_after_2 (mX6_needPoly hV (d + 0) a0 a1 h) (fun v1 h2 => ?_)
  refine z_vn ?_
  refine z_aload_n 0 rfl rfl dX6_after_5 ?_
  refine z_iload_n 2 rfl rfl dX6_after_6 ?_
  refine z_cV (st := []) [.int a2] zk_RX6_108 rfl (Nat.le_of_ble_eq_true rfl) dX6_after_7 (mX6_needPoly hV (d + 0) a0 a2 h2) (fun v3 h4 => ?_)
  refine z_vn ?_
  refine z_aload_n 0 rfl rfl dX6_after_10 ?_
  refine z_cV (st := []) [] zk_RX6_118 rfl (Nat.le_of_ble_eq_true rfl) dX6_after_11 (mX6_needRoom hV (d + 0) a0 h4) (fun v5 h6 => ?_)
  refine z_vn ?_
  refine z_aload_n 0 rfl rfl dX6_after_14 ?_
  refine z_gR zf_RX6_29 dX6_after_15 (fun x7 => ?_)
  refine z_aload_n 0 rfl rfl dX6_after_18 ?_
  refine z_gR zf_RX6_19 dX6_after_19 (fun x8 => ?_)
  refine z_cV (st := []) [.ref x8] zk_RX6_98 rfl (Nat.le_of_ble_eq_true rfl) dX6_after_22 (mX1_keep hV (d + 4) x7 x8 h6) (fun v9 h10 => ?_)
  refine z_vn ?_
  refine z_aload_n 0 rfl rfl dX6_after_25 ?_
  refine z_gR zf_RX6_54 dX6_after_26 (fun x11 => ?_)
  refine z_aload_n 0 rfl rfl dX6_after_29 ?_
  refine z_gR zf_RX6_19 dX6_after_30 (fun x12 => ?_)
  refine z_gR zf_RX6_114 dX6_after_33 (fun x13 => ?_)
  refine z_iload_n 1 rfl rfl dX6_after_36 ?_
  refine z_aR dX6_after_37 (fun x14 => ?_)
  refine z_aload_n 0 rfl rfl dX6_after_38 ?_
  refine z_gR zf_RX6_19 dX6_after_39 (fun x15 => ?_)
  refine z_gR zf_RX6_114 dX6_after_42 (fun x16 => ?_)
  refine z_iload_n 2 rfl rfl dX6_after_45 ?_
  refine z_aR dX6_after_46 (fun x17 => ?_)
  refine z_aload_n 0 rfl rfl dX6_after_47 ?_
  refine z_gR zf_RX6_19 dX6_after_48 (fun x18 => ?_)
  refine z_gR zf_RX6_114 dX6_after_51 (fun x19 => ?_)
  refine z_aload_n 0 rfl rfl dX6_after_54 ?_
  refine z_gR zf_RX6_19 dX6_after_55 (fun x20 => ?_)
  refine z_gI zf_RX6_105 dX6_after_58 (fun x21 => ?_)
  refine z_aR dX6_after_61 (fun x22 => ?_)
  refine z_cV (st := []) [.ref x14, .ref x17, .ref x22] zk_RX6_121 rfl (Nat.le_of_ble_eq_true rfl) dX6_after_62 (mX4_join hV (d + 5) x11 x14 x17 x22 h10) (fun v23 h24 => ?_)
  refine z_vn ?_
  refine z_aload_n 0 rfl rfl dX6_after_65 ?_
  refine z_gR zf_RX6_19 dX6_after_66 (fun x25 => ?_)
  refine z_dup rfl dX6_after_69 ?_
  refine z_gI zf_RX6_105 dX6_after_70 (fun x26 => ?_)
  refine z_iconst (v := 1) (by decide) dX6_after_73 ?_
  refine z_iadd dX6_after_74 ?_
  refine z_pI zf_RX6_105 zq_3_2 rfl dX6_after_75 (fun h27 => ?_)
  refine z_aload_n 0 rfl rfl dX6_after_78 ?_
  refine z_gR zf_RX6_19 dX6_after_79 (fun x28 => ?_)
  refine z_gI zf_RX6_105 dX6_after_82 (fun x29 => ?_)
  refine z_iconst (v := 1) (by decide) dX6_after_85 ?_
  refine z_isub dX6_after_86 ?_
  exact z_iret rfl dX6_after_87
def fX6_again (a0 : Nat) (a1 : Int32) (a2 : Int32) (h : AH) : RR :=
  zcv (zob h a0 6) (fX6_needPoly a0 a1 h) fun v1 h2 =>
  zvn v1 <|
  zcv (zob h2 a0 6) (fX6_needNumber a0 a2 0 1000000000 h2) fun v3 h4 =>
  zvn v3 <|
  zcv (zob h4 a0 6) (fX6_needRoom a0 h4) fun v5 h6 =>
  zvn v5 <|
  (zgR h6 a0 6 3).bind fun x7 =>
  (zgR h6 a0 6 1).bind fun x8 =>
  zcv (zob h6 x7 1) (fX1_keep x7 x8 h6) fun v9 h10 =>
  zvn v9 <|
  (zgR h10 a0 6 6).bind fun x11 =>
  (zgR h10 a0 6 1).bind fun x12 =>
  (zgR h10 x12 3 3).bind fun x13 =>
  (zar h10 x13 a1).bind fun x14 =>
  (zgR h10 a0 6 1).bind fun x15 =>
  (zgR h10 x15 3 3).bind fun x16 =>
  (zgR h10 a0 6 1).bind fun x17 =>
  (zgI h10 x17 3 2).bind fun x18 =>
  (zar h10 x16 x18).bind fun x19 =>
  zcv (zob h10 x11 4) (fX4_repeat x11 x14 a2 x19 h10) fun v20 h21 =>
  zvn v20 <|
  (zgR h21 a0 6 1).bind fun x22 =>
  (zgI h21 x22 3 2).bind fun x23 =>
  (zpf h21 x22 3 2 (.int (x23 + 1))).bind fun h24 =>
  (zgR h24 a0 6 1).bind fun x25 =>
  (zgI h24 x25 3 2).bind fun x26 =>
  some (.inl (some (.int (x26 - 1))), h24)
set_option maxRecDepth 20000 in
theorem mX6_again {V : VT} (hV : V.2.2.2.2.2.stackTraces = false) (d : Nat) (a0 : Nat) (a1 : Int32) (a2 : Int32) (h : AH) : zM V yX6_again cX6_again 3 (some .int) (d + 7) [.ref a0, .int a1, .int a2] h (fX6_again a0 a1 a2 h) := by
  refine z_meth hV (by decide +kernel) (Nat.le_of_ble_eq_true rfl) [(0, .ref a0), (1, .int a1), (2, .int a2)] rfl (fun X => ?_)
  show zG X V RX6 "again" cX6_again 3 (some .int) (d + 7) h.1 h.2.1 (fX6_again a0 a1 a2 h) 0 [(0, .ref a0), (1, .int a1), (2, .int a2)] [] h
  unfold fX6_again
  refine z_aload_n 0 rfl rfl dX6_again_0 ?_
  refine z_iload_n 1 rfl rfl dX6_again_1 ?_
  refine z_cV (st := []) [.int a1] zk_RX6_108 rfl (Nat.le_of_ble_eq_true rfl) dX6_again_2 (mX6_needPoly hV (d + 0) a0 a1 h) (fun v1 h2 => ?_)
  refine z_vn ?_
  refine z_aload_n 0 rfl rfl dX6_again_5 ?_
  refine z_iload_n 2 rfl rfl dX6_again_6 ?_
  refine z_iconst (v := 0) (by decide) dX6_again_7 ?_
  refine z_ldc zw_745 dX6_again_8 ?_
  refine z_cV (st := []) [.int a2, .int 0, .int 1000000000] zk_RX6_73 rfl (Nat.le_of_ble_eq_true rfl) dX6_again_10 (mX6_needNumber hV (d + 0) a0 a2 0 1000000000 h2) (fun v3 h4 => ?_)
  refine z_vn ?_
  refine z_aload_n 0 rfl rfl dX6_again_13 ?_
  refine z_cV (st := []) [] zk_RX6_118 rfl (Nat.le_of_ble_eq_true rfl) dX6_again_14 (mX6_needRoom hV (d + 0) a0 h4) (fun v5 h6 => ?_)
  refine z_vn ?_
  refine z_aload_n 0 rfl rfl dX6_again_17 ?_
  refine z_gR zf_RX6_29 dX6_again_18 (fun x7 => ?_)
  refine z_aload_n 0 rfl rfl dX6_again_21 ?_
  refine z_gR zf_RX6_19 dX6_again_22 (fun x8 => ?_)
  refine z_cV (st := []) [.ref x8] zk_RX6_98 rfl (Nat.le_of_ble_eq_true rfl) dX6_again_25 (mX1_keep hV (d + 4) x7 x8 h6) (fun v9 h10 => ?_)
  refine z_vn ?_
  refine z_aload_n 0 rfl rfl dX6_again_28 ?_
  refine z_gR zf_RX6_54 dX6_again_29 (fun x11 => ?_)
  refine z_aload_n 0 rfl rfl dX6_again_32 ?_
  refine z_gR zf_RX6_19 dX6_again_33 (fun x12 => ?_)
  refine z_gR zf_RX6_114 dX6_again_36 (fun x13 => ?_)
  refine z_iload_n 1 rfl rfl dX6_again_39 ?_
  refine z_aR dX6_again_40 (fun x14 => ?_)
  refine z_iload_n 2 rfl rfl dX6_again_41 ?_
  refine z_aload_n 0 rfl rfl dX6_again_42 ?_
  refine z_gR zf_RX6_19 dX6_again_43 (fun x15 => ?_)
  refine z_gR zf_RX6_114 dX6_again_46 (fun x16 => ?_)
  refine z_aload_n 0 rfl rfl dX6_again_49 ?_
  refine z_gR zf_RX6_19 dX6_again_50 (fun x17 => ?_)
  refine z_gI zf_RX6_105 dX6_again_53 (fun x18 => ?_)
  refine z_aR dX6_again_56 (fun x19 => ?_)
  refine z_cV (st := []) [.ref x14, .int a2, .ref x19] zk_RX6_126 rfl (Nat.le_of_ble_eq_true rfl) dX6_again_57 (mX4_repeat hV (d + 4) x11 x14 a2 x19 h10) (fun v20 h21 => ?_)
  refine z_vn ?_
  refine z_aload_n 0 rfl rfl dX6_again_60 ?_
  refine z_gR zf_RX6_19 dX6_again_61 (fun x22 => ?_)
  refine z_dup rfl dX6_again_64 ?_
  refine z_gI zf_RX6_105 dX6_again_65 (fun x23 => ?_)
  refine z_iconst (v := 1) (by decide) dX6_again_68 ?_
  refine z_iadd dX6_again_69 ?_
  refine z_pI zf_RX6_105 zq_3_2 rfl dX6_again_70 (fun h24 => ?_)
  refine z_aload_n 0 rfl rfl dX6_again_73 ?_
  refine z_gR zf_RX6_19 dX6_again_74 (fun x25 => ?_)
  refine z_gI zf_RX6_105 dX6_again_77 (fun x26 => ?_)
  refine z_iconst (v := 1) (by decide) dX6_again_80 ?_
  refine z_isub dX6_again_81 ?_
  exact z_iret rfl dX6_again_82
def fX6_needPermuting (a0 : Nat) (a1 : Int32) (h : AH) : RR :=
  (zgR h a0 6 6).bind fun x1 =>
  (zgR h a0 6 1).bind fun x2 =>
  (zgR h x2 3 3).bind fun x3 =>
  (zar h x3 a1).bind fun x4 =>
  zcv (zob h x1 4) (fX4_isPermuting x1 x4 h) fun v5 h6 =>
  zvi v5 fun x7 =>
  if x7 = 0 then (
    (zgR h6 a0 6 7).bind fun x8 =>
    (zai h6 x8 2).bind fun x9 =>
    (zsi h6 x8 2 (x9 + 1)).bind fun h10 =>
    some (.inr 2, zjnk h10 6))
  else
  some (.inl none, h6)
set_option maxRecDepth 20000 in
theorem mX6_needPermuting {V : VT} (hV : V.2.2.2.2.2.stackTraces = false) (d : Nat) (a0 : Nat) (a1 : Int32) (h : AH) : zM V yX6_needPermuting cX6_needPermuting 2 none (d + 6) [.ref a0, .int a1] h (fX6_needPermuting a0 a1 h) := by
  refine z_meth hV (by decide +kernel) (Nat.le_of_ble_eq_true rfl) [(0, .ref a0), (1, .int a1)] rfl (fun X => ?_)
  show zG X V RX6 "needPermuting" cX6_needPermuting 2 none (d + 6) h.1 h.2.1 (fX6_needPermuting a0 a1 h) 0 [(0, .ref a0), (1, .int a1)] [] h
  unfold fX6_needPermuting
  refine z_aload_n 0 rfl rfl dX6_needPermuting_0 ?_
  refine z_gR zf_RX6_54 dX6_needPermuting_1 (fun x1 => ?_)
  refine z_aload_n 0 rfl rfl dX6_needPermuting_4 ?_
  refine z_gR zf_RX6_19 dX6_needPermuting_5 (fun x2 => ?_)
  refine z_gR zf_RX6_114 dX6_needPermuting_8 (fun x3 => ?_)
  refine z_iload_n 1 rfl rfl dX6_needPermuting_11 ?_
  refine z_aR dX6_needPermuting_12 (fun x4 => ?_)
  refine z_cV (st := []) [.ref x4] zk_RX6_180 rfl (Nat.le_of_ble_eq_true rfl) dX6_needPermuting_13 (mX4_isPermuting hV (d + 2) x1 x4 h) (fun v5 h6 => ?_)
  refine z_vi (fun x7 => ?_)
  refine z_if_ne 39 (by decide) dX6_needPermuting_16 ?_ ?_
  · refine z_aload_n 0 rfl rfl dX6_needPermuting_19 ?_
    refine z_gR zf_RX6_58 dX6_needPermuting_20 (fun x8 => ?_)
    refine z_iconst (v := 2) (by decide) dX6_needPermuting_23 ?_
    refine z_dup2 rfl rfl dX6_needPermuting_24 ?_
    refine z_aI dX6_needPermuting_25 (fun x9 => ?_)
    refine z_iconst (v := 1) (by decide) dX6_needPermuting_26 ?_
    refine z_iadd dX6_needPermuting_27 ?_
    refine z_sI dX6_needPermuting_28 (fun h10 => ?_)
    exact z_throw 2 (by decide) "it does not permute" 9 zs_RX6_247 zt_RX6_242_246 (Nat.le_of_ble_eq_true rfl) (by omega) dX6_needPermuting_29 dX6_needPermuting_32 dX6_needPermuting_33 dX6_needPermuting_35 dX6_needPermuting_38
  · exact z_vret rfl dX6_needPermuting_39
def fX6_back (a0 : Nat) (a1 : Int32) (h : AH) : RR :=
  zcv (zob h a0 6) (fX6_needPoly a0 a1 h) fun v1 h2 =>
  zvn v1 <|
  zcv (zob h2 a0 6) (fX6_needRoom a0 h2) fun v3 h4 =>
  zvn v3 <|
  zcv (zob h4 a0 6) (fX6_needPermuting a0 a1 h4) fun v5 h6 =>
  zvn v5 <|
  (zgR h6 a0 6 3).bind fun x7 =>
  (zgR h6 a0 6 1).bind fun x8 =>
  zcv (zob h6 x7 1) (fX1_keep x7 x8 h6) fun v9 h10 =>
  zvn v9 <|
  (zgR h10 a0 6 6).bind fun x11 =>
  (zgR h10 a0 6 1).bind fun x12 =>
  (zgR h10 x12 3 3).bind fun x13 =>
  (zar h10 x13 a1).bind fun x14 =>
  (zgR h10 a0 6 1).bind fun x15 =>
  (zgR h10 x15 3 3).bind fun x16 =>
  (zgR h10 a0 6 1).bind fun x17 =>
  (zgI h10 x17 3 2).bind fun x18 =>
  (zar h10 x16 x18).bind fun x19 =>
  zcv (zob h10 x11 4) (fX4_invert x11 x14 x19 h10) fun v20 h21 =>
  zvn v20 <|
  (zgR h21 a0 6 1).bind fun x22 =>
  (zgI h21 x22 3 2).bind fun x23 =>
  (zpf h21 x22 3 2 (.int (x23 + 1))).bind fun h24 =>
  (zgR h24 a0 6 1).bind fun x25 =>
  (zgI h24 x25 3 2).bind fun x26 =>
  some (.inl (some (.int (x26 - 1))), h24)
set_option maxRecDepth 20000 in
theorem mX6_back {V : VT} (hV : V.2.2.2.2.2.stackTraces = false) (d : Nat) (a0 : Nat) (a1 : Int32) (h : AH) : zM V yX6_back cX6_back 2 (some .int) (d + 7) [.ref a0, .int a1] h (fX6_back a0 a1 h) := by
  refine z_meth hV (by decide +kernel) (Nat.le_of_ble_eq_true rfl) [(0, .ref a0), (1, .int a1)] rfl (fun X => ?_)
  show zG X V RX6 "back" cX6_back 2 (some .int) (d + 7) h.1 h.2.1 (fX6_back a0 a1 h) 0 [(0, .ref a0), (1, .int a1)] [] h
  unfold fX6_back
  refine z_aload_n 0 rfl rfl dX6_back_0 ?_
  refine z_iload_n 1 rfl rfl dX6_back_1 ?_
  refine z_cV (st := []) [.int a1] zk_RX6_108 rfl (Nat.le_of_ble_eq_true rfl) dX6_back_2 (mX6_needPoly hV (d + 0) a0 a1 h) (fun v1 h2 => ?_)
  refine z_vn ?_
  refine z_aload_n 0 rfl rfl dX6_back_5 ?_
  refine z_cV (st := []) [] zk_RX6_118 rfl (Nat.le_of_ble_eq_true rfl) dX6_back_6 (mX6_needRoom hV (d + 0) a0 h2) (fun v3 h4 => ?_)
  refine z_vn ?_
  refine z_aload_n 0 rfl rfl dX6_back_9 ?_
  refine z_iload_n 1 rfl rfl dX6_back_10 ?_
  refine z_cV (st := []) [.int a1] zk_RX6_130 rfl (Nat.le_of_ble_eq_true rfl) dX6_back_11 (mX6_needPermuting hV (d + 0) a0 a1 h4) (fun v5 h6 => ?_)
  refine z_vn ?_
  refine z_aload_n 0 rfl rfl dX6_back_14 ?_
  refine z_gR zf_RX6_29 dX6_back_15 (fun x7 => ?_)
  refine z_aload_n 0 rfl rfl dX6_back_18 ?_
  refine z_gR zf_RX6_19 dX6_back_19 (fun x8 => ?_)
  refine z_cV (st := []) [.ref x8] zk_RX6_98 rfl (Nat.le_of_ble_eq_true rfl) dX6_back_22 (mX1_keep hV (d + 4) x7 x8 h6) (fun v9 h10 => ?_)
  refine z_vn ?_
  refine z_aload_n 0 rfl rfl dX6_back_25 ?_
  refine z_gR zf_RX6_54 dX6_back_26 (fun x11 => ?_)
  refine z_aload_n 0 rfl rfl dX6_back_29 ?_
  refine z_gR zf_RX6_19 dX6_back_30 (fun x12 => ?_)
  refine z_gR zf_RX6_114 dX6_back_33 (fun x13 => ?_)
  refine z_iload_n 1 rfl rfl dX6_back_36 ?_
  refine z_aR dX6_back_37 (fun x14 => ?_)
  refine z_aload_n 0 rfl rfl dX6_back_38 ?_
  refine z_gR zf_RX6_19 dX6_back_39 (fun x15 => ?_)
  refine z_gR zf_RX6_114 dX6_back_42 (fun x16 => ?_)
  refine z_aload_n 0 rfl rfl dX6_back_45 ?_
  refine z_gR zf_RX6_19 dX6_back_46 (fun x17 => ?_)
  refine z_gI zf_RX6_105 dX6_back_49 (fun x18 => ?_)
  refine z_aR dX6_back_52 (fun x19 => ?_)
  refine z_cV (st := []) [.ref x14, .ref x19] zk_RX6_133 rfl (Nat.le_of_ble_eq_true rfl) dX6_back_53 (mX4_invert hV (d + 5) x11 x14 x19 h10) (fun v20 h21 => ?_)
  refine z_vn ?_
  refine z_aload_n 0 rfl rfl dX6_back_56 ?_
  refine z_gR zf_RX6_19 dX6_back_57 (fun x22 => ?_)
  refine z_dup rfl dX6_back_60 ?_
  refine z_gI zf_RX6_105 dX6_back_61 (fun x23 => ?_)
  refine z_iconst (v := 1) (by decide) dX6_back_64 ?_
  refine z_iadd dX6_back_65 ?_
  refine z_pI zf_RX6_105 zq_3_2 rfl dX6_back_66 (fun h24 => ?_)
  refine z_aload_n 0 rfl rfl dX6_back_69 ?_
  refine z_gR zf_RX6_19 dX6_back_70 (fun x25 => ?_)
  refine z_gI zf_RX6_105 dX6_back_73 (fun x26 => ?_)
  refine z_iconst (v := 1) (by decide) dX6_back_76 ?_
  refine z_isub dX6_back_77 ?_
  exact z_iret rfl dX6_back_78
def fX6_drop (a0 : Nat) (a1 : Int32) (h : AH) : RR :=
  zcv (zob h a0 6) (fX6_needPoly a0 a1 h) fun v1 h2 =>
  zvn v1 <|
  (zgR h2 a0 6 3).bind fun x3 =>
  (zgR h2 a0 6 1).bind fun x4 =>
  zcv (zob h2 x3 1) (fX1_keep x3 x4 h2) fun v5 h6 =>
  zvn v5 <|
  (zgR h6 a0 6 1).bind fun x7 =>
  zcv (zob h6 x7 3) (fX3_remove x7 a1 h6) fun v8 h9 =>
  zvn v8 <|
  (zgR h9 a0 6 1).bind fun x10 =>
  (zgI h9 x10 3 2).bind fun x11 =>
  some (.inl (some (.int x11)), h9)
set_option maxRecDepth 20000 in
theorem mX6_drop {V : VT} (hV : V.2.2.2.2.2.stackTraces = false) (d : Nat) (a0 : Nat) (a1 : Int32) (h : AH) : zM V yX6_drop cX6_drop 2 (some .int) (d + 7) [.ref a0, .int a1] h (fX6_drop a0 a1 h) := by
  refine z_meth hV (by decide +kernel) (Nat.le_of_ble_eq_true rfl) [(0, .ref a0), (1, .int a1)] rfl (fun X => ?_)
  show zG X V RX6 "drop" cX6_drop 2 (some .int) (d + 7) h.1 h.2.1 (fX6_drop a0 a1 h) 0 [(0, .ref a0), (1, .int a1)] [] h
  unfold fX6_drop
  refine z_aload_n 0 rfl rfl dX6_drop_0 ?_
  refine z_iload_n 1 rfl rfl dX6_drop_1 ?_
  refine z_cV (st := []) [.int a1] zk_RX6_108 rfl (Nat.le_of_ble_eq_true rfl) dX6_drop_2 (mX6_needPoly hV (d + 0) a0 a1 h) (fun v1 h2 => ?_)
  refine z_vn ?_
  refine z_aload_n 0 rfl rfl dX6_drop_5 ?_
  refine z_gR zf_RX6_29 dX6_drop_6 (fun x3 => ?_)
  refine z_aload_n 0 rfl rfl dX6_drop_9 ?_
  refine z_gR zf_RX6_19 dX6_drop_10 (fun x4 => ?_)
  refine z_cV (st := []) [.ref x4] zk_RX6_98 rfl (Nat.le_of_ble_eq_true rfl) dX6_drop_13 (mX1_keep hV (d + 4) x3 x4 h2) (fun v5 h6 => ?_)
  refine z_vn ?_
  refine z_aload_n 0 rfl rfl dX6_drop_16 ?_
  refine z_gR zf_RX6_19 dX6_drop_17 (fun x7 => ?_)
  refine z_iload_n 1 rfl rfl dX6_drop_20 ?_
  refine z_cV (st := []) [.int a1] zk_RX6_137 rfl (Nat.le_of_ble_eq_true rfl) dX6_drop_21 (mX3_remove hV (d + 5) x7 a1 h6) (fun v8 h9 => ?_)
  refine z_vn ?_
  refine z_aload_n 0 rfl rfl dX6_drop_24 ?_
  refine z_gR zf_RX6_19 dX6_drop_25 (fun x10 => ?_)
  refine z_gI zf_RX6_105 dX6_drop_28 (fun x11 => ?_)
  exact z_iret rfl dX6_drop_31
def fX6_undo (a0 : Nat) (h : AH) : RR :=
  (zgR h a0 6 3).bind fun x1 =>
  zcv (zob h x1 1) (fX1_takeLast x1 h) fun v2 h3 =>
  zvQ v2 (fun x4 =>
    (zgR h3 a0 6 1).bind fun x5 =>
    zcv (zob h3 x5 3) (fX3_become x5 x4 h3) fun v6 h7 =>
    zvn v6 <|
    (zgR h7 a0 6 0).bind fun x8 =>
    (zgR h7 a0 6 1).bind fun x9 =>
    (zgI h7 x9 3 0).bind fun x10 =>
    (zgR h7 a0 6 1).bind fun x11 =>
    (zgI h7 x11 3 1).bind fun x12 =>
    zcv (zob h7 x8 0) (fX0_tune x8 x10 x12 h7) fun v13 h14 =>
    zvn v13 <|
    (zgR h14 a0 6 3).bind fun x15 =>
    (zgI h14 x15 1 0).bind fun x16 =>
    some (.inl (some (.int x16)), h14)) (
    some (.inl (some (.int (-1))), h3))
set_option maxRecDepth 20000 in
theorem mX6_undo {V : VT} (hV : V.2.2.2.2.2.stackTraces = false) (d : Nat) (a0 : Nat) (h : AH) : zM V yX6_undo cX6_undo 2 (some .int) (d + 4) [.ref a0] h (fX6_undo a0 h) := by
  refine z_meth hV (by decide +kernel) (Nat.le_of_ble_eq_true rfl) [(0, .ref a0)] rfl (fun X => ?_)
  show zG X V RX6 "undo" cX6_undo 2 (some .int) (d + 4) h.1 h.2.1 (fX6_undo a0 h) 0 [(0, .ref a0)] [] h
  unfold fX6_undo
  refine z_aload_n 0 rfl rfl dX6_undo_0 ?_
  refine z_gR zf_RX6_29 dX6_undo_1 (fun x1 => ?_)
  refine z_cV (st := []) [] zk_RX6_140 rfl (Nat.le_of_ble_eq_true rfl) dX6_undo_4 (mX1_takeLast hV (d + 2) x1 h) (fun v2 h3 => ?_)
  refine z_vQ (fun x4 => ?_) ?_
  · refine z_astore_n (lv' := [(1, .ref x4), (0, .ref a0)]) rfl (by decide) rfl dX6_undo_7 ?_
    refine z_aload_n 0 rfl rfl dX6_undo_8 ?_
    refine z_ifnonnull 14 (by decide) dX6_undo_9 ?_
    refine z_aload_n 1 rfl rfl dX6_undo_14 ?_
    refine z_gR zf_RX6_19 dX6_undo_15 (fun x5 => ?_)
    refine z_aload_n 0 rfl rfl dX6_undo_18 ?_
    refine z_cV (st := []) [.ref x4] zk_RX6_102 rfl (Nat.le_of_ble_eq_true rfl) dX6_undo_19 (mX3_become hV (d + 2) x5 x4 h3) (fun v6 h7 => ?_)
    refine z_vn ?_
    refine z_aload_n 1 rfl rfl dX6_undo_22 ?_
    refine z_gR zf_RX6_10 dX6_undo_23 (fun x8 => ?_)
    refine z_aload_n 1 rfl rfl dX6_undo_26 ?_
    refine z_gR zf_RX6_19 dX6_undo_27 (fun x9 => ?_)
    refine z_gI zf_RX6_85 dX6_undo_30 (fun x10 => ?_)
    refine z_aload_n 1 rfl rfl dX6_undo_33 ?_
    refine z_gR zf_RX6_19 dX6_undo_34 (fun x11 => ?_)
    refine z_gI zf_RX6_88 dX6_undo_37 (fun x12 => ?_)
    refine z_cV (st := []) [.int x10, .int x12] zk_RX6_91 rfl (Nat.le_of_ble_eq_true rfl) dX6_undo_40 (mX0_tune hV (d + 0) x8 x10 x12 h7) (fun v13 h14 => ?_)
    refine z_vn ?_
    refine z_aload_n 1 rfl rfl dX6_undo_43 ?_
    refine z_gR zf_RX6_29 dX6_undo_44 (fun x15 => ?_)
    refine z_gI zf_RX6_144 dX6_undo_47 (fun x16 => ?_)
    exact z_iret rfl dX6_undo_50
  · refine z_nstore_n (lv' := [(1, .null), (0, .ref a0)]) rfl (by decide) rfl dX6_undo_7 ?_
    refine z_nload_n 0 rfl rfl dX6_undo_8 ?_
    refine z_ifnonnullN dX6_undo_9 ?_
    refine z_iconst (v := (-1)) (by decide) dX6_undo_12 ?_
    exact z_iret rfl dX6_undo_13
def fX6_told (a0 : Nat) (a1 : Int32) (h : AH) : RR :=
  zcv (zob h a0 6) (fX6_needNumber a0 a1 0 6 h) fun v1 h2 =>
  zvn v1 <|
  if a1 = 0 then (
    (zgR h2 a0 6 0).bind fun x3 =>
    (zgI h2 x3 0 2).bind fun x4 =>
    some (.inl (some (.int x4)), h2))
  else
  if a1 = 1 then (
    (zgR h2 a0 6 0).bind fun x5 =>
    (zgI h2 x5 0 0).bind fun x6 =>
    some (.inl (some (.int x6)), h2))
  else
  if a1 = 2 then (
    (zgR h2 a0 6 0).bind fun x7 =>
    (zgI h2 x7 0 1).bind fun x8 =>
    some (.inl (some (.int x8)), h2))
  else
  if a1 = 3 then (
    (zgR h2 a0 6 0).bind fun x9 =>
    (zgI h2 x9 0 3).bind fun x10 =>
    some (.inl (some (.int x10)), h2))
  else
  if a1 = 4 then (
    (zgR h2 a0 6 1).bind fun x11 =>
    (zgI h2 x11 3 2).bind fun x12 =>
    some (.inl (some (.int x12)), h2))
  else
  if a1 = 5 then (
    (zgR h2 a0 6 4).bind fun x13 =>
    (zgI h2 x13 5 0).bind fun x14 =>
    some (.inl (some (.int x14)), h2))
  else
  (zgR h2 a0 6 3).bind fun x15 =>
  (zgI h2 x15 1 0).bind fun x16 =>
  some (.inl (some (.int x16)), h2)
set_option maxRecDepth 20000 in
theorem mX6_told {V : VT} (hV : V.2.2.2.2.2.stackTraces = false) (d : Nat) (a0 : Nat) (a1 : Int32) (h : AH) : zM V yX6_told cX6_told 2 (some .int) (d + 7) [.ref a0, .int a1] h (fX6_told a0 a1 h) := by
  refine z_meth hV (by decide +kernel) (Nat.le_of_ble_eq_true rfl) [(0, .ref a0), (1, .int a1)] rfl (fun X => ?_)
  show zG X V RX6 "told" cX6_told 2 (some .int) (d + 7) h.1 h.2.1 (fX6_told a0 a1 h) 0 [(0, .ref a0), (1, .int a1)] [] h
  unfold fX6_told
  refine z_aload_n 0 rfl rfl dX6_told_0 ?_
  refine z_iload_n 1 rfl rfl dX6_told_1 ?_
  refine z_iconst (v := 0) (by decide) dX6_told_2 ?_
  refine z_bipush (v := 6) (by decide) dX6_told_3 ?_
  refine z_cV (st := []) [.int a1, .int 0, .int 6] zk_RX6_73 rfl (Nat.le_of_ble_eq_true rfl) dX6_told_5 (mX6_needNumber hV (d + 0) a0 a1 0 6 h) (fun v1 h2 => ?_)
  refine z_vn ?_
  refine z_iload_n 1 rfl rfl dX6_told_8 ?_
  refine z_if (fun q0 => ?_) (fun q0 => ?_)
  · refine z_tabIn q0 48 (by decide) (by decide) rfl (by decide) dX6_told_9 ?_
    refine z_aload_n 0 rfl rfl dX6_told_48 ?_
    refine z_gR zf_RX6_10 dX6_told_49 (fun x3 => ?_)
    refine z_gI zf_RX6_147 dX6_told_52 (fun x4 => ?_)
    exact z_iret rfl dX6_told_55
  · refine z_if (fun q1 => ?_) (fun q1 => ?_)
    · refine z_tabIn q1 56 (by decide) (by decide) rfl (by decide) dX6_told_9 ?_
      refine z_aload_n 0 rfl rfl dX6_told_56 ?_
      refine z_gR zf_RX6_10 dX6_told_57 (fun x5 => ?_)
      refine z_gI zf_RX6_148 dX6_told_60 (fun x6 => ?_)
      exact z_iret rfl dX6_told_63
    · refine z_if (fun q2 => ?_) (fun q2 => ?_)
      · refine z_tabIn q2 64 (by decide) (by decide) rfl (by decide) dX6_told_9 ?_
        refine z_aload_n 0 rfl rfl dX6_told_64 ?_
        refine z_gR zf_RX6_10 dX6_told_65 (fun x7 => ?_)
        refine z_gI zf_RX6_149 dX6_told_68 (fun x8 => ?_)
        exact z_iret rfl dX6_told_71
      · refine z_if (fun q3 => ?_) (fun q3 => ?_)
        · refine z_tabIn q3 72 (by decide) (by decide) rfl (by decide) dX6_told_9 ?_
          refine z_aload_n 0 rfl rfl dX6_told_72 ?_
          refine z_gR zf_RX6_10 dX6_told_73 (fun x9 => ?_)
          refine z_gI zf_RX6_150 dX6_told_76 (fun x10 => ?_)
          exact z_iret rfl dX6_told_79
        · refine z_if (fun q4 => ?_) (fun q4 => ?_)
          · refine z_tabIn q4 80 (by decide) (by decide) rfl (by decide) dX6_told_9 ?_
            refine z_aload_n 0 rfl rfl dX6_told_80 ?_
            refine z_gR zf_RX6_19 dX6_told_81 (fun x11 => ?_)
            refine z_gI zf_RX6_105 dX6_told_84 (fun x12 => ?_)
            exact z_iret rfl dX6_told_87
          · refine z_if (fun q5 => ?_) (fun q5 => ?_)
            · refine z_tabIn q5 88 (by decide) (by decide) rfl (by decide) dX6_told_9 ?_
              refine z_aload_n 0 rfl rfl dX6_told_88 ?_
              refine z_gR zf_RX6_36 dX6_told_89 (fun x13 => ?_)
              refine z_gI zf_RX6_66 dX6_told_92 (fun x14 => ?_)
              exact z_iret rfl dX6_told_95
            · refine z_tabOut 96 (by have := lv_neT q0 (show Int32.toInt 0 = 0 from rfl); have := lv_neT q1 (show Int32.toInt 1 = 1 from rfl); have := lv_neT q2 (show Int32.toInt 2 = 2 from rfl); have := lv_neT q3 (show Int32.toInt 3 = 3 from rfl); have := lv_neT q4 (show Int32.toInt 4 = 4 from rfl); have := lv_neT q5 (show Int32.toInt 5 = 5 from rfl); omega) (by decide) dX6_told_9 ?_
              refine z_aload_n 0 rfl rfl dX6_told_96 ?_
              refine z_gR zf_RX6_29 dX6_told_97 (fun x15 => ?_)
              refine z_gI zf_RX6_144 dX6_told_100 (fun x16 => ?_)
              exact z_iret rfl dX6_told_103
def fX6_points (a0 : Nat) (a1 : Int32) (a2 : Int32) (a3 : Int32) (h : AH) : RR :=
  zcv (zob h a0 6) (fX6_needPoint a0 a1 h) fun v1 h2 =>
  zvn v1 <|
  zcv (zob h2 a0 6) (fX6_needPoint a0 a2 h2) fun v3 h4 =>
  zvn v3 <|
  zcv (zob h4 a0 6) (fX6_needNumber a0 a3 0 3 h4) fun v5 h6 =>
  zvn v5 <|
  if a3 = 0 then (
    (zgR h6 a0 6 0).bind fun x7 =>
    zcv (zob h6 x7 0) (fX0_sum x7 a1 a2 h6) fun v8 h9 =>
    zvi v8 fun x10 =>
    some (.inl (some (.int x10)), h9))
  else
  if a3 = 1 then (
    (zgR h6 a0 6 0).bind fun x11 =>
    zcv (zob h6 x11 0) (fX0_difference x11 a1 a2 h6) fun v12 h13 =>
    zvi v12 fun x14 =>
    some (.inl (some (.int x14)), h13))
  else
  if a3 = 2 then (
    (zgR h6 a0 6 0).bind fun x15 =>
    zcv (zob h6 x15 0) (fX0_product x15 a1 a2 h6) fun v16 h17 =>
    zvi v16 fun x18 =>
    some (.inl (some (.int x18)), h17))
  else
  if a2 = 0 then (
    some (.inl (some (.int (-1))), h6))
  else
  (zgR h6 a0 6 0).bind fun x19 =>
  (zgR h6 a0 6 0).bind fun x20 =>
  (zgR h6 x20 0 7).bind fun x21 =>
  (zai h6 x21 a2).bind fun x22 =>
  zcv (zob h6 x19 0) (fX0_product x19 a1 x22 h6) fun v23 h24 =>
  zvi v23 fun x25 =>
  some (.inl (some (.int x25)), h24)
set_option maxRecDepth 20000 in
theorem mX6_points {V : VT} (hV : V.2.2.2.2.2.stackTraces = false) (d : Nat) (a0 : Nat) (a1 : Int32) (a2 : Int32) (a3 : Int32) (h : AH) : zM V yX6_points cX6_points 4 (some .int) (d + 7) [.ref a0, .int a1, .int a2, .int a3] h (fX6_points a0 a1 a2 a3 h) := by
  refine z_meth hV (by decide +kernel) (Nat.le_of_ble_eq_true rfl) [(0, .ref a0), (1, .int a1), (2, .int a2), (3, .int a3)] rfl (fun X => ?_)
  show zG X V RX6 "points" cX6_points 4 (some .int) (d + 7) h.1 h.2.1 (fX6_points a0 a1 a2 a3 h) 0 [(0, .ref a0), (1, .int a1), (2, .int a2), (3, .int a3)] [] h
  unfold fX6_points
  refine z_aload_n 0 rfl rfl dX6_points_0 ?_
  refine z_iload_n 1 rfl rfl dX6_points_1 ?_
  refine z_cV (st := []) [.int a1] zk_RX6_111 rfl (Nat.le_of_ble_eq_true rfl) dX6_points_2 (mX6_needPoint hV (d + 0) a0 a1 h) (fun v1 h2 => ?_)
  refine z_vn ?_
  refine z_aload_n 0 rfl rfl dX6_points_5 ?_
  refine z_iload_n 2 rfl rfl dX6_points_6 ?_
  refine z_cV (st := []) [.int a2] zk_RX6_111 rfl (Nat.le_of_ble_eq_true rfl) dX6_points_7 (mX6_needPoint hV (d + 0) a0 a2 h2) (fun v3 h4 => ?_)
  refine z_vn ?_
  refine z_aload_n 0 rfl rfl dX6_points_10 ?_
  refine z_iload_n 3 rfl rfl dX6_points_11 ?_
  refine z_iconst (v := 0) (by decide) dX6_points_12 ?_
  refine z_iconst (v := 3) (by decide) dX6_points_13 ?_
  refine z_cV (st := []) [.int a3, .int 0, .int 3] zk_RX6_73 rfl (Nat.le_of_ble_eq_true rfl) dX6_points_14 (mX6_needNumber hV (d + 0) a0 a3 0 3 h4) (fun v5 h6 => ?_)
  refine z_vn ?_
  refine z_iload_n 3 rfl rfl dX6_points_17 ?_
  refine z_if (fun q0 => ?_) (fun q0 => ?_)
  · refine z_tabIn q0 44 (by decide) (by decide) rfl (by decide) dX6_points_18 ?_
    refine z_aload_n 0 rfl rfl dX6_points_44 ?_
    refine z_gR zf_RX6_10 dX6_points_45 (fun x7 => ?_)
    refine z_iload_n 1 rfl rfl dX6_points_48 ?_
    refine z_iload_n 2 rfl rfl dX6_points_49 ?_
    refine z_cV (st := []) [.int a1, .int a2] zk_RX6_153 rfl (Nat.le_of_ble_eq_true rfl) dX6_points_50 (mX0_sum hV (d + 5) x7 a1 a2 h6) (fun v8 h9 => ?_)
    refine z_vi (fun x10 => ?_)
    exact z_iret rfl dX6_points_53
  · refine z_if (fun q1 => ?_) (fun q1 => ?_)
    · refine z_tabIn q1 54 (by decide) (by decide) rfl (by decide) dX6_points_18 ?_
      refine z_aload_n 0 rfl rfl dX6_points_54 ?_
      refine z_gR zf_RX6_10 dX6_points_55 (fun x11 => ?_)
      refine z_iload_n 1 rfl rfl dX6_points_58 ?_
      refine z_iload_n 2 rfl rfl dX6_points_59 ?_
      refine z_cV (st := []) [.int a1, .int a2] zk_RX6_157 rfl (Nat.le_of_ble_eq_true rfl) dX6_points_60 (mX0_difference hV (d + 5) x11 a1 a2 h6) (fun v12 h13 => ?_)
      refine z_vi (fun x14 => ?_)
      exact z_iret rfl dX6_points_63
    · refine z_if (fun q2 => ?_) (fun q2 => ?_)
      · refine z_tabIn q2 64 (by decide) (by decide) rfl (by decide) dX6_points_18 ?_
        refine z_aload_n 0 rfl rfl dX6_points_64 ?_
        refine z_gR zf_RX6_10 dX6_points_65 (fun x15 => ?_)
        refine z_iload_n 1 rfl rfl dX6_points_68 ?_
        refine z_iload_n 2 rfl rfl dX6_points_69 ?_
        refine z_cV (st := []) [.int a1, .int a2] zk_RX6_160 rfl (Nat.le_of_ble_eq_true rfl) dX6_points_70 (mX0_product hV (d + 5) x15 a1 a2 h6) (fun v16 h17 => ?_)
        refine z_vi (fun x18 => ?_)
        exact z_iret rfl dX6_points_73
      · refine z_tabOut 74 (by have := lv_neT q0 (show Int32.toInt 0 = 0 from rfl); have := lv_neT q1 (show Int32.toInt 1 = 1 from rfl); have := lv_neT q2 (show Int32.toInt 2 = 2 from rfl); omega) (by decide) dX6_points_18 ?_
        refine z_iload_n 2 rfl rfl dX6_points_74 ?_
        refine z_if_ne 82 (by decide) dX6_points_75 ?_ ?_
        · refine z_iconst (v := (-1)) (by decide) dX6_points_78 ?_
          refine z_goto 99 (by decide) dX6_points_79 ?_
          exact z_iret rfl dX6_points_99
        · refine z_aload_n 0 rfl rfl dX6_points_82 ?_
          refine z_gR zf_RX6_10 dX6_points_83 (fun x19 => ?_)
          refine z_iload_n 1 rfl rfl dX6_points_86 ?_
          refine z_aload_n 0 rfl rfl dX6_points_87 ?_
          refine z_gR zf_RX6_10 dX6_points_88 (fun x20 => ?_)
          refine z_gR zf_RX6_163 dX6_points_91 (fun x21 => ?_)
          refine z_iload_n 2 rfl rfl dX6_points_94 ?_
          refine z_aI dX6_points_95 (fun x22 => ?_)
          refine z_cV (st := []) [.int a1, .int x22] zk_RX6_160 rfl (Nat.le_of_ble_eq_true rfl) dX6_points_96 (mX0_product hV (d + 5) x19 a1 x22 h6) (fun v23 h24 => ?_)
          refine z_vi (fun x25 => ?_)
          exact z_iret rfl dX6_points_99
def fX6_at (a0 : Nat) (a1 : Int32) (a2 : Int32) (h : AH) : RR :=
  zcv (zob h a0 6) (fX6_needPoly a0 a1 h) fun v1 h2 =>
  zvn v1 <|
  zcv (zob h2 a0 6) (fX6_needPoint a0 a2 h2) fun v3 h4 =>
  zvn v3 <|
  (zgR h4 a0 6 1).bind fun x5 =>
  (zgR h4 x5 3 3).bind fun x6 =>
  (zar h4 x6 a1).bind fun x7 =>
  (zai h4 x7 a2).bind fun x8 =>
  some (.inl (some (.int x8)), h4)
set_option maxRecDepth 20000 in
theorem mX6_at {V : VT} (hV : V.2.2.2.2.2.stackTraces = false) (d : Nat) (a0 : Nat) (a1 : Int32) (a2 : Int32) (h : AH) : zM V yX6_at cX6_at 3 (some .int) (d + 7) [.ref a0, .int a1, .int a2] h (fX6_at a0 a1 a2 h) := by
  refine z_meth hV (by decide +kernel) (Nat.le_of_ble_eq_true rfl) [(0, .ref a0), (1, .int a1), (2, .int a2)] rfl (fun X => ?_)
  show zG X V RX6 "at" cX6_at 3 (some .int) (d + 7) h.1 h.2.1 (fX6_at a0 a1 a2 h) 0 [(0, .ref a0), (1, .int a1), (2, .int a2)] [] h
  unfold fX6_at
  refine z_aload_n 0 rfl rfl dX6_at_0 ?_
  refine z_iload_n 1 rfl rfl dX6_at_1 ?_
  refine z_cV (st := []) [.int a1] zk_RX6_108 rfl (Nat.le_of_ble_eq_true rfl) dX6_at_2 (mX6_needPoly hV (d + 0) a0 a1 h) (fun v1 h2 => ?_)
  refine z_vn ?_
  refine z_aload_n 0 rfl rfl dX6_at_5 ?_
  refine z_iload_n 2 rfl rfl dX6_at_6 ?_
  refine z_cV (st := []) [.int a2] zk_RX6_111 rfl (Nat.le_of_ble_eq_true rfl) dX6_at_7 (mX6_needPoint hV (d + 0) a0 a2 h2) (fun v3 h4 => ?_)
  refine z_vn ?_
  refine z_aload_n 0 rfl rfl dX6_at_10 ?_
  refine z_gR zf_RX6_19 dX6_at_11 (fun x5 => ?_)
  refine z_gR zf_RX6_114 dX6_at_14 (fun x6 => ?_)
  refine z_iload_n 1 rfl rfl dX6_at_17 ?_
  refine z_aR dX6_at_18 (fun x7 => ?_)
  refine z_iload_n 2 rfl rfl dX6_at_19 ?_
  refine z_aI dX6_at_20 (fun x8 => ?_)
  exact z_iret rfl dX6_at_21
def fX6_coefficient (a0 : Nat) (a1 : Int32) (a2 : Int32) (h : AH) : RR :=
  zcv (zob h a0 6) (fX6_needPoly a0 a1 h) fun v1 h2 =>
  zvn v1 <|
  (zgR h2 a0 6 0).bind fun x3 =>
  (zgI h2 x3 0 2).bind fun x4 =>
  zcv (zob h2 a0 6) (fX6_needNumber a0 a2 0 (x4 - 1) h2) fun v5 h6 =>
  zvn v5 <|
  (zgR h6 a0 6 6).bind fun x7 =>
  (zgR h6 a0 6 1).bind fun x8 =>
  (zgR h6 x8 3 3).bind fun x9 =>
  (zar h6 x9 a1).bind fun x10 =>
  zcv (zob h6 x7 4) (fX4_coefficientOf x7 x10 a2 h6) fun v11 h12 =>
  zvi v11 fun x13 =>
  some (.inl (some (.int x13)), h12)
set_option maxRecDepth 20000 in
theorem mX6_coefficient {V : VT} (hV : V.2.2.2.2.2.stackTraces = false) (d : Nat) (a0 : Nat) (a1 : Int32) (a2 : Int32) (h : AH) : zM V yX6_coefficient cX6_coefficient 3 (some .int) (d + 7) [.ref a0, .int a1, .int a2] h (fX6_coefficient a0 a1 a2 h) := by
  refine z_meth hV (by decide +kernel) (Nat.le_of_ble_eq_true rfl) [(0, .ref a0), (1, .int a1), (2, .int a2)] rfl (fun X => ?_)
  show zG X V RX6 "coefficient" cX6_coefficient 3 (some .int) (d + 7) h.1 h.2.1 (fX6_coefficient a0 a1 a2 h) 0 [(0, .ref a0), (1, .int a1), (2, .int a2)] [] h
  unfold fX6_coefficient
  refine z_aload_n 0 rfl rfl dX6_coefficient_0 ?_
  refine z_iload_n 1 rfl rfl dX6_coefficient_1 ?_
  refine z_cV (st := []) [.int a1] zk_RX6_108 rfl (Nat.le_of_ble_eq_true rfl) dX6_coefficient_2 (mX6_needPoly hV (d + 0) a0 a1 h) (fun v1 h2 => ?_)
  refine z_vn ?_
  refine z_aload_n 0 rfl rfl dX6_coefficient_5 ?_
  refine z_iload_n 2 rfl rfl dX6_coefficient_6 ?_
  refine z_iconst (v := 0) (by decide) dX6_coefficient_7 ?_
  refine z_aload_n 0 rfl rfl dX6_coefficient_8 ?_
  refine z_gR zf_RX6_10 dX6_coefficient_9 (fun x3 => ?_)
  refine z_gI zf_RX6_147 dX6_coefficient_12 (fun x4 => ?_)
  refine z_iconst (v := 1) (by decide) dX6_coefficient_15 ?_
  refine z_isub dX6_coefficient_16 ?_
  refine z_cV (st := []) [.int a2, .int 0, .int (x4 - 1)] zk_RX6_73 rfl (Nat.le_of_ble_eq_true rfl) dX6_coefficient_17 (mX6_needNumber hV (d + 0) a0 a2 0 (x4 - 1) h2) (fun v5 h6 => ?_)
  refine z_vn ?_
  refine z_aload_n 0 rfl rfl dX6_coefficient_20 ?_
  refine z_gR zf_RX6_54 dX6_coefficient_21 (fun x7 => ?_)
  refine z_aload_n 0 rfl rfl dX6_coefficient_24 ?_
  refine z_gR zf_RX6_19 dX6_coefficient_25 (fun x8 => ?_)
  refine z_gR zf_RX6_114 dX6_coefficient_28 (fun x9 => ?_)
  refine z_iload_n 1 rfl rfl dX6_coefficient_31 ?_
  refine z_aR dX6_coefficient_32 (fun x10 => ?_)
  refine z_iload_n 2 rfl rfl dX6_coefficient_33 ?_
  refine z_cV (st := []) [.ref x10, .int a2] zk_RX6_166 rfl (Nat.le_of_ble_eq_true rfl) dX6_coefficient_34 (mX4_coefficientOf hV (d + 3) x7 x10 a2 h6) (fun v11 h12 => ?_)
  refine z_vi (fun x13 => ?_)
  exact z_iret rfl dX6_coefficient_37
def fX6_degree (a0 : Nat) (a1 : Int32) (h : AH) : RR :=
  zcv (zob h a0 6) (fX6_needPoly a0 a1 h) fun v1 h2 =>
  zvn v1 <|
  (zgR h2 a0 6 6).bind fun x3 =>
  (zgR h2 a0 6 1).bind fun x4 =>
  (zgR h2 x4 3 3).bind fun x5 =>
  (zar h2 x5 a1).bind fun x6 =>
  zcv (zob h2 x3 4) (fX4_degreeOf x3 x6 h2) fun v7 h8 =>
  zvi v7 fun x9 =>
  some (.inl (some (.int x9)), h8)
set_option maxRecDepth 20000 in
theorem mX6_degree {V : VT} (hV : V.2.2.2.2.2.stackTraces = false) (d : Nat) (a0 : Nat) (a1 : Int32) (h : AH) : zM V yX6_degree cX6_degree 2 (some .int) (d + 7) [.ref a0, .int a1] h (fX6_degree a0 a1 h) := by
  refine z_meth hV (by decide +kernel) (Nat.le_of_ble_eq_true rfl) [(0, .ref a0), (1, .int a1)] rfl (fun X => ?_)
  show zG X V RX6 "degree" cX6_degree 2 (some .int) (d + 7) h.1 h.2.1 (fX6_degree a0 a1 h) 0 [(0, .ref a0), (1, .int a1)] [] h
  unfold fX6_degree
  refine z_aload_n 0 rfl rfl dX6_degree_0 ?_
  refine z_iload_n 1 rfl rfl dX6_degree_1 ?_
  refine z_cV (st := []) [.int a1] zk_RX6_108 rfl (Nat.le_of_ble_eq_true rfl) dX6_degree_2 (mX6_needPoly hV (d + 0) a0 a1 h) (fun v1 h2 => ?_)
  refine z_vn ?_
  refine z_aload_n 0 rfl rfl dX6_degree_5 ?_
  refine z_gR zf_RX6_54 dX6_degree_6 (fun x3 => ?_)
  refine z_aload_n 0 rfl rfl dX6_degree_9 ?_
  refine z_gR zf_RX6_19 dX6_degree_10 (fun x4 => ?_)
  refine z_gR zf_RX6_114 dX6_degree_13 (fun x5 => ?_)
  refine z_iload_n 1 rfl rfl dX6_degree_16 ?_
  refine z_aR dX6_degree_17 (fun x6 => ?_)
  refine z_cV (st := []) [.ref x6] zk_RX6_170 rfl (Nat.le_of_ble_eq_true rfl) dX6_degree_18 (mX4_degreeOf hV (d + 4) x3 x6 h2) (fun v7 h8 => ?_)
  refine z_vi (fun x9 => ?_)
  exact z_iret rfl dX6_degree_21
def fX6_taken (a0 : Nat) (a1 : Int32) (a2 : Int32) (h : AH) : RR :=
  zcv (zob h a0 6) (fX6_needPoly a0 a1 h) fun v1 h2 =>
  zvn v1 <|
  zcv (zob h2 a0 6) (fX6_needPoint a0 a2 h2) fun v3 h4 =>
  zvn v3 <|
  (zgR h4 a0 6 6).bind fun x5 =>
  (zgR h4 a0 6 1).bind fun x6 =>
  (zgR h4 x6 3 3).bind fun x7 =>
  (zar h4 x7 a1).bind fun x8 =>
  zcv (zob h4 x5 4) (fX4_countOf x5 x8 a2 h4) fun v9 h10 =>
  zvi v9 fun x11 =>
  some (.inl (some (.int x11)), h10)
set_option maxRecDepth 20000 in
theorem mX6_taken {V : VT} (hV : V.2.2.2.2.2.stackTraces = false) (d : Nat) (a0 : Nat) (a1 : Int32) (a2 : Int32) (h : AH) : zM V yX6_taken cX6_taken 3 (some .int) (d + 7) [.ref a0, .int a1, .int a2] h (fX6_taken a0 a1 a2 h) := by
  refine z_meth hV (by decide +kernel) (Nat.le_of_ble_eq_true rfl) [(0, .ref a0), (1, .int a1), (2, .int a2)] rfl (fun X => ?_)
  show zG X V RX6 "taken" cX6_taken 3 (some .int) (d + 7) h.1 h.2.1 (fX6_taken a0 a1 a2 h) 0 [(0, .ref a0), (1, .int a1), (2, .int a2)] [] h
  unfold fX6_taken
  refine z_aload_n 0 rfl rfl dX6_taken_0 ?_
  refine z_iload_n 1 rfl rfl dX6_taken_1 ?_
  refine z_cV (st := []) [.int a1] zk_RX6_108 rfl (Nat.le_of_ble_eq_true rfl) dX6_taken_2 (mX6_needPoly hV (d + 0) a0 a1 h) (fun v1 h2 => ?_)
  refine z_vn ?_
  refine z_aload_n 0 rfl rfl dX6_taken_5 ?_
  refine z_iload_n 2 rfl rfl dX6_taken_6 ?_
  refine z_cV (st := []) [.int a2] zk_RX6_111 rfl (Nat.le_of_ble_eq_true rfl) dX6_taken_7 (mX6_needPoint hV (d + 0) a0 a2 h2) (fun v3 h4 => ?_)
  refine z_vn ?_
  refine z_aload_n 0 rfl rfl dX6_taken_10 ?_
  refine z_gR zf_RX6_54 dX6_taken_11 (fun x5 => ?_)
  refine z_aload_n 0 rfl rfl dX6_taken_14 ?_
  refine z_gR zf_RX6_19 dX6_taken_15 (fun x6 => ?_)
  refine z_gR zf_RX6_114 dX6_taken_18 (fun x7 => ?_)
  refine z_iload_n 1 rfl rfl dX6_taken_21 ?_
  refine z_aR dX6_taken_22 (fun x8 => ?_)
  refine z_iload_n 2 rfl rfl dX6_taken_23 ?_
  refine z_cV (st := []) [.ref x8, .int a2] zk_RX6_174 rfl (Nat.le_of_ble_eq_true rfl) dX6_taken_24 (mX4_countOf hV (d + 5) x5 x8 a2 h4) (fun v9 h10 => ?_)
  refine z_vi (fun x11 => ?_)
  exact z_iret rfl dX6_taken_27
def fX6_image (a0 : Nat) (a1 : Int32) (h : AH) : RR :=
  zcv (zob h a0 6) (fX6_needPoly a0 a1 h) fun v1 h2 =>
  zvn v1 <|
  (zgR h2 a0 6 6).bind fun x3 =>
  (zgR h2 a0 6 1).bind fun x4 =>
  (zgR h2 x4 3 3).bind fun x5 =>
  (zar h2 x5 a1).bind fun x6 =>
  zcv (zob h2 x3 4) (fX4_imageOf x3 x6 h2) fun v7 h8 =>
  zvi v7 fun x9 =>
  some (.inl (some (.int x9)), h8)
set_option maxRecDepth 20000 in
theorem mX6_image {V : VT} (hV : V.2.2.2.2.2.stackTraces = false) (d : Nat) (a0 : Nat) (a1 : Int32) (h : AH) : zM V yX6_image cX6_image 2 (some .int) (d + 7) [.ref a0, .int a1] h (fX6_image a0 a1 h) := by
  refine z_meth hV (by decide +kernel) (Nat.le_of_ble_eq_true rfl) [(0, .ref a0), (1, .int a1)] rfl (fun X => ?_)
  show zG X V RX6 "image" cX6_image 2 (some .int) (d + 7) h.1 h.2.1 (fX6_image a0 a1 h) 0 [(0, .ref a0), (1, .int a1)] [] h
  unfold fX6_image
  refine z_aload_n 0 rfl rfl dX6_image_0 ?_
  refine z_iload_n 1 rfl rfl dX6_image_1 ?_
  refine z_cV (st := []) [.int a1] zk_RX6_108 rfl (Nat.le_of_ble_eq_true rfl) dX6_image_2 (mX6_needPoly hV (d + 0) a0 a1 h) (fun v1 h2 => ?_)
  refine z_vn ?_
  refine z_aload_n 0 rfl rfl dX6_image_5 ?_
  refine z_gR zf_RX6_54 dX6_image_6 (fun x3 => ?_)
  refine z_aload_n 0 rfl rfl dX6_image_9 ?_
  refine z_gR zf_RX6_19 dX6_image_10 (fun x4 => ?_)
  refine z_gR zf_RX6_114 dX6_image_13 (fun x5 => ?_)
  refine z_iload_n 1 rfl rfl dX6_image_16 ?_
  refine z_aR dX6_image_17 (fun x6 => ?_)
  refine z_cV (st := []) [.ref x6] zk_RX6_177 rfl (Nat.le_of_ble_eq_true rfl) dX6_image_18 (mX4_imageOf hV (d + 4) x3 x6 h2) (fun v7 h8 => ?_)
  refine z_vi (fun x9 => ?_)
  exact z_iret rfl dX6_image_21
def fX6_permutes (a0 : Nat) (a1 : Int32) (h : AH) : RR :=
  zcv (zob h a0 6) (fX6_needPoly a0 a1 h) fun v1 h2 =>
  zvn v1 <|
  (zgR h2 a0 6 6).bind fun x3 =>
  (zgR h2 a0 6 1).bind fun x4 =>
  (zgR h2 x4 3 3).bind fun x5 =>
  (zar h2 x5 a1).bind fun x6 =>
  zcv (zob h2 x3 4) (fX4_isPermuting x3 x6 h2) fun v7 h8 =>
  zvi v7 fun x9 =>
  if x9 = 0 then (
    some (.inl (some (.int 0)), h8))
  else
  some (.inl (some (.int 1)), h8)
set_option maxRecDepth 20000 in
theorem mX6_permutes {V : VT} (hV : V.2.2.2.2.2.stackTraces = false) (d : Nat) (a0 : Nat) (a1 : Int32) (h : AH) : zM V yX6_permutes cX6_permutes 2 (some .int) (d + 7) [.ref a0, .int a1] h (fX6_permutes a0 a1 h) := by
  refine z_meth hV (by decide +kernel) (Nat.le_of_ble_eq_true rfl) [(0, .ref a0), (1, .int a1)] rfl (fun X => ?_)
  show zG X V RX6 "permutes" cX6_permutes 2 (some .int) (d + 7) h.1 h.2.1 (fX6_permutes a0 a1 h) 0 [(0, .ref a0), (1, .int a1)] [] h
  unfold fX6_permutes
  refine z_aload_n 0 rfl rfl dX6_permutes_0 ?_
  refine z_iload_n 1 rfl rfl dX6_permutes_1 ?_
  refine z_cV (st := []) [.int a1] zk_RX6_108 rfl (Nat.le_of_ble_eq_true rfl) dX6_permutes_2 (mX6_needPoly hV (d + 0) a0 a1 h) (fun v1 h2 => ?_)
  refine z_vn ?_
  refine z_aload_n 0 rfl rfl dX6_permutes_5 ?_
  refine z_gR zf_RX6_54 dX6_permutes_6 (fun x3 => ?_)
  refine z_aload_n 0 rfl rfl dX6_permutes_9 ?_
  refine z_gR zf_RX6_19 dX6_permutes_10 (fun x4 => ?_)
  refine z_gR zf_RX6_114 dX6_permutes_13 (fun x5 => ?_)
  refine z_iload_n 1 rfl rfl dX6_permutes_16 ?_
  refine z_aR dX6_permutes_17 (fun x6 => ?_)
  refine z_cV (st := []) [.ref x6] zk_RX6_180 rfl (Nat.le_of_ble_eq_true rfl) dX6_permutes_18 (mX4_isPermuting hV (d + 3) x3 x6 h2) (fun v7 h8 => ?_)
  refine z_vi (fun x9 => ?_)
  refine z_if_eq 28 (by decide) dX6_permutes_21 ?_ ?_
  · refine z_iconst (v := 0) (by decide) dX6_permutes_28 ?_
    exact z_iret rfl dX6_permutes_29
  · refine z_iconst (v := 1) (by decide) dX6_permutes_24 ?_
    refine z_goto 29 (by decide) dX6_permutes_25 ?_
    exact z_iret rfl dX6_permutes_29
def fX6_powers (a0 : Nat) (a1 : Int32) (h : AH) : RR :=
  zcv (zob h a0 6) (fX6_needPoly a0 a1 h) fun v1 h2 =>
  zvn v1 <|
  (zgR h2 a0 6 6).bind fun x3 =>
  (zgR h2 a0 6 1).bind fun x4 =>
  (zgR h2 x4 3 3).bind fun x5 =>
  (zar h2 x5 a1).bind fun x6 =>
  zcv (zob h2 x3 4) (fX4_powersOf x3 x6 h2) fun v7 h8 =>
  zvi v7 fun x9 =>
  some (.inl (some (.int x9)), h8)
set_option maxRecDepth 20000 in
theorem mX6_powers {V : VT} (hV : V.2.2.2.2.2.stackTraces = false) (d : Nat) (a0 : Nat) (a1 : Int32) (h : AH) : zM V yX6_powers cX6_powers 2 (some .int) (d + 7) [.ref a0, .int a1] h (fX6_powers a0 a1 h) := by
  refine z_meth hV (by decide +kernel) (Nat.le_of_ble_eq_true rfl) [(0, .ref a0), (1, .int a1)] rfl (fun X => ?_)
  show zG X V RX6 "powers" cX6_powers 2 (some .int) (d + 7) h.1 h.2.1 (fX6_powers a0 a1 h) 0 [(0, .ref a0), (1, .int a1)] [] h
  unfold fX6_powers
  refine z_aload_n 0 rfl rfl dX6_powers_0 ?_
  refine z_iload_n 1 rfl rfl dX6_powers_1 ?_
  refine z_cV (st := []) [.int a1] zk_RX6_108 rfl (Nat.le_of_ble_eq_true rfl) dX6_powers_2 (mX6_needPoly hV (d + 0) a0 a1 h) (fun v1 h2 => ?_)
  refine z_vn ?_
  refine z_aload_n 0 rfl rfl dX6_powers_5 ?_
  refine z_gR zf_RX6_54 dX6_powers_6 (fun x3 => ?_)
  refine z_aload_n 0 rfl rfl dX6_powers_9 ?_
  refine z_gR zf_RX6_19 dX6_powers_10 (fun x4 => ?_)
  refine z_gR zf_RX6_114 dX6_powers_13 (fun x5 => ?_)
  refine z_iload_n 1 rfl rfl dX6_powers_16 ?_
  refine z_aR dX6_powers_17 (fun x6 => ?_)
  refine z_cV (st := []) [.ref x6] zk_RX6_184 rfl (Nat.le_of_ble_eq_true rfl) dX6_powers_18 (mX4_powersOf hV (d + 4) x3 x6 h2) (fun v7 h8 => ?_)
  refine z_vi (fun x9 => ?_)
  exact z_iret rfl dX6_powers_21
def fX6_cycles (a0 : Nat) (a1 : Int32) (a2 : Int32) (h : AH) : RR :=
  zcv (zob h a0 6) (fX6_needPoly a0 a1 h) fun v1 h2 =>
  zvn v1 <|
  zcv (zob h2 a0 6) (fX6_needNumber a0 a2 0 64 h2) fun v3 h4 =>
  zvn v3 <|
  zcv (zob h4 a0 6) (fX6_needPermuting a0 a1 h4) fun v5 h6 =>
  zvn v5 <|
  (zgR h6 a0 6 6).bind fun x7 =>
  (zgR h6 a0 6 1).bind fun x8 =>
  (zgR h6 x8 3 3).bind fun x9 =>
  (zar h6 x9 a1).bind fun x10 =>
  zcv (zob h6 x7 4) (fX4_findCycles x7 x10 h6) fun v11 h12 =>
  zvn v11 <|
  if a2 = 0 then (
    (zgR h12 a0 6 6).bind fun x13 =>
    (zgI h12 x13 4 0).bind fun x14 =>
    some (.inl (some (.int x14)), h12))
  else
  (zgR h12 a0 6 6).bind fun x15 =>
  (zgR h12 x15 4 1).bind fun x16 =>
  (zai h12 x16 a2).bind fun x17 =>
  some (.inl (some (.int x17)), h12)
set_option maxRecDepth 20000 in
theorem mX6_cycles {V : VT} (hV : V.2.2.2.2.2.stackTraces = false) (d : Nat) (a0 : Nat) (a1 : Int32) (a2 : Int32) (h : AH) : zM V yX6_cycles cX6_cycles 3 (some .int) (d + 7) [.ref a0, .int a1, .int a2] h (fX6_cycles a0 a1 a2 h) := by
  refine z_meth hV (by decide +kernel) (Nat.le_of_ble_eq_true rfl) [(0, .ref a0), (1, .int a1), (2, .int a2)] rfl (fun X => ?_)
  show zG X V RX6 "cycles" cX6_cycles 3 (some .int) (d + 7) h.1 h.2.1 (fX6_cycles a0 a1 a2 h) 0 [(0, .ref a0), (1, .int a1), (2, .int a2)] [] h
  unfold fX6_cycles
  refine z_aload_n 0 rfl rfl dX6_cycles_0 ?_
  refine z_iload_n 1 rfl rfl dX6_cycles_1 ?_
  refine z_cV (st := []) [.int a1] zk_RX6_108 rfl (Nat.le_of_ble_eq_true rfl) dX6_cycles_2 (mX6_needPoly hV (d + 0) a0 a1 h) (fun v1 h2 => ?_)
  refine z_vn ?_
  refine z_aload_n 0 rfl rfl dX6_cycles_5 ?_
  refine z_iload_n 2 rfl rfl dX6_cycles_6 ?_
  refine z_iconst (v := 0) (by decide) dX6_cycles_7 ?_
  refine z_bipush (v := 64) (by decide) dX6_cycles_8 ?_
  refine z_cV (st := []) [.int a2, .int 0, .int 64] zk_RX6_73 rfl (Nat.le_of_ble_eq_true rfl) dX6_cycles_10 (mX6_needNumber hV (d + 0) a0 a2 0 64 h2) (fun v3 h4 => ?_)
  refine z_vn ?_
  refine z_aload_n 0 rfl rfl dX6_cycles_13 ?_
  refine z_iload_n 1 rfl rfl dX6_cycles_14 ?_
  refine z_cV (st := []) [.int a1] zk_RX6_130 rfl (Nat.le_of_ble_eq_true rfl) dX6_cycles_15 (mX6_needPermuting hV (d + 0) a0 a1 h4) (fun v5 h6 => ?_)
  refine z_vn ?_
  refine z_aload_n 0 rfl rfl dX6_cycles_18 ?_
  refine z_gR zf_RX6_54 dX6_cycles_19 (fun x7 => ?_)
  refine z_aload_n 0 rfl rfl dX6_cycles_22 ?_
  refine z_gR zf_RX6_19 dX6_cycles_23 (fun x8 => ?_)
  refine z_gR zf_RX6_114 dX6_cycles_26 (fun x9 => ?_)
  refine z_iload_n 1 rfl rfl dX6_cycles_29 ?_
  refine z_aR dX6_cycles_30 (fun x10 => ?_)
  refine z_cV (st := []) [.ref x10] zk_RX6_187 rfl (Nat.le_of_ble_eq_true rfl) dX6_cycles_31 (mX4_findCycles hV (d + 5) x7 x10 h6) (fun v11 h12 => ?_)
  refine z_vn ?_
  refine z_iload_n 2 rfl rfl dX6_cycles_34 ?_
  refine z_if_ne 48 (by decide) dX6_cycles_35 ?_ ?_
  · refine z_aload_n 0 rfl rfl dX6_cycles_38 ?_
    refine z_gR zf_RX6_54 dX6_cycles_39 (fun x13 => ?_)
    refine z_gI zf_RX6_191 dX6_cycles_42 (fun x14 => ?_)
    refine z_goto 57 (by decide) dX6_cycles_45 ?_
    exact z_iret rfl dX6_cycles_57
  · refine z_aload_n 0 rfl rfl dX6_cycles_48 ?_
    refine z_gR zf_RX6_54 dX6_cycles_49 (fun x15 => ?_)
    refine z_gR zf_RX6_194 dX6_cycles_52 (fun x16 => ?_)
    refine z_iload_n 2 rfl rfl dX6_cycles_55 ?_
    refine z_aI dX6_cycles_56 (fun x17 => ?_)
    exact z_iret rfl dX6_cycles_57
def fX6_order (a0 : Nat) (a1 : Int32) (h : AH) : RR :=
  zcv (zob h a0 6) (fX6_needPoly a0 a1 h) fun v1 h2 =>
  zvn v1 <|
  zcv (zob h2 a0 6) (fX6_needPermuting a0 a1 h2) fun v3 h4 =>
  zvn v3 <|
  (zgR h4 a0 6 6).bind fun x5 =>
  (zgR h4 a0 6 1).bind fun x6 =>
  (zgR h4 x6 3 3).bind fun x7 =>
  (zar h4 x7 a1).bind fun x8 =>
  zcv (zob h4 x5 4) (fX4_findCycles x5 x8 h4) fun v9 h10 =>
  zvn v9 <|
  (zgR h10 a0 6 6).bind fun x11 =>
  zcv (zob h10 x11 4) (fX4_cycleMultiple x11 h10) fun v12 h13 =>
  zvi v12 fun x14 =>
  some (.inl (some (.int x14)), h13)
set_option maxRecDepth 20000 in
theorem mX6_order {V : VT} (hV : V.2.2.2.2.2.stackTraces = false) (d : Nat) (a0 : Nat) (a1 : Int32) (h : AH) : zM V yX6_order cX6_order 2 (some .int) (d + 7) [.ref a0, .int a1] h (fX6_order a0 a1 h) := by
  refine z_meth hV (by decide +kernel) (Nat.le_of_ble_eq_true rfl) [(0, .ref a0), (1, .int a1)] rfl (fun X => ?_)
  show zG X V RX6 "order" cX6_order 2 (some .int) (d + 7) h.1 h.2.1 (fX6_order a0 a1 h) 0 [(0, .ref a0), (1, .int a1)] [] h
  unfold fX6_order
  refine z_aload_n 0 rfl rfl dX6_order_0 ?_
  refine z_iload_n 1 rfl rfl dX6_order_1 ?_
  refine z_cV (st := []) [.int a1] zk_RX6_108 rfl (Nat.le_of_ble_eq_true rfl) dX6_order_2 (mX6_needPoly hV (d + 0) a0 a1 h) (fun v1 h2 => ?_)
  refine z_vn ?_
  refine z_aload_n 0 rfl rfl dX6_order_5 ?_
  refine z_iload_n 1 rfl rfl dX6_order_6 ?_
  refine z_cV (st := []) [.int a1] zk_RX6_130 rfl (Nat.le_of_ble_eq_true rfl) dX6_order_7 (mX6_needPermuting hV (d + 0) a0 a1 h2) (fun v3 h4 => ?_)
  refine z_vn ?_
  refine z_aload_n 0 rfl rfl dX6_order_10 ?_
  refine z_gR zf_RX6_54 dX6_order_11 (fun x5 => ?_)
  refine z_aload_n 0 rfl rfl dX6_order_14 ?_
  refine z_gR zf_RX6_19 dX6_order_15 (fun x6 => ?_)
  refine z_gR zf_RX6_114 dX6_order_18 (fun x7 => ?_)
  refine z_iload_n 1 rfl rfl dX6_order_21 ?_
  refine z_aR dX6_order_22 (fun x8 => ?_)
  refine z_cV (st := []) [.ref x8] zk_RX6_187 rfl (Nat.le_of_ble_eq_true rfl) dX6_order_23 (mX4_findCycles hV (d + 5) x5 x8 h4) (fun v9 h10 => ?_)
  refine z_vn ?_
  refine z_aload_n 0 rfl rfl dX6_order_26 ?_
  refine z_gR zf_RX6_54 dX6_order_27 (fun x11 => ?_)
  refine z_cV (st := []) [] zk_RX6_197 rfl (Nat.le_of_ble_eq_true rfl) dX6_order_30 (mX4_cycleMultiple hV (d + 4) x11 h10) (fun v12 h13 => ?_)
  refine z_vi (fun x14 => ?_)
  exact z_iret rfl dX6_order_33
def fX6_even (a0 : Nat) (a1 : Int32) (h : AH) : RR :=
  zcv (zob h a0 6) (fX6_needPoly a0 a1 h) fun v1 h2 =>
  zvn v1 <|
  zcv (zob h2 a0 6) (fX6_needPermuting a0 a1 h2) fun v3 h4 =>
  zvn v3 <|
  (zgR h4 a0 6 6).bind fun x5 =>
  (zgR h4 a0 6 1).bind fun x6 =>
  (zgR h4 x6 3 3).bind fun x7 =>
  (zar h4 x7 a1).bind fun x8 =>
  zcv (zob h4 x5 4) (fX4_findCycles x5 x8 h4) fun v9 h10 =>
  zvn v9 <|
  (zgR h10 a0 6 0).bind fun x11 =>
  (zgI h10 x11 0 2).bind fun x12 =>
  (zgR h10 a0 6 6).bind fun x13 =>
  (zgI h10 x13 4 0).bind fun x14 =>
  if (2 : Int32) = 0 then none else
  if ((x12 - x14) - (x12 - x14) / 2 * 2) = 0 then (
    some (.inl (some (.int 1)), h10))
  else
  some (.inl (some (.int 0)), h10)
set_option maxRecDepth 20000 in
theorem mX6_even {V : VT} (hV : V.2.2.2.2.2.stackTraces = false) (d : Nat) (a0 : Nat) (a1 : Int32) (h : AH) : zM V yX6_even cX6_even 2 (some .int) (d + 7) [.ref a0, .int a1] h (fX6_even a0 a1 h) := by
  refine z_meth hV (by decide +kernel) (Nat.le_of_ble_eq_true rfl) [(0, .ref a0), (1, .int a1)] rfl (fun X => ?_)
  show zG X V RX6 "even" cX6_even 2 (some .int) (d + 7) h.1 h.2.1 (fX6_even a0 a1 h) 0 [(0, .ref a0), (1, .int a1)] [] h
  unfold fX6_even
  refine z_aload_n 0 rfl rfl dX6_even_0 ?_
  refine z_iload_n 1 rfl rfl dX6_even_1 ?_
  refine z_cV (st := []) [.int a1] zk_RX6_108 rfl (Nat.le_of_ble_eq_true rfl) dX6_even_2 (mX6_needPoly hV (d + 0) a0 a1 h) (fun v1 h2 => ?_)
  refine z_vn ?_
  refine z_aload_n 0 rfl rfl dX6_even_5 ?_
  refine z_iload_n 1 rfl rfl dX6_even_6 ?_
  refine z_cV (st := []) [.int a1] zk_RX6_130 rfl (Nat.le_of_ble_eq_true rfl) dX6_even_7 (mX6_needPermuting hV (d + 0) a0 a1 h2) (fun v3 h4 => ?_)
  refine z_vn ?_
  refine z_aload_n 0 rfl rfl dX6_even_10 ?_
  refine z_gR zf_RX6_54 dX6_even_11 (fun x5 => ?_)
  refine z_aload_n 0 rfl rfl dX6_even_14 ?_
  refine z_gR zf_RX6_19 dX6_even_15 (fun x6 => ?_)
  refine z_gR zf_RX6_114 dX6_even_18 (fun x7 => ?_)
  refine z_iload_n 1 rfl rfl dX6_even_21 ?_
  refine z_aR dX6_even_22 (fun x8 => ?_)
  refine z_cV (st := []) [.ref x8] zk_RX6_187 rfl (Nat.le_of_ble_eq_true rfl) dX6_even_23 (mX4_findCycles hV (d + 5) x5 x8 h4) (fun v9 h10 => ?_)
  refine z_vn ?_
  refine z_aload_n 0 rfl rfl dX6_even_26 ?_
  refine z_gR zf_RX6_10 dX6_even_27 (fun x11 => ?_)
  refine z_gI zf_RX6_147 dX6_even_30 (fun x12 => ?_)
  refine z_aload_n 0 rfl rfl dX6_even_33 ?_
  refine z_gR zf_RX6_54 dX6_even_34 (fun x13 => ?_)
  refine z_gI zf_RX6_191 dX6_even_37 (fun x14 => ?_)
  refine z_isub dX6_even_40 ?_
  refine z_iconst (v := 2) (by decide) dX6_even_41 ?_
  refine z_irem dX6_even_42 ?_
  refine z_if_ne 50 (by decide) dX6_even_43 ?_ ?_
  · refine z_iconst (v := 1) (by decide) dX6_even_46 ?_
    refine z_goto 51 (by decide) dX6_even_47 ?_
    exact z_iret rfl dX6_even_51
  · refine z_iconst (v := 0) (by decide) dX6_even_50 ?_
    exact z_iret rfl dX6_even_51
def fX6_orbit (a0 : Nat) (a1 : Int32) (h : AH) : RR :=
  zcv (zob h a0 6) (fX6_needPoint a0 a1 h) fun v1 h2 =>
  zvn v1 <|
  (zgR h2 a0 6 6).bind fun x3 =>
  (zgR h2 a0 6 1).bind fun x4 =>
  zcv (zob h2 x3 4) (fX4_reachFrom x3 a1 x4 h2) fun v5 h6 =>
  zvj v5 fun x7 =>
  zca (fJ13_bitCount_95d88 x7 h6) fun v8 h9 =>
  zvi v8 fun x10 =>
  some (.inl (some (.int x10)), h9)
set_option maxRecDepth 20000 in
theorem mX6_orbit {V : VT} (hV : V.2.2.2.2.2.stackTraces = false) (d : Nat) (a0 : Nat) (a1 : Int32) (h : AH) : zM V yX6_orbit cX6_orbit 2 (some .int) (d + 7) [.ref a0, .int a1] h (fX6_orbit a0 a1 h) := by
  refine z_meth hV (by decide +kernel) (Nat.le_of_ble_eq_true rfl) [(0, .ref a0), (1, .int a1)] rfl (fun X => ?_)
  show zG X V RX6 "orbit" cX6_orbit 2 (some .int) (d + 7) h.1 h.2.1 (fX6_orbit a0 a1 h) 0 [(0, .ref a0), (1, .int a1)] [] h
  unfold fX6_orbit
  refine z_aload_n 0 rfl rfl dX6_orbit_0 ?_
  refine z_iload_n 1 rfl rfl dX6_orbit_1 ?_
  refine z_cV (st := []) [.int a1] zk_RX6_111 rfl (Nat.le_of_ble_eq_true rfl) dX6_orbit_2 (mX6_needPoint hV (d + 0) a0 a1 h) (fun v1 h2 => ?_)
  refine z_vn ?_
  refine z_aload_n 0 rfl rfl dX6_orbit_5 ?_
  refine z_gR zf_RX6_54 dX6_orbit_6 (fun x3 => ?_)
  refine z_iload_n 1 rfl rfl dX6_orbit_9 ?_
  refine z_aload_n 0 rfl rfl dX6_orbit_10 ?_
  refine z_gR zf_RX6_19 dX6_orbit_11 (fun x4 => ?_)
  refine z_cV (st := []) [.int a1, .ref x4] zk_RX6_201 rfl (Nat.le_of_ble_eq_true rfl) dX6_orbit_14 (mX4_reachFrom hV (d + 2) x3 a1 x4 h2) (fun v5 h6 => ?_)
  refine z_vj (fun x7 => ?_)
  refine z_cS (st := []) [.long x7] zk_RX6_205 rfl (Nat.le_of_ble_eq_true rfl) dX6_orbit_17 (mJ13_bitCount_95d88 hV (d + 5) x7 h6) (fun v8 h9 => ?_)
  refine z_vi (fun x10 => ?_)
  exact z_iret rfl dX6_orbit_20
def fX6_orbits_7 : Nat → Nat → Int64 → Int32 → Int32 → AH → RR
  | 0, _, _, _, _, _ => none
  | k + 1, l0, l1, l3, l4, h =>
  (zgR h l0 6 0).bind fun x1 =>
  (zgI h x1 0 2).bind fun x2 =>
  if x2 ≤ l4 then (
    some (.inl (some (.int l3)), h))
  else
  if (lg_cmp (((l1.toUInt64 >>> (l4.toInt64.toUInt64 &&& Int64.toUInt64 63)).toInt64) &&& 1) 0) = 0 then (
    (zgR h l0 6 6).bind fun x3 =>
    (zgR h l0 6 1).bind fun x4 =>
    zcv (zob h x3 4) (fX4_reachFrom x3 l4 x4 h) fun v5 h6 =>
    zvj v5 fun x7 =>
    fX6_orbits_7 k l0 (l1 ||| x7) (l3 + 1) (l4 + 1) h6)
  else
  fX6_orbits_7 k l0 l1 l3 (l4 + 1) h
set_option maxRecDepth 20000 in
theorem rX6_orbits_7 {X : CT} {V : VT} {d n0 k0 : Nat} (hV : V.2.2.2.2.2.stackTraces = false) (fu : Nat) : ∀ (l0 : Nat) (l1 : Int64) (l3 : Int32) (l4 : Int32) (h : AH), zG X V RX6 "orbits" cX6_orbits 5 (some .int) (d + 5) n0 k0 (fX6_orbits_7 fu l0 l1 l3 l4 h) 7 [(0, .ref l0), (1, .long l1), (3, .int l3), (4, .int l4)] [] h := by
  induction fu with
  | zero => intros; exact z_none
  | succ k ih =>
    intro l0 l1 l3 l4 h
    rw [fX6_orbits_7]
    refine z_iload 3 rfl dX6_orbits_7 ?_
    refine z_aload_n 0 rfl rfl dX6_orbits_9 ?_
    refine z_gR zf_RX6_10 dX6_orbits_10 (fun x1 => ?_)
    refine z_gI zf_RX6_147 dX6_orbits_13 (fun x2 => ?_)
    refine z_icmp_ge 55 (by decide) dX6_orbits_16 ?_ ?_
    · refine z_iload_n 2 rfl rfl dX6_orbits_55 ?_
      exact z_iret rfl dX6_orbits_56
    · refine z_lload_n 1 rfl rfl dX6_orbits_19 ?_
      refine z_iload 3 rfl dX6_orbits_20 ?_
      refine z_lushr dX6_orbits_22 ?_
      refine z_lconst (v := 1) (by decide) dX6_orbits_23 ?_
      refine z_land dX6_orbits_24 ?_
      refine z_lconst (v := 0) (by decide) dX6_orbits_25 ?_
      refine z_lcmp dX6_orbits_26 ?_
      refine z_if_ne 49 (by decide) dX6_orbits_27 ?_ ?_
      · refine z_lload_n 1 rfl rfl dX6_orbits_30 ?_
        refine z_aload_n 0 rfl rfl dX6_orbits_31 ?_
        refine z_gR zf_RX6_54 dX6_orbits_32 (fun x3 => ?_)
        refine z_iload 3 rfl dX6_orbits_35 ?_
        refine z_aload_n 0 rfl rfl dX6_orbits_37 ?_
        refine z_gR zf_RX6_19 dX6_orbits_38 (fun x4 => ?_)
        refine z_cV (st := [.long l1]) [.int l4, .ref x4] zk_RX6_201 rfl (Nat.le_of_ble_eq_true rfl) dX6_orbits_41 (mX4_reachFrom hV (d + 0) x3 l4 x4 h) (fun v5 h6 => ?_)
        refine z_vj (fun x7 => ?_)
        refine z_lor dX6_orbits_44 ?_
        refine z_lstore_n (lv' := [(1, .long (l1 ||| x7)), (0, .ref l0), (3, .int l3), (4, .int l4)]) rfl (by decide) rfl dX6_orbits_45 ?_
        refine z_inc (w := 1) (lv' := [(3, .int (l3 + 1)), (1, .long (l1 ||| x7)), (0, .ref l0), (4, .int l4)]) 2 rfl (by decide) (by decide) rfl dX6_orbits_46 ?_
        refine z_inc (w := 1) (lv' := [(4, .int (l4 + 1)), (3, .int (l3 + 1)), (1, .long (l1 ||| x7)), (0, .ref l0)]) 3 rfl (by decide) (by decide) rfl dX6_orbits_49 ?_
        refine z_goto 7 (by decide) dX6_orbits_52 ?_
        exact z_sub [3, 2, 1, 0] rfl (ih l0 (l1 ||| x7) (l3 + 1) (l4 + 1) h6)
      · refine z_inc (w := 1) (lv' := [(4, .int (l4 + 1)), (0, .ref l0), (1, .long l1), (3, .int l3)]) 3 rfl (by decide) (by decide) rfl dX6_orbits_49 ?_
        refine z_goto 7 (by decide) dX6_orbits_52 ?_
        exact z_sub [1, 2, 3, 0] rfl (ih l0 l1 l3 (l4 + 1) h)
def fX6_orbits (a0 : Nat) (h : AH) : RR :=
  fX6_orbits_7 FU a0 0 0 0 h
set_option maxRecDepth 20000 in
theorem mX6_orbits {V : VT} (hV : V.2.2.2.2.2.stackTraces = false) (d : Nat) (a0 : Nat) (h : AH) : zM V yX6_orbits cX6_orbits 5 (some .int) (d + 5) [.ref a0] h (fX6_orbits a0 h) := by
  refine z_meth hV (by decide +kernel) (Nat.le_of_ble_eq_true rfl) [(0, .ref a0)] rfl (fun X => ?_)
  show zG X V RX6 "orbits" cX6_orbits 5 (some .int) (d + 5) h.1 h.2.1 (fX6_orbits a0 h) 0 [(0, .ref a0)] [] h
  unfold fX6_orbits
  refine z_lconst (v := 0) (by decide) dX6_orbits_0 ?_
  refine z_lstore_n (lv' := [(1, .long 0), (0, .ref a0)]) rfl (by decide) rfl dX6_orbits_1 ?_
  refine z_iconst (v := 0) (by decide) dX6_orbits_2 ?_
  refine z_istore_n (lv' := [(3, .int 0), (1, .long 0), (0, .ref a0)]) rfl (by decide) rfl dX6_orbits_3 ?_
  refine z_iconst (v := 0) (by decide) dX6_orbits_4 ?_
  refine z_istore (lv' := [(4, .int 0), (3, .int 0), (1, .long 0), (0, .ref a0)]) (by decide) rfl dX6_orbits_5 ?_
  exact z_sub [3, 2, 1, 0] rfl (rX6_orbits_7 hV FU a0 0 0 0 h)
def fX6_spread (a0 : Nat) (a1 : Int32) (h : AH) : RR :=
  zcv (zob h a0 6) (fX6_needPoly a0 a1 h) fun v1 h2 =>
  zvn v1 <|
  (zgR h2 a0 6 6).bind fun x3 =>
  (zgR h2 a0 6 1).bind fun x4 =>
  (zgR h2 x4 3 3).bind fun x5 =>
  (zar h2 x5 a1).bind fun x6 =>
  zcv (zob h2 x3 4) (fX4_spreadOf x3 x6 h2) fun v7 h8 =>
  zvi v7 fun x9 =>
  some (.inl (some (.int x9)), h8)
set_option maxRecDepth 20000 in
theorem mX6_spread {V : VT} (hV : V.2.2.2.2.2.stackTraces = false) (d : Nat) (a0 : Nat) (a1 : Int32) (h : AH) : zM V yX6_spread cX6_spread 2 (some .int) (d + 7) [.ref a0, .int a1] h (fX6_spread a0 a1 h) := by
  refine z_meth hV (by decide +kernel) (Nat.le_of_ble_eq_true rfl) [(0, .ref a0), (1, .int a1)] rfl (fun X => ?_)
  show zG X V RX6 "spread" cX6_spread 2 (some .int) (d + 7) h.1 h.2.1 (fX6_spread a0 a1 h) 0 [(0, .ref a0), (1, .int a1)] [] h
  unfold fX6_spread
  refine z_aload_n 0 rfl rfl dX6_spread_0 ?_
  refine z_iload_n 1 rfl rfl dX6_spread_1 ?_
  refine z_cV (st := []) [.int a1] zk_RX6_108 rfl (Nat.le_of_ble_eq_true rfl) dX6_spread_2 (mX6_needPoly hV (d + 0) a0 a1 h) (fun v1 h2 => ?_)
  refine z_vn ?_
  refine z_aload_n 0 rfl rfl dX6_spread_5 ?_
  refine z_gR zf_RX6_54 dX6_spread_6 (fun x3 => ?_)
  refine z_aload_n 0 rfl rfl dX6_spread_9 ?_
  refine z_gR zf_RX6_19 dX6_spread_10 (fun x4 => ?_)
  refine z_gR zf_RX6_114 dX6_spread_13 (fun x5 => ?_)
  refine z_iload_n 1 rfl rfl dX6_spread_16 ?_
  refine z_aR dX6_spread_17 (fun x6 => ?_)
  refine z_cV (st := []) [.ref x6] zk_RX6_211 rfl (Nat.le_of_ble_eq_true rfl) dX6_spread_18 (mX4_spreadOf hV (d + 4) x3 x6 h2) (fun v7 h8 => ?_)
  refine z_vi (fun x9 => ?_)
  exact z_iret rfl dX6_spread_21
def fX6_monomials (a0 : Nat) (h : AH) : RR :=
  (zgR h a0 6 6).bind fun x1 =>
  zcv (zob h x1 4) (fX4_permutingMonomials x1 h) fun v2 h3 =>
  zvj v2 fun x4 =>
  some (.inl (some (.long x4)), h3)
set_option maxRecDepth 20000 in
theorem mX6_monomials {V : VT} (hV : V.2.2.2.2.2.stackTraces = false) (d : Nat) (a0 : Nat) (h : AH) : zM V yX6_monomials cX6_monomials 1 (some .long) (d + 5) [.ref a0] h (fX6_monomials a0 h) := by
  refine z_meth hV (by decide +kernel) (Nat.le_of_ble_eq_true rfl) [(0, .ref a0)] rfl (fun X => ?_)
  show zG X V RX6 "monomials" cX6_monomials 1 (some .long) (d + 5) h.1 h.2.1 (fX6_monomials a0 h) 0 [(0, .ref a0)] [] h
  unfold fX6_monomials
  refine z_aload_n 0 rfl rfl dX6_monomials_0 ?_
  refine z_gR zf_RX6_54 dX6_monomials_1 (fun x1 => ?_)
  refine z_cV (st := []) [] zk_RX6_214 rfl (Nat.le_of_ble_eq_true rfl) dX6_monomials_4 (mX4_permutingMonomials hV (d + 0) x1 h) (fun v2 h3 => ?_)
  refine z_vj (fun x4 => ?_)
  exact z_lret rfl dX6_monomials_7
def fX6_dicksons (a0 : Nat) (a1 : Int32) (h : AH) : RR :=
  zcv (zob h a0 6) (fX6_needPoint a0 a1 h) fun v1 h2 =>
  zvn v1 <|
  (zgR h2 a0 6 6).bind fun x3 =>
  zcv (zob h2 x3 4) (fX4_permutingDicksons x3 a1 h2) fun v4 h5 =>
  zvj v4 fun x6 =>
  some (.inl (some (.long x6)), h5)
set_option maxRecDepth 20000 in
theorem mX6_dicksons {V : VT} (hV : V.2.2.2.2.2.stackTraces = false) (d : Nat) (a0 : Nat) (a1 : Int32) (h : AH) : zM V yX6_dicksons cX6_dicksons 2 (some .long) (d + 7) [.ref a0, .int a1] h (fX6_dicksons a0 a1 h) := by
  refine z_meth hV (by decide +kernel) (Nat.le_of_ble_eq_true rfl) [(0, .ref a0), (1, .int a1)] rfl (fun X => ?_)
  show zG X V RX6 "dicksons" cX6_dicksons 2 (some .long) (d + 7) h.1 h.2.1 (fX6_dicksons a0 a1 h) 0 [(0, .ref a0), (1, .int a1)] [] h
  unfold fX6_dicksons
  refine z_aload_n 0 rfl rfl dX6_dicksons_0 ?_
  refine z_iload_n 1 rfl rfl dX6_dicksons_1 ?_
  refine z_cV (st := []) [.int a1] zk_RX6_111 rfl (Nat.le_of_ble_eq_true rfl) dX6_dicksons_2 (mX6_needPoint hV (d + 0) a0 a1 h) (fun v1 h2 => ?_)
  refine z_vn ?_
  refine z_aload_n 0 rfl rfl dX6_dicksons_5 ?_
  refine z_gR zf_RX6_54 dX6_dicksons_6 (fun x3 => ?_)
  refine z_iload_n 1 rfl rfl dX6_dicksons_9 ?_
  refine z_cV (st := []) [.int a1] zk_RX6_218 rfl (Nat.le_of_ble_eq_true rfl) dX6_dicksons_10 (mX4_permutingDicksons hV (d + 2) x3 a1 h2) (fun v4 h5 => ?_)
  refine z_vj (fun x6 => ?_)
  exact z_lret rfl dX6_dicksons_13
def fX6_binomials (a0 : Nat) (a1 : Int32) (h : AH) : RR :=
  zcv (zob h a0 6) (fX6_needNumber a0 a1 2 63 h) fun v1 h2 =>
  zvn v1 <|
  (zgR h2 a0 6 6).bind fun x3 =>
  zcv (zob h2 x3 4) (fX4_permutingBinomials x3 a1 h2) fun v4 h5 =>
  zvi v4 fun x6 =>
  some (.inl (some (.int x6)), h5)
set_option maxRecDepth 20000 in
theorem mX6_binomials {V : VT} (hV : V.2.2.2.2.2.stackTraces = false) (d : Nat) (a0 : Nat) (a1 : Int32) (h : AH) : zM V yX6_binomials cX6_binomials 2 (some .int) (d + 7) [.ref a0, .int a1] h (fX6_binomials a0 a1 h) := by
  refine z_meth hV (by decide +kernel) (Nat.le_of_ble_eq_true rfl) [(0, .ref a0), (1, .int a1)] rfl (fun X => ?_)
  show zG X V RX6 "binomials" cX6_binomials 2 (some .int) (d + 7) h.1 h.2.1 (fX6_binomials a0 a1 h) 0 [(0, .ref a0), (1, .int a1)] [] h
  unfold fX6_binomials
  refine z_aload_n 0 rfl rfl dX6_binomials_0 ?_
  refine z_iload_n 1 rfl rfl dX6_binomials_1 ?_
  refine z_iconst (v := 2) (by decide) dX6_binomials_2 ?_
  refine z_bipush (v := 63) (by decide) dX6_binomials_3 ?_
  refine z_cV (st := []) [.int a1, .int 2, .int 63] zk_RX6_73 rfl (Nat.le_of_ble_eq_true rfl) dX6_binomials_5 (mX6_needNumber hV (d + 0) a0 a1 2 63 h) (fun v1 h2 => ?_)
  refine z_vn ?_
  refine z_aload_n 0 rfl rfl dX6_binomials_8 ?_
  refine z_gR zf_RX6_54 dX6_binomials_9 (fun x3 => ?_)
  refine z_iload_n 1 rfl rfl dX6_binomials_12 ?_
  refine z_cV (st := []) [.int a1] zk_RX6_222 rfl (Nat.le_of_ble_eq_true rfl) dX6_binomials_13 (mX4_permutingBinomials hV (d + 2) x3 a1 h2) (fun v4 h5 => ?_)
  refine z_vi (fun x6 => ?_)
  exact z_iret rfl dX6_binomials_16
def fX6_print_29 (K4 : Nat → Int64 → Int32 → AH → RR) : Nat → Nat → Int64 → Int32 → Nat → Int32 → AH → RR
  | 0, _, _, _, _, _, _ => none
  | k + 1, l0, l1, l3, l4, l5, h =>
  (zgR h l0 6 0).bind fun x1 =>
  (zgI h x1 0 2).bind fun x2 =>
  if x2 ≤ l5 then (
    K4 l0 l1 (l3 + 1) h)
  else
  (zai h l4 l5).bind fun x3 =>
  zletJ (((31 : Int64) * l1) + x3.toInt64) fun w4 =>
  fX6_print_29 K4 k l0 w4 l3 l4 (l5 + 1) h
set_option maxRecDepth 20000 in
theorem rX6_print_29 {X : CT} {V : VT} {d n0 k0 : Nat} (hV : V.2.2.2.2.2.stackTraces = false) (K4 : Nat → Int64 → Int32 → AH → RR) (hK4 : ∀ l0 l1 l3  h, zG X V RX6 "print" cX6_print 6 (some .long) (d + 1) n0 k0 (K4 l0 l1 l3 h) 4 [(0, .ref l0), (1, .long l1), (3, .int l3)] [] h) (fu : Nat) : ∀ (l0 : Nat) (l1 : Int64) (l3 : Int32) (l4 : Nat) (l5 : Int32) (h : AH), zG X V RX6 "print" cX6_print 6 (some .long) (d + 1) n0 k0 (fX6_print_29 K4 fu l0 l1 l3 l4 l5 h) 29 [(0, .ref l0), (1, .long l1), (3, .int l3), (4, .ref l4), (5, .int l5)] [] h := by
  induction fu with
  | zero => intros; exact z_none
  | succ k ih =>
    intro l0 l1 l3 l4 l5 h
    rw [fX6_print_29]
    refine z_iload 4 rfl dX6_print_29 ?_
    refine z_aload_n 0 rfl rfl dX6_print_31 ?_
    refine z_gR zf_RX6_10 dX6_print_32 (fun x1 => ?_)
    refine z_gI zf_RX6_147 dX6_print_35 (fun x2 => ?_)
    refine z_icmp_ge 60 (by decide) dX6_print_38 ?_ ?_
    · refine z_inc (w := 1) (lv' := [(3, .int (l3 + 1)), (0, .ref l0), (1, .long l1), (4, .ref l4), (5, .int l5)]) 2 rfl (by decide) (by decide) rfl dX6_print_60 ?_
      refine z_goto 4 (by decide) dX6_print_63 ?_
      exact z_sub [1, 2, 0] rfl (hK4 l0 l1 (l3 + 1) h)
    · refine z_ldc2 zw_419 dX6_print_41 ?_
      refine z_lload_n 1 rfl rfl dX6_print_44 ?_
      refine z_lmul dX6_print_45 ?_
      refine z_aload 3 rfl dX6_print_46 ?_
      refine z_iload 4 rfl dX6_print_48 ?_
      refine z_aI dX6_print_50 (fun x3 => ?_)
      refine z_i2l dX6_print_51 ?_
      refine z_ladd dX6_print_52 ?_
      refine z_topJ (fun w4 => ?_)
      refine z_lstore_n (lv' := [(1, .long w4), (0, .ref l0), (3, .int l3), (4, .ref l4), (5, .int l5)]) rfl (by decide) rfl dX6_print_53 ?_
      refine z_inc (w := 1) (lv' := [(5, .int (l5 + 1)), (1, .long w4), (0, .ref l0), (3, .int l3), (4, .ref l4)]) 4 rfl (by decide) (by decide) rfl dX6_print_54 ?_
      refine z_goto 29 (by decide) dX6_print_57 ?_
      exact z_sub [2, 1, 3, 4, 0] rfl (ih l0 w4 l3 l4 (l5 + 1) h)
def fX6_print_4 : Nat → Nat → Int64 → Int32 → AH → RR
  | 0, _, _, _, _ => none
  | k + 1, l0, l1, l3, h =>
  (zgR h l0 6 1).bind fun x1 =>
  (zgI h x1 3 2).bind fun x2 =>
  if x2 ≤ l3 then (
    some (.inl (some (.long l1)), h))
  else
  (zgR h l0 6 1).bind fun x3 =>
  (zgR h x3 3 3).bind fun x4 =>
  (zar h x4 l3).bind fun x5 =>
  fX6_print_29 (fun p0 p1 p3 h => fX6_print_4 k p0 p1 p3 h) FU l0 l1 l3 x5 0 h
set_option maxRecDepth 20000 in
theorem rX6_print_4 {X : CT} {V : VT} {d n0 k0 : Nat} (hV : V.2.2.2.2.2.stackTraces = false) (fu : Nat) : ∀ (l0 : Nat) (l1 : Int64) (l3 : Int32) (h : AH), zG X V RX6 "print" cX6_print 6 (some .long) (d + 1) n0 k0 (fX6_print_4 fu l0 l1 l3 h) 4 [(0, .ref l0), (1, .long l1), (3, .int l3)] [] h := by
  induction fu with
  | zero => intros; exact z_none
  | succ k ih =>
    intro l0 l1 l3 h
    rw [fX6_print_4]
    refine z_iload_n 2 rfl rfl dX6_print_4 ?_
    refine z_aload_n 0 rfl rfl dX6_print_5 ?_
    refine z_gR zf_RX6_19 dX6_print_6 (fun x1 => ?_)
    refine z_gI zf_RX6_105 dX6_print_9 (fun x2 => ?_)
    refine z_icmp_ge 66 (by decide) dX6_print_12 ?_ ?_
    · refine z_lload_n 1 rfl rfl dX6_print_66 ?_
      exact z_lret rfl dX6_print_67
    · refine z_aload_n 0 rfl rfl dX6_print_15 ?_
      refine z_gR zf_RX6_19 dX6_print_16 (fun x3 => ?_)
      refine z_gR zf_RX6_114 dX6_print_19 (fun x4 => ?_)
      refine z_iload_n 2 rfl rfl dX6_print_22 ?_
      refine z_aR dX6_print_23 (fun x5 => ?_)
      refine z_astore (lv' := [(4, .ref x5), (0, .ref l0), (1, .long l1), (3, .int l3)]) (by decide) rfl dX6_print_24 ?_
      refine z_iconst (v := 0) (by decide) dX6_print_26 ?_
      refine z_istore (lv' := [(5, .int 0), (4, .ref x5), (0, .ref l0), (1, .long l1), (3, .int l3)]) (by decide) rfl dX6_print_27 ?_
      exact z_sub [2, 3, 4, 1, 0] rfl (rX6_print_29 hV (fun p0 p1 p3 h => fX6_print_4 k p0 p1 p3 h) ih FU l0 l1 l3 x5 0 h)
def fX6_print (a0 : Nat) (h : AH) : RR :=
  fX6_print_4 FU a0 0 0 h
set_option maxRecDepth 20000 in
theorem mX6_print {V : VT} (hV : V.2.2.2.2.2.stackTraces = false) (d : Nat) (a0 : Nat) (h : AH) : zM V yX6_print cX6_print 6 (some .long) (d + 1) [.ref a0] h (fX6_print a0 h) := by
  refine z_meth hV (by decide +kernel) (Nat.le_of_ble_eq_true rfl) [(0, .ref a0)] rfl (fun X => ?_)
  show zG X V RX6 "print" cX6_print 6 (some .long) (d + 1) h.1 h.2.1 (fX6_print a0 h) 0 [(0, .ref a0)] [] h
  unfold fX6_print
  refine z_lconst (v := 0) (by decide) dX6_print_0 ?_
  refine z_lstore_n (lv' := [(1, .long 0), (0, .ref a0)]) rfl (by decide) rfl dX6_print_1 ?_
  refine z_iconst (v := 0) (by decide) dX6_print_2 ?_
  refine z_istore_n (lv' := [(3, .int 0), (1, .long 0), (0, .ref a0)]) rfl (by decide) rfl dX6_print_3 ?_
  exact z_sub [2, 1, 0] rfl (rX6_print_4 hV FU a0 0 0 h)
def fX6_status (a0 : Nat) (a1 : Int32) (h : AH) : RR :=
  if a1 < 0 then (
    some (.inl (some (.int (-1))), h))
  else
  (zgR h a0 6 7).bind fun x1 =>
  (zlen h x1).bind fun n2 =>
  if a1 < (Int32.ofNat n2) then (
    (zgR h a0 6 7).bind fun x3 =>
    (zai h x3 a1).bind fun x4 =>
    some (.inl (some (.int x4)), h))
  else
  some (.inl (some (.int (-1))), h)
set_option maxRecDepth 20000 in
theorem mX6_status {V : VT} (hV : V.2.2.2.2.2.stackTraces = false) (d : Nat) (a0 : Nat) (a1 : Int32) (h : AH) : zM V yX6_status cX6_status 2 (some .int) (d + 1) [.ref a0, .int a1] h (fX6_status a0 a1 h) := by
  refine z_meth hV (by decide +kernel) (Nat.le_of_ble_eq_true rfl) [(0, .ref a0), (1, .int a1)] rfl (fun X => ?_)
  show zG X V RX6 "status" cX6_status 2 (some .int) (d + 1) h.1 h.2.1 (fX6_status a0 a1 h) 0 [(0, .ref a0), (1, .int a1)] [] h
  unfold fX6_status
  refine z_iload_n 1 rfl rfl dX6_status_0 ?_
  refine z_if_lt 13 (by decide) dX6_status_1 ?_ ?_
  · refine z_iconst (v := (-1)) (by decide) dX6_status_13 ?_
    refine z_goto 23 (by decide) dX6_status_14 ?_
    exact z_iret rfl dX6_status_23
  · refine z_iload_n 1 rfl rfl dX6_status_4 ?_
    refine z_aload_n 0 rfl rfl dX6_status_5 ?_
    refine z_gR zf_RX6_58 dX6_status_6 (fun x1 => ?_)
    refine z_len dX6_status_9 (fun n2 => ?_)
    refine z_icmp_lt 17 (by decide) dX6_status_10 ?_ ?_
    · refine z_aload_n 0 rfl rfl dX6_status_17 ?_
      refine z_gR zf_RX6_58 dX6_status_18 (fun x3 => ?_)
      refine z_iload_n 1 rfl rfl dX6_status_21 ?_
      refine z_aI dX6_status_22 (fun x4 => ?_)
      exact z_iret rfl dX6_status_23
    · refine z_iconst (v := (-1)) (by decide) dX6_status_13 ?_
      refine z_goto 23 (by decide) dX6_status_14 ?_
      exact z_iret rfl dX6_status_23
