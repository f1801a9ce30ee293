/-! printed by a program of ours (wip/whole/drive.py) out of the code -/
def fX4_init (a0 : Nat) (a1 : Nat) (h : AH) : RR :=
  (zpf h a0 4 2 (.ref a1)).bind fun h1 =>
  zb2 (znI h1 65) fun b2 h3 =>
  (zpf h3 a0 4 1 (.ref b2)).bind fun h4 =>
  zb2 (znI h4 64) fun b5 h6 =>
  (zpf h6 a0 4 3 (.ref b5)).bind fun h7 =>
  zb2 (znI h7 64) fun b8 h9 =>
  (zpf h9 a0 4 4 (.ref b8)).bind fun h10 =>
  zb2 (znI h10 64) fun b11 h12 =>
  (zpf h12 a0 4 5 (.ref b11)).bind fun h13 =>
  some (.inl none, h13)
set_option maxRecDepth 20000 in
theorem mX4_init {V : VT} (hV : V.2.2.2.2.2.stackTraces = false) (d : Nat) (a0 : Nat) (a1 : Nat) (h : AH) : zM V yX4_init cX4_init 2 none (d + 1) [.ref a0, .ref a1] h (fX4_init a0 a1 h) := by
  refine z_meth hV (by decide +kernel) (Nat.le_of_ble_eq_true rfl) [(0, .ref a0), (1, .ref a1)] rfl (fun X => ?_)
  show zG X V RX4 "<init>" cX4_init 2 none (d + 1) h.1 h.2.1 (fX4_init a0 a1 h) 0 [(0, .ref a0), (1, .ref a1)] [] h
  unfold fX4_init
  refine z_aload_n 0 rfl rfl dX4_init_0 ?_
  refine z_objInit zw_302 zw_98 zw_99 (Nat.le_of_ble_eq_true rfl) (by omega) dX4_init_1 ?_
  refine z_aload_n 0 rfl rfl dX4_init_4 ?_
  refine z_aload_n 1 rfl rfl dX4_init_5 ?_
  refine z_pR zf_RX4_9 zq_4_2 (Or.inl ⟨_, rfl⟩) dX4_init_6 (fun h1 => ?_)
  refine z_aload_n 0 rfl rfl dX4_init_9 ?_
  refine z_bipush (v := 65) (by decide) dX4_init_10 ?_
  refine z_nI zw_173 dX4_init_12 (fun b2 h3 => ?_)
  refine z_pR zf_RX4_15 zq_4_1 (Or.inr ⟨_, rfl⟩) dX4_init_14 (fun h4 => ?_)
  refine z_aload_n 0 rfl rfl dX4_init_17 ?_
  refine z_bipush (v := 64) (by decide) dX4_init_18 ?_
  refine z_nI zw_173 dX4_init_20 (fun b5 h6 => ?_)
  refine z_pR zf_RX4_19 zq_4_3 (Or.inr ⟨_, rfl⟩) dX4_init_22 (fun h7 => ?_)
  refine z_aload_n 0 rfl rfl dX4_init_25 ?_
  refine z_bipush (v := 64) (by decide) dX4_init_26 ?_
  refine z_nI zw_173 dX4_init_28 (fun b8 h9 => ?_)
  refine z_pR zf_RX4_22 zq_4_4 (Or.inr ⟨_, rfl⟩) dX4_init_30 (fun h10 => ?_)
  refine z_aload_n 0 rfl rfl dX4_init_33 ?_
  refine z_bipush (v := 64) (by decide) dX4_init_34 ?_
  refine z_nI zw_173 dX4_init_36 (fun b11 h12 => ?_)
  refine z_pR zf_RX4_25 zq_4_5 (Or.inr ⟨_, rfl⟩) dX4_init_38 (fun h13 => ?_)
  exact z_vret rfl dX4_init_41
def fX4_join_3 : Nat → Nat → Nat → Nat → Nat → Int32 → AH → RR
  | 0, _, _, _, _, _, _ => none
  | k + 1, l0, l1, l2, l3, l4, h =>
  (zgR h l0 4 2).bind fun x1 =>
  (zgI h x1 0 2).bind fun x2 =>
  if x2 ≤ l4 then (
    some (.inl none, h))
  else
  (zai h l2 l4).bind fun x3 =>
  (zai h l1 x3).bind fun x4 =>
  (zsi h l3 l4 x4).bind fun h5 =>
  fX4_join_3 k l0 l1 l2 l3 (l4 + 1) h5
set_option maxRecDepth 20000 in
theorem rX4_join_3 {X : CT} {V : VT} {d n0 k0 : Nat} (hV : V.2.2.2.2.2.stackTraces = false) (fu : Nat) : ∀ (l0 : Nat) (l1 : Nat) (l2 : Nat) (l3 : Nat) (l4 : Int32) (h : AH), zG X V RX4 "join" cX4_join 5 none (d + 1) n0 k0 (fX4_join_3 fu l0 l1 l2 l3 l4 h) 3 [(0, .ref l0), (1, .ref l1), (2, .ref l2), (3, .ref l3), (4, .int l4)] [] h := by
  induction fu with
  | zero => intros; exact z_none
  | succ k ih =>
    intro l0 l1 l2 l3 l4 h
    rw [fX4_join_3]
    refine z_iload 4 rfl dX4_join_3 ?_
    refine z_aload_n 0 rfl rfl dX4_join_5 ?_
    refine z_gR zf_RX4_9 dX4_join_6 (fun x1 => ?_)
    refine z_gI zf_RX4_28 dX4_join_9 (fun x2 => ?_)
    refine z_icmp_ge 31 (by decide) dX4_join_12 ?_ ?_
    · exact z_vret rfl dX4_join_31
    · refine z_aload_n 3 rfl rfl dX4_join_15 ?_
      refine z_iload 4 rfl dX4_join_16 ?_
      refine z_aload_n 1 rfl rfl dX4_join_18 ?_
      refine z_aload_n 2 rfl rfl dX4_join_19 ?_
      refine z_iload 4 rfl dX4_join_20 ?_
      refine z_aI dX4_join_22 (fun x3 => ?_)
      refine z_aI dX4_join_23 (fun x4 => ?_)
      refine z_sI dX4_join_24 (fun h5 => ?_)
      refine z_inc (w := 1) (lv' := [(4, .int (l4 + 1)), (0, .ref l0), (1, .ref l1), (2, .ref l2), (3, .ref l3)]) 4 rfl (by decide) (by decide) rfl dX4_join_25 ?_
      refine z_goto 3 (by decide) dX4_join_28 ?_
      exact z_sub [1, 2, 3, 4, 0] rfl (ih l0 l1 l2 l3 (l4 + 1) h5)
def fX4_join (a0 : Nat) (a1 : Nat) (a2 : Nat) (a3 : Nat) (h : AH) : RR :=
  fX4_join_3 FU a0 a1 a2 a3 0 h
set_option maxRecDepth 20000 in
theorem mX4_join {V : VT} (hV : V.2.2.2.2.2.stackTraces = false) (d : Nat) (a0 : Nat) (a1 : Nat) (a2 : Nat) (a3 : Nat) (h : AH) : zM V yX4_join cX4_join 5 none (d + 1) [.ref a0, .ref a1, .ref a2, .ref a3] h (fX4_join a0 a1 a2 a3 h) := by
  refine z_meth hV (by decide +kernel) (Nat.le_of_ble_eq_true rfl) [(0, .ref a0), (1, .ref a1), (2, .ref a2), (3, .ref a3)] rfl (fun X => ?_)
  show zG X V RX4 "join" cX4_join 5 none (d + 1) h.1 h.2.1 (fX4_join a0 a1 a2 a3 h) 0 [(0, .ref a0), (1, .ref a1), (2, .ref a2), (3, .ref a3)] [] h
  unfold fX4_join
  refine z_iconst (v := 0) (by decide) dX4_join_0 ?_
  refine z_istore (lv' := [(4, .int 0), (0, .ref a0), (1, .ref a1), (2, .ref a2), (3, .ref a3)]) (by decide) rfl dX4_join_1 ?_
  exact z_sub [1, 2, 3, 4, 0] rfl (rX4_join_3 hV FU a0 a1 a2 a3 0 h)
def fX4_repeat_72 (K51 : Nat → Nat → Nat → Nat → Int32 → AH → RR) (l0 : Nat) (l3 : Nat) (l4 : Nat) (l5 : Nat) (l6 : Int32) (h : AH) : RR :=
  zcv (zob h l0 4) (fX4_join l0 l4 l4 l5 h) fun v1 h2 =>
  zvn v1 <|
  K51 l0 l3 l5 l4 (l6 >>> (1 &&& 31)) h2
set_option maxRecDepth 20000 in
theorem rX4_repeat_72 {X : CT} {V : VT} {d n0 k0 : Nat} (hV : V.2.2.2.2.2.stackTraces = false) (K51 : Nat → Nat → Nat → Nat → Int32 → AH → RR) (hK51 : ∀ l0 l3 l4 l5 l6  h, zG X V RX4 "repeat" cX4_repeat 8 none (d + 2) n0 k0 (K51 l0 l3 l4 l5 l6 h) 51 [(0, .ref l0), (3, .ref l3), (4, .ref l4), (5, .ref l5), (6, .int l6)] [] h) (l0 : Nat) (l3 : Nat) (l4 : Nat) (l5 : Nat) (l6 : Int32) (h : AH) : zG X V RX4 "repeat" cX4_repeat 8 none (d + 2) n0 k0 (fX4_repeat_72 K51 l0 l3 l4 l5 l6 h) 72 [(0, .ref l0), (3, .ref l3), (4, .ref l4), (5, .ref l5), (6, .int l6)] [] h := by
  unfold fX4_repeat_72
  refine z_aload_n 0 rfl rfl dX4_repeat_72 ?_
  refine z_aload 2 rfl dX4_repeat_73 ?_
  refine z_aload 2 rfl dX4_repeat_75 ?_
  refine z_aload 3 rfl dX4_repeat_77 ?_
  refine z_cV (st := []) [.ref l4, .ref l4, .ref l5] zk_RX4_34 rfl (Nat.le_of_ble_eq_true rfl) dX4_repeat_79 (mX4_join hV (d + 0) l0 l4 l4 l5 h) (fun v1 h2 => ?_)
  refine z_vn ?_
  refine z_aload 3 rfl dX4_repeat_82 ?_
  refine z_astore (lv' := [(7, .ref l5), (0, .ref l0), (3, .ref l3), (4, .ref l4), (5, .ref l5), (6, .int l6)]) (by decide) rfl dX4_repeat_84 ?_
  refine z_aload 3 rfl dX4_repeat_86 ?_
  refine z_astore (lv' := [(5, .ref l4), (7, .ref l5), (0, .ref l0), (3, .ref l3), (4, .ref l4), (6, .int l6)]) (by decide) rfl dX4_repeat_88 ?_
  refine z_aload 1 rfl dX4_repeat_90 ?_
  refine z_astore (lv' := [(4, .ref l5), (5, .ref l4), (7, .ref l5), (0, .ref l0), (3, .ref l3), (6, .int l6)]) (by decide) rfl dX4_repeat_92 ?_
  refine z_iload 5 rfl dX4_repeat_94 ?_
  refine z_iconst (v := 1) (by decide) dX4_repeat_96 ?_
  refine z_ishr dX4_repeat_97 ?_
  refine z_istore (lv' := [(6, .int (l6 >>> (1 &&& 31))), (4, .ref l5), (5, .ref l4), (7, .ref l5), (0, .ref l0), (3, .ref l3)]) (by decide) rfl dX4_repeat_98 ?_
  refine z_goto 51 (by decide) dX4_repeat_100 ?_
  exact z_sub [4, 5, 1, 2, 0] rfl (hK51 l0 l3 l5 l4 (l6 >>> (1 &&& 31)) h2)
def fX4_repeat_51 : Nat → Nat → Nat → Nat → Nat → Int32 → AH → RR
  | 0, _, _, _, _, _, _ => none
  | k + 1, l0, l3, l4, l5, l6, h =>
  if l6 ≤ 0 then (
    some (.inl none, h))
  else
  if (l6 &&& 1) = 1 then (
    zcv (zob h l0 4) (fX4_join l0 l4 l3 l3 h) fun v1 h2 =>
    zvn v1 <|
    fX4_repeat_72 (fun p0 p3 p4 p5 p6 h => fX4_repeat_51 k p0 p3 p4 p5 p6 h) l0 l3 l4 l5 l6 h2)
  else
  fX4_repeat_72 (fun p0 p3 p4 p5 p6 h => fX4_repeat_51 k p0 p3 p4 p5 p6 h) l0 l3 l4 l5 l6 h
set_option maxRecDepth 20000 in
theorem rX4_repeat_51 {X : CT} {V : VT} {d n0 k0 : Nat} (hV : V.2.2.2.2.2.stackTraces = false) (fu : Nat) : ∀ (l0 : Nat) (l3 : Nat) (l4 : Nat) (l5 : Nat) (l6 : Int32) (h : AH), zG X V RX4 "repeat" cX4_repeat 8 none (d + 2) n0 k0 (fX4_repeat_51 fu l0 l3 l4 l5 l6 h) 51 [(0, .ref l0), (3, .ref l3), (4, .ref l4), (5, .ref l5), (6, .int l6)] [] h := by
  induction fu with
  | zero => intros; exact z_none
  | succ k ih =>
    intro l0 l3 l4 l5 l6 h
    rw [fX4_repeat_51]
    refine z_iload 4 rfl dX4_repeat_51 ?_
    refine z_if_le 103 (by decide) dX4_repeat_53 ?_ ?_
    · exact z_vret rfl dX4_repeat_103
    · refine z_iload 4 rfl dX4_repeat_56 ?_
      refine z_iconst (v := 1) (by decide) dX4_repeat_58 ?_
      refine z_iand dX4_repeat_59 ?_
      refine z_iconst (v := 1) (by decide) dX4_repeat_60 ?_
      refine z_icmp_ne 72 (by decide) dX4_repeat_61 ?_ ?_
      · refine z_aload_n 0 rfl rfl dX4_repeat_64 ?_
        refine z_aload 2 rfl dX4_repeat_65 ?_
        refine z_aload_n 1 rfl rfl dX4_repeat_67 ?_
        refine z_aload_n 1 rfl rfl dX4_repeat_68 ?_
        refine z_cV (st := []) [.ref l4, .ref l3, .ref l3] zk_RX4_34 rfl (Nat.le_of_ble_eq_true rfl) dX4_repeat_69 (mX4_join hV (d + 0) l0 l4 l3 l3 h) (fun v1 h2 => ?_)
        refine z_vn ?_
        exact z_sub [0, 1, 2, 3, 4] rfl (rX4_repeat_72 hV (fun p0 p3 p4 p5 p6 h => fX4_repeat_51 k p0 p3 p4 p5 p6 h) ih l0 l3 l4 l5 l6 h2)
      · exact z_sub [0, 1, 2, 3, 4] rfl (rX4_repeat_72 hV (fun p0 p3 p4 p5 p6 h => fX4_repeat_51 k p0 p3 p4 p5 p6 h) ih l0 l3 l4 l5 l6 h)
def fX4_repeat_15 : Nat → Nat → Nat → Int32 → Nat → Nat → Nat → Int32 → AH → RR
  | 0, _, _, _, _, _, _, _, _ => none
  | k + 1, l0, l1, l2, l3, l4, l5, l6, h =>
  (zgR h l0 4 2).bind fun x1 =>
  (zgI h x1 0 2).bind fun x2 =>
  if x2 ≤ l6 then (
    fX4_repeat_51 FU l0 l3 l4 l5 l2 h)
  else
  (zsi h l3 l6 l6).bind fun h3 =>
  (zai h3 l1 l6).bind fun x4 =>
  (zsi h3 l4 l6 x4).bind fun h5 =>
  fX4_repeat_15 k l0 l1 l2 l3 l4 l5 (l6 + 1) h5
set_option maxRecDepth 20000 in
theorem rX4_repeat_15 {X : CT} {V : VT} {d n0 k0 : Nat} (hV : V.2.2.2.2.2.stackTraces = false) (fu : Nat) : ∀ (l0 : Nat) (l1 : Nat) (l2 : Int32) (l3 : Nat) (l4 : Nat) (l5 : Nat) (l6 : Int32) (h : AH), zG X V RX4 "repeat" cX4_repeat 8 none (d + 2) n0 k0 (fX4_repeat_15 fu l0 l1 l2 l3 l4 l5 l6 h) 15 [(0, .ref l0), (1, .ref l1), (2, .int l2), (3, .ref l3), (4, .ref l4), (5, .ref l5), (6, .int l6)] [] h := by
  induction fu with
  | zero => intros; exact z_none
  | succ k ih =>
    intro l0 l1 l2 l3 l4 l5 l6 h
    rw [fX4_repeat_15]
    refine z_iload 6 rfl dX4_repeat_15 ?_
    refine z_aload_n 0 rfl rfl dX4_repeat_17 ?_
    refine z_gR zf_RX4_9 dX4_repeat_18 (fun x1 => ?_)
    refine z_gI zf_RX4_28 dX4_repeat_21 (fun x2 => ?_)
    refine z_icmp_ge 48 (by decide) dX4_repeat_24 ?_ ?_
    · refine z_iload_n 2 rfl rfl dX4_repeat_48 ?_
      refine z_istore (lv' := [(6, .int l2), (0, .ref l0), (1, .ref l1), (2, .int l2), (3, .ref l3), (4, .ref l4), (5, .ref l5)]) (by decide) rfl dX4_repeat_49 ?_
      exact z_sub [1, 4, 5, 6, 0] rfl (rX4_repeat_51 hV FU l0 l3 l4 l5 l2 h)
    · refine z_aload_n 3 rfl rfl dX4_repeat_27 ?_
      refine z_iload 6 rfl dX4_repeat_28 ?_
      refine z_iload 6 rfl dX4_repeat_30 ?_
      refine z_sI dX4_repeat_32 (fun h3 => ?_)
      refine z_aload 4 rfl dX4_repeat_33 ?_
      refine z_iload 6 rfl dX4_repeat_35 ?_
      refine z_aload_n 1 rfl rfl dX4_repeat_37 ?_
      refine z_iload 6 rfl dX4_repeat_38 ?_
      refine z_aI dX4_repeat_40 (fun x4 => ?_)
      refine z_sI dX4_repeat_41 (fun h5 => ?_)
      refine z_inc (w := 1) (lv' := [(6, .int (l6 + 1)), (0, .ref l0), (1, .ref l1), (2, .int l2), (3, .ref l3), (4, .ref l4), (5, .ref l5)]) 6 rfl (by decide) (by decide) rfl dX4_repeat_42 ?_
      refine z_goto 15 (by decide) dX4_repeat_45 ?_
      exact z_sub [1, 2, 3, 4, 5, 6, 0] rfl (ih l0 l1 l2 l3 l4 l5 (l6 + 1) h5)
def fX4_repeat (a0 : Nat) (a1 : Nat) (a2 : Int32) (a3 : Nat) (h : AH) : RR :=
  (zgR h a0 4 4).bind fun x1 =>
  (zgR h a0 4 5).bind fun x2 =>
  fX4_repeat_15 FU a0 a1 a2 a3 x1 x2 0 h
set_option maxRecDepth 20000 in
theorem mX4_repeat {V : VT} (hV : V.2.2.2.2.2.stackTraces = false) (d : Nat) (a0 : Nat) (a1 : Nat) (a2 : Int32) (a3 : Nat) (h : AH) : zM V yX4_repeat cX4_repeat 8 none (d + 2) [.ref a0, .ref a1, .int a2, .ref a3] h (fX4_repeat a0 a1 a2 a3 h) := by
  refine z_meth hV (by decide +kernel) (Nat.le_of_ble_eq_true rfl) [(0, .ref a0), (1, .ref a1), (2, .int a2), (3, .ref a3)] rfl (fun X => ?_)
  show zG X V RX4 "repeat" cX4_repeat 8 none (d + 2) h.1 h.2.1 (fX4_repeat a0 a1 a2 a3 h) 0 [(0, .ref a0), (1, .ref a1), (2, .int a2), (3, .ref a3)] [] h
  unfold fX4_repeat
  refine z_aload_n 0 rfl rfl dX4_repeat_0 ?_
  refine z_gR zf_RX4_22 dX4_repeat_1 (fun x1 => ?_)
  refine z_astore (lv' := [(4, .ref x1), (0, .ref a0), (1, .ref a1), (2, .int a2), (3, .ref a3)]) (by decide) rfl dX4_repeat_4 ?_
  refine z_aload_n 1 rfl rfl dX4_repeat_6 ?_
  refine z_gR zf_RX4_25 dX4_repeat_7 (fun x2 => ?_)
  refine z_astore (lv' := [(5, .ref x2), (4, .ref x1), (0, .ref a0), (1, .ref a1), (2, .int a2), (3, .ref a3)]) (by decide) rfl dX4_repeat_10 ?_
  refine z_iconst (v := 0) (by decide) dX4_repeat_12 ?_
  refine z_istore (lv' := [(6, .int 0), (5, .ref x2), (4, .ref x1), (0, .ref a0), (1, .ref a1), (2, .int a2), (3, .ref a3)]) (by decide) rfl dX4_repeat_13 ?_
  exact z_sub [3, 4, 5, 6, 2, 1, 0] rfl (rX4_repeat_15 hV FU a0 a1 a2 a3 x1 x2 0 h)
def fX4_invert_2 : Nat → Nat → Nat → Nat → Int32 → AH → RR
  | 0, _, _, _, _, _ => none
  | k + 1, l0, l1, l2, l3, h =>
  (zgR h l0 4 2).bind fun x1 =>
  (zgI h x1 0 2).bind fun x2 =>
  if x2 ≤ l3 then (
    some (.inl none, h))
  else
  (zai h l1 l3).bind fun x3 =>
  (zsi h l2 x3 l3).bind fun h4 =>
  fX4_invert_2 k l0 l1 l2 (l3 + 1) h4
set_option maxRecDepth 20000 in
theorem rX4_invert_2 {X : CT} {V : VT} {d n0 k0 : Nat} (hV : V.2.2.2.2.2.stackTraces = false) (fu : Nat) : ∀ (l0 : Nat) (l1 : Nat) (l2 : Nat) (l3 : Int32) (h : AH), zG X V RX4 "invert" cX4_invert 4 none (d + 1) n0 k0 (fX4_invert_2 fu l0 l1 l2 l3 h) 2 [(0, .ref l0), (1, .ref l1), (2, .ref l2), (3, .int l3)] [] h := by
  induction fu with
  | zero => intros; exact z_none
  | succ k ih =>
    intro l0 l1 l2 l3 h
    rw [fX4_invert_2]
    refine z_iload_n 3 rfl rfl dX4_invert_2 ?_
    refine z_aload_n 0 rfl rfl dX4_invert_3 ?_
    refine z_gR zf_RX4_9 dX4_invert_4 (fun x1 => ?_)
    refine z_gI zf_RX4_28 dX4_invert_7 (fun x2 => ?_)
    refine z_icmp_ge 25 (by decide) dX4_invert_10 ?_ ?_
    · exact z_vret rfl dX4_invert_25
    · refine z_aload_n 2 rfl rfl dX4_invert_13 ?_
      refine z_aload_n 1 rfl rfl dX4_invert_14 ?_
      refine z_iload_n 3 rfl rfl dX4_invert_15 ?_
      refine z_aI dX4_invert_16 (fun x3 => ?_)
      refine z_iload_n 3 rfl rfl dX4_invert_17 ?_
      refine z_sI dX4_invert_18 (fun h4 => ?_)
      refine z_inc (w := 1) (lv' := [(3, .int (l3 + 1)), (0, .ref l0), (1, .ref l1), (2, .ref l2)]) 3 rfl (by decide) (by decide) rfl dX4_invert_19 ?_
      refine z_goto 2 (by decide) dX4_invert_22 ?_
      exact z_sub [1, 2, 3, 0] rfl (ih l0 l1 l2 (l3 + 1) h4)
def fX4_invert (a0 : Nat) (a1 : Nat) (a2 : Nat) (h : AH) : RR :=
  fX4_invert_2 FU a0 a1 a2 0 h
set_option maxRecDepth 20000 in
theorem mX4_invert {V : VT} (hV : V.2.2.2.2.2.stackTraces = false) (d : Nat) (a0 : Nat) (a1 : Nat) (a2 : Nat) (h : AH) : zM V yX4_invert cX4_invert 4 none (d + 1) [.ref a0, .ref a1, .ref a2] h (fX4_invert a0 a1 a2 h) := by
  refine z_meth hV (by decide +kernel) (Nat.le_of_ble_eq_true rfl) [(0, .ref a0), (1, .ref a1), (2, .ref a2)] rfl (fun X => ?_)
  show zG X V RX4 "invert" cX4_invert 4 none (d + 1) h.1 h.2.1 (fX4_invert a0 a1 a2 h) 0 [(0, .ref a0), (1, .ref a1), (2, .ref a2)] [] h
  unfold fX4_invert
  refine z_iconst (v := 0) (by decide) dX4_invert_0 ?_
  refine z_istore_n (lv' := [(3, .int 0), (0, .ref a0), (1, .ref a1), (2, .ref a2)]) rfl (by decide) rfl dX4_invert_1 ?_
  exact z_sub [1, 2, 3, 0] rfl (rX4_invert_2 hV FU a0 a1 a2 0 h)
def fX4_coefficientOf_13 : Nat → Nat → Nat → Int32 → Int32 → Int32 → AH → RR
  | 0, _, _, _, _, _, _ => none
  | k + 1, l0, l1, l2, l3, l4, h =>
  (zgR h l0 4 2).bind fun x1 =>
  (zgI h x1 0 2).bind fun x2 =>
  if x2 ≤ l4 then (
    (zgR h l0 4 2).bind fun x3 =>
    (zgR h x3 0 6).bind fun x4 =>
    (zai h x4 l3).bind fun x5 =>
    some (.inl (some (.int x5)), h))
  else
  (zgR h l0 4 2).bind fun x6 =>
  (zgR h l0 4 2).bind fun x7 =>
  (zai h l1 l4).bind fun x8 =>
  (zgR h l0 4 2).bind fun x9 =>
  (zgR h l0 4 2).bind fun x10 =>
  (zgI h x10 0 2).bind fun x11 =>
  zcv (zob h x9 0) (fX0_raised x9 l4 ((x11 - 1) - l2) h) fun v12 h13 =>
  zvi v12 fun x14 =>
  zcv (zob h13 x7 0) (fX0_product x7 x8 x14 h13) fun v15 h16 =>
  zvi v15 fun x17 =>
  zcv (zob h16 x6 0) (fX0_sum x6 l3 x17 h16) fun v18 h19 =>
  zvi v18 fun x20 =>
  fX4_coefficientOf_13 k l0 l1 l2 x20 (l4 + 1) h19
set_option maxRecDepth 20000 in
theorem rX4_coefficientOf_13 {X : CT} {V : VT} {d n0 k0 : Nat} (hV : V.2.2.2.2.2.stackTraces = false) (fu : Nat) : ∀ (l0 : Nat) (l1 : Nat) (l2 : Int32) (l3 : Int32) (l4 : Int32) (h : AH), zG X V RX4 "coefficientOf" cX4_coefficientOf 5 (some .int) (d + 3) n0 k0 (fX4_coefficientOf_13 fu l0 l1 l2 l3 l4 h) 13 [(0, .ref l0), (1, .ref l1), (2, .int l2), (3, .int l3), (4, .int l4)] [] h := by
  induction fu with
  | zero => intros; exact z_none
  | succ k ih =>
    intro l0 l1 l2 l3 l4 h
    rw [fX4_coefficientOf_13]
    refine z_iload 4 rfl dX4_coefficientOf_13 ?_
    refine z_aload_n 0 rfl rfl dX4_coefficientOf_15 ?_
    refine z_gR zf_RX4_9 dX4_coefficientOf_16 (fun x1 => ?_)
    refine z_gI zf_RX4_28 dX4_coefficientOf_19 (fun x2 => ?_)
    refine z_icmp_ge 71 (by decide) dX4_coefficientOf_22 ?_ ?_
    · refine z_aload_n 0 rfl rfl dX4_coefficientOf_71 ?_
      refine z_gR zf_RX4_9 dX4_coefficientOf_72 (fun x3 => ?_)
      refine z_gR zf_RX4_48 dX4_coefficientOf_75 (fun x4 => ?_)
      refine z_iload_n 3 rfl rfl dX4_coefficientOf_78 ?_
      refine z_aI dX4_coefficientOf_79 (fun x5 => ?_)
      exact z_iret rfl dX4_coefficientOf_80
    · refine z_aload_n 0 rfl rfl dX4_coefficientOf_25 ?_
      refine z_gR zf_RX4_9 dX4_coefficientOf_26 (fun x6 => ?_)
      refine z_iload_n 3 rfl rfl dX4_coefficientOf_29 ?_
      refine z_aload_n 0 rfl rfl dX4_coefficientOf_30 ?_
      refine z_gR zf_RX4_9 dX4_coefficientOf_31 (fun x7 => ?_)
      refine z_aload_n 1 rfl rfl dX4_coefficientOf_34 ?_
      refine z_iload 4 rfl dX4_coefficientOf_35 ?_
      refine z_aI dX4_coefficientOf_37 (fun x8 => ?_)
      refine z_aload_n 0 rfl rfl dX4_coefficientOf_38 ?_
      refine z_gR zf_RX4_9 dX4_coefficientOf_39 (fun x9 => ?_)
      refine z_iload 4 rfl dX4_coefficientOf_42 ?_
      refine z_aload_n 0 rfl rfl dX4_coefficientOf_44 ?_
      refine z_gR zf_RX4_9 dX4_coefficientOf_45 (fun x10 => ?_)
      refine z_gI zf_RX4_28 dX4_coefficientOf_48 (fun x11 => ?_)
      refine z_iconst (v := 1) (by decide) dX4_coefficientOf_51 ?_
      refine z_isub dX4_coefficientOf_52 ?_
      refine z_iload_n 2 rfl rfl dX4_coefficientOf_53 ?_
      refine z_isub dX4_coefficientOf_54 ?_
      refine z_cV (st := [.int x8, .ref x7, .int l3, .ref x6]) [.int l4, .int ((x11 - 1) - l2)] zk_RX4_38 rfl (Nat.le_of_ble_eq_true rfl) dX4_coefficientOf_55 (mX0_raised hV (d + 0) x9 l4 ((x11 - 1) - l2) h) (fun v12 h13 => ?_)
      refine z_vi (fun x14 => ?_)
      refine z_cV (st := [.int l3, .ref x6]) [.int x8, .int x14] zk_RX4_42 rfl (Nat.le_of_ble_eq_true rfl) dX4_coefficientOf_58 (mX0_product hV (d + 1) x7 x8 x14 h13) (fun v15 h16 => ?_)
      refine z_vi (fun x17 => ?_)
      refine z_cV (st := []) [.int l3, .int x17] zk_RX4_45 rfl (Nat.le_of_ble_eq_true rfl) dX4_coefficientOf_61 (mX0_sum hV (d + 1) x6 l3 x17 h16) (fun v18 h19 => ?_)
      refine z_vi (fun x20 => ?_)
      refine z_istore_n (lv' := [(3, .int x20), (0, .ref l0), (1, .ref l1), (2, .int l2), (4, .int l4)]) rfl (by decide) rfl dX4_coefficientOf_64 ?_
      refine z_inc (w := 1) (lv' := [(4, .int (l4 + 1)), (3, .int x20), (0, .ref l0), (1, .ref l1), (2, .int l2)]) 4 rfl (by decide) (by decide) rfl dX4_coefficientOf_65 ?_
      refine z_goto 13 (by decide) dX4_coefficientOf_68 ?_
      exact z_sub [2, 3, 4, 1, 0] rfl (ih l0 l1 l2 x20 (l4 + 1) h19)
def fX4_coefficientOf (a0 : Nat) (a1 : Nat) (a2 : Int32) (h : AH) : RR :=
  if a2 = 0 then (
    (zai h a1 0).bind fun x1 =>
    some (.inl (some (.int x1)), h))
  else
  fX4_coefficientOf_13 FU a0 a1 a2 0 0 h
set_option maxRecDepth 20000 in
theorem mX4_coefficientOf {V : VT} (hV : V.2.2.2.2.2.stackTraces = false) (d : Nat) (a0 : Nat) (a1 : Nat) (a2 : Int32) (h : AH) : zM V yX4_coefficientOf cX4_coefficientOf 5 (some .int) (d + 3) [.ref a0, .ref a1, .int a2] h (fX4_coefficientOf a0 a1 a2 h) := by
  refine z_meth hV (by decide +kernel) (Nat.le_of_ble_eq_true rfl) [(0, .ref a0), (1, .ref a1), (2, .int a2)] rfl (fun X => ?_)
  show zG X V RX4 "coefficientOf" cX4_coefficientOf 5 (some .int) (d + 3) h.1 h.2.1 (fX4_coefficientOf a0 a1 a2 h) 0 [(0, .ref a0), (1, .ref a1), (2, .int a2)] [] h
  unfold fX4_coefficientOf
  refine z_iload_n 2 rfl rfl dX4_coefficientOf_0 ?_
  refine z_if_ne 8 (by decide) dX4_coefficientOf_1 ?_ ?_
  · refine z_aload_n 1 rfl rfl dX4_coefficientOf_4 ?_
    refine z_iconst (v := 0) (by decide) dX4_coefficientOf_5 ?_
    refine z_aI dX4_coefficientOf_6 (fun x1 => ?_)
    exact z_iret rfl dX4_coefficientOf_7
  · refine z_iconst (v := 0) (by decide) dX4_coefficientOf_8 ?_
    refine z_istore_n (lv' := [(3, .int 0), (0, .ref a0), (1, .ref a1), (2, .int a2)]) rfl (by decide) rfl dX4_coefficientOf_9 ?_
    refine z_iconst (v := 0) (by decide) dX4_coefficientOf_10 ?_
    refine z_istore (lv' := [(4, .int 0), (3, .int 0), (0, .ref a0), (1, .ref a1), (2, .int a2)]) (by decide) rfl dX4_coefficientOf_11 ?_
    exact z_sub [2, 3, 4, 1, 0] rfl (rX4_coefficientOf_13 hV FU a0 a1 a2 0 0 h)
def fX4_degreeOf_48 (K38 : Nat → Nat → Nat → Int32 → AH → RR) : Nat → Nat → Nat → Nat → Int32 → Int32 → Int32 → AH → RR
  | 0, _, _, _, _, _, _, _ => none
  | k + 1, l0, l1, l2, l3, l4, l5, h =>
  (zgR h l0 4 2).bind fun x1 =>
  (zgI h x1 0 2).bind fun x2 =>
  if x2 ≤ l5 then (
    if l4 = 0 then (
      K38 l0 l1 l2 (l3 + (-1)) h)
    else
    some (.inl (some (.int l3)), h))
  else
  (zgR h l0 4 2).bind fun x3 =>
  (zgR h l0 4 2).bind fun x4 =>
  (zai h l1 l5).bind fun x5 =>
  (zai h l2 l5).bind fun x6 =>
  zcv (zob h x4 0) (fX0_product x4 x5 x6 h) fun v7 h8 =>
  zvi v7 fun x9 =>
  zcv (zob h8 x3 0) (fX0_sum x3 l4 x9 h8) fun v10 h11 =>
  zvi v10 fun x12 =>
  (zgR h11 l0 4 2).bind fun x13 =>
  (zai h11 l2 l5).bind fun x14 =>
  zcv (zob h11 x13 0) (fX0_product x13 x14 l5 h11) fun v15 h16 =>
  zvi v15 fun x17 =>
  (zsi h16 l2 l5 x17).bind fun h18 =>
  fX4_degreeOf_48 K38 k l0 l1 l2 l3 x12 (l5 + 1) h18
set_option maxRecDepth 20000 in
theorem rX4_degreeOf_48 {X : CT} {V : VT} {d n0 k0 : Nat} (hV : V.2.2.2.2.2.stackTraces = false) (K38 : Nat → Nat → Nat → Int32 → AH → RR) (hK38 : ∀ l0 l1 l2 l3  h, zG X V RX4 "degreeOf" cX4_degreeOf 6 (some .int) (d + 2) n0 k0 (K38 l0 l1 l2 l3 h) 38 [(0, .ref l0), (1, .ref l1), (2, .ref l2), (3, .int l3)] [] h) (fu : Nat) : ∀ (l0 : Nat) (l1 : Nat) (l2 : Nat) (l3 : Int32) (l4 : Int32) (l5 : Int32) (h : AH), zG X V RX4 "degreeOf" cX4_degreeOf 6 (some .int) (d + 2) n0 k0 (fX4_degreeOf_48 K38 fu l0 l1 l2 l3 l4 l5 h) 48 [(0, .ref l0), (1, .ref l1), (2, .ref l2), (3, .int l3), (4, .int l4), (5, .int l5)] [] h := by
  induction fu with
  | zero => intros; exact z_none
  | succ k ih =>
    intro l0 l1 l2 l3 l4 l5 h
    rw [fX4_degreeOf_48]
    refine z_iload 5 rfl dX4_degreeOf_48 ?_
    refine z_aload_n 0 rfl rfl dX4_degreeOf_50 ?_
    refine z_gR zf_RX4_9 dX4_degreeOf_51 (fun x1 => ?_)
    refine z_gI zf_RX4_28 dX4_degreeOf_54 (fun x2 => ?_)
    refine z_icmp_ge 109 (by decide) dX4_degreeOf_57 ?_ ?_
    · refine z_iload 4 rfl dX4_degreeOf_109 ?_
      refine z_if_eq 116 (by decide) dX4_degreeOf_111 ?_ ?_
      · refine z_inc (w := (-1)) (lv' := [(3, .int (l3 + (-1))), (0, .ref l0), (1, .ref l1), (2, .ref l2), (4, .int l4), (5, .int l5)]) 3 rfl (by decide) (by decide) rfl dX4_degreeOf_116 ?_
        refine z_goto 38 (by decide) dX4_degreeOf_119 ?_
        exact z_sub [1, 2, 3, 0] rfl (hK38 l0 l1 l2 (l3 + (-1)) h)
      · refine z_iload_n 3 rfl rfl dX4_degreeOf_114 ?_
        exact z_iret rfl dX4_degreeOf_115
    · refine z_aload_n 0 rfl rfl dX4_degreeOf_60 ?_
      refine z_gR zf_RX4_9 dX4_degreeOf_61 (fun x3 => ?_)
      refine z_iload 4 rfl dX4_degreeOf_64 ?_
      refine z_aload_n 0 rfl rfl dX4_degreeOf_66 ?_
      refine z_gR zf_RX4_9 dX4_degreeOf_67 (fun x4 => ?_)
      refine z_aload_n 1 rfl rfl dX4_degreeOf_70 ?_
      refine z_iload 5 rfl dX4_degreeOf_71 ?_
      refine z_aI dX4_degreeOf_73 (fun x5 => ?_)
      refine z_aload_n 2 rfl rfl dX4_degreeOf_74 ?_
      refine z_iload 5 rfl dX4_degreeOf_75 ?_
      refine z_aI dX4_degreeOf_77 (fun x6 => ?_)
      refine z_cV (st := [.int l4, .ref x3]) [.int x5, .int x6] zk_RX4_42 rfl (Nat.le_of_ble_eq_true rfl) dX4_degreeOf_78 (mX0_product hV (d + 0) x4 x5 x6 h) (fun v7 h8 => ?_)
      refine z_vi (fun x9 => ?_)
      refine z_cV (st := []) [.int l4, .int x9] zk_RX4_45 rfl (Nat.le_of_ble_eq_true rfl) dX4_degreeOf_81 (mX0_sum hV (d + 0) x3 l4 x9 h8) (fun v10 h11 => ?_)
      refine z_vi (fun x12 => ?_)
      refine z_istore (lv' := [(4, .int x12), (0, .ref l0), (1, .ref l1), (2, .ref l2), (3, .int l3), (5, .int l5)]) (by decide) rfl dX4_degreeOf_84 ?_
      refine z_aload_n 3 rfl rfl dX4_degreeOf_86 ?_
      refine z_iload 5 rfl dX4_degreeOf_87 ?_
      refine z_aload_n 1 rfl rfl dX4_degreeOf_89 ?_
      refine z_gR zf_RX4_9 dX4_degreeOf_90 (fun x13 => ?_)
      refine z_aload_n 3 rfl rfl dX4_degreeOf_93 ?_
      refine z_iload 5 rfl dX4_degreeOf_94 ?_
      refine z_aI dX4_degreeOf_96 (fun x14 => ?_)
      refine z_iload 5 rfl dX4_degreeOf_97 ?_
      refine z_cV (st := [.int l5, .ref l2]) [.int x14, .int l5] zk_RX4_42 rfl (Nat.le_of_ble_eq_true rfl) dX4_degreeOf_99 (mX0_product hV (d + 0) x13 x14 l5 h11) (fun v15 h16 => ?_)
      refine z_vi (fun x17 => ?_)
      refine z_sI dX4_degreeOf_102 (fun h18 => ?_)
      refine z_inc (w := 1) (lv' := [(5, .int (l5 + 1)), (4, .int x12), (0, .ref l0), (1, .ref l1), (2, .ref l2), (3, .int l3)]) 5 rfl (by decide) (by decide) rfl dX4_degreeOf_103 ?_
      refine z_goto 48 (by decide) dX4_degreeOf_106 ?_
      exact z_sub [2, 3, 4, 5, 1, 0] rfl (ih l0 l1 l2 l3 x12 (l5 + 1) h18)
def fX4_degreeOf_38 : Nat → Nat → Nat → Nat → Int32 → AH → RR
  | 0, _, _, _, _, _ => none
  | k + 1, l0, l1, l2, l3, h =>
  if l3 ≤ 0 then (
    (zai h l1 0).bind fun x1 =>
    if x1 = 0 then (
      some (.inl (some (.int (-1))), h))
    else
    some (.inl (some (.int 0)), h))
  else
  fX4_degreeOf_48 (fun p0 p1 p2 p3 h => fX4_degreeOf_38 k p0 p1 p2 p3 h) FU l0 l1 l2 l3 0 0 h
set_option maxRecDepth 20000 in
theorem rX4_degreeOf_38 {X : CT} {V : VT} {d n0 k0 : Nat} (hV : V.2.2.2.2.2.stackTraces = false) (fu : Nat) : ∀ (l0 : Nat) (l1 : Nat) (l2 : Nat) (l3 : Int32) (h : AH), zG X V RX4 "degreeOf" cX4_degreeOf 6 (some .int) (d + 2) n0 k0 (fX4_degreeOf_38 fu l0 l1 l2 l3 h) 38 [(0, .ref l0), (1, .ref l1), (2, .ref l2), (3, .int l3)] [] h := by
  induction fu with
  | zero => intros; exact z_none
  | succ k ih =>
    intro l0 l1 l2 l3 h
    rw [fX4_degreeOf_38]
    refine z_iload_n 3 rfl rfl dX4_degreeOf_38 ?_
    refine z_if_le 122 (by decide) dX4_degreeOf_39 ?_ ?_
    · refine z_aload_n 1 rfl rfl dX4_degreeOf_122 ?_
      refine z_iconst (v := 0) (by decide) dX4_degreeOf_123 ?_
      refine z_aI dX4_degreeOf_124 (fun x1 => ?_)
      refine z_if_eq 132 (by decide) dX4_degreeOf_125 ?_ ?_
      · refine z_iconst (v := (-1)) (by decide) dX4_degreeOf_132 ?_
        exact z_iret rfl dX4_degreeOf_133
      · refine z_iconst (v := 0) (by decide) dX4_degreeOf_128 ?_
        refine z_goto 133 (by decide) dX4_degreeOf_129 ?_
        exact z_iret rfl dX4_degreeOf_133
    · refine z_iconst (v := 0) (by decide) dX4_degreeOf_42 ?_
      refine z_istore (lv' := [(4, .int 0), (0, .ref l0), (1, .ref l1), (2, .ref l2), (3, .int l3)]) (by decide) rfl dX4_degreeOf_43 ?_
      refine z_iconst (v := 0) (by decide) dX4_degreeOf_45 ?_
      refine z_istore (lv' := [(5, .int 0), (4, .int 0), (0, .ref l0), (1, .ref l1), (2, .ref l2), (3, .int l3)]) (by decide) rfl dX4_degreeOf_46 ?_
      exact z_sub [2, 3, 4, 5, 1, 0] rfl (rX4_degreeOf_48 hV (fun p0 p1 p2 p3 h => fX4_degreeOf_38 k p0 p1 p2 p3 h) ih FU l0 l1 l2 l3 0 0 h)
def fX4_degreeOf_7 : Nat → Nat → Nat → Nat → Int32 → AH → RR
  | 0, _, _, _, _, _ => none
  | k + 1, l0, l1, l2, l3, h =>
  (zgR h l0 4 2).bind fun x1 =>
  (zgI h x1 0 2).bind fun x2 =>
  if x2 ≤ l3 then (
    (zgR h l0 4 2).bind fun x3 =>
    (zgI h x3 0 2).bind fun x4 =>
    fX4_degreeOf_38 FU l0 l1 l2 (x4 - 1) h)
  else
  (zsi h l2 l3 1).bind fun h5 =>
  fX4_degreeOf_7 k l0 l1 l2 (l3 + 1) h5
set_option maxRecDepth 20000 in
theorem rX4_degreeOf_7 {X : CT} {V : VT} {d n0 k0 : Nat} (hV : V.2.2.2.2.2.stackTraces = false) (fu : Nat) : ∀ (l0 : Nat) (l1 : Nat) (l2 : Nat) (l3 : Int32) (h : AH), zG X V RX4 "degreeOf" cX4_degreeOf 6 (some .int) (d + 2) n0 k0 (fX4_degreeOf_7 fu l0 l1 l2 l3 h) 7 [(0, .ref l0), (1, .ref l1), (2, .ref l2), (3, .int l3)] [] h := by
  induction fu with
  | zero => intros; exact z_none
  | succ k ih =>
    intro l0 l1 l2 l3 h
    rw [fX4_degreeOf_7]
    refine z_iload_n 3 rfl rfl dX4_degreeOf_7 ?_
    refine z_aload_n 0 rfl rfl dX4_degreeOf_8 ?_
    refine z_gR zf_RX4_9 dX4_degreeOf_9 (fun x1 => ?_)
    refine z_gI zf_RX4_28 dX4_degreeOf_12 (fun x2 => ?_)
    refine z_icmp_ge 28 (by decide) dX4_degreeOf_15 ?_ ?_
    · refine z_aload_n 0 rfl rfl dX4_degreeOf_28 ?_
      refine z_gR zf_RX4_9 dX4_degreeOf_29 (fun x3 => ?_)
      refine z_gI zf_RX4_28 dX4_degreeOf_32 (fun x4 => ?_)
      refine z_iconst (v := 1) (by decide) dX4_degreeOf_35 ?_
      refine z_isub dX4_degreeOf_36 ?_
      refine z_istore_n (lv' := [(3, .int (x4 - 1)), (0, .ref l0), (1, .ref l1), (2, .ref l2)]) rfl (by decide) rfl dX4_degreeOf_37 ?_
      exact z_sub [1, 2, 3, 0] rfl (rX4_degreeOf_38 hV FU l0 l1 l2 (x4 - 1) h)
    · refine z_aload_n 2 rfl rfl dX4_degreeOf_18 ?_
      refine z_iload_n 3 rfl rfl dX4_degreeOf_19 ?_
      refine z_iconst (v := 1) (by decide) dX4_degreeOf_20 ?_
      refine z_sI dX4_degreeOf_21 (fun h5 => ?_)
      refine z_inc (w := 1) (lv' := [(3, .int (l3 + 1)), (0, .ref l0), (1, .ref l1), (2, .ref l2)]) 3 rfl (by decide) (by decide) rfl dX4_degreeOf_22 ?_
      refine z_goto 7 (by decide) dX4_degreeOf_25 ?_
      exact z_sub [1, 2, 3, 0] rfl (ih l0 l1 l2 (l3 + 1) h5)
def fX4_degreeOf (a0 : Nat) (a1 : Nat) (h : AH) : RR :=
  (zgR h a0 4 4).bind fun x1 =>
  fX4_degreeOf_7 FU a0 a1 x1 0 h
set_option maxRecDepth 20000 in
theorem mX4_degreeOf {V : VT} (hV : V.2.2.2.2.2.stackTraces = false) (d : Nat) (a0 : Nat) (a1 : Nat) (h : AH) : zM V yX4_degreeOf cX4_degreeOf 6 (some .int) (d + 2) [.ref a0, .ref a1] h (fX4_degreeOf a0 a1 h) := by
  refine z_meth hV (by decide +kernel) (Nat.le_of_ble_eq_true rfl) [(0, .ref a0), (1, .ref a1)] rfl (fun X => ?_)
  show zG X V RX4 "degreeOf" cX4_degreeOf 6 (some .int) (d + 2) h.1 h.2.1 (fX4_degreeOf a0 a1 h) 0 [(0, .ref a0), (1, .ref a1)] [] h
  unfold fX4_degreeOf
  refine z_aload_n 0 rfl rfl dX4_degreeOf_0 ?_
  refine z_gR zf_RX4_22 dX4_degreeOf_1 (fun x1 => ?_)
  refine z_astore_n (lv' := [(2, .ref x1), (0, .ref a0), (1, .ref a1)]) rfl (by decide) rfl dX4_degreeOf_4 ?_
  refine z_iconst (v := 0) (by decide) dX4_degreeOf_5 ?_
  refine z_istore_n (lv' := [(3, .int 0), (2, .ref x1), (0, .ref a0), (1, .ref a1)]) rfl (by decide) rfl dX4_degreeOf_6 ?_
  exact z_sub [2, 3, 1, 0] rfl (rX4_degreeOf_7 hV FU a0 a1 x1 0 h)
def fX4_countOf_5 : Nat → Nat → Nat → Int32 → Int32 → Int32 → AH → RR
  | 0, _, _, _, _, _, _ => none
  | k + 1, l0, l1, l2, l3, l4, h =>
  (zgR h l0 4 2).bind fun x1 =>
  (zgI h x1 0 2).bind fun x2 =>
  if x2 ≤ l4 then (
    some (.inl (some (.int l3)), h))
  else
  (zai h l1 l4).bind fun x3 =>
  if x3 = l2 then (
    fX4_countOf_5 k l0 l1 l2 (l3 + 1) (l4 + 1) h)
  else
  fX4_countOf_5 k l0 l1 l2 l3 (l4 + 1) h
set_option maxRecDepth 20000 in
theorem rX4_countOf_5 {X : CT} {V : VT} {d n0 k0 : Nat} (hV : V.2.2.2.2.2.stackTraces = false) (fu : Nat) : ∀ (l0 : Nat) (l1 : Nat) (l2 : Int32) (l3 : Int32) (l4 : Int32) (h : AH), zG X V RX4 "countOf" cX4_countOf 5 (some .int) (d + 1) n0 k0 (fX4_countOf_5 fu l0 l1 l2 l3 l4 h) 5 [(0, .ref l0), (1, .ref l1), (2, .int l2), (3, .int l3), (4, .int l4)] [] h := by
  induction fu with
  | zero => intros; exact z_none
  | succ k ih =>
    intro l0 l1 l2 l3 l4 h
    rw [fX4_countOf_5]
    refine z_iload 4 rfl dX4_countOf_5 ?_
    refine z_aload_n 0 rfl rfl dX4_countOf_7 ?_
    refine z_gR zf_RX4_9 dX4_countOf_8 (fun x1 => ?_)
    refine z_gI zf_RX4_28 dX4_countOf_11 (fun x2 => ?_)
    refine z_icmp_ge 34 (by decide) dX4_countOf_14 ?_ ?_
    · refine z_iload_n 3 rfl rfl dX4_countOf_34 ?_
      exact z_iret rfl dX4_countOf_35
    · refine z_aload_n 1 rfl rfl dX4_countOf_17 ?_
      refine z_iload 4 rfl dX4_countOf_18 ?_
      refine z_aI dX4_countOf_20 (fun x3 => ?_)
      refine z_iload_n 2 rfl rfl dX4_countOf_21 ?_
      refine z_icmp_ne 28 (by decide) dX4_countOf_22 ?_ ?_
      · refine z_inc (w := 1) (lv' := [(3, .int (l3 + 1)), (0, .ref l0), (1, .ref l1), (2, .int l2), (4, .int l4)]) 3 rfl (by decide) (by decide) rfl dX4_countOf_25 ?_
        refine z_inc (w := 1) (lv' := [(4, .int (l4 + 1)), (3, .int (l3 + 1)), (0, .ref l0), (1, .ref l1), (2, .int l2)]) 4 rfl (by decide) (by decide) rfl dX4_countOf_28 ?_
        refine z_goto 5 (by decide) dX4_countOf_31 ?_
        exact z_sub [2, 3, 4, 1, 0] rfl (ih l0 l1 l2 (l3 + 1) (l4 + 1) h)
      · refine z_inc (w := 1) (lv' := [(4, .int (l4 + 1)), (0, .ref l0), (1, .ref l1), (2, .int l2), (3, .int l3)]) 4 rfl (by decide) (by decide) rfl dX4_countOf_28 ?_
        refine z_goto 5 (by decide) dX4_countOf_31 ?_
        exact z_sub [1, 2, 3, 4, 0] rfl (ih l0 l1 l2 l3 (l4 + 1) h)
def fX4_countOf (a0 : Nat) (a1 : Nat) (a2 : Int32) (h : AH) : RR :=
  fX4_countOf_5 FU a0 a1 a2 0 0 h
set_option maxRecDepth 20000 in
theorem mX4_countOf {V : VT} (hV : V.2.2.2.2.2.stackTraces = false) (d : Nat) (a0 : Nat) (a1 : Nat) (a2 : Int32) (h : AH) : zM V yX4_countOf cX4_countOf 5 (some .int) (d + 1) [.ref a0, .ref a1, .int a2] h (fX4_countOf a0 a1 a2 h) := by
  refine z_meth hV (by decide +kernel) (Nat.le_of_ble_eq_true rfl) [(0, .ref a0), (1, .ref a1), (2, .int a2)] rfl (fun X => ?_)
  show zG X V RX4 "countOf" cX4_countOf 5 (some .int) (d + 1) h.1 h.2.1 (fX4_countOf a0 a1 a2 h) 0 [(0, .ref a0), (1, .ref a1), (2, .int a2)] [] h
  unfold fX4_countOf
  refine z_iconst (v := 0) (by decide) dX4_countOf_0 ?_
  refine z_istore_n (lv' := [(3, .int 0), (0, .ref a0), (1, .ref a1), (2, .int a2)]) rfl (by decide) rfl dX4_countOf_1 ?_
  refine z_iconst (v := 0) (by decide) dX4_countOf_2 ?_
  refine z_istore (lv' := [(4, .int 0), (3, .int 0), (0, .ref a0), (1, .ref a1), (2, .int a2)]) (by decide) rfl dX4_countOf_3 ?_
  exact z_sub [2, 3, 4, 1, 0] rfl (rX4_countOf_5 hV FU a0 a1 a2 0 0 h)
def fX4_imageOf_5 : Nat → Nat → Nat → Int64 → Int32 → AH → RR
  | 0, _, _, _, _, _ => none
  | k + 1, l0, l1, l2, l4, h =>
  (zgR h l0 4 2).bind fun x1 =>
  (zgI h x1 0 2).bind fun x2 =>
  if x2 ≤ l4 then (
    zca (fJ13_bitCount_95d88 l2 h) fun v3 h4 =>
    zvi v3 fun x5 =>
    some (.inl (some (.int x5)), h4))
  else
  (zai h l1 l4).bind fun x6 =>
  zletJ (l2 ||| ((1 : Int64) <<< (x6.toInt64 &&& 63))) fun w7 =>
  fX4_imageOf_5 k l0 l1 w7 (l4 + 1) h
set_option maxRecDepth 20000 in
theorem rX4_imageOf_5 {X : CT} {V : VT} {d n0 k0 : Nat} (hV : V.2.2.2.2.2.stackTraces = false) (fu : Nat) : ∀ (l0 : Nat) (l1 : Nat) (l2 : Int64) (l4 : Int32) (h : AH), zG X V RX4 "imageOf" cX4_imageOf 5 (some .int) (d + 2) n0 k0 (fX4_imageOf_5 fu l0 l1 l2 l4 h) 5 [(0, .ref l0), (1, .ref l1), (2, .long l2), (4, .int l4)] [] h := by
  induction fu with
  | zero => intros; exact z_none
  | succ k ih =>
    intro l0 l1 l2 l4 h
    rw [fX4_imageOf_5]
    refine z_iload 3 rfl dX4_imageOf_5 ?_
    refine z_aload_n 0 rfl rfl dX4_imageOf_7 ?_
    refine z_gR zf_RX4_9 dX4_imageOf_8 (fun x1 => ?_)
    refine z_gI zf_RX4_28 dX4_imageOf_11 (fun x2 => ?_)
    refine z_icmp_ge 32 (by decide) dX4_imageOf_14 ?_ ?_
    · refine z_lload_n 2 rfl rfl dX4_imageOf_32 ?_
      refine z_cS (st := []) [.long l2] zk_RX4_51 rfl (Nat.le_of_ble_eq_true rfl) dX4_imageOf_33 (mJ13_bitCount_95d88 hV (d + 0) l2 h) (fun v3 h4 => ?_)
      refine z_vi (fun x5 => ?_)
      exact z_iret rfl dX4_imageOf_36
    · refine z_lload_n 2 rfl rfl dX4_imageOf_17 ?_
      refine z_lconst (v := 1) (by decide) dX4_imageOf_18 ?_
      refine z_aload_n 1 rfl rfl dX4_imageOf_19 ?_
      refine z_iload 3 rfl dX4_imageOf_20 ?_
      refine z_aI dX4_imageOf_22 (fun x6 => ?_)
      refine z_lshl dX4_imageOf_23 ?_
      refine z_lor dX4_imageOf_24 ?_
      refine z_topJ (fun w7 => ?_)
      refine z_lstore_n (lv' := [(2, .long w7), (0, .ref l0), (1, .ref l1), (4, .int l4)]) rfl (by decide) rfl dX4_imageOf_25 ?_
      refine z_inc (w := 1) (lv' := [(4, .int (l4 + 1)), (2, .long w7), (0, .ref l0), (1, .ref l1)]) 3 rfl (by decide) (by decide) rfl dX4_imageOf_26 ?_
      refine z_goto 5 (by decide) dX4_imageOf_29 ?_
      exact z_sub [2, 3, 1, 0] rfl (ih l0 l1 w7 (l4 + 1) h)
def fX4_imageOf (a0 : Nat) (a1 : Nat) (h : AH) : RR :=
  fX4_imageOf_5 FU a0 a1 0 0 h
set_option maxRecDepth 20000 in
theorem mX4_imageOf {V : VT} (hV : V.2.2.2.2.2.stackTraces = false) (d : Nat) (a0 : Nat) (a1 : Nat) (h : AH) : zM V yX4_imageOf cX4_imageOf 5 (some .int) (d + 2) [.ref a0, .ref a1] h (fX4_imageOf a0 a1 h) := by
  refine z_meth hV (by decide +kernel) (Nat.le_of_ble_eq_true rfl) [(0, .ref a0), (1, .ref a1)] rfl (fun X => ?_)
  show zG X V RX4 "imageOf" cX4_imageOf 5 (some .int) (d + 2) h.1 h.2.1 (fX4_imageOf a0 a1 h) 0 [(0, .ref a0), (1, .ref a1)] [] h
  unfold fX4_imageOf
  refine z_lconst (v := 0) (by decide) dX4_imageOf_0 ?_
  refine z_lstore_n (lv' := [(2, .long 0), (0, .ref a0), (1, .ref a1)]) rfl (by decide) rfl dX4_imageOf_1 ?_
  refine z_iconst (v := 0) (by decide) dX4_imageOf_2 ?_
  refine z_istore (lv' := [(4, .int 0), (2, .long 0), (0, .ref a0), (1, .ref a1)]) (by decide) rfl dX4_imageOf_3 ?_
  exact z_sub [2, 3, 1, 0] rfl (rX4_imageOf_5 hV FU a0 a1 0 0 h)
def fX4_isPermuting (a0 : Nat) (a1 : Nat) (h : AH) : RR :=
  zcv (zob h a0 4) (fX4_imageOf a0 a1 h) fun v1 h2 =>
  zvi v1 fun x3 =>
  (zgR h2 a0 4 2).bind fun x4 =>
  (zgI h2 x4 0 2).bind fun x5 =>
  if x3 = x5 then (
    zbr 1 h2)
  else
  zbr 0 h2
set_option maxRecDepth 20000 in
theorem mX4_isPermuting {V : VT} (hV : V.2.2.2.2.2.stackTraces = false) (d : Nat) (a0 : Nat) (a1 : Nat) (h : AH) : zM V yX4_isPermuting cX4_isPermuting 2 (some .boolean) (d + 3) [.ref a0, .ref a1] h (fX4_isPermuting a0 a1 h) := by
  refine z_meth hV (by decide +kernel) (Nat.le_of_ble_eq_true rfl) [(0, .ref a0), (1, .ref a1)] rfl (fun X => ?_)
  show zG X V RX4 "isPermuting" cX4_isPermuting 2 (some .boolean) (d + 3) h.1 h.2.1 (fX4_isPermuting a0 a1 h) 0 [(0, .ref a0), (1, .ref a1)] [] h
  unfold fX4_isPermuting
  refine z_aload_n 0 rfl rfl dX4_isPermuting_0 ?_
  refine z_aload_n 1 rfl rfl dX4_isPermuting_1 ?_
  refine z_cV (st := []) [.ref a1] zk_RX4_57 rfl (Nat.le_of_ble_eq_true rfl) dX4_isPermuting_2 (mX4_imageOf hV (d + 0) a0 a1 h) (fun v1 h2 => ?_)
  refine z_vi (fun x3 => ?_)
  refine z_aload_n 0 rfl rfl dX4_isPermuting_5 ?_
  refine z_gR zf_RX4_9 dX4_isPermuting_6 (fun x4 => ?_)
  refine z_gI zf_RX4_28 dX4_isPermuting_9 (fun x5 => ?_)
  refine z_icmp_ne 19 (by decide) dX4_isPermuting_12 ?_ ?_
  · refine z_iconst (v := 1) (by decide) dX4_isPermuting_15 ?_
    refine z_goto 20 (by decide) dX4_isPermuting_16 ?_
    exact z_zret rfl dX4_isPermuting_20
  · refine z_iconst (v := 0) (by decide) dX4_isPermuting_19 ?_
    exact z_zret rfl dX4_isPermuting_20
def fX4_powersOf_137 (K45 : Nat → Nat → Nat → Int32 → Int32 → AH → RR) (l0 : Nat) (l1 : Nat) (l2 : Nat) (l4 : Int32) (l5 : Int32) (s0 : Int32) (h : AH) : RR :=
  if l5 = 0 then (
    K45 l0 l1 l2 s0 (l4 + 1) h)
  else
  if s0 = 0 then (
    K45 l0 l1 l2 s0 (l4 + 1) h)
  else
  some (.inl (some (.int l4)), h)
set_option maxRecDepth 20000 in
theorem rX4_powersOf_137 {X : CT} {V : VT} {d n0 k0 : Nat} (hV : V.2.2.2.2.2.stackTraces = false) (K45 : Nat → Nat → Nat → Int32 → Int32 → AH → RR) (hK45 : ∀ l0 l1 l2 l3 l4  h, zG X V RX4 "powersOf" cX4_powersOf 7 (some .int) (d + 2) n0 k0 (K45 l0 l1 l2 l3 l4 h) 45 [(0, .ref l0), (1, .ref l1), (2, .ref l2), (3, .int l3), (4, .int l4)] [] h) (l0 : Nat) (l1 : Nat) (l2 : Nat) (l4 : Int32) (l5 : Int32) (s0 : Int32) (h : AH) : zG X V RX4 "powersOf" cX4_powersOf 7 (some .int) (d + 2) n0 k0 (fX4_powersOf_137 K45 l0 l1 l2 l4 l5 s0 h) 137 [(0, .ref l0), (1, .ref l1), (2, .ref l2), (4, .int l4), (5, .int l5)] [.int s0] h := by
  unfold fX4_powersOf_137
  refine z_istore_n (lv' := [(3, .int s0), (0, .ref l0), (1, .ref l1), (2, .ref l2), (4, .int l4), (5, .int l5)]) rfl (by decide) rfl dX4_powersOf_137 ?_
  refine z_iload 5 rfl dX4_powersOf_138 ?_
  refine z_if_eq 150 (by decide) dX4_powersOf_140 ?_ ?_
  · refine z_inc (w := 1) (lv' := [(4, .int (l4 + 1)), (3, .int s0), (0, .ref l0), (1, .ref l1), (2, .ref l2), (5, .int l5)]) 4 rfl (by decide) (by decide) rfl dX4_powersOf_150 ?_
    refine z_goto 45 (by decide) dX4_powersOf_153 ?_
    exact z_sub [2, 3, 4, 1, 0] rfl (hK45 l0 l1 l2 s0 (l4 + 1) h)
  · refine z_iload_n 0 rfl rfl dX4_powersOf_143 ?_
    refine z_if_eq 150 (by decide) dX4_powersOf_144 ?_ ?_
    · refine z_inc (w := 1) (lv' := [(4, .int (l4 + 1)), (3, .int s0), (0, .ref l0), (1, .ref l1), (2, .ref l2), (5, .int l5)]) 4 rfl (by decide) (by decide) rfl dX4_powersOf_150 ?_
      refine z_goto 45 (by decide) dX4_powersOf_153 ?_
      exact z_sub [2, 3, 4, 1, 0] rfl (hK45 l0 l1 l2 s0 (l4 + 1) h)
    · refine z_iload 4 rfl dX4_powersOf_147 ?_
      exact z_iret rfl dX4_powersOf_149
def fX4_powersOf_65 (K45 : Nat → Nat → Nat → Int32 → Int32 → AH → RR) : Nat → Nat → Nat → Nat → Int32 → Int32 → Int32 → Int32 → AH → RR
  | 0, _, _, _, _, _, _, _, _ => none
  | k + 1, l0, l1, l2, l3, l4, l5, l6, h =>
  (zgR h l0 4 2).bind fun x1 =>
  (zgI h x1 0 2).bind fun x2 =>
  if x2 ≤ l6 then (
    (zgR h l0 4 2).bind fun x3 =>
    (zgI h x3 0 0).bind fun x4 =>
    if x4 ≤ (l3 + 1) then (
      fX4_powersOf_137 K45 l0 l1 l2 l4 l5 0 h)
    else
    fX4_powersOf_137 K45 l0 l1 l2 l4 l5 (l3 + 1) h)
  else
  (zgR h l0 4 2).bind fun x5 =>
  (zai h l2 l6).bind fun x6 =>
  (zai h l1 l6).bind fun x7 =>
  zcv (zob h x5 0) (fX0_product x5 x6 x7 h) fun v8 h9 =>
  zvi v8 fun x10 =>
  (zsi h9 l2 l6 x10).bind fun h11 =>
  (zgR h11 l0 4 2).bind fun x12 =>
  (zai h11 l2 l6).bind fun x13 =>
  zcv (zob h11 x12 0) (fX0_sum x12 l5 x13 h11) fun v14 h15 =>
  zvi v14 fun x16 =>
  fX4_powersOf_65 K45 k l0 l1 l2 l3 l4 x16 (l6 + 1) h15
set_option maxRecDepth 20000 in
theorem rX4_powersOf_65 {X : CT} {V : VT} {d n0 k0 : Nat} (hV : V.2.2.2.2.2.stackTraces = false) (K45 : Nat → Nat → Nat → Int32 → Int32 → AH → RR) (hK45 : ∀ l0 l1 l2 l3 l4  h, zG X V RX4 "powersOf" cX4_powersOf 7 (some .int) (d + 2) n0 k0 (K45 l0 l1 l2 l3 l4 h) 45 [(0, .ref l0), (1, .ref l1), (2, .ref l2), (3, .int l3), (4, .int l4)] [] h) (fu : Nat) : ∀ (l0 : Nat) (l1 : Nat) (l2 : Nat) (l3 : Int32) (l4 : Int32) (l5 : Int32) (l6 : Int32) (h : AH), zG X V RX4 "powersOf" cX4_powersOf 7 (some .int) (d + 2) n0 k0 (fX4_powersOf_65 K45 fu l0 l1 l2 l3 l4 l5 l6 h) 65 [(0, .ref l0), (1, .ref l1), (2, .ref l2), (3, .int l3), (4, .int l4), (5, .int l5), (6, .int l6)] [] h := by
  induction fu with
  | zero => intros; exact z_none
  | succ k ih =>
    intro l0 l1 l2 l3 l4 l5 l6 h
    rw [fX4_powersOf_65]
    refine z_iload 6 rfl dX4_powersOf_65 ?_
    refine z_aload_n 0 rfl rfl dX4_powersOf_67 ?_
    refine z_gR zf_RX4_9 dX4_powersOf_68 (fun x1 => ?_)
    refine z_gI zf_RX4_28 dX4_powersOf_71 (fun x2 => ?_)
    refine z_icmp_ge 117 (by decide) dX4_powersOf_74 ?_ ?_
    · refine z_iload_n 3 rfl rfl dX4_powersOf_117 ?_
      refine z_iconst (v := 1) (by decide) dX4_powersOf_118 ?_
      refine z_iadd dX4_powersOf_119 ?_
      refine z_aload_n 0 rfl rfl dX4_powersOf_120 ?_
      refine z_gR zf_RX4_9 dX4_powersOf_121 (fun x3 => ?_)
      refine z_gI zf_RX4_65 dX4_powersOf_124 (fun x4 => ?_)
      refine z_icmp_ge 136 (by decide) dX4_powersOf_127 ?_ ?_
      · refine z_iconst (v := 0) (by decide) dX4_powersOf_136 ?_
        exact z_sub [0, 1, 2, 4, 5] rfl (rX4_powersOf_137 hV K45 hK45 l0 l1 l2 l4 l5 0 h)
      · refine z_iload_n 3 rfl rfl dX4_powersOf_130 ?_
        refine z_iconst (v := 1) (by decide) dX4_powersOf_131 ?_
        refine z_iadd dX4_powersOf_132 ?_
        refine z_goto 137 (by decide) dX4_powersOf_133 ?_
        exact z_sub [0, 1, 2, 4, 5] rfl (rX4_powersOf_137 hV K45 hK45 l0 l1 l2 l4 l5 (l3 + 1) h)
    · refine z_aload_n 2 rfl rfl dX4_powersOf_77 ?_
      refine z_iload 6 rfl dX4_powersOf_78 ?_
      refine z_aload_n 0 rfl rfl dX4_powersOf_80 ?_
      refine z_gR zf_RX4_9 dX4_powersOf_81 (fun x5 => ?_)
      refine z_aload_n 2 rfl rfl dX4_powersOf_84 ?_
      refine z_iload 6 rfl dX4_powersOf_85 ?_
      refine z_aI dX4_powersOf_87 (fun x6 => ?_)
      refine z_aload_n 1 rfl rfl dX4_powersOf_88 ?_
      refine z_iload 6 rfl dX4_powersOf_89 ?_
      refine z_aI dX4_powersOf_91 (fun x7 => ?_)
      refine z_cV (st := [.int l6, .ref l2]) [.int x6, .int x7] zk_RX4_42 rfl (Nat.le_of_ble_eq_true rfl) dX4_powersOf_92 (mX0_product hV (d + 0) x5 x6 x7 h) (fun v8 h9 => ?_)
      refine z_vi (fun x10 => ?_)
      refine z_sI dX4_powersOf_95 (fun h11 => ?_)
      refine z_aload_n 0 rfl rfl dX4_powersOf_96 ?_
      refine z_gR zf_RX4_9 dX4_powersOf_97 (fun x12 => ?_)
      refine z_iload 5 rfl dX4_powersOf_100 ?_
      refine z_aload_n 2 rfl rfl dX4_powersOf_102 ?_
      refine z_iload 6 rfl dX4_powersOf_103 ?_
      refine z_aI dX4_powersOf_105 (fun x13 => ?_)
      refine z_cV (st := []) [.int l5, .int x13] zk_RX4_45 rfl (Nat.le_of_ble_eq_true rfl) dX4_powersOf_106 (mX0_sum hV (d + 0) x12 l5 x13 h11) (fun v14 h15 => ?_)
      refine z_vi (fun x16 => ?_)
      refine z_istore (lv' := [(5, .int x16), (0, .ref l0), (1, .ref l1), (2, .ref l2), (3, .int l3), (4, .int l4), (6, .int l6)]) (by decide) rfl dX4_powersOf_109 ?_
      refine z_inc (w := 1) (lv' := [(6, .int (l6 + 1)), (5, .int x16), (0, .ref l0), (1, .ref l1), (2, .ref l2), (3, .int l3), (4, .int l4)]) 6 rfl (by decide) (by decide) rfl dX4_powersOf_111 ?_
      refine z_goto 65 (by decide) dX4_powersOf_114 ?_
      exact z_sub [2, 3, 4, 5, 6, 1, 0] rfl (ih l0 l1 l2 l3 l4 x16 (l6 + 1) h15)
def fX4_powersOf_45 : Nat → Nat → Nat → Nat → Int32 → Int32 → AH → RR
  | 0, _, _, _, _, _, _ => none
  | k + 1, l0, l1, l2, l3, l4, h =>
  (zgR h l0 4 2).bind fun x1 =>
  (zgI h x1 0 2).bind fun x2 =>
  if (x2 - 2) < l4 then (
    some (.inl (some (.int (-1))), h))
  else
  fX4_powersOf_65 (fun p0 p1 p2 p3 p4 h => fX4_powersOf_45 k p0 p1 p2 p3 p4 h) FU l0 l1 l2 l3 l4 0 0 h
set_option maxRecDepth 20000 in
theorem rX4_powersOf_45 {X : CT} {V : VT} {d n0 k0 : Nat} (hV : V.2.2.2.2.2.stackTraces = false) (fu : Nat) : ∀ (l0 : Nat) (l1 : Nat) (l2 : Nat) (l3 : Int32) (l4 : Int32) (h : AH), zG X V RX4 "powersOf" cX4_powersOf 7 (some .int) (d + 2) n0 k0 (fX4_powersOf_45 fu l0 l1 l2 l3 l4 h) 45 [(0, .ref l0), (1, .ref l1), (2, .ref l2), (3, .int l3), (4, .int l4)] [] h := by
  induction fu with
  | zero => intros; exact z_none
  | succ k ih =>
    intro l0 l1 l2 l3 l4 h
    rw [fX4_powersOf_45]
    refine z_iload 4 rfl dX4_powersOf_45 ?_
    refine z_aload_n 0 rfl rfl dX4_powersOf_47 ?_
    refine z_gR zf_RX4_9 dX4_powersOf_48 (fun x1 => ?_)
    refine z_gI zf_RX4_28 dX4_powersOf_51 (fun x2 => ?_)
    refine z_iconst (v := 2) (by decide) dX4_powersOf_54 ?_
    refine z_isub dX4_powersOf_55 ?_
    refine z_icmp_gt 156 (by decide) dX4_powersOf_56 ?_ ?_
    · refine z_iconst (v := (-1)) (by decide) dX4_powersOf_156 ?_
      exact z_iret rfl dX4_powersOf_157
    · refine z_iconst (v := 0) (by decide) dX4_powersOf_59 ?_
      refine z_istore (lv' := [(5, .int 0), (0, .ref l0), (1, .ref l1), (2, .ref l2), (3, .int l3), (4, .int l4)]) (by decide) rfl dX4_powersOf_60 ?_
      refine z_iconst (v := 0) (by decide) dX4_powersOf_62 ?_
      refine z_istore (lv' := [(6, .int 0), (5, .int 0), (0, .ref l0), (1, .ref l1), (2, .ref l2), (3, .int l3), (4, .int l4)]) (by decide) rfl dX4_powersOf_63 ?_
      exact z_sub [2, 3, 4, 5, 6, 1, 0] rfl (rX4_powersOf_65 hV (fun p0 p1 p2 p3 p4 h => fX4_powersOf_45 k p0 p1 p2 p3 p4 h) ih FU l0 l1 l2 l3 l4 0 0 h)
def fX4_powersOf_19 : Nat → Nat → Nat → Nat → Int32 → AH → RR
  | 0, _, _, _, _, _ => none
  | k + 1, l0, l1, l2, l3, h =>
  (zgR h l0 4 2).bind fun x1 =>
  (zgI h x1 0 2).bind fun x2 =>
  if x2 ≤ l3 then (
    fX4_powersOf_45 FU l0 l1 l2 0 1 h)
  else
  (zsi h l2 l3 1).bind fun h3 =>
  fX4_powersOf_19 k l0 l1 l2 (l3 + 1) h3
set_option maxRecDepth 20000 in
theorem rX4_powersOf_19 {X : CT} {V : VT} {d n0 k0 : Nat} (hV : V.2.2.2.2.2.stackTraces = false) (fu : Nat) : ∀ (l0 : Nat) (l1 : Nat) (l2 : Nat) (l3 : Int32) (h : AH), zG X V RX4 "powersOf" cX4_powersOf 7 (some .int) (d + 2) n0 k0 (fX4_powersOf_19 fu l0 l1 l2 l3 h) 19 [(0, .ref l0), (1, .ref l1), (2, .ref l2), (3, .int l3)] [] h := by
  induction fu with
  | zero => intros; exact z_none
  | succ k ih =>
    intro l0 l1 l2 l3 h
    rw [fX4_powersOf_19]
    refine z_iload_n 3 rfl rfl dX4_powersOf_19 ?_
    refine z_aload_n 0 rfl rfl dX4_powersOf_20 ?_
    refine z_gR zf_RX4_9 dX4_powersOf_21 (fun x1 => ?_)
    refine z_gI zf_RX4_28 dX4_powersOf_24 (fun x2 => ?_)
    refine z_icmp_ge 40 (by decide) dX4_powersOf_27 ?_ ?_
    · refine z_iconst (v := 0) (by decide) dX4_powersOf_40 ?_
      refine z_istore_n (lv' := [(3, .int 0), (0, .ref l0), (1, .ref l1), (2, .ref l2)]) rfl (by decide) rfl dX4_powersOf_41 ?_
      refine z_iconst (v := 1) (by decide) dX4_powersOf_42 ?_
      refine z_istore (lv' := [(4, .int 1), (3, .int 0), (0, .ref l0), (1, .ref l1), (2, .ref l2)]) (by decide) rfl dX4_powersOf_43 ?_
      exact z_sub [2, 3, 4, 1, 0] rfl (rX4_powersOf_45 hV FU l0 l1 l2 0 1 h)
    · refine z_aload_n 2 rfl rfl dX4_powersOf_30 ?_
      refine z_iload_n 3 rfl rfl dX4_powersOf_31 ?_
      refine z_iconst (v := 1) (by decide) dX4_powersOf_32 ?_
      refine z_sI dX4_powersOf_33 (fun h3 => ?_)
      refine z_inc (w := 1) (lv' := [(3, .int (l3 + 1)), (0, .ref l0), (1, .ref l1), (2, .ref l2)]) 3 rfl (by decide) (by decide) rfl dX4_powersOf_34 ?_
      refine z_goto 19 (by decide) dX4_powersOf_37 ?_
      exact z_sub [1, 2, 3, 0] rfl (ih l0 l1 l2 (l3 + 1) h3)
def fX4_powersOf (a0 : Nat) (a1 : Nat) (h : AH) : RR :=
  zcv (zob h a0 4) (fX4_countOf a0 a1 0 h) fun v1 h2 =>
  zvi v1 fun x3 =>
  if x3 = 1 then (
    (zgR h2 a0 4 4).bind fun x4 =>
    fX4_powersOf_19 FU a0 a1 x4 0 h2)
  else
  some (.inl (some (.int 0)), h2)
set_option maxRecDepth 20000 in
theorem mX4_powersOf {V : VT} (hV : V.2.2.2.2.2.stackTraces = false) (d : Nat) (a0 : Nat) (a1 : Nat) (h : AH) : zM V yX4_powersOf cX4_powersOf 7 (some .int) (d + 2) [.ref a0, .ref a1] h (fX4_powersOf a0 a1 h) := by
  refine z_meth hV (by decide +kernel) (Nat.le_of_ble_eq_true rfl) [(0, .ref a0), (1, .ref a1)] rfl (fun X => ?_)
  show zG X V RX4 "powersOf" cX4_powersOf 7 (some .int) (d + 2) h.1 h.2.1 (fX4_powersOf a0 a1 h) 0 [(0, .ref a0), (1, .ref a1)] [] h
  unfold fX4_powersOf
  refine z_aload_n 0 rfl rfl dX4_powersOf_0 ?_
  refine z_aload_n 1 rfl rfl dX4_powersOf_1 ?_
  refine z_iconst (v := 0) (by decide) dX4_powersOf_2 ?_
  refine z_cV (st := []) [.ref a1, .int 0] zk_RX4_61 rfl (Nat.le_of_ble_eq_true rfl) dX4_powersOf_3 (mX4_countOf hV (d + 0) a0 a1 0 h) (fun v1 h2 => ?_)
  refine z_vi (fun x3 => ?_)
  refine z_iconst (v := 1) (by decide) dX4_powersOf_6 ?_
  refine z_icmp_eq 12 (by decide) dX4_powersOf_7 ?_ ?_
  · refine z_aload_n 0 rfl rfl dX4_powersOf_12 ?_
    refine z_gR zf_RX4_22 dX4_powersOf_13 (fun x4 => ?_)
    refine z_astore_n (lv' := [(2, .ref x4), (0, .ref a0), (1, .ref a1)]) rfl (by decide) rfl dX4_powersOf_16 ?_
    refine z_iconst (v := 0) (by decide) dX4_powersOf_17 ?_
    refine z_istore_n (lv' := [(3, .int 0), (2, .ref x4), (0, .ref a0), (1, .ref a1)]) rfl (by decide) rfl dX4_powersOf_18 ?_
    exact z_sub [2, 3, 1, 0] rfl (rX4_powersOf_19 hV FU a0 a1 x4 0 h2)
  · refine z_iconst (v := 0) (by decide) dX4_powersOf_10 ?_
    exact z_iret rfl dX4_powersOf_11
def fX4_findCycles_92 (K31 : Nat → Nat → Int64 → Int32 → AH → RR) (l0 : Nat) (l1 : Nat) (l2 : Int64) (l4 : Int32) (l5 : Int32) (h : AH) : RR :=
  if l5 ≤ 0 then (
    K31 l0 l1 l2 (l4 + 1) h)
  else
  (zgR h l0 4 1).bind fun x1 =>
  (zai h x1 l5).bind fun x2 =>
  (zsi h x1 l5 (x2 + 1)).bind fun h3 =>
  (zgI h3 l0 4 0).bind fun x4 =>
  (zpf h3 l0 4 0 (.int (x4 + 1))).bind fun h5 =>
  K31 l0 l1 l2 (l4 + 1) h5
set_option maxRecDepth 20000 in
theorem rX4_findCycles_92 {X : CT} {V : VT} {d n0 k0 : Nat} (hV : V.2.2.2.2.2.stackTraces = false) (K31 : Nat → Nat → Int64 → Int32 → AH → RR) (hK31 : ∀ l0 l1 l2 l4  h, zG X V RX4 "findCycles" cX4_findCycles 7 none (d + 1) n0 k0 (K31 l0 l1 l2 l4 h) 31 [(0, .ref l0), (1, .ref l1), (2, .long l2), (4, .int l4)] [] h) (l0 : Nat) (l1 : Nat) (l2 : Int64) (l4 : Int32) (l5 : Int32) (h : AH) : zG X V RX4 "findCycles" cX4_findCycles 7 none (d + 1) n0 k0 (fX4_findCycles_92 K31 l0 l1 l2 l4 l5 h) 92 [(0, .ref l0), (1, .ref l1), (2, .long l2), (4, .int l4), (5, .int l5)] [] h := by
  unfold fX4_findCycles_92
  refine z_iload 4 rfl dX4_findCycles_92 ?_
  refine z_if_le 118 (by decide) dX4_findCycles_94 ?_ ?_
  · refine z_inc (w := 1) (lv' := [(4, .int (l4 + 1)), (0, .ref l0), (1, .ref l1), (2, .long l2), (5, .int l5)]) 3 rfl (by decide) (by decide) rfl dX4_findCycles_118 ?_
    refine z_goto 31 (by decide) dX4_findCycles_121 ?_
    exact z_sub [1, 2, 3, 0] rfl (hK31 l0 l1 l2 (l4 + 1) h)
  · refine z_aload_n 0 rfl rfl dX4_findCycles_97 ?_
    refine z_gR zf_RX4_15 dX4_findCycles_98 (fun x1 => ?_)
    refine z_iload 4 rfl dX4_findCycles_101 ?_
    refine z_dup2 rfl rfl dX4_findCycles_103 ?_
    refine z_aI dX4_findCycles_104 (fun x2 => ?_)
    refine z_iconst (v := 1) (by decide) dX4_findCycles_105 ?_
    refine z_iadd dX4_findCycles_106 ?_
    refine z_sI dX4_findCycles_107 (fun h3 => ?_)
    refine z_aload_n 0 rfl rfl dX4_findCycles_108 ?_
    refine z_dup rfl dX4_findCycles_109 ?_
    refine z_gI zf_RX4_68 dX4_findCycles_110 (fun x4 => ?_)
    refine z_iconst (v := 1) (by decide) dX4_findCycles_113 ?_
    refine z_iadd dX4_findCycles_114 ?_
    refine z_pI zf_RX4_68 zq_4_0 rfl dX4_findCycles_115 (fun h5 => ?_)
    refine z_inc (w := 1) (lv' := [(4, .int (l4 + 1)), (0, .ref l0), (1, .ref l1), (2, .long l2), (5, .int l5)]) 3 rfl (by decide) (by decide) rfl dX4_findCycles_118 ?_
    refine z_goto 31 (by decide) dX4_findCycles_121 ?_
    exact z_sub [1, 2, 3, 0] rfl (hK31 l0 l1 l2 (l4 + 1) h5)
def fX4_findCycles_50 (K31 : Nat → Nat → Int64 → Int32 → AH → RR) : Nat → Nat → Nat → Int64 → Int32 → Int32 → Int32 → AH → RR
  | 0, _, _, _, _, _, _, _ => none
  | k + 1, l0, l1, l2, l4, l5, l6, h =>
  (zgR h l0 4 2).bind fun x1 =>
  (zgI h x1 0 2).bind fun x2 =>
  if x2 ≤ l5 then (
    fX4_findCycles_92 K31 l0 l1 l2 l4 l5 h)
  else
  if (lg_cmp (((l2.toUInt64 >>> (l6.toInt64.toUInt64 &&& Int64.toUInt64 63)).toInt64) &&& 1) 0) = 0 then (
    zletJ (l2 ||| ((1 : Int64) <<< (l6.toInt64 &&& 63))) fun w3 =>
    (zai h l1 l6).bind fun x4 =>
    fX4_findCycles_50 K31 k l0 l1 w3 l4 (l5 + 1) x4 h)
  else
  fX4_findCycles_92 K31 l0 l1 l2 l4 l5 h
set_option maxRecDepth 20000 in
theorem rX4_findCycles_50 {X : CT} {V : VT} {d n0 k0 : Nat} (hV : V.2.2.2.2.2.stackTraces = false) (K31 : Nat → Nat → Int64 → Int32 → AH → RR) (hK31 : ∀ l0 l1 l2 l4  h, zG X V RX4 "findCycles" cX4_findCycles 7 none (d + 1) n0 k0 (K31 l0 l1 l2 l4 h) 31 [(0, .ref l0), (1, .ref l1), (2, .long l2), (4, .int l4)] [] h) (fu : Nat) : ∀ (l0 : Nat) (l1 : Nat) (l2 : Int64) (l4 : Int32) (l5 : Int32) (l6 : Int32) (h : AH), zG X V RX4 "findCycles" cX4_findCycles 7 none (d + 1) n0 k0 (fX4_findCycles_50 K31 fu l0 l1 l2 l4 l5 l6 h) 50 [(0, .ref l0), (1, .ref l1), (2, .long l2), (4, .int l4), (5, .int l5), (6, .int l6)] [] h := by
  induction fu with
  | zero => intros; exact z_none
  | succ k ih =>
    intro l0 l1 l2 l4 l5 l6 h
    rw [fX4_findCycles_50]
    refine z_iload 4 rfl dX4_findCycles_50 ?_
    refine z_aload_n 0 rfl rfl dX4_findCycles_52 ?_
    refine z_gR zf_RX4_9 dX4_findCycles_53 (fun x1 => ?_)
    refine z_gI zf_RX4_28 dX4_findCycles_56 (fun x2 => ?_)
    refine z_icmp_ge 92 (by decide) dX4_findCycles_59 ?_ ?_
    · exact z_sub [0, 1, 2, 3, 4] rfl (rX4_findCycles_92 hV K31 hK31 l0 l1 l2 l4 l5 h)
    · refine z_lload_n 2 rfl rfl dX4_findCycles_62 ?_
      refine z_iload 5 rfl dX4_findCycles_63 ?_
      refine z_lushr dX4_findCycles_65 ?_
      refine z_lconst (v := 1) (by decide) dX4_findCycles_66 ?_
      refine z_land dX4_findCycles_67 ?_
      refine z_lconst (v := 0) (by decide) dX4_findCycles_68 ?_
      refine z_lcmp dX4_findCycles_69 ?_
      refine z_if_ne 92 (by decide) dX4_findCycles_70 ?_ ?_
      · refine z_lload_n 2 rfl rfl dX4_findCycles_73 ?_
        refine z_lconst (v := 1) (by decide) dX4_findCycles_74 ?_
        refine z_iload 5 rfl dX4_findCycles_75 ?_
        refine z_lshl dX4_findCycles_77 ?_
        refine z_lor dX4_findCycles_78 ?_
        refine z_topJ (fun w3 => ?_)
        refine z_lstore_n (lv' := [(2, .long w3), (0, .ref l0), (1, .ref l1), (4, .int l4), (5, .int l5), (6, .int l6)]) rfl (by decide) rfl dX4_findCycles_79 ?_
        refine z_aload_n 2 rfl rfl dX4_findCycles_80 ?_
        refine z_iload 5 rfl dX4_findCycles_81 ?_
        refine z_aI dX4_findCycles_83 (fun x4 => ?_)
        refine z_istore (lv' := [(6, .int x4), (2, .long w3), (0, .ref l0), (1, .ref l1), (4, .int l4), (5, .int l5)]) (by decide) rfl dX4_findCycles_84 ?_
        refine z_inc (w := 1) (lv' := [(5, .int (l5 + 1)), (6, .int x4), (2, .long w3), (0, .ref l0), (1, .ref l1), (4, .int l4)]) 5 rfl (by decide) (by decide) rfl dX4_findCycles_86 ?_
        refine z_goto 50 (by decide) dX4_findCycles_89 ?_
        exact z_sub [3, 4, 2, 5, 0, 1] rfl (ih l0 l1 w3 l4 (l5 + 1) x4 h)
      · exact z_sub [0, 1, 2, 3, 4] rfl (rX4_findCycles_92 hV K31 hK31 l0 l1 l2 l4 l5 h)
def fX4_findCycles_31 : Nat → Nat → Nat → Int64 → Int32 → AH → RR
  | 0, _, _, _, _, _ => none
  | k + 1, l0, l1, l2, l4, h =>
  (zgR h l0 4 2).bind fun x1 =>
  (zgI h x1 0 2).bind fun x2 =>
  if x2 ≤ l4 then (
    some (.inl none, h))
  else
  fX4_findCycles_50 (fun p0 p1 p2 p4 h => fX4_findCycles_31 k p0 p1 p2 p4 h) FU l0 l1 l2 l4 0 l4 h
set_option maxRecDepth 20000 in
theorem rX4_findCycles_31 {X : CT} {V : VT} {d n0 k0 : Nat} (hV : V.2.2.2.2.2.stackTraces = false) (fu : Nat) : ∀ (l0 : Nat) (l1 : Nat) (l2 : Int64) (l4 : Int32) (h : AH), zG X V RX4 "findCycles" cX4_findCycles 7 none (d + 1) n0 k0 (fX4_findCycles_31 fu l0 l1 l2 l4 h) 31 [(0, .ref l0), (1, .ref l1), (2, .long l2), (4, .int l4)] [] h := by
  induction fu with
  | zero => intros; exact z_none
  | succ k ih =>
    intro l0 l1 l2 l4 h
    rw [fX4_findCycles_31]
    refine z_iload 3 rfl dX4_findCycles_31 ?_
    refine z_aload_n 0 rfl rfl dX4_findCycles_33 ?_
    refine z_gR zf_RX4_9 dX4_findCycles_34 (fun x1 => ?_)
    refine z_gI zf_RX4_28 dX4_findCycles_37 (fun x2 => ?_)
    refine z_icmp_ge 124 (by decide) dX4_findCycles_40 ?_ ?_
    · exact z_vret rfl dX4_findCycles_124
    · refine z_iconst (v := 0) (by decide) dX4_findCycles_43 ?_
      refine z_istore (lv' := [(5, .int 0), (0, .ref l0), (1, .ref l1), (2, .long l2), (4, .int l4)]) (by decide) rfl dX4_findCycles_44 ?_
      refine z_iload 4 rfl dX4_findCycles_46 ?_
      refine z_istore (lv' := [(6, .int l4), (5, .int 0), (0, .ref l0), (1, .ref l1), (2, .long l2), (4, .int l4)]) (by decide) rfl dX4_findCycles_48 ?_
      exact z_sub [2, 3, 4, 5, 1, 0] rfl (rX4_findCycles_50 hV (fun p0 p1 p2 p4 h => fX4_findCycles_31 k p0 p1 p2 p4 h) ih FU l0 l1 l2 l4 0 l4 h)
def fX4_findCycles_2 : Nat → Nat → Nat → Int32 → AH → RR
  | 0, _, _, _, _ => none
  | k + 1, l0, l1, l2, h =>
  if 64 < l2 then (
    (zpf h l0 4 0 (.int 0)).bind fun h1 =>
    fX4_findCycles_31 FU l0 l1 0 0 h1)
  else
  (zgR h l0 4 1).bind fun x2 =>
  (zsi h x2 l2 0).bind fun h3 =>
  fX4_findCycles_2 k l0 l1 (l2 + 1) h3
set_option maxRecDepth 20000 in
theorem rX4_findCycles_2 {X : CT} {V : VT} {d n0 k0 : Nat} (hV : V.2.2.2.2.2.stackTraces = false) (fu : Nat) : ∀ (l0 : Nat) (l1 : Nat) (l2 : Int32) (h : AH), zG X V RX4 "findCycles" cX4_findCycles 7 none (d + 1) n0 k0 (fX4_findCycles_2 fu l0 l1 l2 h) 2 [(0, .ref l0), (1, .ref l1), (2, .int l2)] [] h := by
  induction fu with
  | zero => intros; exact z_none
  | succ k ih =>
    intro l0 l1 l2 h
    rw [fX4_findCycles_2]
    refine z_iload_n 2 rfl rfl dX4_findCycles_2 ?_
    refine z_bipush (v := 64) (by decide) dX4_findCycles_3 ?_
    refine z_icmp_gt 21 (by decide) dX4_findCycles_5 ?_ ?_
    · refine z_aload_n 0 rfl rfl dX4_findCycles_21 ?_
      refine z_iconst (v := 0) (by decide) dX4_findCycles_22 ?_
      refine z_pI zf_RX4_68 zq_4_0 rfl dX4_findCycles_23 (fun h1 => ?_)
      refine z_lconst (v := 0) (by decide) dX4_findCycles_26 ?_
      refine z_lstore_n (lv' := [(2, .long 0), (0, .ref l0), (1, .ref l1)]) rfl (by decide) rfl dX4_findCycles_27 ?_
      refine z_iconst (v := 0) (by decide) dX4_findCycles_28 ?_
      refine z_istore (lv' := [(4, .int 0), (2, .long 0), (0, .ref l0), (1, .ref l1)]) (by decide) rfl dX4_findCycles_29 ?_
      exact z_sub [2, 3, 1, 0] rfl (rX4_findCycles_31 hV FU l0 l1 0 0 h1)
    · refine z_aload_n 0 rfl rfl dX4_findCycles_8 ?_
      refine z_gR zf_RX4_15 dX4_findCycles_9 (fun x2 => ?_)
      refine z_iload_n 2 rfl rfl dX4_findCycles_12 ?_
      refine z_iconst (v := 0) (by decide) dX4_findCycles_13 ?_
      refine z_sI dX4_findCycles_14 (fun h3 => ?_)
      refine z_inc (w := 1) (lv' := [(2, .int (l2 + 1)), (0, .ref l0), (1, .ref l1)]) 2 rfl (by decide) (by decide) rfl dX4_findCycles_15 ?_
      refine z_goto 2 (by decide) dX4_findCycles_18 ?_
      exact z_sub [1, 2, 0] rfl (ih l0 l1 (l2 + 1) h3)
def fX4_findCycles (a0 : Nat) (a1 : Nat) (h : AH) : RR :=
  fX4_findCycles_2 FU a0 a1 0 h
set_option maxRecDepth 20000 in
theorem mX4_findCycles {V : VT} (hV : V.2.2.2.2.2.stackTraces = false) (d : Nat) (a0 : Nat) (a1 : Nat) (h : AH) : zM V yX4_findCycles cX4_findCycles 7 none (d + 1) [.ref a0, .ref a1] h (fX4_findCycles a0 a1 h) := by
  refine z_meth hV (by decide +kernel) (Nat.le_of_ble_eq_true rfl) [(0, .ref a0), (1, .ref a1)] rfl (fun X => ?_)
  show zG X V RX4 "findCycles" cX4_findCycles 7 none (d + 1) h.1 h.2.1 (fX4_findCycles a0 a1 h) 0 [(0, .ref a0), (1, .ref a1)] [] h
  unfold fX4_findCycles
  refine z_iconst (v := 0) (by decide) dX4_findCycles_0 ?_
  refine z_istore_n (lv' := [(2, .int 0), (0, .ref a0), (1, .ref a1)]) rfl (by decide) rfl dX4_findCycles_1 ?_
  exact z_sub [1, 2, 0] rfl (rX4_findCycles_2 hV FU a0 a1 0 h)
def fX4_commonDivisor_2 : Nat → Int32 → Int32 → Int32 → AH → RR
  | 0, _, _, _, _ => none
  | k + 1, l0, l1, l2, h =>
  if l2 ≤ 1 then (
    some (.inl (some (.int 1)), h))
  else
  if l2 = 0 then none else
  if (l1 - l1 / l2 * l2) = 0 then (
    if l2 = 0 then none else
    if (l0 - l0 / l2 * l2) = 0 then (
      some (.inl (some (.int l2)), h))
    else
    fX4_commonDivisor_2 k l0 l1 (l2 + (-1)) h)
  else
  fX4_commonDivisor_2 k l0 l1 (l2 + (-1)) h
set_option maxRecDepth 20000 in
theorem rX4_commonDivisor_2 {X : CT} {V : VT} {d n0 k0 : Nat} (hV : V.2.2.2.2.2.stackTraces = false) (fu : Nat) : ∀ (l0 : Int32) (l1 : Int32) (l2 : Int32) (h : AH), zG X V RX4 "commonDivisor" cX4_commonDivisor 3 (some .int) (d + 1) n0 k0 (fX4_commonDivisor_2 fu l0 l1 l2 h) 2 [(0, .int l0), (1, .int l1), (2, .int l2)] [] h := by
  induction fu with
  | zero => intros; exact z_none
  | succ k ih =>
    intro l0 l1 l2 h
    rw [fX4_commonDivisor_2]
    refine z_iload_n 2 rfl rfl dX4_commonDivisor_2 ?_
    refine z_iconst (v := 1) (by decide) dX4_commonDivisor_3 ?_
    refine z_icmp_le 27 (by decide) dX4_commonDivisor_4 ?_ ?_
    · refine z_iconst (v := 1) (by decide) dX4_commonDivisor_27 ?_
      exact z_iret rfl dX4_commonDivisor_28
    · refine z_iload_n 1 rfl rfl dX4_commonDivisor_7 ?_
      refine z_iload_n 2 rfl rfl dX4_commonDivisor_8 ?_
      refine z_irem dX4_commonDivisor_9 ?_
      refine z_if_ne 21 (by decide) dX4_commonDivisor_10 ?_ ?_
      · refine z_iload_n 0 rfl rfl dX4_commonDivisor_13 ?_
        refine z_iload_n 2 rfl rfl dX4_commonDivisor_14 ?_
        refine z_irem dX4_commonDivisor_15 ?_
        refine z_if_ne 21 (by decide) dX4_commonDivisor_16 ?_ ?_
        · refine z_iload_n 2 rfl rfl dX4_commonDivisor_19 ?_
          exact z_iret rfl dX4_commonDivisor_20
        · refine z_inc (w := (-1)) (lv' := [(2, .int (l2 + (-1))), (0, .int l0), (1, .int l1)]) 2 rfl (by decide) (by decide) rfl dX4_commonDivisor_21 ?_
          refine z_goto 2 (by decide) dX4_commonDivisor_24 ?_
          exact z_sub [1, 2, 0] rfl (ih l0 l1 (l2 + (-1)) h)
      · refine z_inc (w := (-1)) (lv' := [(2, .int (l2 + (-1))), (0, .int l0), (1, .int l1)]) 2 rfl (by decide) (by decide) rfl dX4_commonDivisor_21 ?_
        refine z_goto 2 (by decide) dX4_commonDivisor_24 ?_
        exact z_sub [1, 2, 0] rfl (ih l0 l1 (l2 + (-1)) h)
def fX4_commonDivisor (a0 : Int32) (a1 : Int32) (h : AH) : RR :=
  fX4_commonDivisor_2 FU a0 a1 a1 h
set_option maxRecDepth 20000 in
theorem mX4_commonDivisor {V : VT} (hV : V.2.2.2.2.2.stackTraces = false) (d : Nat) (a0 : Int32) (a1 : Int32) (h : AH) : zM V yX4_commonDivisor cX4_commonDivisor 3 (some .int) (d + 1) [.int a0, .int a1] h (fX4_commonDivisor a0 a1 h) := by
  refine z_meth hV (by decide +kernel) (Nat.le_of_ble_eq_true rfl) [(0, .int a0), (1, .int a1)] rfl (fun X => ?_)
  show zG X V RX4 "commonDivisor" cX4_commonDivisor 3 (some .int) (d + 1) h.1 h.2.1 (fX4_commonDivisor a0 a1 h) 0 [(0, .int a0), (1, .int a1)] [] h
  unfold fX4_commonDivisor
  refine z_iload_n 1 rfl rfl dX4_commonDivisor_0 ?_
  refine z_istore_n (lv' := [(2, .int a1), (0, .int a0), (1, .int a1)]) rfl (by decide) rfl dX4_commonDivisor_1 ?_
  exact z_sub [1, 2, 0] rfl (rX4_commonDivisor_2 hV FU a0 a1 a1 h)
def fX4_cycleMultiple_28 (K4 : Nat → Int32 → Int32 → AH → RR) (l0 : Nat) (l1 : Int32) (l2 : Int32) (s0 : Int32) (h : AH) : RR :=
  if s0 ≤ 0 then (
    K4 l0 l1 (l2 + 1) h)
  else
  if s0 = 0 then none else
  K4 l0 ((l1 / s0) * l2) (l2 + 1) h
set_option maxRecDepth 20000 in
theorem rX4_cycleMultiple_28 {X : CT} {V : VT} {d n0 k0 : Nat} (hV : V.2.2.2.2.2.stackTraces = false) (K4 : Nat → Int32 → Int32 → AH → RR) (hK4 : ∀ l0 l1 l2  h, zG X V RX4 "cycleMultiple" cX4_cycleMultiple 4 (some .int) (d + 2) n0 k0 (K4 l0 l1 l2 h) 4 [(0, .ref l0), (1, .int l1), (2, .int l2)] [] h) (l0 : Nat) (l1 : Int32) (l2 : Int32) (s0 : Int32) (h : AH) : zG X V RX4 "cycleMultiple" cX4_cycleMultiple 4 (some .int) (d + 2) n0 k0 (fX4_cycleMultiple_28 K4 l0 l1 l2 s0 h) 28 [(0, .ref l0), (1, .int l1), (2, .int l2)] [.int s0] h := by
  unfold fX4_cycleMultiple_28
  refine z_istore_n (lv' := [(3, .int s0), (0, .ref l0), (1, .int l1), (2, .int l2)]) rfl (by decide) rfl dX4_cycleMultiple_28 ?_
  refine z_iload_n 0 rfl rfl dX4_cycleMultiple_29 ?_
  refine z_if_le 39 (by decide) dX4_cycleMultiple_30 ?_ ?_
  · refine z_inc (w := 1) (lv' := [(2, .int (l2 + 1)), (3, .int s0), (0, .ref l0), (1, .int l1)]) 3 rfl (by decide) (by decide) rfl dX4_cycleMultiple_39 ?_
    refine z_goto 4 (by decide) dX4_cycleMultiple_42 ?_
    exact z_sub [2, 3, 0] rfl (hK4 l0 l1 (l2 + 1) h)
  · refine z_iload_n 2 rfl rfl dX4_cycleMultiple_33 ?_
    refine z_iload_n 0 rfl rfl dX4_cycleMultiple_34 ?_
    refine z_idiv dX4_cycleMultiple_35 ?_
    refine z_iload_n 3 rfl rfl dX4_cycleMultiple_36 ?_
    refine z_imul dX4_cycleMultiple_37 ?_
    refine z_istore_n (lv' := [(1, .int ((l1 / s0) * l2)), (3, .int s0), (0, .ref l0), (2, .int l2)]) rfl (by decide) rfl dX4_cycleMultiple_38 ?_
    refine z_inc (w := 1) (lv' := [(2, .int (l2 + 1)), (1, .int ((l1 / s0) * l2)), (3, .int s0), (0, .ref l0)]) 3 rfl (by decide) (by decide) rfl dX4_cycleMultiple_39 ?_
    refine z_goto 4 (by decide) dX4_cycleMultiple_42 ?_
    exact z_sub [3, 1, 0] rfl (hK4 l0 ((l1 / s0) * l2) (l2 + 1) h)
def fX4_cycleMultiple_4 : Nat → Nat → Int32 → Int32 → AH → RR
  | 0, _, _, _, _ => none
  | k + 1, l0, l1, l2, h =>
  if 64 < l2 then (
    some (.inl (some (.int l1)), h))
  else
  (zgR h l0 4 1).bind fun x1 =>
  (zai h x1 l2).bind fun x2 =>
  if x2 ≤ 0 then (
    fX4_cycleMultiple_28 (fun p0 p1 p2 h => fX4_cycleMultiple_4 k p0 p1 p2 h) l0 l1 l2 0 h)
  else
  zca (fX4_commonDivisor l1 l2 h) fun v3 h4 =>
  zvi v3 fun x5 =>
  fX4_cycleMultiple_28 (fun p0 p1 p2 h => fX4_cycleMultiple_4 k p0 p1 p2 h) l0 l1 l2 x5 h4
set_option maxRecDepth 20000 in
theorem rX4_cycleMultiple_4 {X : CT} {V : VT} {d n0 k0 : Nat} (hV : V.2.2.2.2.2.stackTraces = false) (fu : Nat) : ∀ (l0 : Nat) (l1 : Int32) (l2 : Int32) (h : AH), zG X V RX4 "cycleMultiple" cX4_cycleMultiple 4 (some .int) (d + 2) n0 k0 (fX4_cycleMultiple_4 fu l0 l1 l2 h) 4 [(0, .ref l0), (1, .int l1), (2, .int l2)] [] h := by
  induction fu with
  | zero => intros; exact z_none
  | succ k ih =>
    intro l0 l1 l2 h
    rw [fX4_cycleMultiple_4]
    refine z_iload_n 2 rfl rfl dX4_cycleMultiple_4 ?_
    refine z_bipush (v := 64) (by decide) dX4_cycleMultiple_5 ?_
    refine z_icmp_gt 45 (by decide) dX4_cycleMultiple_7 ?_ ?_
    · refine z_iload_n 1 rfl rfl dX4_cycleMultiple_45 ?_
      exact z_iret rfl dX4_cycleMultiple_46
    · refine z_aload_n 0 rfl rfl dX4_cycleMultiple_10 ?_
      refine z_gR zf_RX4_15 dX4_cycleMultiple_11 (fun x1 => ?_)
      refine z_iload_n 2 rfl rfl dX4_cycleMultiple_14 ?_
      refine z_aI dX4_cycleMultiple_15 (fun x2 => ?_)
      refine z_if_le 27 (by decide) dX4_cycleMultiple_16 ?_ ?_
      · refine z_iconst (v := 0) (by decide) dX4_cycleMultiple_27 ?_
        exact z_sub [0, 1, 2] rfl (rX4_cycleMultiple_28 hV (fun p0 p1 p2 h => fX4_cycleMultiple_4 k p0 p1 p2 h) ih l0 l1 l2 0 h)
      · refine z_iload_n 1 rfl rfl dX4_cycleMultiple_19 ?_
        refine z_iload_n 2 rfl rfl dX4_cycleMultiple_20 ?_
        refine z_cS (st := []) [.int l1, .int l2] zk_RX4_71 rfl (Nat.le_of_ble_eq_true rfl) dX4_cycleMultiple_21 (mX4_commonDivisor hV (d + 0) l1 l2 h) (fun v3 h4 => ?_)
        refine z_vi (fun x5 => ?_)
        refine z_goto 28 (by decide) dX4_cycleMultiple_24 ?_
        exact z_sub [0, 1, 2] rfl (rX4_cycleMultiple_28 hV (fun p0 p1 p2 h => fX4_cycleMultiple_4 k p0 p1 p2 h) ih l0 l1 l2 x5 h4)
def fX4_cycleMultiple (a0 : Nat) (h : AH) : RR :=
  fX4_cycleMultiple_4 FU a0 1 2 h
set_option maxRecDepth 20000 in
theorem mX4_cycleMultiple {V : VT} (hV : V.2.2.2.2.2.stackTraces = false) (d : Nat) (a0 : Nat) (h : AH) : zM V yX4_cycleMultiple cX4_cycleMultiple 4 (some .int) (d + 2) [.ref a0] h (fX4_cycleMultiple a0 h) := by
  refine z_meth hV (by decide +kernel) (Nat.le_of_ble_eq_true rfl) [(0, .ref a0)] rfl (fun X => ?_)
  show zG X V RX4 "cycleMultiple" cX4_cycleMultiple 4 (some .int) (d + 2) h.1 h.2.1 (fX4_cycleMultiple a0 h) 0 [(0, .ref a0)] [] h
  unfold fX4_cycleMultiple
  refine z_iconst (v := 1) (by decide) dX4_cycleMultiple_0 ?_
  refine z_istore_n (lv' := [(1, .int 1), (0, .ref a0)]) rfl (by decide) rfl dX4_cycleMultiple_1 ?_
  refine z_iconst (v := 2) (by decide) dX4_cycleMultiple_2 ?_
  refine z_istore_n (lv' := [(2, .int 2), (1, .int 1), (0, .ref a0)]) rfl (by decide) rfl dX4_cycleMultiple_3 ?_
  exact z_sub [2, 1, 0] rfl (rX4_cycleMultiple_4 hV FU a0 1 2 h)
def fX4_imageOfSet_6 : Nat → Nat → Nat → Int64 → Int64 → Int32 → AH → RR
  | 0, _, _, _, _, _, _ => none
  | k + 1, l0, l1, l2, l4, l6, h =>
  (zgR h l0 4 2).bind fun x1 =>
  (zgI h x1 0 2).bind fun x2 =>
  if x2 ≤ l6 then (
    some (.inl (some (.long l4)), h))
  else
  if (lg_cmp (((l2.toUInt64 >>> (l6.toInt64.toUInt64 &&& Int64.toUInt64 63)).toInt64) &&& 1) 1) = 0 then (
    (zai h l1 l6).bind fun x3 =>
    zletJ (l4 ||| ((1 : Int64) <<< (x3.toInt64 &&& 63))) fun w4 =>
    fX4_imageOfSet_6 k l0 l1 l2 w4 (l6 + 1) h)
  else
  fX4_imageOfSet_6 k l0 l1 l2 l4 (l6 + 1) h
set_option maxRecDepth 20000 in
theorem rX4_imageOfSet_6 {X : CT} {V : VT} {d n0 k0 : Nat} (hV : V.2.2.2.2.2.stackTraces = false) (fu : Nat) : ∀ (l0 : Nat) (l1 : Nat) (l2 : Int64) (l4 : Int64) (l6 : Int32) (h : AH), zG X V RX4 "imageOfSet" cX4_imageOfSet 7 (some .long) (d + 1) n0 k0 (fX4_imageOfSet_6 fu l0 l1 l2 l4 l6 h) 6 [(0, .ref l0), (1, .ref l1), (2, .long l2), (4, .long l4), (6, .int l6)] [] h := by
  induction fu with
  | zero => intros; exact z_none
  | succ k ih =>
    intro l0 l1 l2 l4 l6 h
    rw [fX4_imageOfSet_6]
    refine z_iload 4 rfl dX4_imageOfSet_6 ?_
    refine z_aload_n 0 rfl rfl dX4_imageOfSet_8 ?_
    refine z_gR zf_RX4_9 dX4_imageOfSet_9 (fun x1 => ?_)
    refine z_gI zf_RX4_28 dX4_imageOfSet_12 (fun x2 => ?_)
    refine z_icmp_ge 46 (by decide) dX4_imageOfSet_15 ?_ ?_
    · refine z_lload 3 rfl dX4_imageOfSet_46 ?_
      exact z_lret rfl dX4_imageOfSet_48
    · refine z_lload_n 2 rfl rfl dX4_imageOfSet_18 ?_
      refine z_iload 4 rfl dX4_imageOfSet_19 ?_
      refine z_lushr dX4_imageOfSet_21 ?_
      refine z_lconst (v := 1) (by decide) dX4_imageOfSet_22 ?_
      refine z_land dX4_imageOfSet_23 ?_
      refine z_lconst (v := 1) (by decide) dX4_imageOfSet_24 ?_
      refine z_lcmp dX4_imageOfSet_25 ?_
      refine z_if_ne 40 (by decide) dX4_imageOfSet_26 ?_ ?_
      · refine z_lload 3 rfl dX4_imageOfSet_29 ?_
        refine z_lconst (v := 1) (by decide) dX4_imageOfSet_31 ?_
        refine z_aload_n 1 rfl rfl dX4_imageOfSet_32 ?_
        refine z_iload 4 rfl dX4_imageOfSet_33 ?_
        refine z_aI dX4_imageOfSet_35 (fun x3 => ?_)
        refine z_lshl dX4_imageOfSet_36 ?_
        refine z_lor dX4_imageOfSet_37 ?_
        refine z_topJ (fun w4 => ?_)
        refine z_lstore (lv' := [(4, .long w4), (0, .ref l0), (1, .ref l1), (2, .long l2), (6, .int l6)]) (by decide) rfl dX4_imageOfSet_38 ?_
        refine z_inc (w := 1) (lv' := [(6, .int (l6 + 1)), (4, .long w4), (0, .ref l0), (1, .ref l1), (2, .long l2)]) 4 rfl (by decide) (by decide) rfl dX4_imageOfSet_40 ?_
        refine z_goto 6 (by decide) dX4_imageOfSet_43 ?_
        exact z_sub [2, 3, 4, 1, 0] rfl (ih l0 l1 l2 w4 (l6 + 1) h)
      · refine z_inc (w := 1) (lv' := [(6, .int (l6 + 1)), (0, .ref l0), (1, .ref l1), (2, .long l2), (4, .long l4)]) 4 rfl (by decide) (by decide) rfl dX4_imageOfSet_40 ?_
        refine z_goto 6 (by decide) dX4_imageOfSet_43 ?_
        exact z_sub [1, 2, 3, 4, 0] rfl (ih l0 l1 l2 l4 (l6 + 1) h)
def fX4_imageOfSet (a0 : Nat) (a1 : Nat) (a2 : Int64) (h : AH) : RR :=
  fX4_imageOfSet_6 FU a0 a1 a2 0 0 h
set_option maxRecDepth 20000 in
theorem mX4_imageOfSet {V : VT} (hV : V.2.2.2.2.2.stackTraces = false) (d : Nat) (a0 : Nat) (a1 : Nat) (a2 : Int64) (h : AH) : zM V yX4_imageOfSet cX4_imageOfSet 7 (some .long) (d + 1) [.ref a0, .ref a1, .long a2] h (fX4_imageOfSet a0 a1 a2 h) := by
  refine z_meth hV (by decide +kernel) (Nat.le_of_ble_eq_true rfl) [(0, .ref a0), (1, .ref a1), (2, .long a2)] rfl (fun X => ?_)
  show zG X V RX4 "imageOfSet" cX4_imageOfSet 7 (some .long) (d + 1) h.1 h.2.1 (fX4_imageOfSet a0 a1 a2 h) 0 [(0, .ref a0), (1, .ref a1), (2, .long a2)] [] h
  unfold fX4_imageOfSet
  refine z_lconst (v := 0) (by decide) dX4_imageOfSet_0 ?_
  refine z_lstore (lv' := [(4, .long 0), (0, .ref a0), (1, .ref a1), (2, .long a2)]) (by decide) rfl dX4_imageOfSet_1 ?_
  refine z_iconst (v := 0) (by decide) dX4_imageOfSet_3 ?_
  refine z_istore (lv' := [(6, .int 0), (4, .long 0), (0, .ref a0), (1, .ref a1), (2, .long a2)]) (by decide) rfl dX4_imageOfSet_4 ?_
  exact z_sub [2, 3, 4, 1, 0] rfl (rX4_imageOfSet_6 hV FU a0 a1 a2 0 0 h)
def fX4_reachFrom_25 (K7 : Nat → Nat → Int64 → Int32 → AH → RR) : Nat → Nat → Nat → Int64 → Int32 → Int64 → Int32 → AH → RR
  | 0, _, _, _, _, _, _, _ => none
  | k + 1, l0, l2, l3, l5, l6, l8, h =>
  (zgI h l2 3 2).bind fun x1 =>
  if x1 ≤ l8 then (
    if (lg_cmp l3 l6) = 0 then (
      some (.inl (some (.long l3)), h))
    else
    K7 l0 l2 l3 (l5 + 1) h)
  else
  (zgR h l2 3 3).bind fun x2 =>
  (zar h x2 l8).bind fun x3 =>
  zcv (zob h l0 4) (fX4_isPermuting l0 x3 h) fun v4 h5 =>
  zvi v4 fun x6 =>
  if x6 = 0 then (
    fX4_reachFrom_25 K7 k l0 l2 l3 l5 l6 (l8 + 1) h5)
  else
  (zgR h5 l2 3 3).bind fun x7 =>
  (zar h5 x7 l8).bind fun x8 =>
  zcv (zob h5 l0 4) (fX4_imageOfSet l0 x8 l3 h5) fun v9 h10 =>
  zvj v9 fun x11 =>
  fX4_reachFrom_25 K7 k l0 l2 (l3 ||| x11) l5 l6 (l8 + 1) h10
set_option maxRecDepth 20000 in
theorem rX4_reachFrom_25 {X : CT} {V : VT} {d n0 k0 : Nat} (hV : V.2.2.2.2.2.stackTraces = false) (K7 : Nat → Nat → Int64 → Int32 → AH → RR) (hK7 : ∀ l0 l2 l3 l5  h, zG X V RX4 "reachFrom" cX4_reachFrom 9 (some .long) (d + 4) n0 k0 (K7 l0 l2 l3 l5 h) 7 [(0, .ref l0), (2, .ref l2), (3, .long l3), (5, .int l5)] [] h) (fu : Nat) : ∀ (l0 : Nat) (l2 : Nat) (l3 : Int64) (l5 : Int32) (l6 : Int64) (l8 : Int32) (h : AH), zG X V RX4 "reachFrom" cX4_reachFrom 9 (some .long) (d + 4) n0 k0 (fX4_reachFrom_25 K7 fu l0 l2 l3 l5 l6 l8 h) 25 [(0, .ref l0), (2, .ref l2), (3, .long l3), (5, .int l5), (6, .long l6), (8, .int l8)] [] h := by
  induction fu with
  | zero => intros; exact z_none
  | succ k ih =>
    intro l0 l2 l3 l5 l6 l8 h
    rw [fX4_reachFrom_25]
    refine z_iload 5 rfl dX4_reachFrom_25 ?_
    refine z_aload_n 1 rfl rfl dX4_reachFrom_27 ?_
    refine z_gI zf_RX4_74 dX4_reachFrom_28 (fun x1 => ?_)
    refine z_icmp_ge 69 (by decide) dX4_reachFrom_31 ?_ ?_
    · refine z_lload_n 2 rfl rfl dX4_reachFrom_69 ?_
      refine z_lload 4 rfl dX4_reachFrom_70 ?_
      refine z_lcmp dX4_reachFrom_72 ?_
      refine z_if_ne 78 (by decide) dX4_reachFrom_73 ?_ ?_
      · refine z_lload_n 2 rfl rfl dX4_reachFrom_76 ?_
        exact z_lret rfl dX4_reachFrom_77
      · refine z_inc (w := 1) (lv' := [(5, .int (l5 + 1)), (0, .ref l0), (2, .ref l2), (3, .long l3), (6, .long l6), (8, .int l8)]) 3 rfl (by decide) (by decide) rfl dX4_reachFrom_78 ?_
        refine z_goto 7 (by decide) dX4_reachFrom_81 ?_
        exact z_sub [1, 2, 3, 0] rfl (hK7 l0 l2 l3 (l5 + 1) h)
    · refine z_aload_n 0 rfl rfl dX4_reachFrom_34 ?_
      refine z_aload_n 1 rfl rfl dX4_reachFrom_35 ?_
      refine z_gR zf_RX4_79 dX4_reachFrom_36 (fun x2 => ?_)
      refine z_iload 5 rfl dX4_reachFrom_39 ?_
      refine z_aR dX4_reachFrom_41 (fun x3 => ?_)
      refine z_cV (st := []) [.ref x3] zk_RX4_83 rfl (Nat.le_of_ble_eq_true rfl) dX4_reachFrom_42 (mX4_isPermuting hV (d + 0) l0 x3 h) (fun v4 h5 => ?_)
      refine z_vi (fun x6 => ?_)
      refine z_if_eq 63 (by decide) dX4_reachFrom_45 ?_ ?_
      · refine z_inc (w := 1) (lv' := [(8, .int (l8 + 1)), (0, .ref l0), (2, .ref l2), (3, .long l3), (5, .int l5), (6, .long l6)]) 5 rfl (by decide) (by decide) rfl dX4_reachFrom_63 ?_
        refine z_goto 25 (by decide) dX4_reachFrom_66 ?_
        exact z_sub [1, 2, 3, 4, 5, 0] rfl (ih l0 l2 l3 l5 l6 (l8 + 1) h5)
      · refine z_lload_n 2 rfl rfl dX4_reachFrom_48 ?_
        refine z_aload_n 0 rfl rfl dX4_reachFrom_49 ?_
        refine z_aload_n 1 rfl rfl dX4_reachFrom_50 ?_
        refine z_gR zf_RX4_79 dX4_reachFrom_51 (fun x7 => ?_)
        refine z_iload 5 rfl dX4_reachFrom_54 ?_
        refine z_aR dX4_reachFrom_56 (fun x8 => ?_)
        refine z_lload_n 2 rfl rfl dX4_reachFrom_57 ?_
        refine z_cV (st := [.long l3]) [.ref x8, .long l3] zk_RX4_87 rfl (Nat.le_of_ble_eq_true rfl) dX4_reachFrom_58 (mX4_imageOfSet hV (d + 2) l0 x8 l3 h5) (fun v9 h10 => ?_)
        refine z_vj (fun x11 => ?_)
        refine z_lor dX4_reachFrom_61 ?_
        refine z_lstore_n (lv' := [(3, .long (l3 ||| x11)), (0, .ref l0), (2, .ref l2), (5, .int l5), (6, .long l6), (8, .int l8)]) rfl (by decide) rfl dX4_reachFrom_62 ?_
        refine z_inc (w := 1) (lv' := [(8, .int (l8 + 1)), (3, .long (l3 ||| x11)), (0, .ref l0), (2, .ref l2), (5, .int l5), (6, .long l6)]) 5 rfl (by decide) (by decide) rfl dX4_reachFrom_63 ?_
        refine z_goto 25 (by decide) dX4_reachFrom_66 ?_
        exact z_sub [2, 3, 1, 4, 5, 0] rfl (ih l0 l2 (l3 ||| x11) l5 l6 (l8 + 1) h10)
def fX4_reachFrom_7 : Nat → Nat → Nat → Int64 → Int32 → AH → RR
  | 0, _, _, _, _, _ => none
  | k + 1, l0, l2, l3, l5, h =>
  (zgR h l0 4 2).bind fun x1 =>
  (zgI h x1 0 2).bind fun x2 =>
  if x2 ≤ l5 then (
    some (.inl (some (.long l3)), h))
  else
  fX4_reachFrom_25 (fun p0 p2 p3 p5 h => fX4_reachFrom_7 k p0 p2 p3 p5 h) FU l0 l2 l3 l5 l3 0 h
set_option maxRecDepth 20000 in
theorem rX4_reachFrom_7 {X : CT} {V : VT} {d n0 k0 : Nat} (hV : V.2.2.2.2.2.stackTraces = false) (fu : Nat) : ∀ (l0 : Nat) (l2 : Nat) (l3 : Int64) (l5 : Int32) (h : AH), zG X V RX4 "reachFrom" cX4_reachFrom 9 (some .long) (d + 4) n0 k0 (fX4_reachFrom_7 fu l0 l2 l3 l5 h) 7 [(0, .ref l0), (2, .ref l2), (3, .long l3), (5, .int l5)] [] h := by
  induction fu with
  | zero => intros; exact z_none
  | succ k ih =>
    intro l0 l2 l3 l5 h
    rw [fX4_reachFrom_7]
    refine z_iload 3 rfl dX4_reachFrom_7 ?_
    refine z_aload_n 0 rfl rfl dX4_reachFrom_9 ?_
    refine z_gR zf_RX4_9 dX4_reachFrom_10 (fun x1 => ?_)
    refine z_gI zf_RX4_28 dX4_reachFrom_13 (fun x2 => ?_)
    refine z_icmp_ge 84 (by decide) dX4_reachFrom_16 ?_ ?_
    · refine z_lload_n 2 rfl rfl dX4_reachFrom_84 ?_
      exact z_lret rfl dX4_reachFrom_85
    · refine z_lload_n 2 rfl rfl dX4_reachFrom_19 ?_
      refine z_lstore (lv' := [(6, .long l3), (0, .ref l0), (2, .ref l2), (3, .long l3), (5, .int l5)]) (by decide) rfl dX4_reachFrom_20 ?_
      refine z_iconst (v := 0) (by decide) dX4_reachFrom_22 ?_
      refine z_istore (lv' := [(8, .int 0), (6, .long l3), (0, .ref l0), (2, .ref l2), (3, .long l3), (5, .int l5)]) (by decide) rfl dX4_reachFrom_23 ?_
      exact z_sub [2, 3, 4, 5, 1, 0] rfl (rX4_reachFrom_25 hV (fun p0 p2 p3 p5 h => fX4_reachFrom_7 k p0 p2 p3 p5 h) ih FU l0 l2 l3 l5 l3 0 h)
def fX4_reachFrom (a0 : Nat) (a1 : Int32) (a2 : Nat) (h : AH) : RR :=
  zletJ ((1 : Int64) <<< (a1.toInt64 &&& 63)) fun w1 =>
  fX4_reachFrom_7 FU a0 a2 w1 0 h
set_option maxRecDepth 20000 in
theorem mX4_reachFrom {V : VT} (hV : V.2.2.2.2.2.stackTraces = false) (d : Nat) (a0 : Nat) (a1 : Int32) (a2 : Nat) (h : AH) : zM V yX4_reachFrom cX4_reachFrom 9 (some .long) (d + 4) [.ref a0, .int a1, .ref a2] h (fX4_reachFrom a0 a1 a2 h) := by
  refine z_meth hV (by decide +kernel) (Nat.le_of_ble_eq_true rfl) [(0, .ref a0), (1, .int a1), (2, .ref a2)] rfl (fun X => ?_)
  show zG X V RX4 "reachFrom" cX4_reachFrom 9 (some .long) (d + 4) h.1 h.2.1 (fX4_reachFrom a0 a1 a2 h) 0 [(0, .ref a0), (1, .int a1), (2, .ref a2)] [] h
  unfold fX4_reachFrom
  refine z_lconst (v := 1) (by decide) dX4_reachFrom_0 ?_
  refine z_iload_n 1 rfl rfl dX4_reachFrom_1 ?_
  refine z_lshl dX4_reachFrom_2 ?_
  refine z_topJ (fun w1 => ?_)
  refine z_lstore_n (lv' := [(3, .long w1), (0, .ref a0), (1, .int a1), (2, .ref a2)]) rfl (by decide) rfl dX4_reachFrom_3 ?_
  refine z_iconst (v := 0) (by decide) dX4_reachFrom_4 ?_
  refine z_istore (lv' := [(5, .int 0), (3, .long w1), (0, .ref a0), (1, .int a1), (2, .ref a2)]) (by decide) rfl dX4_reachFrom_5 ?_
  exact z_sub [2, 4, 1, 0] rfl (rX4_reachFrom_7 hV FU a0 a2 w1 0 h)
def fX4_spreadOf_47 (K4 : Nat → Nat → Int32 → Int32 → AH → RR) : Nat → Nat → Nat → Int32 → Int32 → Int32 → AH → RR
  | 0, _, _, _, _, _, _ => none
  | k + 1, l0, l1, l2, l3, l4, h =>
  (zgR h l0 4 2).bind fun x1 =>
  (zgI h x1 0 2).bind fun x2 =>
  if x2 ≤ l4 then (
    K4 l0 l1 l2 (l3 + 1) h)
  else
  (zgR h l0 4 2).bind fun x3 =>
  (zgR h l0 4 2).bind fun x4 =>
  zcv (zob h x4 0) (fX0_sum x4 l4 l3 h) fun v5 h6 =>
  zvi v5 fun x7 =>
  (zai h6 l1 x7).bind fun x8 =>
  (zai h6 l1 l4).bind fun x9 =>
  zcv (zob h6 x3 0) (fX0_difference x3 x8 x9 h6) fun v10 h11 =>
  zvi v10 fun x12 =>
  (zgR h11 l0 4 3).bind fun x13 =>
  (zai h11 x13 x12).bind fun x14 =>
  (zsi h11 x13 x12 (x14 + 1)).bind fun h15 =>
  (zgR h15 l0 4 3).bind fun x16 =>
  (zai h15 x16 x12).bind fun x17 =>
  zlet (if l2 < x17 then x17 else l2) fun w18 =>
  fX4_spreadOf_47 K4 k l0 l1 w18 l3 (l4 + 1) h15
set_option maxRecDepth 20000 in
theorem rX4_spreadOf_47 {X : CT} {V : VT} {d n0 k0 : Nat} (hV : V.2.2.2.2.2.stackTraces = false) (K4 : Nat → Nat → Int32 → Int32 → AH → RR) (hK4 : ∀ l0 l1 l2 l3  h, zG X V RX4 "spreadOf" cX4_spreadOf 6 (some .int) (d + 2) n0 k0 (K4 l0 l1 l2 l3 h) 4 [(0, .ref l0), (1, .ref l1), (2, .int l2), (3, .int l3)] [] h) (fu : Nat) : ∀ (l0 : Nat) (l1 : Nat) (l2 : Int32) (l3 : Int32) (l4 : Int32) (h : AH), zG X V RX4 "spreadOf" cX4_spreadOf 6 (some .int) (d + 2) n0 k0 (fX4_spreadOf_47 K4 fu l0 l1 l2 l3 l4 h) 47 [(0, .ref l0), (1, .ref l1), (2, .int l2), (3, .int l3), (4, .int l4)] [] h := by
  induction fu with
  | zero => intros; exact z_none
  | succ k ih =>
    intro l0 l1 l2 l3 l4 h
    rw [fX4_spreadOf_47]
    refine z_iload 4 rfl dX4_spreadOf_47 ?_
    refine z_aload_n 0 rfl rfl dX4_spreadOf_49 ?_
    refine z_gR zf_RX4_9 dX4_spreadOf_50 (fun x1 => ?_)
    refine z_gI zf_RX4_28 dX4_spreadOf_53 (fun x2 => ?_)
    refine z_icmp_ge 113 (by decide) dX4_spreadOf_56 ?_ ?_
    · refine z_inc (w := 1) (lv' := [(3, .int (l3 + 1)), (0, .ref l0), (1, .ref l1), (2, .int l2), (4, .int l4)]) 3 rfl (by decide) (by decide) rfl dX4_spreadOf_113 ?_
      refine z_goto 4 (by decide) dX4_spreadOf_116 ?_
      exact z_sub [1, 2, 3, 0] rfl (hK4 l0 l1 l2 (l3 + 1) h)
    · refine z_aload_n 0 rfl rfl dX4_spreadOf_59 ?_
      refine z_gR zf_RX4_9 dX4_spreadOf_60 (fun x3 => ?_)
      refine z_aload_n 1 rfl rfl dX4_spreadOf_63 ?_
      refine z_aload_n 0 rfl rfl dX4_spreadOf_64 ?_
      refine z_gR zf_RX4_9 dX4_spreadOf_65 (fun x4 => ?_)
      refine z_iload 4 rfl dX4_spreadOf_68 ?_
      refine z_iload_n 3 rfl rfl dX4_spreadOf_70 ?_
      refine z_cV (st := [.ref l1, .ref x3]) [.int l4, .int l3] zk_RX4_45 rfl (Nat.le_of_ble_eq_true rfl) dX4_spreadOf_71 (mX0_sum hV (d + 0) x4 l4 l3 h) (fun v5 h6 => ?_)
      refine z_vi (fun x7 => ?_)
      refine z_aI dX4_spreadOf_74 (fun x8 => ?_)
      refine z_aload_n 1 rfl rfl dX4_spreadOf_75 ?_
      refine z_iload 4 rfl dX4_spreadOf_76 ?_
      refine z_aI dX4_spreadOf_78 (fun x9 => ?_)
      refine z_cV (st := []) [.int x8, .int x9] zk_RX4_91 rfl (Nat.le_of_ble_eq_true rfl) dX4_spreadOf_79 (mX0_difference hV (d + 0) x3 x8 x9 h6) (fun v10 h11 => ?_)
      refine z_vi (fun x12 => ?_)
      refine z_istore (lv' := [(5, .int x12), (0, .ref l0), (1, .ref l1), (2, .int l2), (3, .int l3), (4, .int l4)]) (by decide) rfl dX4_spreadOf_82 ?_
      refine z_aload_n 1 rfl rfl dX4_spreadOf_84 ?_
      refine z_gR zf_RX4_19 dX4_spreadOf_85 (fun x13 => ?_)
      refine z_iload 0 rfl dX4_spreadOf_88 ?_
      refine z_dup2 rfl rfl dX4_spreadOf_90 ?_
      refine z_aI dX4_spreadOf_91 (fun x14 => ?_)
      refine z_iconst (v := 1) (by decide) dX4_spreadOf_92 ?_
      refine z_iadd dX4_spreadOf_93 ?_
      refine z_sI dX4_spreadOf_94 (fun h15 => ?_)
      refine z_iload_n 3 rfl rfl dX4_spreadOf_95 ?_
      refine z_aload_n 1 rfl rfl dX4_spreadOf_96 ?_
      refine z_gR zf_RX4_19 dX4_spreadOf_97 (fun x16 => ?_)
      refine z_iload 0 rfl dX4_spreadOf_100 ?_
      refine z_aI dX4_spreadOf_102 (fun x17 => ?_)
      refine z_mmax zw_917 zw_918 zw_83 zw_919 (Nat.le_of_ble_eq_true rfl) (by omega) dX4_spreadOf_103 ?_
      refine z_topI (fun w18 => ?_)
      refine z_istore_n (lv' := [(2, .int w18), (5, .int x12), (0, .ref l0), (1, .ref l1), (3, .int l3), (4, .int l4)]) rfl (by decide) rfl dX4_spreadOf_106 ?_
      refine z_inc (w := 1) (lv' := [(4, .int (l4 + 1)), (2, .int w18), (5, .int x12), (0, .ref l0), (1, .ref l1), (3, .int l3)]) 5 rfl (by decide) (by decide) rfl dX4_spreadOf_107 ?_
      refine z_goto 47 (by decide) dX4_spreadOf_110 ?_
      exact z_sub [3, 4, 1, 5, 0] rfl (ih l0 l1 w18 l3 (l4 + 1) h15)
def fX4_spreadOf_18 (K4 : Nat → Nat → Int32 → Int32 → AH → RR) : Nat → Nat → Nat → Int32 → Int32 → Int32 → AH → RR
  | 0, _, _, _, _, _, _ => none
  | k + 1, l0, l1, l2, l3, l4, h =>
  (zgR h l0 4 2).bind fun x1 =>
  (zgI h x1 0 2).bind fun x2 =>
  if x2 ≤ l4 then (
    fX4_spreadOf_47 K4 FU l0 l1 l2 l3 0 h)
  else
  (zgR h l0 4 3).bind fun x3 =>
  (zsi h x3 l4 0).bind fun h4 =>
  fX4_spreadOf_18 K4 k l0 l1 l2 l3 (l4 + 1) h4
set_option maxRecDepth 20000 in
theorem rX4_spreadOf_18 {X : CT} {V : VT} {d n0 k0 : Nat} (hV : V.2.2.2.2.2.stackTraces = false) (K4 : Nat → Nat → Int32 → Int32 → AH → RR) (hK4 : ∀ l0 l1 l2 l3  h, zG X V RX4 "spreadOf" cX4_spreadOf 6 (some .int) (d + 2) n0 k0 (K4 l0 l1 l2 l3 h) 4 [(0, .ref l0), (1, .ref l1), (2, .int l2), (3, .int l3)] [] h) (fu : Nat) : ∀ (l0 : Nat) (l1 : Nat) (l2 : Int32) (l3 : Int32) (l4 : Int32) (h : AH), zG X V RX4 "spreadOf" cX4_spreadOf 6 (some .int) (d + 2) n0 k0 (fX4_spreadOf_18 K4 fu l0 l1 l2 l3 l4 h) 18 [(0, .ref l0), (1, .ref l1), (2, .int l2), (3, .int l3), (4, .int l4)] [] h := by
  induction fu with
  | zero => intros; exact z_none
  | succ k ih =>
    intro l0 l1 l2 l3 l4 h
    rw [fX4_spreadOf_18]
    refine z_iload 4 rfl dX4_spreadOf_18 ?_
    refine z_aload_n 0 rfl rfl dX4_spreadOf_20 ?_
    refine z_gR zf_RX4_9 dX4_spreadOf_21 (fun x1 => ?_)
    refine z_gI zf_RX4_28 dX4_spreadOf_24 (fun x2 => ?_)
    refine z_icmp_ge 44 (by decide) dX4_spreadOf_27 ?_ ?_
    · refine z_iconst (v := 0) (by decide) dX4_spreadOf_44 ?_
      refine z_istore (lv' := [(4, .int 0), (0, .ref l0), (1, .ref l1), (2, .int l2), (3, .int l3)]) (by decide) rfl dX4_spreadOf_45 ?_
      exact z_sub [1, 2, 3, 4, 0] rfl (rX4_spreadOf_47 hV K4 hK4 FU l0 l1 l2 l3 0 h)
    · refine z_aload_n 0 rfl rfl dX4_spreadOf_30 ?_
      refine z_gR zf_RX4_19 dX4_spreadOf_31 (fun x3 => ?_)
      refine z_iload 4 rfl dX4_spreadOf_34 ?_
      refine z_iconst (v := 0) (by decide) dX4_spreadOf_36 ?_
      refine z_sI dX4_spreadOf_37 (fun h4 => ?_)
      refine z_inc (w := 1) (lv' := [(4, .int (l4 + 1)), (0, .ref l0), (1, .ref l1), (2, .int l2), (3, .int l3)]) 4 rfl (by decide) (by decide) rfl dX4_spreadOf_38 ?_
      refine z_goto 18 (by decide) dX4_spreadOf_41 ?_
      exact z_sub [1, 2, 3, 4, 0] rfl (ih l0 l1 l2 l3 (l4 + 1) h4)
def fX4_spreadOf_4 : Nat → Nat → Nat → Int32 → Int32 → AH → RR
  | 0, _, _, _, _, _ => none
  | k + 1, l0, l1, l2, l3, h =>
  (zgR h l0 4 2).bind fun x1 =>
  (zgI h x1 0 2).bind fun x2 =>
  if x2 ≤ l3 then (
    some (.inl (some (.int l2)), h))
  else
  fX4_spreadOf_18 (fun p0 p1 p2 p3 h => fX4_spreadOf_4 k p0 p1 p2 p3 h) FU l0 l1 l2 l3 0 h
set_option maxRecDepth 20000 in
theorem rX4_spreadOf_4 {X : CT} {V : VT} {d n0 k0 : Nat} (hV : V.2.2.2.2.2.stackTraces = false) (fu : Nat) : ∀ (l0 : Nat) (l1 : Nat) (l2 : Int32) (l3 : Int32) (h : AH), zG X V RX4 "spreadOf" cX4_spreadOf 6 (some .int) (d + 2) n0 k0 (fX4_spreadOf_4 fu l0 l1 l2 l3 h) 4 [(0, .ref l0), (1, .ref l1), (2, .int l2), (3, .int l3)] [] h := by
  induction fu with
  | zero => intros; exact z_none
  | succ k ih =>
    intro l0 l1 l2 l3 h
    rw [fX4_spreadOf_4]
    refine z_iload_n 3 rfl rfl dX4_spreadOf_4 ?_
    refine z_aload_n 0 rfl rfl dX4_spreadOf_5 ?_
    refine z_gR zf_RX4_9 dX4_spreadOf_6 (fun x1 => ?_)
    refine z_gI zf_RX4_28 dX4_spreadOf_9 (fun x2 => ?_)
    refine z_icmp_ge 119 (by decide) dX4_spreadOf_12 ?_ ?_
    · refine z_iload_n 2 rfl rfl dX4_spreadOf_119 ?_
      exact z_iret rfl dX4_spreadOf_120
    · refine z_iconst (v := 0) (by decide) dX4_spreadOf_15 ?_
      refine z_istore (lv' := [(4, .int 0), (0, .ref l0), (1, .ref l1), (2, .int l2), (3, .int l3)]) (by decide) rfl dX4_spreadOf_16 ?_
      exact z_sub [1, 2, 3, 4, 0] rfl (rX4_spreadOf_18 hV (fun p0 p1 p2 p3 h => fX4_spreadOf_4 k p0 p1 p2 p3 h) ih FU l0 l1 l2 l3 0 h)
def fX4_spreadOf (a0 : Nat) (a1 : Nat) (h : AH) : RR :=
  fX4_spreadOf_4 FU a0 a1 0 1 h
set_option maxRecDepth 20000 in
theorem mX4_spreadOf {V : VT} (hV : V.2.2.2.2.2.stackTraces = false) (d : Nat) (a0 : Nat) (a1 : Nat) (h : AH) : zM V yX4_spreadOf cX4_spreadOf 6 (some .int) (d + 2) [.ref a0, .ref a1] h (fX4_spreadOf a0 a1 h) := by
  refine z_meth hV (by decide +kernel) (Nat.le_of_ble_eq_true rfl) [(0, .ref a0), (1, .ref a1)] rfl (fun X => ?_)
  show zG X V RX4 "spreadOf" cX4_spreadOf 6 (some .int) (d + 2) h.1 h.2.1 (fX4_spreadOf a0 a1 h) 0 [(0, .ref a0), (1, .ref a1)] [] h
  unfold fX4_spreadOf
  refine z_iconst (v := 0) (by decide) dX4_spreadOf_0 ?_
  refine z_istore_n (lv' := [(2, .int 0), (0, .ref a0), (1, .ref a1)]) rfl (by decide) rfl dX4_spreadOf_1 ?_
  refine z_iconst (v := 1) (by decide) dX4_spreadOf_2 ?_
  refine z_istore_n (lv' := [(3, .int 1), (2, .int 0), (0, .ref a0), (1, .ref a1)]) rfl (by decide) rfl dX4_spreadOf_3 ?_
  exact z_sub [2, 3, 1, 0] rfl (rX4_spreadOf_4 hV FU a0 a1 0 1 h)
def fX4_permutingMonomials_48 (K33 : Nat → Nat → Int64 → Int32 → AH → RR) : Nat → Nat → Nat → Int64 → Int32 → Int32 → AH → RR
  | 0, _, _, _, _, _, _ => none
  | k + 1, l0, l1, l2, l4, l5, h =>
  (zgR h l0 4 2).bind fun x1 =>
  (zgI h x1 0 2).bind fun x2 =>
  if x2 ≤ l5 then (
    zcv (zob h l0 4) (fX4_isPermuting l0 l1 h) fun v3 h4 =>
    zvi v3 fun x5 =>
    if x5 = 0 then (
      K33 l0 l1 l2 (l4 + 1) h4)
    else
    zletJ (l2 ||| ((1 : Int64) <<< (l4.toInt64 &&& 63))) fun w6 =>
    K33 l0 l1 w6 (l4 + 1) h4)
  else
  (zgR h l0 4 2).bind fun x7 =>
  (zai h l1 l5).bind fun x8 =>
  zcv (zob h x7 0) (fX0_product x7 x8 l5 h) fun v9 h10 =>
  zvi v9 fun x11 =>
  (zsi h10 l1 l5 x11).bind fun h12 =>
  fX4_permutingMonomials_48 K33 k l0 l1 l2 l4 (l5 + 1) h12
set_option maxRecDepth 20000 in
theorem rX4_permutingMonomials_48 {X : CT} {V : VT} {d n0 k0 : Nat} (hV : V.2.2.2.2.2.stackTraces = false) (K33 : Nat → Nat → Int64 → Int32 → AH → RR) (hK33 : ∀ l0 l1 l2 l4  h, zG X V RX4 "permutingMonomials" cX4_permutingMonomials 6 (some .long) (d + 4) n0 k0 (K33 l0 l1 l2 l4 h) 33 [(0, .ref l0), (1, .ref l1), (2, .long l2), (4, .int l4)] [] h) (fu : Nat) : ∀ (l0 : Nat) (l1 : Nat) (l2 : Int64) (l4 : Int32) (l5 : Int32) (h : AH), zG X V RX4 "permutingMonomials" cX4_permutingMonomials 6 (some .long) (d + 4) n0 k0 (fX4_permutingMonomials_48 K33 fu l0 l1 l2 l4 l5 h) 48 [(0, .ref l0), (1, .ref l1), (2, .long l2), (4, .int l4), (5, .int l5)] [] h := by
  induction fu with
  | zero => intros; exact z_none
  | succ k ih =>
    intro l0 l1 l2 l4 l5 h
    rw [fX4_permutingMonomials_48]
    refine z_iload 4 rfl dX4_permutingMonomials_48 ?_
    refine z_aload_n 0 rfl rfl dX4_permutingMonomials_50 ?_
    refine z_gR zf_RX4_9 dX4_permutingMonomials_51 (fun x1 => ?_)
    refine z_gI zf_RX4_28 dX4_permutingMonomials_54 (fun x2 => ?_)
    refine z_icmp_ge 83 (by decide) dX4_permutingMonomials_57 ?_ ?_
    · refine z_aload_n 0 rfl rfl dX4_permutingMonomials_83 ?_
      refine z_aload_n 1 rfl rfl dX4_permutingMonomials_84 ?_
      refine z_cV (st := []) [.ref l1] zk_RX4_83 rfl (Nat.le_of_ble_eq_true rfl) dX4_permutingMonomials_85 (mX4_isPermuting hV (d + 0) l0 l1 h) (fun v3 h4 => ?_)
      refine z_vi (fun x5 => ?_)
      refine z_if_eq 98 (by decide) dX4_permutingMonomials_88 ?_ ?_
      · refine z_inc (w := 1) (lv' := [(4, .int (l4 + 1)), (0, .ref l0), (1, .ref l1), (2, .long l2), (5, .int l5)]) 3 rfl (by decide) (by decide) rfl dX4_permutingMonomials_98 ?_
        refine z_goto 33 (by decide) dX4_permutingMonomials_101 ?_
        exact z_sub [1, 2, 3, 0] rfl (hK33 l0 l1 l2 (l4 + 1) h4)
      · refine z_lload_n 2 rfl rfl dX4_permutingMonomials_91 ?_
        refine z_lconst (v := 1) (by decide) dX4_permutingMonomials_92 ?_
        refine z_iload 3 rfl dX4_permutingMonomials_93 ?_
        refine z_lshl dX4_permutingMonomials_95 ?_
        refine z_lor dX4_permutingMonomials_96 ?_
        refine z_topJ (fun w6 => ?_)
        refine z_lstore_n (lv' := [(2, .long w6), (0, .ref l0), (1, .ref l1), (4, .int l4), (5, .int l5)]) rfl (by decide) rfl dX4_permutingMonomials_97 ?_
        refine z_inc (w := 1) (lv' := [(4, .int (l4 + 1)), (2, .long w6), (0, .ref l0), (1, .ref l1), (5, .int l5)]) 3 rfl (by decide) (by decide) rfl dX4_permutingMonomials_98 ?_
        refine z_goto 33 (by decide) dX4_permutingMonomials_101 ?_
        exact z_sub [2, 3, 1, 0] rfl (hK33 l0 l1 w6 (l4 + 1) h4)
    · refine z_aload_n 1 rfl rfl dX4_permutingMonomials_60 ?_
      refine z_iload 4 rfl dX4_permutingMonomials_61 ?_
      refine z_aload_n 0 rfl rfl dX4_permutingMonomials_63 ?_
      refine z_gR zf_RX4_9 dX4_permutingMonomials_64 (fun x7 => ?_)
      refine z_aload_n 1 rfl rfl dX4_permutingMonomials_67 ?_
      refine z_iload 4 rfl dX4_permutingMonomials_68 ?_
      refine z_aI dX4_permutingMonomials_70 (fun x8 => ?_)
      refine z_iload 4 rfl dX4_permutingMonomials_71 ?_
      refine z_cV (st := [.int l5, .ref l1]) [.int x8, .int l5] zk_RX4_42 rfl (Nat.le_of_ble_eq_true rfl) dX4_permutingMonomials_73 (mX0_product hV (d + 2) x7 x8 l5 h) (fun v9 h10 => ?_)
      refine z_vi (fun x11 => ?_)
      refine z_sI dX4_permutingMonomials_76 (fun h12 => ?_)
      refine z_inc (w := 1) (lv' := [(5, .int (l5 + 1)), (0, .ref l0), (1, .ref l1), (2, .long l2), (4, .int l4)]) 4 rfl (by decide) (by decide) rfl dX4_permutingMonomials_77 ?_
      refine z_goto 48 (by decide) dX4_permutingMonomials_80 ?_
      exact z_sub [1, 2, 3, 4, 0] rfl (ih l0 l1 l2 l4 (l5 + 1) h12)
def fX4_permutingMonomials_33 : Nat → Nat → Nat → Int64 → Int32 → AH → RR
  | 0, _, _, _, _, _ => none
  | k + 1, l0, l1, l2, l4, h =>
  (zgR h l0 4 2).bind fun x1 =>
  (zgI h x1 0 2).bind fun x2 =>
  if x2 ≤ l4 then (
    some (.inl (some (.long l2)), h))
  else
  fX4_permutingMonomials_48 (fun p0 p1 p2 p4 h => fX4_permutingMonomials_33 k p0 p1 p2 p4 h) FU l0 l1 l2 l4 0 h
set_option maxRecDepth 20000 in
theorem rX4_permutingMonomials_33 {X : CT} {V : VT} {d n0 k0 : Nat} (hV : V.2.2.2.2.2.stackTraces = false) (fu : Nat) : ∀ (l0 : Nat) (l1 : Nat) (l2 : Int64) (l4 : Int32) (h : AH), zG X V RX4 "permutingMonomials" cX4_permutingMonomials 6 (some .long) (d + 4) n0 k0 (fX4_permutingMonomials_33 fu l0 l1 l2 l4 h) 33 [(0, .ref l0), (1, .ref l1), (2, .long l2), (4, .int l4)] [] h := by
  induction fu with
  | zero => intros; exact z_none
  | succ k ih =>
    intro l0 l1 l2 l4 h
    rw [fX4_permutingMonomials_33]
    refine z_iload 3 rfl dX4_permutingMonomials_33 ?_
    refine z_aload_n 0 rfl rfl dX4_permutingMonomials_35 ?_
    refine z_gR zf_RX4_9 dX4_permutingMonomials_36 (fun x1 => ?_)
    refine z_gI zf_RX4_28 dX4_permutingMonomials_39 (fun x2 => ?_)
    refine z_icmp_ge 104 (by decide) dX4_permutingMonomials_42 ?_ ?_
    · refine z_lload_n 2 rfl rfl dX4_permutingMonomials_104 ?_
      exact z_lret rfl dX4_permutingMonomials_105
    · refine z_iconst (v := 0) (by decide) dX4_permutingMonomials_45 ?_
      refine z_istore (lv' := [(5, .int 0), (0, .ref l0), (1, .ref l1), (2, .long l2), (4, .int l4)]) (by decide) rfl dX4_permutingMonomials_46 ?_
      exact z_sub [1, 2, 3, 4, 0] rfl (rX4_permutingMonomials_48 hV (fun p0 p1 p2 p4 h => fX4_permutingMonomials_33 k p0 p1 p2 p4 h) ih FU l0 l1 l2 l4 0 h)
def fX4_permutingMonomials_7 : Nat → Nat → Nat → Int32 → AH → RR
  | 0, _, _, _, _ => none
  | k + 1, l0, l1, l2, h =>
  (zgR h l0 4 2).bind fun x1 =>
  (zgI h x1 0 2).bind fun x2 =>
  if x2 ≤ l2 then (
    fX4_permutingMonomials_33 FU l0 l1 0 1 h)
  else
  (zsi h l1 l2 1).bind fun h3 =>
  fX4_permutingMonomials_7 k l0 l1 (l2 + 1) h3
set_option maxRecDepth 20000 in
theorem rX4_permutingMonomials_7 {X : CT} {V : VT} {d n0 k0 : Nat} (hV : V.2.2.2.2.2.stackTraces = false) (fu : Nat) : ∀ (l0 : Nat) (l1 : Nat) (l2 : Int32) (h : AH), zG X V RX4 "permutingMonomials" cX4_permutingMonomials 6 (some .long) (d + 4) n0 k0 (fX4_permutingMonomials_7 fu l0 l1 l2 h) 7 [(0, .ref l0), (1, .ref l1), (2, .int l2)] [] h := by
  induction fu with
  | zero => intros; exact z_none
  | succ k ih =>
    intro l0 l1 l2 h
    rw [fX4_permutingMonomials_7]
    refine z_iload_n 2 rfl rfl dX4_permutingMonomials_7 ?_
    refine z_aload_n 0 rfl rfl dX4_permutingMonomials_8 ?_
    refine z_gR zf_RX4_9 dX4_permutingMonomials_9 (fun x1 => ?_)
    refine z_gI zf_RX4_28 dX4_permutingMonomials_12 (fun x2 => ?_)
    refine z_icmp_ge 28 (by decide) dX4_permutingMonomials_15 ?_ ?_
    · refine z_lconst (v := 0) (by decide) dX4_permutingMonomials_28 ?_
      refine z_lstore_n (lv' := [(2, .long 0), (0, .ref l0), (1, .ref l1)]) rfl (by decide) rfl dX4_permutingMonomials_29 ?_
      refine z_iconst (v := 1) (by decide) dX4_permutingMonomials_30 ?_
      refine z_istore (lv' := [(4, .int 1), (2, .long 0), (0, .ref l0), (1, .ref l1)]) (by decide) rfl dX4_permutingMonomials_31 ?_
      exact z_sub [2, 3, 1, 0] rfl (rX4_permutingMonomials_33 hV FU l0 l1 0 1 h)
    · refine z_aload_n 1 rfl rfl dX4_permutingMonomials_18 ?_
      refine z_iload_n 2 rfl rfl dX4_permutingMonomials_19 ?_
      refine z_iconst (v := 1) (by decide) dX4_permutingMonomials_20 ?_
      refine z_sI dX4_permutingMonomials_21 (fun h3 => ?_)
      refine z_inc (w := 1) (lv' := [(2, .int (l2 + 1)), (0, .ref l0), (1, .ref l1)]) 2 rfl (by decide) (by decide) rfl dX4_permutingMonomials_22 ?_
      refine z_goto 7 (by decide) dX4_permutingMonomials_25 ?_
      exact z_sub [1, 2, 0] rfl (ih l0 l1 (l2 + 1) h3)
def fX4_permutingMonomials (a0 : Nat) (h : AH) : RR :=
  (zgR h a0 4 4).bind fun x1 =>
  fX4_permutingMonomials_7 FU a0 x1 0 h
set_option maxRecDepth 20000 in
theorem mX4_permutingMonomials {V : VT} (hV : V.2.2.2.2.2.stackTraces = false) (d : Nat) (a0 : Nat) (h : AH) : zM V yX4_permutingMonomials cX4_permutingMonomials 6 (some .long) (d + 4) [.ref a0] h (fX4_permutingMonomials a0 h) := by
  refine z_meth hV (by decide +kernel) (Nat.le_of_ble_eq_true rfl) [(0, .ref a0)] rfl (fun X => ?_)
  show zG X V RX4 "permutingMonomials" cX4_permutingMonomials 6 (some .long) (d + 4) h.1 h.2.1 (fX4_permutingMonomials a0 h) 0 [(0, .ref a0)] [] h
  unfold fX4_permutingMonomials
  refine z_aload_n 0 rfl rfl dX4_permutingMonomials_0 ?_
  refine z_gR zf_RX4_22 dX4_permutingMonomials_1 (fun x1 => ?_)
  refine z_astore_n (lv' := [(1, .ref x1), (0, .ref a0)]) rfl (by decide) rfl dX4_permutingMonomials_4 ?_
  refine z_iconst (v := 0) (by decide) dX4_permutingMonomials_5 ?_
  refine z_istore_n (lv' := [(2, .int 0), (1, .ref x1), (0, .ref a0)]) rfl (by decide) rfl dX4_permutingMonomials_6 ?_
  exact z_sub [2, 1, 0] rfl (rX4_permutingMonomials_7 hV FU a0 x1 0 h)
def fX4_permutingDicksons_83 (K56 : Nat → Int32 → Nat → Nat → Int64 → Int32 → AH → RR) : Nat → Nat → Int32 → Nat → Nat → Int64 → Int32 → Int32 → AH → RR
  | 0, _, _, _, _, _, _, _, _ => none
  | k + 1, l0, l1, l2, l3, l4, l6, l7, h =>
  (zgR h l0 4 2).bind fun x1 =>
  (zgI h x1 0 2).bind fun x2 =>
  if x2 ≤ l7 then (
    K56 l0 l1 l3 l2 l4 (l6 + 1) h)
  else
  (zgR h l0 4 2).bind fun x3 =>
  (zgR h l0 4 2).bind fun x4 =>
  (zai h l3 l7).bind fun x5 =>
  zcv (zob h x4 0) (fX0_product x4 l7 x5 h) fun v6 h7 =>
  zvi v6 fun x8 =>
  (zgR h7 l0 4 2).bind fun x9 =>
  (zai h7 l2 l7).bind fun x10 =>
  zcv (zob h7 x9 0) (fX0_product x9 l1 x10 h7) fun v11 h12 =>
  zvi v11 fun x13 =>
  zcv (zob h12 x3 0) (fX0_difference x3 x8 x13 h12) fun v14 h15 =>
  zvi v14 fun x16 =>
  (zsi h15 l2 l7 x16).bind fun h17 =>
  fX4_permutingDicksons_83 K56 k l0 l1 l2 l3 l4 l6 (l7 + 1) h17
set_option maxRecDepth 20000 in
theorem rX4_permutingDicksons_83 {X : CT} {V : VT} {d n0 k0 : Nat} (hV : V.2.2.2.2.2.stackTraces = false) (K56 : Nat → Int32 → Nat → Nat → Int64 → Int32 → AH → RR) (hK56 : ∀ l0 l1 l2 l3 l4 l6  h, zG X V RX4 "permutingDicksons" cX4_permutingDicksons 8 (some .long) (d + 4) n0 k0 (K56 l0 l1 l2 l3 l4 l6 h) 56 [(0, .ref l0), (1, .int l1), (2, .ref l2), (3, .ref l3), (4, .long l4), (6, .int l6)] [] h) (fu : Nat) : ∀ (l0 : Nat) (l1 : Int32) (l2 : Nat) (l3 : Nat) (l4 : Int64) (l6 : Int32) (l7 : Int32) (h : AH), zG X V RX4 "permutingDicksons" cX4_permutingDicksons 8 (some .long) (d + 4) n0 k0 (fX4_permutingDicksons_83 K56 fu l0 l1 l2 l3 l4 l6 l7 h) 83 [(0, .ref l0), (1, .int l1), (2, .ref l2), (3, .ref l3), (4, .long l4), (6, .int l6), (7, .int l7)] [] h := by
  induction fu with
  | zero => intros; exact z_none
  | succ k ih =>
    intro l0 l1 l2 l3 l4 l6 l7 h
    rw [fX4_permutingDicksons_83]
    refine z_iload 6 rfl dX4_permutingDicksons_83 ?_
    refine z_aload_n 0 rfl rfl dX4_permutingDicksons_85 ?_
    refine z_gR zf_RX4_9 dX4_permutingDicksons_86 (fun x1 => ?_)
    refine z_gI zf_RX4_28 dX4_permutingDicksons_89 (fun x2 => ?_)
    refine z_icmp_ge 137 (by decide) dX4_permutingDicksons_92 ?_ ?_
    · refine z_aload_n 2 rfl rfl dX4_permutingDicksons_137 ?_
      refine z_astore (lv' := [(7, .ref l2), (0, .ref l0), (1, .int l1), (2, .ref l2), (3, .ref l3), (4, .long l4), (6, .int l6)]) (by decide) rfl dX4_permutingDicksons_138 ?_
      refine z_aload_n 4 rfl rfl dX4_permutingDicksons_140 ?_
      refine z_astore_n (lv' := [(2, .ref l3), (7, .ref l2), (0, .ref l0), (1, .int l1), (3, .ref l3), (4, .long l4), (6, .int l6)]) rfl (by decide) rfl dX4_permutingDicksons_141 ?_
      refine z_aload 1 rfl dX4_permutingDicksons_142 ?_
      refine z_astore_n (lv' := [(3, .ref l2), (2, .ref l3), (7, .ref l2), (0, .ref l0), (1, .int l1), (4, .long l4), (6, .int l6)]) rfl (by decide) rfl dX4_permutingDicksons_144 ?_
      refine z_inc (w := 1) (lv' := [(6, .int (l6 + 1)), (3, .ref l2), (2, .ref l3), (7, .ref l2), (0, .ref l0), (1, .int l1), (4, .long l4)]) 6 rfl (by decide) (by decide) rfl dX4_permutingDicksons_145 ?_
      refine z_goto 56 (by decide) dX4_permutingDicksons_148 ?_
      exact z_sub [4, 5, 2, 1, 6, 0] rfl (hK56 l0 l1 l3 l2 l4 (l6 + 1) h)
    · refine z_aload_n 2 rfl rfl dX4_permutingDicksons_95 ?_
      refine z_iload 6 rfl dX4_permutingDicksons_96 ?_
      refine z_aload_n 0 rfl rfl dX4_permutingDicksons_98 ?_
      refine z_gR zf_RX4_9 dX4_permutingDicksons_99 (fun x3 => ?_)
      refine z_aload_n 0 rfl rfl dX4_permutingDicksons_102 ?_
      refine z_gR zf_RX4_9 dX4_permutingDicksons_103 (fun x4 => ?_)
      refine z_iload 6 rfl dX4_permutingDicksons_106 ?_
      refine z_aload_n 3 rfl rfl dX4_permutingDicksons_108 ?_
      refine z_iload 6 rfl dX4_permutingDicksons_109 ?_
      refine z_aI dX4_permutingDicksons_111 (fun x5 => ?_)
      refine z_cV (st := [.ref x3, .int l7, .ref l2]) [.int l7, .int x5] zk_RX4_42 rfl (Nat.le_of_ble_eq_true rfl) dX4_permutingDicksons_112 (mX0_product hV (d + 2) x4 l7 x5 h) (fun v6 h7 => ?_)
      refine z_vi (fun x8 => ?_)
      refine z_aload_n 0 rfl rfl dX4_permutingDicksons_115 ?_
      refine z_gR zf_RX4_9 dX4_permutingDicksons_116 (fun x9 => ?_)
      refine z_iload_n 1 rfl rfl dX4_permutingDicksons_119 ?_
      refine z_aload_n 2 rfl rfl dX4_permutingDicksons_120 ?_
      refine z_iload 6 rfl dX4_permutingDicksons_121 ?_
      refine z_aI dX4_permutingDicksons_123 (fun x10 => ?_)
      refine z_cV (st := [.int x8, .ref x3, .int l7, .ref l2]) [.int l1, .int x10] zk_RX4_42 rfl (Nat.le_of_ble_eq_true rfl) dX4_permutingDicksons_124 (mX0_product hV (d + 2) x9 l1 x10 h7) (fun v11 h12 => ?_)
      refine z_vi (fun x13 => ?_)
      refine z_cV (st := [.int l7, .ref l2]) [.int x8, .int x13] zk_RX4_91 rfl (Nat.le_of_ble_eq_true rfl) dX4_permutingDicksons_127 (mX0_difference hV (d + 2) x3 x8 x13 h12) (fun v14 h15 => ?_)
      refine z_vi (fun x16 => ?_)
      refine z_sI dX4_permutingDicksons_130 (fun h17 => ?_)
      refine z_inc (w := 1) (lv' := [(7, .int (l7 + 1)), (0, .ref l0), (1, .int l1), (2, .ref l2), (3, .ref l3), (4, .long l4), (6, .int l6)]) 6 rfl (by decide) (by decide) rfl dX4_permutingDicksons_131 ?_
      refine z_goto 83 (by decide) dX4_permutingDicksons_134 ?_
      exact z_sub [1, 2, 3, 4, 5, 6, 0] rfl (ih l0 l1 l2 l3 l4 l6 (l7 + 1) h17)
def fX4_permutingDicksons_80 (K56 : Nat → Int32 → Nat → Nat → Int64 → Int32 → AH → RR) (l0 : Nat) (l1 : Int32) (l2 : Nat) (l3 : Nat) (l4 : Int64) (l6 : Int32) (h : AH) : RR :=
  fX4_permutingDicksons_83 K56 FU l0 l1 l2 l3 l4 l6 0 h
set_option maxRecDepth 20000 in
theorem rX4_permutingDicksons_80 {X : CT} {V : VT} {d n0 k0 : Nat} (hV : V.2.2.2.2.2.stackTraces = false) (K56 : Nat → Int32 → Nat → Nat → Int64 → Int32 → AH → RR) (hK56 : ∀ l0 l1 l2 l3 l4 l6  h, zG X V RX4 "permutingDicksons" cX4_permutingDicksons 8 (some .long) (d + 4) n0 k0 (K56 l0 l1 l2 l3 l4 l6 h) 56 [(0, .ref l0), (1, .int l1), (2, .ref l2), (3, .ref l3), (4, .long l4), (6, .int l6)] [] h) (l0 : Nat) (l1 : Int32) (l2 : Nat) (l3 : Nat) (l4 : Int64) (l6 : Int32) (h : AH) : zG X V RX4 "permutingDicksons" cX4_permutingDicksons 8 (some .long) (d + 4) n0 k0 (fX4_permutingDicksons_80 K56 l0 l1 l2 l3 l4 l6 h) 80 [(0, .ref l0), (1, .int l1), (2, .ref l2), (3, .ref l3), (4, .long l4), (6, .int l6)] [] h := by
  unfold fX4_permutingDicksons_80
  refine z_iconst (v := 0) (by decide) dX4_permutingDicksons_80 ?_
  refine z_istore (lv' := [(7, .int 0), (0, .ref l0), (1, .int l1), (2, .ref l2), (3, .ref l3), (4, .long l4), (6, .int l6)]) (by decide) rfl dX4_permutingDicksons_81 ?_
  exact z_sub [1, 2, 3, 4, 5, 6, 0] rfl (rX4_permutingDicksons_83 hV K56 hK56 FU l0 l1 l2 l3 l4 l6 0 h)
def fX4_permutingDicksons_56 : Nat → Nat → Int32 → Nat → Nat → Int64 → Int32 → AH → RR
  | 0, _, _, _, _, _, _, _ => none
  | k + 1, l0, l1, l2, l3, l4, l6, h =>
  if 63 < l6 then (
    some (.inl (some (.long l4)), h))
  else
  zcv (zob h l0 4) (fX4_isPermuting l0 l3 h) fun v1 h2 =>
  zvi v1 fun x3 =>
  if x3 = 0 then (
    fX4_permutingDicksons_80 (fun p0 p1 p2 p3 p4 p6 h => fX4_permutingDicksons_56 k p0 p1 p2 p3 p4 p6 h) l0 l1 l2 l3 l4 l6 h2)
  else
  zletJ (l4 ||| ((1 : Int64) <<< (l6.toInt64 &&& 63))) fun w4 =>
  fX4_permutingDicksons_80 (fun p0 p1 p2 p3 p4 p6 h => fX4_permutingDicksons_56 k p0 p1 p2 p3 p4 p6 h) l0 l1 l2 l3 w4 l6 h2
set_option maxRecDepth 20000 in
theorem rX4_permutingDicksons_56 {X : CT} {V : VT} {d n0 k0 : Nat} (hV : V.2.2.2.2.2.stackTraces = false) (fu : Nat) : ∀ (l0 : Nat) (l1 : Int32) (l2 : Nat) (l3 : Nat) (l4 : Int64) (l6 : Int32) (h : AH), zG X V RX4 "permutingDicksons" cX4_permutingDicksons 8 (some .long) (d + 4) n0 k0 (fX4_permutingDicksons_56 fu l0 l1 l2 l3 l4 l6 h) 56 [(0, .ref l0), (1, .int l1), (2, .ref l2), (3, .ref l3), (4, .long l4), (6, .int l6)] [] h := by
  induction fu with
  | zero => intros; exact z_none
  | succ k ih =>
    intro l0 l1 l2 l3 l4 l6 h
    rw [fX4_permutingDicksons_56]
    refine z_iload 5 rfl dX4_permutingDicksons_56 ?_
    refine z_bipush (v := 63) (by decide) dX4_permutingDicksons_58 ?_
    refine z_icmp_gt 151 (by decide) dX4_permutingDicksons_60 ?_ ?_
    · refine z_lload 4 rfl dX4_permutingDicksons_151 ?_
      exact z_lret rfl dX4_permutingDicksons_153
    · refine z_aload_n 0 rfl rfl dX4_permutingDicksons_63 ?_
      refine z_aload_n 3 rfl rfl dX4_permutingDicksons_64 ?_
      refine z_cV (st := []) [.ref l3] zk_RX4_83 rfl (Nat.le_of_ble_eq_true rfl) dX4_permutingDicksons_65 (mX4_isPermuting hV (d + 0) l0 l3 h) (fun v1 h2 => ?_)
      refine z_vi (fun x3 => ?_)
      refine z_if_eq 80 (by decide) dX4_permutingDicksons_68 ?_ ?_
      · exact z_sub [0, 1, 2, 3, 4, 5] rfl (rX4_permutingDicksons_80 hV (fun p0 p1 p2 p3 p4 p6 h => fX4_permutingDicksons_56 k p0 p1 p2 p3 p4 p6 h) ih l0 l1 l2 l3 l4 l6 h2)
      · refine z_lload 4 rfl dX4_permutingDicksons_71 ?_
        refine z_lconst (v := 1) (by decide) dX4_permutingDicksons_73 ?_
        refine z_iload 5 rfl dX4_permutingDicksons_74 ?_
        refine z_lshl dX4_permutingDicksons_76 ?_
        refine z_lor dX4_permutingDicksons_77 ?_
        refine z_topJ (fun w4 => ?_)
        refine z_lstore (lv' := [(4, .long w4), (0, .ref l0), (1, .int l1), (2, .ref l2), (3, .ref l3), (6, .int l6)]) (by decide) rfl dX4_permutingDicksons_78 ?_
        exact z_sub [1, 2, 3, 4, 0, 5] rfl (rX4_permutingDicksons_80 hV (fun p0 p1 p2 p3 p4 p6 h => fX4_permutingDicksons_56 k p0 p1 p2 p3 p4 p6 h) ih l0 l1 l2 l3 w4 l6 h2)
def fX4_permutingDicksons_13 : Nat → Nat → Int32 → Nat → Nat → Int32 → AH → RR
  | 0, _, _, _, _, _, _ => none
  | k + 1, l0, l1, l2, l3, l4, h =>
  (zgR h l0 4 2).bind fun x1 =>
  (zgI h x1 0 2).bind fun x2 =>
  if x2 ≤ l4 then (
    fX4_permutingDicksons_56 FU l0 l1 l2 l3 0 1 h)
  else
  (zgR h l0 4 2).bind fun x3 =>
  zcv (zob h x3 0) (fX0_sum x3 1 1 h) fun v4 h5 =>
  zvi v4 fun x6 =>
  (zsi h5 l2 l4 x6).bind fun h7 =>
  (zsi h7 l3 l4 l4).bind fun h8 =>
  fX4_permutingDicksons_13 k l0 l1 l2 l3 (l4 + 1) h8
set_option maxRecDepth 20000 in
theorem rX4_permutingDicksons_13 {X : CT} {V : VT} {d n0 k0 : Nat} (hV : V.2.2.2.2.2.stackTraces = false) (fu : Nat) : ∀ (l0 : Nat) (l1 : Int32) (l2 : Nat) (l3 : Nat) (l4 : Int32) (h : AH), zG X V RX4 "permutingDicksons" cX4_permutingDicksons 8 (some .long) (d + 4) n0 k0 (fX4_permutingDicksons_13 fu l0 l1 l2 l3 l4 h) 13 [(0, .ref l0), (1, .int l1), (2, .ref l2), (3, .ref l3), (4, .int l4)] [] h := by
  induction fu with
  | zero => intros; exact z_none
  | succ k ih =>
    intro l0 l1 l2 l3 l4 h
    rw [fX4_permutingDicksons_13]
    refine z_iload 4 rfl dX4_permutingDicksons_13 ?_
    refine z_aload_n 0 rfl rfl dX4_permutingDicksons_15 ?_
    refine z_gR zf_RX4_9 dX4_permutingDicksons_16 (fun x1 => ?_)
    refine z_gI zf_RX4_28 dX4_permutingDicksons_19 (fun x2 => ?_)
    refine z_icmp_ge 50 (by decide) dX4_permutingDicksons_22 ?_ ?_
    · refine z_lconst (v := 0) (by decide) dX4_permutingDicksons_50 ?_
      refine z_lstore (lv' := [(4, .long 0), (0, .ref l0), (1, .int l1), (2, .ref l2), (3, .ref l3)]) (by decide) rfl dX4_permutingDicksons_51 ?_
      refine z_iconst (v := 1) (by decide) dX4_permutingDicksons_53 ?_
      refine z_istore (lv' := [(6, .int 1), (4, .long 0), (0, .ref l0), (1, .int l1), (2, .ref l2), (3, .ref l3)]) (by decide) rfl dX4_permutingDicksons_54 ?_
      exact z_sub [2, 3, 4, 5, 1, 0] rfl (rX4_permutingDicksons_56 hV FU l0 l1 l2 l3 0 1 h)
    · refine z_aload_n 2 rfl rfl dX4_permutingDicksons_25 ?_
      refine z_iload 4 rfl dX4_permutingDicksons_26 ?_
      refine z_aload_n 0 rfl rfl dX4_permutingDicksons_28 ?_
      refine z_gR zf_RX4_9 dX4_permutingDicksons_29 (fun x3 => ?_)
      refine z_iconst (v := 1) (by decide) dX4_permutingDicksons_32 ?_
      refine z_iconst (v := 1) (by decide) dX4_permutingDicksons_33 ?_
      refine z_cV (st := [.int l4, .ref l2]) [.int 1, .int 1] zk_RX4_45 rfl (Nat.le_of_ble_eq_true rfl) dX4_permutingDicksons_34 (mX0_sum hV (d + 2) x3 1 1 h) (fun v4 h5 => ?_)
      refine z_vi (fun x6 => ?_)
      refine z_sI dX4_permutingDicksons_37 (fun h7 => ?_)
      refine z_aload_n 3 rfl rfl dX4_permutingDicksons_38 ?_
      refine z_iload 4 rfl dX4_permutingDicksons_39 ?_
      refine z_iload 4 rfl dX4_permutingDicksons_41 ?_
      refine z_sI dX4_permutingDicksons_43 (fun h8 => ?_)
      refine z_inc (w := 1) (lv' := [(4, .int (l4 + 1)), (0, .ref l0), (1, .int l1), (2, .ref l2), (3, .ref l3)]) 4 rfl (by decide) (by decide) rfl dX4_permutingDicksons_44 ?_
      refine z_goto 13 (by decide) dX4_permutingDicksons_47 ?_
      exact z_sub [1, 2, 3, 4, 0] rfl (ih l0 l1 l2 l3 (l4 + 1) h8)
def fX4_permutingDicksons (a0 : Nat) (a1 : Int32) (h : AH) : RR :=
  (zgR h a0 4 4).bind fun x1 =>
  (zgR h a0 4 5).bind fun x2 =>
  fX4_permutingDicksons_13 FU a0 a1 x1 x2 0 h
set_option maxRecDepth 20000 in
theorem mX4_permutingDicksons {V : VT} (hV : V.2.2.2.2.2.stackTraces = false) (d : Nat) (a0 : Nat) (a1 : Int32) (h : AH) : zM V yX4_permutingDicksons cX4_permutingDicksons 8 (some .long) (d + 4) [.ref a0, .int a1] h (fX4_permutingDicksons a0 a1 h) := by
  refine z_meth hV (by decide +kernel) (Nat.le_of_ble_eq_true rfl) [(0, .ref a0), (1, .int a1)] rfl (fun X => ?_)
  show zG X V RX4 "permutingDicksons" cX4_permutingDicksons 8 (some .long) (d + 4) h.1 h.2.1 (fX4_permutingDicksons a0 a1 h) 0 [(0, .ref a0), (1, .int a1)] [] h
  unfold fX4_permutingDicksons
  refine z_aload_n 0 rfl rfl dX4_permutingDicksons_0 ?_
  refine z_gR zf_RX4_22 dX4_permutingDicksons_1 (fun x1 => ?_)
  refine z_astore_n (lv' := [(2, .ref x1), (0, .ref a0), (1, .int a1)]) rfl (by decide) rfl dX4_permutingDicksons_4 ?_
  refine z_aload_n 1 rfl rfl dX4_permutingDicksons_5 ?_
  refine z_gR zf_RX4_25 dX4_permutingDicksons_6 (fun x2 => ?_)
  refine z_astore_n (lv' := [(3, .ref x2), (2, .ref x1), (0, .ref a0), (1, .int a1)]) rfl (by decide) rfl dX4_permutingDicksons_9 ?_
  refine z_iconst (v := 0) (by decide) dX4_permutingDicksons_10 ?_
  refine z_istore (lv' := [(4, .int 0), (3, .ref x2), (2, .ref x1), (0, .ref a0), (1, .int a1)]) (by decide) rfl dX4_permutingDicksons_11 ?_
  exact z_sub [3, 4, 2, 1, 0] rfl (rX4_permutingDicksons_13 hV FU a0 a1 x1 x2 0 h)
def fX4_permutingBinomials_66 (K51 : Nat → Nat → Nat → Int32 → Int32 → AH → RR) : Nat → Nat → Nat → Nat → Int32 → Int32 → Int32 → AH → RR
  | 0, _, _, _, _, _, _, _ => none
  | k + 1, l0, l2, l3, l4, l5, l6, h =>
  (zgR h l0 4 2).bind fun x1 =>
  (zgI h x1 0 2).bind fun x2 =>
  if x2 ≤ l6 then (
    zcv (zob h l0 4) (fX4_isPermuting l0 l3 h) fun v3 h4 =>
    zvi v3 fun x5 =>
    if x5 = 0 then (
      K51 l0 l2 l3 l4 (l5 + 1) h4)
    else
    K51 l0 l2 l3 (l4 + 1) (l5 + 1) h4)
  else
  (zgR h l0 4 2).bind fun x6 =>
  (zai h l2 l6).bind fun x7 =>
  (zgR h l0 4 2).bind fun x8 =>
  zcv (zob h x8 0) (fX0_product x8 l5 l6 h) fun v9 h10 =>
  zvi v9 fun x11 =>
  zcv (zob h10 x6 0) (fX0_sum x6 x7 x11 h10) fun v12 h13 =>
  zvi v12 fun x14 =>
  (zsi h13 l3 l6 x14).bind fun h15 =>
  fX4_permutingBinomials_66 K51 k l0 l2 l3 l4 l5 (l6 + 1) h15
set_option maxRecDepth 20000 in
theorem rX4_permutingBinomials_66 {X : CT} {V : VT} {d n0 k0 : Nat} (hV : V.2.2.2.2.2.stackTraces = false) (K51 : Nat → Nat → Nat → Int32 → Int32 → AH → RR) (hK51 : ∀ l0 l2 l3 l4 l5  h, zG X V RX4 "permutingBinomials" cX4_permutingBinomials 7 (some .int) (d + 4) n0 k0 (K51 l0 l2 l3 l4 l5 h) 51 [(0, .ref l0), (2, .ref l2), (3, .ref l3), (4, .int l4), (5, .int l5)] [] h) (fu : Nat) : ∀ (l0 : Nat) (l2 : Nat) (l3 : Nat) (l4 : Int32) (l5 : Int32) (l6 : Int32) (h : AH), zG X V RX4 "permutingBinomials" cX4_permutingBinomials 7 (some .int) (d + 4) n0 k0 (fX4_permutingBinomials_66 K51 fu l0 l2 l3 l4 l5 l6 h) 66 [(0, .ref l0), (2, .ref l2), (3, .ref l3), (4, .int l4), (5, .int l5), (6, .int l6)] [] h := by
  induction fu with
  | zero => intros; exact z_none
  | succ k ih =>
    intro l0 l2 l3 l4 l5 l6 h
    rw [fX4_permutingBinomials_66]
    refine z_iload 5 rfl dX4_permutingBinomials_66 ?_
    refine z_aload_n 0 rfl rfl dX4_permutingBinomials_68 ?_
    refine z_gR zf_RX4_9 dX4_permutingBinomials_69 (fun x1 => ?_)
    refine z_gI zf_RX4_28 dX4_permutingBinomials_72 (fun x2 => ?_)
    refine z_icmp_ge 110 (by decide) dX4_permutingBinomials_75 ?_ ?_
    · refine z_aload_n 0 rfl rfl dX4_permutingBinomials_110 ?_
      refine z_aload_n 2 rfl rfl dX4_permutingBinomials_111 ?_
      refine z_cV (st := []) [.ref l3] zk_RX4_83 rfl (Nat.le_of_ble_eq_true rfl) dX4_permutingBinomials_112 (mX4_isPermuting hV (d + 0) l0 l3 h) (fun v3 h4 => ?_)
      refine z_vi (fun x5 => ?_)
      refine z_if_eq 121 (by decide) dX4_permutingBinomials_115 ?_ ?_
      · refine z_inc (w := 1) (lv' := [(5, .int (l5 + 1)), (0, .ref l0), (2, .ref l2), (3, .ref l3), (4, .int l4), (6, .int l6)]) 4 rfl (by decide) (by decide) rfl dX4_permutingBinomials_121 ?_
        refine z_goto 51 (by decide) dX4_permutingBinomials_124 ?_
        exact z_sub [1, 2, 3, 4, 0] rfl (hK51 l0 l2 l3 l4 (l5 + 1) h4)
      · refine z_inc (w := 1) (lv' := [(4, .int (l4 + 1)), (0, .ref l0), (2, .ref l2), (3, .ref l3), (5, .int l5), (6, .int l6)]) 3 rfl (by decide) (by decide) rfl dX4_permutingBinomials_118 ?_
        refine z_inc (w := 1) (lv' := [(5, .int (l5 + 1)), (4, .int (l4 + 1)), (0, .ref l0), (2, .ref l2), (3, .ref l3), (6, .int l6)]) 4 rfl (by decide) (by decide) rfl dX4_permutingBinomials_121 ?_
        refine z_goto 51 (by decide) dX4_permutingBinomials_124 ?_
        exact z_sub [2, 3, 4, 1, 0] rfl (hK51 l0 l2 l3 (l4 + 1) (l5 + 1) h4)
    · refine z_aload_n 2 rfl rfl dX4_permutingBinomials_78 ?_
      refine z_iload 5 rfl dX4_permutingBinomials_79 ?_
      refine z_aload_n 0 rfl rfl dX4_permutingBinomials_81 ?_
      refine z_gR zf_RX4_9 dX4_permutingBinomials_82 (fun x6 => ?_)
      refine z_aload_n 1 rfl rfl dX4_permutingBinomials_85 ?_
      refine z_iload 5 rfl dX4_permutingBinomials_86 ?_
      refine z_aI dX4_permutingBinomials_88 (fun x7 => ?_)
      refine z_aload_n 0 rfl rfl dX4_permutingBinomials_89 ?_
      refine z_gR zf_RX4_9 dX4_permutingBinomials_90 (fun x8 => ?_)
      refine z_iload 4 rfl dX4_permutingBinomials_93 ?_
      refine z_iload 5 rfl dX4_permutingBinomials_95 ?_
      refine z_cV (st := [.int x7, .ref x6, .int l6, .ref l3]) [.int l5, .int l6] zk_RX4_42 rfl (Nat.le_of_ble_eq_true rfl) dX4_permutingBinomials_97 (mX0_product hV (d + 2) x8 l5 l6 h) (fun v9 h10 => ?_)
      refine z_vi (fun x11 => ?_)
      refine z_cV (st := [.int l6, .ref l3]) [.int x7, .int x11] zk_RX4_45 rfl (Nat.le_of_ble_eq_true rfl) dX4_permutingBinomials_100 (mX0_sum hV (d + 2) x6 x7 x11 h10) (fun v12 h13 => ?_)
      refine z_vi (fun x14 => ?_)
      refine z_sI dX4_permutingBinomials_103 (fun h15 => ?_)
      refine z_inc (w := 1) (lv' := [(6, .int (l6 + 1)), (0, .ref l0), (2, .ref l2), (3, .ref l3), (4, .int l4), (5, .int l5)]) 5 rfl (by decide) (by decide) rfl dX4_permutingBinomials_104 ?_
      refine z_goto 66 (by decide) dX4_permutingBinomials_107 ?_
      exact z_sub [1, 2, 3, 4, 5, 0] rfl (ih l0 l2 l3 l4 l5 (l6 + 1) h15)
def fX4_permutingBinomials_51 : Nat → Nat → Nat → Nat → Int32 → Int32 → AH → RR
  | 0, _, _, _, _, _, _ => none
  | k + 1, l0, l2, l3, l4, l5, h =>
  (zgR h l0 4 2).bind fun x1 =>
  (zgI h x1 0 2).bind fun x2 =>
  if x2 ≤ l5 then (
    some (.inl (some (.int l4)), h))
  else
  fX4_permutingBinomials_66 (fun p0 p2 p3 p4 p5 h => fX4_permutingBinomials_51 k p0 p2 p3 p4 p5 h) FU l0 l2 l3 l4 l5 0 h
set_option maxRecDepth 20000 in
theorem rX4_permutingBinomials_51 {X : CT} {V : VT} {d n0 k0 : Nat} (hV : V.2.2.2.2.2.stackTraces = false) (fu : Nat) : ∀ (l0 : Nat) (l2 : Nat) (l3 : Nat) (l4 : Int32) (l5 : Int32) (h : AH), zG X V RX4 "permutingBinomials" cX4_permutingBinomials 7 (some .int) (d + 4) n0 k0 (fX4_permutingBinomials_51 fu l0 l2 l3 l4 l5 h) 51 [(0, .ref l0), (2, .ref l2), (3, .ref l3), (4, .int l4), (5, .int l5)] [] h := by
  induction fu with
  | zero => intros; exact z_none
  | succ k ih =>
    intro l0 l2 l3 l4 l5 h
    rw [fX4_permutingBinomials_51]
    refine z_iload 4 rfl dX4_permutingBinomials_51 ?_
    refine z_aload_n 0 rfl rfl dX4_permutingBinomials_53 ?_
    refine z_gR zf_RX4_9 dX4_permutingBinomials_54 (fun x1 => ?_)
    refine z_gI zf_RX4_28 dX4_permutingBinomials_57 (fun x2 => ?_)
    refine z_icmp_ge 127 (by decide) dX4_permutingBinomials_60 ?_ ?_
    · refine z_iload 3 rfl dX4_permutingBinomials_127 ?_
      exact z_iret rfl dX4_permutingBinomials_129
    · refine z_iconst (v := 0) (by decide) dX4_permutingBinomials_63 ?_
      refine z_istore (lv' := [(6, .int 0), (0, .ref l0), (2, .ref l2), (3, .ref l3), (4, .int l4), (5, .int l5)]) (by decide) rfl dX4_permutingBinomials_64 ?_
      exact z_sub [1, 2, 3, 4, 5, 0] rfl (rX4_permutingBinomials_66 hV (fun p0 p2 p3 p4 p5 h => fX4_permutingBinomials_51 k p0 p2 p3 p4 p5 h) ih FU l0 l2 l3 l4 l5 0 h)
def fX4_permutingBinomials_13 : Nat → Nat → Int32 → Nat → Nat → Int32 → AH → RR
  | 0, _, _, _, _, _, _ => none
  | k + 1, l0, l1, l2, l3, l4, h =>
  (zgR h l0 4 2).bind fun x1 =>
  (zgI h x1 0 2).bind fun x2 =>
  if x2 ≤ l4 then (
    fX4_permutingBinomials_51 FU l0 l2 l3 0 0 h)
  else
  (zgR h l0 4 2).bind fun x3 =>
  zcv (zob h x3 0) (fX0_raised x3 l4 l1 h) fun v4 h5 =>
  zvi v4 fun x6 =>
  (zsi h5 l2 l4 x6).bind fun h7 =>
  fX4_permutingBinomials_13 k l0 l1 l2 l3 (l4 + 1) h7
set_option maxRecDepth 20000 in
theorem rX4_permutingBinomials_13 {X : CT} {V : VT} {d n0 k0 : Nat} (hV : V.2.2.2.2.2.stackTraces = false) (fu : Nat) : ∀ (l0 : Nat) (l1 : Int32) (l2 : Nat) (l3 : Nat) (l4 : Int32) (h : AH), zG X V RX4 "permutingBinomials" cX4_permutingBinomials 7 (some .int) (d + 4) n0 k0 (fX4_permutingBinomials_13 fu l0 l1 l2 l3 l4 h) 13 [(0, .ref l0), (1, .int l1), (2, .ref l2), (3, .ref l3), (4, .int l4)] [] h := by
  induction fu with
  | zero => intros; exact z_none
  | succ k ih =>
    intro l0 l1 l2 l3 l4 h
    rw [fX4_permutingBinomials_13]
    refine z_iload 4 rfl dX4_permutingBinomials_13 ?_
    refine z_aload_n 0 rfl rfl dX4_permutingBinomials_15 ?_
    refine z_gR zf_RX4_9 dX4_permutingBinomials_16 (fun x1 => ?_)
    refine z_gI zf_RX4_28 dX4_permutingBinomials_19 (fun x2 => ?_)
    refine z_icmp_ge 45 (by decide) dX4_permutingBinomials_22 ?_ ?_
    · refine z_iconst (v := 0) (by decide) dX4_permutingBinomials_45 ?_
      refine z_istore (lv' := [(4, .int 0), (0, .ref l0), (1, .int l1), (2, .ref l2), (3, .ref l3)]) (by decide) rfl dX4_permutingBinomials_46 ?_
      refine z_iconst (v := 0) (by decide) dX4_permutingBinomials_48 ?_
      refine z_istore (lv' := [(5, .int 0), (4, .int 0), (0, .ref l0), (1, .int l1), (2, .ref l2), (3, .ref l3)]) (by decide) rfl dX4_permutingBinomials_49 ?_
      exact z_sub [2, 4, 5, 1, 0] rfl (rX4_permutingBinomials_51 hV FU l0 l2 l3 0 0 h)
    · refine z_aload_n 2 rfl rfl dX4_permutingBinomials_25 ?_
      refine z_iload 4 rfl dX4_permutingBinomials_26 ?_
      refine z_aload_n 0 rfl rfl dX4_permutingBinomials_28 ?_
      refine z_gR zf_RX4_9 dX4_permutingBinomials_29 (fun x3 => ?_)
      refine z_iload 4 rfl dX4_permutingBinomials_32 ?_
      refine z_iload_n 1 rfl rfl dX4_permutingBinomials_34 ?_
      refine z_cV (st := [.int l4, .ref l2]) [.int l4, .int l1] zk_RX4_38 rfl (Nat.le_of_ble_eq_true rfl) dX4_permutingBinomials_35 (mX0_raised hV (d + 1) x3 l4 l1 h) (fun v4 h5 => ?_)
      refine z_vi (fun x6 => ?_)
      refine z_sI dX4_permutingBinomials_38 (fun h7 => ?_)
      refine z_inc (w := 1) (lv' := [(4, .int (l4 + 1)), (0, .ref l0), (1, .int l1), (2, .ref l2), (3, .ref l3)]) 4 rfl (by decide) (by decide) rfl dX4_permutingBinomials_39 ?_
      refine z_goto 13 (by decide) dX4_permutingBinomials_42 ?_
      exact z_sub [1, 2, 3, 4, 0] rfl (ih l0 l1 l2 l3 (l4 + 1) h7)
def fX4_permutingBinomials (a0 : Nat) (a1 : Int32) (h : AH) : RR :=
  (zgR h a0 4 4).bind fun x1 =>
  (zgR h a0 4 5).bind fun x2 =>
  fX4_permutingBinomials_13 FU a0 a1 x1 x2 0 h
set_option maxRecDepth 20000 in
theorem mX4_permutingBinomials {V : VT} (hV : V.2.2.2.2.2.stackTraces = false) (d : Nat) (a0 : Nat) (a1 : Int32) (h : AH) : zM V yX4_permutingBinomials cX4_permutingBinomials 7 (some .int) (d + 4) [.ref a0, .int a1] h (fX4_permutingBinomials a0 a1 h) := by
  refine z_meth hV (by decide +kernel) (Nat.le_of_ble_eq_true rfl) [(0, .ref a0), (1, .int a1)] rfl (fun X => ?_)
  show zG X V RX4 "permutingBinomials" cX4_permutingBinomials 7 (some .int) (d + 4) h.1 h.2.1 (fX4_permutingBinomials a0 a1 h) 0 [(0, .ref a0), (1, .int a1)] [] h
  unfold fX4_permutingBinomials
  refine z_aload_n 0 rfl rfl dX4_permutingBinomials_0 ?_
  refine z_gR zf_RX4_22 dX4_permutingBinomials_1 (fun x1 => ?_)
  refine z_astore_n (lv' := [(2, .ref x1), (0, .ref a0), (1, .int a1)]) rfl (by decide) rfl dX4_permutingBinomials_4 ?_
  refine z_aload_n 1 rfl rfl dX4_permutingBinomials_5 ?_
  refine z_gR zf_RX4_25 dX4_permutingBinomials_6 (fun x2 => ?_)
  refine z_astore_n (lv' := [(3, .ref x2), (2, .ref x1), (0, .ref a0), (1, .int a1)]) rfl (by decide) rfl dX4_permutingBinomials_9 ?_
  refine z_iconst (v := 0) (by decide) dX4_permutingBinomials_10 ?_
  refine z_istore (lv' := [(4, .int 0), (3, .ref x2), (2, .ref x1), (0, .ref a0), (1, .int a1)]) (by decide) rfl dX4_permutingBinomials_11 ?_
  exact z_sub [3, 4, 2, 1, 0] rfl (rX4_permutingBinomials_13 hV FU a0 a1 x1 x2 0 h)
