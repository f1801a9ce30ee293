/-! printed by a program of ours (wip/whole/drive.py) out of the code -/
def fX3_init (a0 : Nat) (h : AH) : RR :=
  (zpf h a0 3 0 (.int 2)).bind fun h1 =>
  (zpf h1 a0 3 1 (.int 1)).bind fun h2 =>
  zb2 (znM h2 6 64) fun b3 h4 =>
  (zpf h4 a0 3 3 (.ref b3)).bind fun h5 =>
  some (.inl none, h5)
set_option maxRecDepth 20000 in
theorem mX3_init {V : VT} (hV : V.2.2.2.2.2.stackTraces = false) (d : Nat) (a0 : Nat) (h : AH) : zM V yX3_init cX3_init 1 none (d + 1) [.ref a0] h (fX3_init a0 h) := by
  refine z_meth hV (by decide +kernel) (Nat.le_of_ble_eq_true rfl) [(0, .ref a0)] rfl (fun X => ?_)
  show zG X V RX3 "<init>" cX3_init 1 none (d + 1) h.1 h.2.1 (fX3_init a0 h) 0 [(0, .ref a0)] [] h
  unfold fX3_init
  refine z_aload_n 0 rfl rfl dX3_init_0 ?_
  refine z_objInit zw_179 zw_98 zw_99 (Nat.le_of_ble_eq_true rfl) (by omega) dX3_init_1 ?_
  refine z_aload_n 0 rfl rfl dX3_init_4 ?_
  refine z_iconst (v := 2) (by decide) dX3_init_5 ?_
  refine z_pI zf_RX3_9 zq_3_0 rfl dX3_init_6 (fun h1 => ?_)
  refine z_aload_n 0 rfl rfl dX3_init_9 ?_
  refine z_iconst (v := 1) (by decide) dX3_init_10 ?_
  refine z_pI zf_RX3_15 zq_3_1 rfl dX3_init_11 (fun h2 => ?_)
  refine z_aload_n 0 rfl rfl dX3_init_14 ?_
  refine z_bipush (v := 6) (by decide) dX3_init_15 ?_
  refine z_bipush (v := 64) (by decide) dX3_init_17 ?_
  refine z_nM zw_180 zw_173 dX3_init_19 (fun b3 h4 => ?_)
  refine z_pR zf_RX3_20 zq_3_3 (Or.inr ⟨_, rfl⟩) dX3_init_23 (fun h5 => ?_)
  exact z_vret rfl dX3_init_26
def fX1_init_15 : Nat → Nat → Int32 → AH → RR
  | 0, _, _, _ => none
  | k + 1, l0, l1, h =>
  if 8 ≤ l1 then (
    some (.inl none, h))
  else
  (zgR h l0 1 2).bind fun x1 =>
  zb2 (znO h 3) fun b2 h3 =>
  zca (fX3_init b2 h3) fun v4 h5 =>
  zvn v4 <|
  (zsr h5 x1 l1 b2).bind fun h6 =>
  fX1_init_15 k l0 (l1 + 1) h6
set_option maxRecDepth 20000 in
theorem rX1_init_15 {X : CT} {V : VT} {d n0 k0 : Nat} (hV : V.2.2.2.2.2.stackTraces = false) (fu : Nat) : ∀ (l0 : Nat) (l1 : Int32) (h : AH), zG X V RX1 "<init>" cX1_init 2 none (d + 2) n0 k0 (fX1_init_15 fu l0 l1 h) 15 [(0, .ref l0), (1, .int l1)] [] h := by
  induction fu with
  | zero => intros; exact z_none
  | succ k ih =>
    intro l0 l1 h
    rw [fX1_init_15]
    refine z_iload_n 1 rfl rfl dX1_init_15 ?_
    refine z_bipush (v := 8) (by decide) dX1_init_16 ?_
    refine z_icmp_ge 40 (by decide) dX1_init_18 ?_ ?_
    · exact z_vret rfl dX1_init_40
    · refine z_aload_n 0 rfl rfl dX1_init_21 ?_
      refine z_gR zf_RX1_11 dX1_init_22 (fun x1 => ?_)
      refine z_iload_n 1 rfl rfl dX1_init_25 ?_
      refine z_nO zn_RX1_9 dX1_init_26 (fun b2 h3 => ?_)
      refine z_dup rfl dX1_init_29 ?_
      refine z_cI (st := [.ref b2, .int l1, .ref x1]) [] zk_RX1_17 rfl (Nat.le_of_ble_eq_true rfl) dX1_init_30 (mX3_init hV (d + 0) b2 h3) (fun v4 h5 => ?_)
      refine z_vn ?_
      refine z_sR dX1_init_33 (fun h6 => ?_)
      refine z_inc (w := 1) (lv' := [(1, .int (l1 + 1)), (0, .ref l0)]) 1 rfl (by decide) (by decide) rfl dX1_init_34 ?_
      refine z_goto 15 (by decide) dX1_init_37 ?_
      exact z_sub [1, 0] rfl (ih l0 (l1 + 1) h6)
def fX1_init (a0 : Nat) (h : AH) : RR :=
  zb2 (znS h 8) fun b1 h2 =>
  (zpf h2 a0 1 2 (.ref b1)).bind fun h3 =>
  fX1_init_15 FU a0 0 h3
set_option maxRecDepth 20000 in
theorem mX1_init {V : VT} (hV : V.2.2.2.2.2.stackTraces = false) (d : Nat) (a0 : Nat) (h : AH) : zM V yX1_init cX1_init 2 none (d + 2) [.ref a0] h (fX1_init a0 h) := by
  refine z_meth hV (by decide +kernel) (Nat.le_of_ble_eq_true rfl) [(0, .ref a0)] rfl (fun X => ?_)
  show zG X V RX1 "<init>" cX1_init 2 none (d + 2) h.1 h.2.1 (fX1_init a0 h) 0 [(0, .ref a0)] [] h
  unfold fX1_init
  refine z_aload_n 0 rfl rfl dX1_init_0 ?_
  refine z_objInit zw_210 zw_98 zw_99 (Nat.le_of_ble_eq_true rfl) (by omega) dX1_init_1 ?_
  refine z_aload_n 0 rfl rfl dX1_init_4 ?_
  refine z_bipush (v := 8) (by decide) dX1_init_5 ?_
  refine z_nS zw_211 dX1_init_7 (fun b1 h2 => ?_)
  refine z_pR zf_RX1_11 zq_1_2 (Or.inr ⟨_, rfl⟩) dX1_init_10 (fun h3 => ?_)
  refine z_iconst (v := 0) (by decide) dX1_init_13 ?_
  refine z_istore_n (lv' := [(1, .int 0), (0, .ref a0)]) rfl (by decide) rfl dX1_init_14 ?_
  exact z_sub [1, 0] rfl (rX1_init_15 hV FU a0 0 h3)
def fX3_become_26 : Nat → Nat → Nat → Int32 → AH → RR
  | 0, _, _, _, _ => none
  | k + 1, l0, l1, l2, h =>
  (zgI h l1 3 2).bind fun x1 =>
  if x1 ≤ l2 then (
    some (.inl none, h))
  else
  (zgR h l1 3 3).bind fun x2 =>
  (zar h x2 l2).bind fun x3 =>
  (zgR h l0 3 3).bind fun x4 =>
  (zar h x4 l2).bind fun x5 =>
  (zcp h x3 0 x5 0 64).bind fun h6 =>
  fX3_become_26 k l0 l1 (l2 + 1) h6
set_option maxRecDepth 20000 in
theorem rX3_become_26 {X : CT} {V : VT} {d n0 k0 : Nat} (hV : V.2.2.2.2.2.stackTraces = false) (fu : Nat) : ∀ (l0 : Nat) (l1 : Nat) (l2 : Int32) (h : AH), zG X V RX3 "become" cX3_become 3 none (d + 1) n0 k0 (fX3_become_26 fu l0 l1 l2 h) 26 [(0, .ref l0), (1, .ref l1), (2, .int l2)] [] h := by
  induction fu with
  | zero => intros; exact z_none
  | succ k ih =>
    intro l0 l1 l2 h
    rw [fX3_become_26]
    refine z_iload_n 2 rfl rfl dX3_become_26 ?_
    refine z_aload_n 1 rfl rfl dX3_become_27 ?_
    refine z_gI zf_RX3_23 dX3_become_28 (fun x1 => ?_)
    refine z_icmp_ge 59 (by decide) dX3_become_31 ?_ ?_
    · exact z_vret rfl dX3_become_59
    · refine z_aload_n 1 rfl rfl dX3_become_34 ?_
      refine z_gR zf_RX3_20 dX3_become_35 (fun x2 => ?_)
      refine z_iload_n 2 rfl rfl dX3_become_38 ?_
      refine z_aR dX3_become_39 (fun x3 => ?_)
      refine z_iconst (v := 0) (by decide) dX3_become_40 ?_
      refine z_aload_n 0 rfl rfl dX3_become_41 ?_
      refine z_gR zf_RX3_20 dX3_become_42 (fun x4 => ?_)
      refine z_iload_n 2 rfl rfl dX3_become_45 ?_
      refine z_aR dX3_become_46 (fun x5 => ?_)
      refine z_iconst (v := 0) (by decide) dX3_become_47 ?_
      refine z_bipush (v := 64) (by decide) dX3_become_48 ?_
      refine z_cp zw_376 zw_378 zw_377 zw_88 (Nat.le_of_ble_eq_true rfl) (by omega) dX3_become_50 (fun h6 => ?_)
      refine z_inc (w := 1) (lv' := [(2, .int (l2 + 1)), (0, .ref l0), (1, .ref l1)]) 2 rfl (by decide) (by decide) rfl dX3_become_53 ?_
      refine z_goto 26 (by decide) dX3_become_56 ?_
      exact z_sub [1, 2, 0] rfl (ih l0 l1 (l2 + 1) h6)
def fX3_become (a0 : Nat) (a1 : Nat) (h : AH) : RR :=
  (zgI h a1 3 0).bind fun x1 =>
  (zpf h a0 3 0 (.int x1)).bind fun h2 =>
  (zgI h2 a1 3 1).bind fun x3 =>
  (zpf h2 a0 3 1 (.int x3)).bind fun h4 =>
  (zgI h4 a1 3 2).bind fun x5 =>
  (zpf h4 a0 3 2 (.int x5)).bind fun h6 =>
  fX3_become_26 FU a0 a1 0 h6
set_option maxRecDepth 20000 in
theorem mX3_become {V : VT} (hV : V.2.2.2.2.2.stackTraces = false) (d : Nat) (a0 : Nat) (a1 : Nat) (h : AH) : zM V yX3_become cX3_become 3 none (d + 1) [.ref a0, .ref a1] h (fX3_become a0 a1 h) := by
  refine z_meth hV (by decide +kernel) (Nat.le_of_ble_eq_true rfl) [(0, .ref a0), (1, .ref a1)] rfl (fun X => ?_)
  show zG X V RX3 "become" cX3_become 3 none (d + 1) h.1 h.2.1 (fX3_become a0 a1 h) 0 [(0, .ref a0), (1, .ref a1)] [] h
  unfold fX3_become
  refine z_aload_n 0 rfl rfl dX3_become_0 ?_
  refine z_aload_n 1 rfl rfl dX3_become_1 ?_
  refine z_gI zf_RX3_9 dX3_become_2 (fun x1 => ?_)
  refine z_pI zf_RX3_9 zq_3_0 rfl dX3_become_5 (fun h2 => ?_)
  refine z_aload_n 0 rfl rfl dX3_become_8 ?_
  refine z_aload_n 1 rfl rfl dX3_become_9 ?_
  refine z_gI zf_RX3_15 dX3_become_10 (fun x3 => ?_)
  refine z_pI zf_RX3_15 zq_3_1 rfl dX3_become_13 (fun h4 => ?_)
  refine z_aload_n 0 rfl rfl dX3_become_16 ?_
  refine z_aload_n 1 rfl rfl dX3_become_17 ?_
  refine z_gI zf_RX3_23 dX3_become_18 (fun x5 => ?_)
  refine z_pI zf_RX3_23 zq_3_2 rfl dX3_become_21 (fun h6 => ?_)
  refine z_iconst (v := 0) (by decide) dX3_become_24 ?_
  refine z_istore_n (lv' := [(2, .int 0), (0, .ref a0), (1, .ref a1)]) rfl (by decide) rfl dX3_become_25 ?_
  exact z_sub [1, 2, 0] rfl (rX3_become_26 hV FU a0 a1 0 h6)
def fX1_keep_59 (s0 : Int32) (s1 : Nat) (h : AH) : RR :=
  (zpf h s1 1 0 (.int s0)).bind fun h1 =>
  some (.inl none, h1)
set_option maxRecDepth 20000 in
theorem rX1_keep_59 {X : CT} {V : VT} {d n0 k0 : Nat} (hV : V.2.2.2.2.2.stackTraces = false) (s0 : Int32) (s1 : Nat) (h : AH) : zG X V RX1 "keep" cX1_keep 2 none (d + 2) n0 k0 (fX1_keep_59 s0 s1 h) 59 [] [.int s0, .ref s1] h := by
  unfold fX1_keep_59
  refine z_pI zf_RX1_26 zq_1_0 rfl dX1_keep_59 (fun h1 => ?_)
  exact z_vret rfl dX1_keep_62
def fX1_keep_35 (l0 : Nat) (s0 : Int32) (s1 : Nat) (h : AH) : RR :=
  (zpf h s1 1 1 (.int s0)).bind fun h1 =>
  (zgI h1 l0 1 0).bind fun x2 =>
  if 8 ≤ x2 then (
    fX1_keep_59 8 l0 h1)
  else
  (zgI h1 l0 1 0).bind fun x3 =>
  fX1_keep_59 (x3 + 1) l0 h1
set_option maxRecDepth 20000 in
theorem rX1_keep_35 {X : CT} {V : VT} {d n0 k0 : Nat} (hV : V.2.2.2.2.2.stackTraces = false) (l0 : Nat) (s0 : Int32) (s1 : Nat) (h : AH) : zG X V RX1 "keep" cX1_keep 2 none (d + 2) n0 k0 (fX1_keep_35 l0 s0 s1 h) 35 [(0, .ref l0)] [.int s0, .ref s1] h := by
  unfold fX1_keep_35
  refine z_pI zf_RX1_18 zq_1_1 rfl dX1_keep_35 (fun h1 => ?_)
  refine z_aload_n 0 rfl rfl dX1_keep_38 ?_
  refine z_aload_n 0 rfl rfl dX1_keep_39 ?_
  refine z_gI zf_RX1_26 dX1_keep_40 (fun x2 => ?_)
  refine z_bipush (v := 8) (by decide) dX1_keep_43 ?_
  refine z_icmp_ge 57 (by decide) dX1_keep_45 ?_ ?_
  · refine z_bipush (v := 8) (by decide) dX1_keep_57 ?_
    exact z_sub [] rfl (rX1_keep_59 hV 8 l0 h1)
  · refine z_aload_n 0 rfl rfl dX1_keep_48 ?_
    refine z_gI zf_RX1_26 dX1_keep_49 (fun x3 => ?_)
    refine z_iconst (v := 1) (by decide) dX1_keep_52 ?_
    refine z_iadd dX1_keep_53 ?_
    refine z_goto 59 (by decide) dX1_keep_54 ?_
    exact z_sub [] rfl (rX1_keep_59 hV (x3 + 1) l0 h1)
def fX1_keep (a0 : Nat) (a1 : Nat) (h : AH) : RR :=
  (zgR h a0 1 2).bind fun x1 =>
  (zgI h a0 1 1).bind fun x2 =>
  (zar h x1 x2).bind fun x3 =>
  zcv (zob h x3 3) (fX3_become x3 a1 h) fun v4 h5 =>
  zvn v4 <|
  (zgI h5 a0 1 1).bind fun x6 =>
  if 8 ≤ (x6 + 1) then (
    fX1_keep_35 a0 0 a0 h5)
  else
  (zgI h5 a0 1 1).bind fun x7 =>
  fX1_keep_35 a0 (x7 + 1) a0 h5
set_option maxRecDepth 20000 in
theorem mX1_keep {V : VT} (hV : V.2.2.2.2.2.stackTraces = false) (d : Nat) (a0 : Nat) (a1 : Nat) (h : AH) : zM V yX1_keep cX1_keep 2 none (d + 2) [.ref a0, .ref a1] h (fX1_keep a0 a1 h) := by
  refine z_meth hV (by decide +kernel) (Nat.le_of_ble_eq_true rfl) [(0, .ref a0), (1, .ref a1)] rfl (fun X => ?_)
  show zG X V RX1 "keep" cX1_keep 2 none (d + 2) h.1 h.2.1 (fX1_keep a0 a1 h) 0 [(0, .ref a0), (1, .ref a1)] [] h
  unfold fX1_keep
  refine z_aload_n 0 rfl rfl dX1_keep_0 ?_
  refine z_gR zf_RX1_11 dX1_keep_1 (fun x1 => ?_)
  refine z_aload_n 0 rfl rfl dX1_keep_4 ?_
  refine z_gI zf_RX1_18 dX1_keep_5 (fun x2 => ?_)
  refine z_aR dX1_keep_8 (fun x3 => ?_)
  refine z_aload_n 1 rfl rfl dX1_keep_9 ?_
  refine z_cV (st := []) [.ref a1] zk_RX1_22 rfl (Nat.le_of_ble_eq_true rfl) dX1_keep_10 (mX3_become hV (d + 0) x3 a1 h) (fun v4 h5 => ?_)
  refine z_vn ?_
  refine z_aload_n 0 rfl rfl dX1_keep_13 ?_
  refine z_aload_n 0 rfl rfl dX1_keep_14 ?_
  refine z_gI zf_RX1_18 dX1_keep_15 (fun x6 => ?_)
  refine z_iconst (v := 1) (by decide) dX1_keep_18 ?_
  refine z_iadd dX1_keep_19 ?_
  refine z_bipush (v := 8) (by decide) dX1_keep_20 ?_
  refine z_icmp_ge 34 (by decide) dX1_keep_22 ?_ ?_
  · refine z_iconst (v := 0) (by decide) dX1_keep_34 ?_
    exact z_sub [0] rfl (rX1_keep_35 hV a0 0 a0 h5)
  · refine z_aload_n 0 rfl rfl dX1_keep_25 ?_
    refine z_gI zf_RX1_18 dX1_keep_26 (fun x7 => ?_)
    refine z_iconst (v := 1) (by decide) dX1_keep_29 ?_
    refine z_iadd dX1_keep_30 ?_
    refine z_goto 35 (by decide) dX1_keep_31 ?_
    exact z_sub [0] rfl (rX1_keep_35 hV a0 (x7 + 1) a0 h5)
def fX1_takeLast_38 (l0 : Nat) (s0 : Int32) (s1 : Nat) (h : AH) : RR :=
  (zpf h s1 1 1 (.int s0)).bind fun h1 =>
  (zgR h1 l0 1 2).bind fun x2 =>
  (zgI h1 l0 1 1).bind fun x3 =>
  (zar h1 x2 x3).bind fun x4 =>
  some (.inl (some (.ref x4)), h1)
set_option maxRecDepth 20000 in
theorem rX1_takeLast_38 {X : CT} {V : VT} {d n0 k0 : Nat} (hV : V.2.2.2.2.2.stackTraces = false) (l0 : Nat) (s0 : Int32) (s1 : Nat) (h : AH) : zG X V RX1 "takeLast" cX1_takeLast 1 (some (.object "FieldPerms$State")) (d + 1) n0 k0 (fX1_takeLast_38 l0 s0 s1 h) 38 [(0, .ref l0)] [.int s0, .ref s1] h := by
  unfold fX1_takeLast_38
  refine z_pI zf_RX1_18 zq_1_1 rfl dX1_takeLast_38 (fun h1 => ?_)
  refine z_aload_n 0 rfl rfl dX1_takeLast_41 ?_
  refine z_gR zf_RX1_11 dX1_takeLast_42 (fun x2 => ?_)
  refine z_aload_n 0 rfl rfl dX1_takeLast_45 ?_
  refine z_gI zf_RX1_18 dX1_takeLast_46 (fun x3 => ?_)
  refine z_aR dX1_takeLast_49 (fun x4 => ?_)
  exact z_aret rfl (Or.inl ⟨_, rfl⟩) dX1_takeLast_50
def fX1_takeLast (a0 : Nat) (h : AH) : RR :=
  (zgI h a0 1 0).bind fun x1 =>
  if x1 = 0 then (
    some (.inl (some .null), h))
  else
  (zgI h a0 1 0).bind fun x2 =>
  (zpf h a0 1 0 (.int (x2 - 1))).bind fun h3 =>
  (zgI h3 a0 1 1).bind fun x4 =>
  if x4 ≤ 0 then (
    fX1_takeLast_38 a0 7 a0 h3)
  else
  (zgI h3 a0 1 1).bind fun x5 =>
  fX1_takeLast_38 a0 (x5 - 1) a0 h3
set_option maxRecDepth 20000 in
theorem mX1_takeLast {V : VT} (hV : V.2.2.2.2.2.stackTraces = false) (d : Nat) (a0 : Nat) (h : AH) : zM V yX1_takeLast cX1_takeLast 1 (some (.object "FieldPerms$State")) (d + 1) [.ref a0] h (fX1_takeLast a0 h) := by
  refine z_meth hV (by decide +kernel) (Nat.le_of_ble_eq_true rfl) [(0, .ref a0)] rfl (fun X => ?_)
  show zG X V RX1 "takeLast" cX1_takeLast 1 (some (.object "FieldPerms$State")) (d + 1) h.1 h.2.1 (fX1_takeLast a0 h) 0 [(0, .ref a0)] [] h
  unfold fX1_takeLast
  refine z_aload_n 0 rfl rfl dX1_takeLast_0 ?_
  refine z_gI zf_RX1_26 dX1_takeLast_1 (fun x1 => ?_)
  refine z_if_ne 9 (by decide) dX1_takeLast_4 ?_ ?_
  · refine z_null dX1_takeLast_7 ?_
    exact z_nret rfl (Or.inl ⟨_, rfl⟩) dX1_takeLast_8
  · refine z_aload_n 0 rfl rfl dX1_takeLast_9 ?_
    refine z_dup rfl dX1_takeLast_10 ?_
    refine z_gI zf_RX1_26 dX1_takeLast_11 (fun x2 => ?_)
    refine z_iconst (v := 1) (by decide) dX1_takeLast_14 ?_
    refine z_isub dX1_takeLast_15 ?_
    refine z_pI zf_RX1_26 zq_1_0 rfl dX1_takeLast_16 (fun h3 => ?_)
    refine z_aload_n 0 rfl rfl dX1_takeLast_19 ?_
    refine z_aload_n 0 rfl rfl dX1_takeLast_20 ?_
    refine z_gI zf_RX1_18 dX1_takeLast_21 (fun x4 => ?_)
    refine z_if_le 36 (by decide) dX1_takeLast_24 ?_ ?_
    · refine z_bipush (v := 7) (by decide) dX1_takeLast_36 ?_
      exact z_sub [0] rfl (rX1_takeLast_38 hV a0 7 a0 h3)
    · refine z_aload_n 0 rfl rfl dX1_takeLast_27 ?_
      refine z_gI zf_RX1_18 dX1_takeLast_28 (fun x5 => ?_)
      refine z_iconst (v := 1) (by decide) dX1_takeLast_31 ?_
      refine z_isub dX1_takeLast_32 ?_
      refine z_goto 38 (by decide) dX1_takeLast_33 ?_
      exact z_sub [0] rfl (rX1_takeLast_38 hV a0 (x5 - 1) a0 h3)
def fX3_remove_4 : Nat → Nat → Int32 → AH → RR
  | 0, _, _, _ => none
  | k + 1, l0, l2, h =>
  (zgI h l0 3 2).bind fun x1 =>
  if x1 ≤ l2 then (
    (zgI h l0 3 2).bind fun x2 =>
    (zpf h l0 3 2 (.int (x2 - 1))).bind fun h3 =>
    some (.inl none, h3))
  else
  (zgR h l0 3 3).bind fun x4 =>
  (zar h x4 l2).bind fun x5 =>
  (zgR h l0 3 3).bind fun x6 =>
  (zar h x6 (l2 - 1)).bind fun x7 =>
  (zcp h x5 0 x7 0 64).bind fun h8 =>
  fX3_remove_4 k l0 (l2 + 1) h8
set_option maxRecDepth 20000 in
theorem rX3_remove_4 {X : CT} {V : VT} {d n0 k0 : Nat} (hV : V.2.2.2.2.2.stackTraces = false) (fu : Nat) : ∀ (l0 : Nat) (l2 : Int32) (h : AH), zG X V RX3 "remove" cX3_remove 3 none (d + 1) n0 k0 (fX3_remove_4 fu l0 l2 h) 4 [(0, .ref l0), (2, .int l2)] [] h := by
  induction fu with
  | zero => intros; exact z_none
  | succ k ih =>
    intro l0 l2 h
    rw [fX3_remove_4]
    refine z_iload_n 1 rfl rfl dX3_remove_4 ?_
    refine z_aload_n 0 rfl rfl dX3_remove_5 ?_
    refine z_gI zf_RX3_23 dX3_remove_6 (fun x1 => ?_)
    refine z_icmp_ge 39 (by decide) dX3_remove_9 ?_ ?_
    · refine z_aload_n 0 rfl rfl dX3_remove_39 ?_
      refine z_dup rfl dX3_remove_40 ?_
      refine z_gI zf_RX3_23 dX3_remove_41 (fun x2 => ?_)
      refine z_iconst (v := 1) (by decide) dX3_remove_44 ?_
      refine z_isub dX3_remove_45 ?_
      refine z_pI zf_RX3_23 zq_3_2 rfl dX3_remove_46 (fun h3 => ?_)
      exact z_vret rfl dX3_remove_49
    · refine z_aload_n 0 rfl rfl dX3_remove_12 ?_
      refine z_gR zf_RX3_20 dX3_remove_13 (fun x4 => ?_)
      refine z_iload_n 1 rfl rfl dX3_remove_16 ?_
      refine z_aR dX3_remove_17 (fun x5 => ?_)
      refine z_iconst (v := 0) (by decide) dX3_remove_18 ?_
      refine z_aload_n 0 rfl rfl dX3_remove_19 ?_
      refine z_gR zf_RX3_20 dX3_remove_20 (fun x6 => ?_)
      refine z_iload_n 1 rfl rfl dX3_remove_23 ?_
      refine z_iconst (v := 1) (by decide) dX3_remove_24 ?_
      refine z_isub dX3_remove_25 ?_
      refine z_aR dX3_remove_26 (fun x7 => ?_)
      refine z_iconst (v := 0) (by decide) dX3_remove_27 ?_
      refine z_bipush (v := 64) (by decide) dX3_remove_28 ?_
      refine z_cp zw_376 zw_378 zw_377 zw_88 (Nat.le_of_ble_eq_true rfl) (by omega) dX3_remove_30 (fun h8 => ?_)
      refine z_inc (w := 1) (lv' := [(2, .int (l2 + 1)), (0, .ref l0)]) 1 rfl (by decide) (by decide) rfl dX3_remove_33 ?_
      refine z_goto 4 (by decide) dX3_remove_36 ?_
      exact z_sub [1, 0] rfl (ih l0 (l2 + 1) h8)
def fX3_remove (a0 : Nat) (a1 : Int32) (h : AH) : RR :=
  fX3_remove_4 FU a0 (a1 + 1) h
set_option maxRecDepth 20000 in
theorem mX3_remove {V : VT} (hV : V.2.2.2.2.2.stackTraces = false) (d : Nat) (a0 : Nat) (a1 : Int32) (h : AH) : zM V yX3_remove cX3_remove 3 none (d + 1) [.ref a0, .int a1] h (fX3_remove a0 a1 h) := by
  refine z_meth hV (by decide +kernel) (Nat.le_of_ble_eq_true rfl) [(0, .ref a0), (1, .int a1)] rfl (fun X => ?_)
  show zG X V RX3 "remove" cX3_remove 3 none (d + 1) h.1 h.2.1 (fX3_remove a0 a1 h) 0 [(0, .ref a0), (1, .int a1)] [] h
  unfold fX3_remove
  refine z_iload_n 1 rfl rfl dX3_remove_0 ?_
  refine z_iconst (v := 1) (by decide) dX3_remove_1 ?_
  refine z_iadd dX3_remove_2 ?_
  refine z_istore_n (lv' := [(2, .int (a1 + 1)), (0, .ref a0), (1, .int a1)]) rfl (by decide) rfl dX3_remove_3 ?_
  exact z_sub [1, 0] rfl (rX3_remove_4 hV FU a0 (a1 + 1) h)
