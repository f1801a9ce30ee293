/-! printed by a program of ours (wip/whole/drive.py) out of the code -/
def fX5_step (a0 : Nat) (h : AH) : RR :=
  (zgI h a0 5 1).bind fun x1 =>
  if x1 = 0 then (
    some (.inl none, h))
  else
  (zgI h a0 5 8).bind fun x2 =>
  (zpf h a0 5 8 (.int (x2 + 1))).bind fun h3 =>
  (zgR h3 a0 5 5).bind fun x4 =>
  (zgI h3 a0 5 8).bind fun x5 =>
  (zai h3 x4 x5).bind fun x6 =>
  (zpf h3 a0 5 1 (.int x6)).bind fun h7 =>
  (zgR h7 a0 5 6).bind fun x8 =>
  (zgI h7 a0 5 8).bind fun x9 =>
  (zai h7 x8 x9).bind fun x10 =>
  (zpf h7 a0 5 2 (.int x10)).bind fun h11 =>
  (zgR h11 a0 5 7).bind fun x12 =>
  (zgI h11 a0 5 8).bind fun x13 =>
  (zai h11 x12 x13).bind fun x14 =>
  (zpf h11 a0 5 3 (.int x14)).bind fun h15 =>
  some (.inl none, h15)
set_option maxRecDepth 20000 in
theorem mX5_step {V : VT} (hV : V.2.2.2.2.2.stackTraces = false) (d : Nat) (a0 : Nat) (h : AH) : zM V yX5_step cX5_step 1 none (d + 1) [.ref a0] h (fX5_step a0 h) := by
  refine z_meth hV (by decide +kernel) (Nat.le_of_ble_eq_true rfl) [(0, .ref a0)] rfl (fun X => ?_)
  show zG X V RX5 "step" cX5_step 1 none (d + 1) h.1 h.2.1 (fX5_step a0 h) 0 [(0, .ref a0)] [] h
  unfold fX5_step
  refine z_aload_n 0 rfl rfl dX5_step_0 ?_
  refine z_gI zf_RX5_35 dX5_step_1 (fun x1 => ?_)
  refine z_if_eq 56 (by decide) dX5_step_4 ?_ ?_
  · exact z_vret rfl dX5_step_56
  · refine z_aload_n 0 rfl rfl dX5_step_7 ?_
    refine z_dup rfl dX5_step_8 ?_
    refine z_gI zf_RX5_32 dX5_step_9 (fun x2 => ?_)
    refine z_iconst (v := 1) (by decide) dX5_step_12 ?_
    refine z_iadd dX5_step_13 ?_
    refine z_pI zf_RX5_32 zq_5_8 rfl dX5_step_14 (fun h3 => ?_)
    refine z_aload_n 0 rfl rfl dX5_step_17 ?_
    refine z_aload_n 0 rfl rfl dX5_step_18 ?_
    refine z_gR zf_RX5_15 dX5_step_19 (fun x4 => ?_)
    refine z_aload_n 0 rfl rfl dX5_step_22 ?_
    refine z_gI zf_RX5_32 dX5_step_23 (fun x5 => ?_)
    refine z_aI dX5_step_26 (fun x6 => ?_)
    refine z_pI zf_RX5_35 zq_5_1 rfl dX5_step_27 (fun h7 => ?_)
    refine z_aload_n 0 rfl rfl dX5_step_30 ?_
    refine z_aload_n 0 rfl rfl dX5_step_31 ?_
    refine z_gR zf_RX5_18 dX5_step_32 (fun x8 => ?_)
    refine z_aload_n 0 rfl rfl dX5_step_35 ?_
    refine z_gI zf_RX5_32 dX5_step_36 (fun x9 => ?_)
    refine z_aI dX5_step_39 (fun x10 => ?_)
    refine z_pI zf_RX5_85 zq_5_2 rfl dX5_step_40 (fun h11 => ?_)
    refine z_aload_n 0 rfl rfl dX5_step_43 ?_
    refine z_aload_n 0 rfl rfl dX5_step_44 ?_
    refine z_gR zf_RX5_21 dX5_step_45 (fun x12 => ?_)
    refine z_aload_n 0 rfl rfl dX5_step_48 ?_
    refine z_gI zf_RX5_32 dX5_step_49 (fun x13 => ?_)
    refine z_aI dX5_step_52 (fun x14 => ?_)
    refine z_pI zf_RX5_88 zq_5_3 rfl dX5_step_53 (fun h15 => ?_)
    exact z_vret rfl dX5_step_56
def fX5_init (a0 : Nat) (h : AH) : RR :=
  zb2 (znI h 300) fun b1 h2 =>
  (zpf h2 a0 5 4 (.ref b1)).bind fun h3 =>
  zb2 (znI h3 301) fun b4 h5 =>
  (zpf h5 a0 5 5 (.ref b4)).bind fun h6 =>
  zb2 (znI h6 301) fun b7 h8 =>
  (zpf h8 a0 5 6 (.ref b7)).bind fun h9 =>
  zb2 (znI h9 301) fun b10 h11 =>
  (zpf h11 a0 5 7 (.ref b10)).bind fun h12 =>
  some (.inl none, h12)
set_option maxRecDepth 20000 in
theorem mX5_init {V : VT} (hV : V.2.2.2.2.2.stackTraces = false) (d : Nat) (a0 : Nat) (h : AH) : zM V yX5_init cX5_init 1 none (d + 1) [.ref a0] h (fX5_init a0 h) := by
  refine z_meth hV (by decide +kernel) (Nat.le_of_ble_eq_true rfl) [(0, .ref a0)] rfl (fun X => ?_)
  show zG X V RX5 "<init>" cX5_init 1 none (d + 1) h.1 h.2.1 (fX5_init a0 h) 0 [(0, .ref a0)] [] h
  unfold fX5_init
  refine z_aload_n 0 rfl rfl dX5_init_0 ?_
  refine z_objInit zw_230 zw_98 zw_99 (Nat.le_of_ble_eq_true rfl) (by omega) dX5_init_1 ?_
  refine z_aload_n 0 rfl rfl dX5_init_4 ?_
  refine z_sipush (v := 300) (by decide) dX5_init_5 ?_
  refine z_nI zw_173 dX5_init_8 (fun b1 h2 => ?_)
  refine z_pR zf_RX5_9 zq_5_4 (Or.inr ⟨_, rfl⟩) dX5_init_10 (fun h3 => ?_)
  refine z_aload_n 0 rfl rfl dX5_init_13 ?_
  refine z_sipush (v := 301) (by decide) dX5_init_14 ?_
  refine z_nI zw_173 dX5_init_17 (fun b4 h5 => ?_)
  refine z_pR zf_RX5_15 zq_5_5 (Or.inr ⟨_, rfl⟩) dX5_init_19 (fun h6 => ?_)
  refine z_aload_n 0 rfl rfl dX5_init_22 ?_
  refine z_sipush (v := 301) (by decide) dX5_init_23 ?_
  refine z_nI zw_173 dX5_init_26 (fun b7 h8 => ?_)
  refine z_pR zf_RX5_18 zq_5_6 (Or.inr ⟨_, rfl⟩) dX5_init_28 (fun h9 => ?_)
  refine z_aload_n 0 rfl rfl dX5_init_31 ?_
  refine z_sipush (v := 301) (by decide) dX5_init_32 ?_
  refine z_nI zw_173 dX5_init_35 (fun b10 h11 => ?_)
  refine z_pR zf_RX5_21 zq_5_7 (Or.inr ⟨_, rfl⟩) dX5_init_37 (fun h12 => ?_)
  exact z_vret rfl dX5_init_40
def fX5_put_3 : Nat → Nat → Int32 → Int32 → AH → RR
  | 0, _, _, _, _ => none
  | k + 1, l0, l1, l2, h =>
  if l2 < 0 then (
    some (.inl none, h))
  else
  (zgI h l0 5 0).bind fun x1 =>
  if 300 ≤ x1 then (
    some (.inl none, h))
  else
  (zgR h l0 5 4).bind fun x2 =>
  (zgI h l0 5 0).bind fun x3 =>
  (zsi h x2 x3 (((l1.toUInt32 >>> (l2.toUInt32 &&& Int32.toUInt32 31)).toInt32) &&& 255)).bind fun h4 =>
  (zgI h4 l0 5 0).bind fun x5 =>
  (zpf h4 l0 5 0 (.int (x5 + 1))).bind fun h6 =>
  fX5_put_3 k l0 l1 (l2 + (-8)) h6
set_option maxRecDepth 20000 in
theorem rX5_put_3 {X : CT} {V : VT} {d n0 k0 : Nat} (hV : V.2.2.2.2.2.stackTraces = false) (fu : Nat) : ∀ (l0 : Nat) (l1 : Int32) (l2 : Int32) (h : AH), zG X V RX5 "put" cX5_put 3 none (d + 1) n0 k0 (fX5_put_3 fu l0 l1 l2 h) 3 [(0, .ref l0), (1, .int l1), (2, .int l2)] [] h := by
  induction fu with
  | zero => intros; exact z_none
  | succ k ih =>
    intro l0 l1 l2 h
    rw [fX5_put_3]
    refine z_iload_n 2 rfl rfl dX5_put_3 ?_
    refine z_if_lt 49 (by decide) dX5_put_4 ?_ ?_
    · exact z_vret rfl dX5_put_49
    · refine z_aload_n 0 rfl rfl dX5_put_7 ?_
      refine z_gI zf_RX5_24 dX5_put_8 (fun x1 => ?_)
      refine z_sipush (v := 300) (by decide) dX5_put_11 ?_
      refine z_icmp_ge 49 (by decide) dX5_put_14 ?_ ?_
      · exact z_vret rfl dX5_put_49
      · refine z_aload_n 0 rfl rfl dX5_put_17 ?_
        refine z_gR zf_RX5_9 dX5_put_18 (fun x2 => ?_)
        refine z_aload_n 0 rfl rfl dX5_put_21 ?_
        refine z_gI zf_RX5_24 dX5_put_22 (fun x3 => ?_)
        refine z_iload_n 1 rfl rfl dX5_put_25 ?_
        refine z_iload_n 2 rfl rfl dX5_put_26 ?_
        refine z_iushr dX5_put_27 ?_
        refine z_sipush (v := 255) (by decide) dX5_put_28 ?_
        refine z_iand dX5_put_31 ?_
        refine z_sI dX5_put_32 (fun h4 => ?_)
        refine z_aload_n 0 rfl rfl dX5_put_33 ?_
        refine z_dup rfl dX5_put_34 ?_
        refine z_gI zf_RX5_24 dX5_put_35 (fun x5 => ?_)
        refine z_iconst (v := 1) (by decide) dX5_put_38 ?_
        refine z_iadd dX5_put_39 ?_
        refine z_pI zf_RX5_24 zq_5_0 rfl dX5_put_40 (fun h6 => ?_)
        refine z_inc (w := (-8)) (lv' := [(2, .int (l2 + (-8))), (0, .ref l0), (1, .int l1)]) 2 rfl (by decide) (by decide) rfl dX5_put_43 ?_
        refine z_goto 3 (by decide) dX5_put_46 ?_
        exact z_sub [1, 2, 0] rfl (ih l0 l1 (l2 + (-8)) h6)
def fX5_put (a0 : Nat) (a1 : Int32) (h : AH) : RR :=
  fX5_put_3 FU a0 a1 24 h
set_option maxRecDepth 20000 in
theorem mX5_put {V : VT} (hV : V.2.2.2.2.2.stackTraces = false) (d : Nat) (a0 : Nat) (a1 : Int32) (h : AH) : zM V yX5_put cX5_put 3 none (d + 1) [.ref a0, .int a1] h (fX5_put a0 a1 h) := by
  refine z_meth hV (by decide +kernel) (Nat.le_of_ble_eq_true rfl) [(0, .ref a0), (1, .int a1)] rfl (fun X => ?_)
  show zG X V RX5 "put" cX5_put 3 none (d + 1) h.1 h.2.1 (fX5_put a0 a1 h) 0 [(0, .ref a0), (1, .int a1)] [] h
  unfold fX5_put
  refine z_bipush (v := 24) (by decide) dX5_put_0 ?_
  refine z_istore_n (lv' := [(2, .int 24), (0, .ref a0), (1, .int a1)]) rfl (by decide) rfl dX5_put_2 ?_
  exact z_sub [1, 2, 0] rfl (rX5_put_3 hV FU a0 a1 24 h)
def fX5_isDigit (a0 : Int32) (h : AH) : RR :=
  if a0 < 48 then (
    zbr 0 h)
  else
  if 57 < a0 then (
    zbr 0 h)
  else
  zbr 1 h
set_option maxRecDepth 20000 in
theorem mX5_isDigit {V : VT} (hV : V.2.2.2.2.2.stackTraces = false) (d : Nat) (a0 : Int32) (h : AH) : zM V yX5_isDigit cX5_isDigit 1 (some .boolean) (d + 1) [.int a0] h (fX5_isDigit a0 h) := by
  refine z_meth hV (by decide +kernel) (Nat.le_of_ble_eq_true rfl) [(0, .int a0)] rfl (fun X => ?_)
  show zG X V RX5 "isDigit" cX5_isDigit 1 (some .boolean) (d + 1) h.1 h.2.1 (fX5_isDigit a0 h) 0 [(0, .int a0)] [] h
  unfold fX5_isDigit
  refine z_iload_n 0 rfl rfl dX5_isDigit_0 ?_
  refine z_bipush (v := 48) (by decide) dX5_isDigit_1 ?_
  refine z_icmp_lt 16 (by decide) dX5_isDigit_3 ?_ ?_
  · refine z_iconst (v := 0) (by decide) dX5_isDigit_16 ?_
    exact z_zret rfl dX5_isDigit_17
  · refine z_iload_n 0 rfl rfl dX5_isDigit_6 ?_
    refine z_bipush (v := 57) (by decide) dX5_isDigit_7 ?_
    refine z_icmp_gt 16 (by decide) dX5_isDigit_9 ?_ ?_
    · refine z_iconst (v := 0) (by decide) dX5_isDigit_16 ?_
      exact z_zret rfl dX5_isDigit_17
    · refine z_iconst (v := 1) (by decide) dX5_isDigit_12 ?_
      refine z_goto 17 (by decide) dX5_isDigit_13 ?_
      exact z_zret rfl dX5_isDigit_17
def fX5_isLetter (a0 : Int32) (h : AH) : RR :=
  if a0 < 97 then (
    zbr 0 h)
  else
  if 122 < a0 then (
    zbr 0 h)
  else
  zbr 1 h
set_option maxRecDepth 20000 in
theorem mX5_isLetter {V : VT} (hV : V.2.2.2.2.2.stackTraces = false) (d : Nat) (a0 : Int32) (h : AH) : zM V yX5_isLetter cX5_isLetter 1 (some .boolean) (d + 1) [.int a0] h (fX5_isLetter a0 h) := by
  refine z_meth hV (by decide +kernel) (Nat.le_of_ble_eq_true rfl) [(0, .int a0)] rfl (fun X => ?_)
  show zG X V RX5 "isLetter" cX5_isLetter 1 (some .boolean) (d + 1) h.1 h.2.1 (fX5_isLetter a0 h) 0 [(0, .int a0)] [] h
  unfold fX5_isLetter
  refine z_iload_n 0 rfl rfl dX5_isLetter_0 ?_
  refine z_bipush (v := 97) (by decide) dX5_isLetter_1 ?_
  refine z_icmp_lt 16 (by decide) dX5_isLetter_3 ?_ ?_
  · refine z_iconst (v := 0) (by decide) dX5_isLetter_16 ?_
    exact z_zret rfl dX5_isLetter_17
  · refine z_iload_n 0 rfl rfl dX5_isLetter_6 ?_
    refine z_bipush (v := 122) (by decide) dX5_isLetter_7 ?_
    refine z_icmp_gt 16 (by decide) dX5_isLetter_9 ?_ ?_
    · refine z_iconst (v := 0) (by decide) dX5_isLetter_16 ?_
      exact z_zret rfl dX5_isLetter_17
    · refine z_iconst (v := 1) (by decide) dX5_isLetter_12 ?_
      refine z_goto 17 (by decide) dX5_isLetter_13 ?_
      exact z_zret rfl dX5_isLetter_17
def fX5_spells_15 : Nat → Nat → UInt32 → Int32 → Int32 → AH → RR
  | 0, _, _, _, _, _ => none
  | k + 1, l0, l1, l2, l4, h =>
  (zslen l1).bind fun x1 =>
  if x1 ≤ l4 then (
    zbr 1 h)
  else
  (zschar l1 l4).bind fun x2 =>
  (zgR h l0 5 4).bind fun x3 =>
  (zai h x3 (l2 + l4)).bind fun x4 =>
  if x2 = x4 then (
    fX5_spells_15 k l0 l1 l2 (l4 + 1) h)
  else
  zbr 0 h
set_option maxRecDepth 20000 in
theorem rX5_spells_15 {X : CT} {V : VT} {d n0 k0 : Nat} (hV : V.2.2.2.2.2.stackTraces = false) (fu : Nat) : ∀ (l0 : Nat) (l1 : UInt32) (l2 : Int32) (l4 : Int32) (h : AH), zG X V RX5 "spells" cX5_spells 5 (some .boolean) (d + 12) n0 k0 (fX5_spells_15 fu l0 l1 l2 l4 h) 15 [(0, .ref l0), (1, .float l1), (2, .int l2), (4, .int l4)] [] h := by
  induction fu with
  | zero => intros; exact z_none
  | succ k ih =>
    intro l0 l1 l2 l4 h
    rw [fX5_spells_15]
    refine z_iload 3 rfl dX5_spells_15 ?_
    refine z_sload_n 1 rfl rfl dX5_spells_17 ?_
    refine z_slen hV zks_RX5_75 (by omega) (Nat.le_of_ble_eq_true rfl) dX5_spells_18 (fun x1 => ?_)
    refine z_icmp_ge 50 (by decide) dX5_spells_21 ?_ ?_
    · refine z_iconst (v := 1) (by decide) dX5_spells_50 ?_
      exact z_zret rfl dX5_spells_51
    · refine z_sload_n 1 rfl rfl dX5_spells_24 ?_
      refine z_iload 3 rfl dX5_spells_25 ?_
      refine z_schar hV zks_RX5_81 (by omega) (Nat.le_of_ble_eq_true rfl) dX5_spells_27 (fun x2 => ?_)
      refine z_aload_n 0 rfl rfl dX5_spells_30 ?_
      refine z_gR zf_RX5_9 dX5_spells_31 (fun x3 => ?_)
      refine z_iload_n 2 rfl rfl dX5_spells_34 ?_
      refine z_iload 3 rfl dX5_spells_35 ?_
      refine z_iadd dX5_spells_37 ?_
      refine z_aI dX5_spells_38 (fun x4 => ?_)
      refine z_icmp_eq 44 (by decide) dX5_spells_39 ?_ ?_
      · refine z_inc (w := 1) (lv' := [(4, .int (l4 + 1)), (0, .ref l0), (1, .float l1), (2, .int l2)]) 3 rfl (by decide) (by decide) rfl dX5_spells_44 ?_
        refine z_goto 15 (by decide) dX5_spells_47 ?_
        exact z_sub [1, 2, 3, 0] rfl (ih l0 l1 l2 (l4 + 1) h)
      · refine z_iconst (v := 0) (by decide) dX5_spells_42 ?_
        exact z_zret rfl dX5_spells_43
def fX5_spells (a0 : Nat) (a1 : UInt32) (a2 : Int32) (a3 : Int32) (h : AH) : RR :=
  (zslen a1).bind fun x1 =>
  if x1 = (a3 - a2) then (
    fX5_spells_15 FU a0 a1 a2 0 h)
  else
  zbr 0 h
set_option maxRecDepth 20000 in
theorem mX5_spells {V : VT} (hV : V.2.2.2.2.2.stackTraces = false) (d : Nat) (a0 : Nat) (a1 : UInt32) (a2 : Int32) (a3 : Int32) (h : AH) : zM V yX5_spells cX5_spells 5 (some .boolean) (d + 12) [.ref a0, .float a1, .int a2, .int a3] h (fX5_spells a0 a1 a2 a3 h) := by
  refine z_meth hV (by decide +kernel) (Nat.le_of_ble_eq_true rfl) [(0, .ref a0), (1, .float a1), (2, .int a2), (3, .int a3)] rfl (fun X => ?_)
  show zG X V RX5 "spells" cX5_spells 5 (some .boolean) (d + 12) h.1 h.2.1 (fX5_spells a0 a1 a2 a3 h) 0 [(0, .ref a0), (1, .float a1), (2, .int a2), (3, .int a3)] [] h
  unfold fX5_spells
  refine z_sload_n 1 rfl rfl dX5_spells_0 ?_
  refine z_slen hV zks_RX5_75 (by omega) (Nat.le_of_ble_eq_true rfl) dX5_spells_1 (fun x1 => ?_)
  refine z_iload_n 3 rfl rfl dX5_spells_4 ?_
  refine z_iload_n 2 rfl rfl dX5_spells_5 ?_
  refine z_isub dX5_spells_6 ?_
  refine z_icmp_eq 12 (by decide) dX5_spells_7 ?_ ?_
  · refine z_iconst (v := 0) (by decide) dX5_spells_12 ?_
    refine z_istore (lv' := [(4, .int 0), (0, .ref a0), (1, .float a1), (2, .int a2), (3, .int a3)]) (by decide) rfl dX5_spells_13 ?_
    exact z_sub [1, 2, 3, 0] rfl (rX5_spells_15 hV FU a0 a1 a2 0 h)
  · refine z_iconst (v := 0) (by decide) dX5_spells_10 ?_
    exact z_zret rfl dX5_spells_11
def fX5_wordKind (a0 : Nat) (a1 : Int32) (a2 : Int32) (h : AH) : RR :=
  zcv (zob h a0 5) (fX5_spells a0 (UInt32.ofNat 0) a1 a2 h) fun v1 h2 =>
  zvi v1 fun x3 =>
  if x3 = 0 then (
    zcv (zob h2 a0 5) (fX5_spells a0 (UInt32.ofNat 1) a1 a2 h2) fun v4 h5 =>
    zvi v4 fun x6 =>
    if x6 = 0 then (
      zcv (zob h5 a0 5) (fX5_spells a0 (UInt32.ofNat 2) a1 a2 h5) fun v7 h8 =>
      zvi v7 fun x9 =>
      if x9 = 0 then (
        zcv (zob h8 a0 5) (fX5_spells a0 (UInt32.ofNat 3) a1 a2 h8) fun v10 h11 =>
        zvi v10 fun x12 =>
        if x12 = 0 then (
          zcv (zob h11 a0 5) (fX5_spells a0 (UInt32.ofNat 4) a1 a2 h11) fun v13 h14 =>
          zvi v13 fun x15 =>
          if x15 = 0 then (
            some (.inl (some (.int 7)), h14))
          else
          some (.inl (some (.int 6)), h14))
        else
        some (.inl (some (.int 2)), h11))
      else
      some (.inl (some (.int 3)), h8))
    else
    some (.inl (some (.int 5)), h5))
  else
  some (.inl (some (.int 4)), h2)
set_option maxRecDepth 20000 in
theorem mX5_wordKind {V : VT} (hV : V.2.2.2.2.2.stackTraces = false) (d : Nat) (a0 : Nat) (a1 : Int32) (a2 : Int32) (h : AH) : zM V yX5_wordKind cX5_wordKind 3 (some .int) (d + 13) [.ref a0, .int a1, .int a2] h (fX5_wordKind a0 a1 a2 h) := by
  refine z_meth hV (by decide +kernel) (Nat.le_of_ble_eq_true rfl) [(0, .ref a0), (1, .int a1), (2, .int a2)] rfl (fun X => ?_)
  show zG X V RX5 "wordKind" cX5_wordKind 3 (some .int) (d + 13) h.1 h.2.1 (fX5_wordKind a0 a1 a2 h) 0 [(0, .ref a0), (1, .int a1), (2, .int a2)] [] h
  unfold fX5_wordKind
  refine z_aload_n 0 rfl rfl dX5_wordKind_0 ?_
  refine z_ldcs 0 (by decide) zs_RX5_61 dX5_wordKind_1 ?_
  refine z_iload_n 1 rfl rfl dX5_wordKind_3 ?_
  refine z_iload_n 2 rfl rfl dX5_wordKind_4 ?_
  refine z_cV (st := []) [.float (UInt32.ofNat 0), .int a1, .int a2] zk_RX5_63 rfl (Nat.le_of_ble_eq_true rfl) dX5_wordKind_5 (mX5_spells hV (d + 0) a0 (UInt32.ofNat 0) a1 a2 h) (fun v1 h2 => ?_)
  refine z_vi (fun x3 => ?_)
  refine z_if_eq 13 (by decide) dX5_wordKind_8 ?_ ?_
  · refine z_aload_n 0 rfl rfl dX5_wordKind_13 ?_
    refine z_ldcs 1 (by decide) zs_RX5_67 dX5_wordKind_14 ?_
    refine z_iload_n 1 rfl rfl dX5_wordKind_16 ?_
    refine z_iload_n 2 rfl rfl dX5_wordKind_17 ?_
    refine z_cV (st := []) [.float (UInt32.ofNat 1), .int a1, .int a2] zk_RX5_63 rfl (Nat.le_of_ble_eq_true rfl) dX5_wordKind_18 (mX5_spells hV (d + 0) a0 (UInt32.ofNat 1) a1 a2 h2) (fun v4 h5 => ?_)
    refine z_vi (fun x6 => ?_)
    refine z_if_eq 26 (by decide) dX5_wordKind_21 ?_ ?_
    · refine z_aload_n 0 rfl rfl dX5_wordKind_26 ?_
      refine z_ldcs 2 (by decide) zs_RX5_69 dX5_wordKind_27 ?_
      refine z_iload_n 1 rfl rfl dX5_wordKind_29 ?_
      refine z_iload_n 2 rfl rfl dX5_wordKind_30 ?_
      refine z_cV (st := []) [.float (UInt32.ofNat 2), .int a1, .int a2] zk_RX5_63 rfl (Nat.le_of_ble_eq_true rfl) dX5_wordKind_31 (mX5_spells hV (d + 0) a0 (UInt32.ofNat 2) a1 a2 h5) (fun v7 h8 => ?_)
      refine z_vi (fun x9 => ?_)
      refine z_if_eq 39 (by decide) dX5_wordKind_34 ?_ ?_
      · refine z_aload_n 0 rfl rfl dX5_wordKind_39 ?_
        refine z_ldcs 3 (by decide) zs_RX5_71 dX5_wordKind_40 ?_
        refine z_iload_n 1 rfl rfl dX5_wordKind_42 ?_
        refine z_iload_n 2 rfl rfl dX5_wordKind_43 ?_
        refine z_cV (st := []) [.float (UInt32.ofNat 3), .int a1, .int a2] zk_RX5_63 rfl (Nat.le_of_ble_eq_true rfl) dX5_wordKind_44 (mX5_spells hV (d + 0) a0 (UInt32.ofNat 3) a1 a2 h8) (fun v10 h11 => ?_)
        refine z_vi (fun x12 => ?_)
        refine z_if_eq 52 (by decide) dX5_wordKind_47 ?_ ?_
        · refine z_aload_n 0 rfl rfl dX5_wordKind_52 ?_
          refine z_ldcs 4 (by decide) zs_RX5_73 dX5_wordKind_53 ?_
          refine z_iload_n 1 rfl rfl dX5_wordKind_55 ?_
          refine z_iload_n 2 rfl rfl dX5_wordKind_56 ?_
          refine z_cV (st := []) [.float (UInt32.ofNat 4), .int a1, .int a2] zk_RX5_63 rfl (Nat.le_of_ble_eq_true rfl) dX5_wordKind_57 (mX5_spells hV (d + 0) a0 (UInt32.ofNat 4) a1 a2 h11) (fun v13 h14 => ?_)
          refine z_vi (fun x15 => ?_)
          refine z_if_eq 68 (by decide) dX5_wordKind_60 ?_ ?_
          · refine z_bipush (v := 7) (by decide) dX5_wordKind_68 ?_
            exact z_iret rfl dX5_wordKind_70
          · refine z_bipush (v := 6) (by decide) dX5_wordKind_63 ?_
            refine z_goto 70 (by decide) dX5_wordKind_65 ?_
            exact z_iret rfl dX5_wordKind_70
        · refine z_iconst (v := 2) (by decide) dX5_wordKind_50 ?_
          exact z_iret rfl dX5_wordKind_51
      · refine z_iconst (v := 3) (by decide) dX5_wordKind_37 ?_
        exact z_iret rfl dX5_wordKind_38
    · refine z_iconst (v := 5) (by decide) dX5_wordKind_24 ?_
      exact z_iret rfl dX5_wordKind_25
  · refine z_iconst (v := 4) (by decide) dX5_wordKind_11 ?_
    exact z_iret rfl dX5_wordKind_12
def fX5_isSign_12 (l0 : Int32) (h : AH) : RR :=
  if l0 = 45 then (
    zbr 1 h)
  else
  if l0 = 59 then (
    zbr 1 h)
  else
  if l0 = 94 then (
    zbr 1 h)
  else
  zbr 0 h
set_option maxRecDepth 20000 in
theorem rX5_isSign_12 {X : CT} {V : VT} {d n0 k0 : Nat} (hV : V.2.2.2.2.2.stackTraces = false) (l0 : Int32) (h : AH) : zG X V RX5 "isSign" cX5_isSign 1 (some .boolean) (d + 1) n0 k0 (fX5_isSign_12 l0 h) 12 [(0, .int l0)] [] h := by
  unfold fX5_isSign_12
  refine z_iload_n 0 rfl rfl dX5_isSign_12 ?_
  refine z_bipush (v := 45) (by decide) dX5_isSign_13 ?_
  refine z_icmp_eq 30 (by decide) dX5_isSign_15 ?_ ?_
  · refine z_iconst (v := 1) (by decide) dX5_isSign_30 ?_
    refine z_goto 35 (by decide) dX5_isSign_31 ?_
    exact z_zret rfl dX5_isSign_35
  · refine z_iload_n 0 rfl rfl dX5_isSign_18 ?_
    refine z_bipush (v := 59) (by decide) dX5_isSign_19 ?_
    refine z_icmp_eq 30 (by decide) dX5_isSign_21 ?_ ?_
    · refine z_iconst (v := 1) (by decide) dX5_isSign_30 ?_
      refine z_goto 35 (by decide) dX5_isSign_31 ?_
      exact z_zret rfl dX5_isSign_35
    · refine z_iload_n 0 rfl rfl dX5_isSign_24 ?_
      refine z_bipush (v := 94) (by decide) dX5_isSign_25 ?_
      refine z_icmp_ne 34 (by decide) dX5_isSign_27 ?_ ?_
      · refine z_iconst (v := 1) (by decide) dX5_isSign_30 ?_
        refine z_goto 35 (by decide) dX5_isSign_31 ?_
        exact z_zret rfl dX5_isSign_35
      · refine z_iconst (v := 0) (by decide) dX5_isSign_34 ?_
        exact z_zret rfl dX5_isSign_35
def fX5_isSign (a0 : Int32) (h : AH) : RR :=
  if a0 < 40 then (
    fX5_isSign_12 a0 h)
  else
  if a0 ≤ 43 then (
    zbr 1 h)
  else
  fX5_isSign_12 a0 h
set_option maxRecDepth 20000 in
theorem mX5_isSign {V : VT} (hV : V.2.2.2.2.2.stackTraces = false) (d : Nat) (a0 : Int32) (h : AH) : zM V yX5_isSign cX5_isSign 1 (some .boolean) (d + 1) [.int a0] h (fX5_isSign a0 h) := by
  refine z_meth hV (by decide +kernel) (Nat.le_of_ble_eq_true rfl) [(0, .int a0)] rfl (fun X => ?_)
  show zG X V RX5 "isSign" cX5_isSign 1 (some .boolean) (d + 1) h.1 h.2.1 (fX5_isSign a0 h) 0 [(0, .int a0)] [] h
  unfold fX5_isSign
  refine z_iload_n 0 rfl rfl dX5_isSign_0 ?_
  refine z_bipush (v := 40) (by decide) dX5_isSign_1 ?_
  refine z_icmp_lt 12 (by decide) dX5_isSign_3 ?_ ?_
  · exact z_sub [0] rfl (rX5_isSign_12 hV a0 h)
  · refine z_iload_n 0 rfl rfl dX5_isSign_6 ?_
    refine z_bipush (v := 43) (by decide) dX5_isSign_7 ?_
    refine z_icmp_le 30 (by decide) dX5_isSign_9 ?_ ?_
    · refine z_iconst (v := 1) (by decide) dX5_isSign_30 ?_
      refine z_goto 35 (by decide) dX5_isSign_31 ?_
      exact z_zret rfl dX5_isSign_35
    · exact z_sub [0] rfl (rX5_isSign_12 hV a0 h)
def fX5_cutOne_163 (l5 : Int32) (s0 : Int32) (s1 : Int32) (s2 : Nat) (h : AH) : RR :=
  (zsi h s2 s1 s0).bind fun h1 =>
  some (.inl (some (.int l5)), h1)
set_option maxRecDepth 20000 in
theorem rX5_cutOne_163 {X : CT} {V : VT} {d n0 k0 : Nat} (hV : V.2.2.2.2.2.stackTraces = false) (l5 : Int32) (s0 : Int32) (s1 : Int32) (s2 : Nat) (h : AH) : zG X V RX5 "cutOne" cX5_cutOne 7 (some .int) (d + 14) n0 k0 (fX5_cutOne_163 l5 s0 s1 s2 h) 163 [(5, .int l5)] [.int s0, .int s1, .ref s2] h := by
  unfold fX5_cutOne_163
  refine z_sI dX5_cutOne_163 (fun h1 => ?_)
  refine z_iload 0 rfl dX5_cutOne_164 ?_
  exact z_iret rfl dX5_cutOne_166
def fX5_cutOne_127 (l0 : Nat) (l1 : Int32) (l2 : Int32) (l5 : Int32) (h : AH) : RR :=
  (zgR h l0 5 5).bind fun x1 =>
  zcv (zob h l0 5) (fX5_wordKind l0 l2 l5 h) fun v2 h3 =>
  zvi v2 fun x4 =>
  (zsi h3 x1 l1 x4).bind fun h5 =>
  some (.inl (some (.int l5)), h5)
set_option maxRecDepth 20000 in
theorem rX5_cutOne_127 {X : CT} {V : VT} {d n0 k0 : Nat} (hV : V.2.2.2.2.2.stackTraces = false) (l0 : Nat) (l1 : Int32) (l2 : Int32) (l5 : Int32) (h : AH) : zG X V RX5 "cutOne" cX5_cutOne 7 (some .int) (d + 14) n0 k0 (fX5_cutOne_127 l0 l1 l2 l5 h) 127 [(0, .ref l0), (1, .int l1), (2, .int l2), (5, .int l5)] [] h := by
  unfold fX5_cutOne_127
  refine z_aload_n 0 rfl rfl dX5_cutOne_127 ?_
  refine z_gR zf_RX5_15 dX5_cutOne_128 (fun x1 => ?_)
  refine z_iload_n 1 rfl rfl dX5_cutOne_131 ?_
  refine z_aload_n 0 rfl rfl dX5_cutOne_132 ?_
  refine z_iload_n 2 rfl rfl dX5_cutOne_133 ?_
  refine z_iload 3 rfl dX5_cutOne_134 ?_
  refine z_cV (st := [.int l1, .ref x1]) [.int l2, .int l5] zk_RX5_55 rfl (Nat.le_of_ble_eq_true rfl) dX5_cutOne_136 (mX5_wordKind hV (d + 0) l0 l2 l5 h) (fun v2 h3 => ?_)
  refine z_vi (fun x4 => ?_)
  refine z_sI dX5_cutOne_139 (fun h5 => ?_)
  refine z_goto 164 (by decide) dX5_cutOne_140 ?_
  refine z_iload 3 rfl dX5_cutOne_164 ?_
  exact z_iret rfl dX5_cutOne_166
def fX5_cutOne_102 : Nat → Nat → Int32 → Int32 → Int32 → Int32 → AH → RR
  | 0, _, _, _, _, _, _ => none
  | k + 1, l0, l1, l2, l3, l5, h =>
  if l3 ≤ l5 then (
    fX5_cutOne_127 l0 l1 l2 l5 h)
  else
  (zgR h l0 5 4).bind fun x1 =>
  (zai h x1 l5).bind fun x2 =>
  zca (fX5_isLetter x2 h) fun v3 h4 =>
  zvi v3 fun x5 =>
  if x5 = 0 then (
    fX5_cutOne_127 l0 l1 l2 l5 h4)
  else
  fX5_cutOne_102 k l0 l1 l2 l3 (l5 + 1) h4
set_option maxRecDepth 20000 in
theorem rX5_cutOne_102 {X : CT} {V : VT} {d n0 k0 : Nat} (hV : V.2.2.2.2.2.stackTraces = false) (fu : Nat) : ∀ (l0 : Nat) (l1 : Int32) (l2 : Int32) (l3 : Int32) (l5 : Int32) (h : AH), zG X V RX5 "cutOne" cX5_cutOne 7 (some .int) (d + 14) n0 k0 (fX5_cutOne_102 fu l0 l1 l2 l3 l5 h) 102 [(0, .ref l0), (1, .int l1), (2, .int l2), (3, .int l3), (5, .int l5)] [] h := by
  induction fu with
  | zero => intros; exact z_none
  | succ k ih =>
    intro l0 l1 l2 l3 l5 h
    rw [fX5_cutOne_102]
    refine z_iload 4 rfl dX5_cutOne_102 ?_
    refine z_iload_n 3 rfl rfl dX5_cutOne_104 ?_
    refine z_icmp_ge 127 (by decide) dX5_cutOne_105 ?_ ?_
    · exact z_sub [0, 1, 2, 4] rfl (rX5_cutOne_127 hV l0 l1 l2 l5 h)
    · refine z_aload_n 0 rfl rfl dX5_cutOne_108 ?_
      refine z_gR zf_RX5_9 dX5_cutOne_109 (fun x1 => ?_)
      refine z_iload 4 rfl dX5_cutOne_112 ?_
      refine z_aI dX5_cutOne_114 (fun x2 => ?_)
      refine z_cS (st := []) [.int x2] zk_RX5_52 rfl (Nat.le_of_ble_eq_true rfl) dX5_cutOne_115 (mX5_isLetter hV (d + 12) x2 h) (fun v3 h4 => ?_)
      refine z_vi (fun x5 => ?_)
      refine z_if_eq 127 (by decide) dX5_cutOne_118 ?_ ?_
      · exact z_sub [0, 1, 2, 4] rfl (rX5_cutOne_127 hV l0 l1 l2 l5 h4)
      · refine z_inc (w := 1) (lv' := [(5, .int (l5 + 1)), (0, .ref l0), (1, .int l1), (2, .int l2), (3, .int l3)]) 4 rfl (by decide) (by decide) rfl dX5_cutOne_121 ?_
        refine z_goto 102 (by decide) dX5_cutOne_124 ?_
        exact z_sub [1, 2, 3, 4, 0] rfl (ih l0 l1 l2 l3 (l5 + 1) h4)
def fX5_cutOne_76 (l0 : Nat) (l1 : Int32) (l5 : Int32) (l6 : Int32) (h : AH) : RR :=
  (zgR h l0 5 5).bind fun x1 =>
  (zsi h x1 l1 1).bind fun h2 =>
  (zgR h2 l0 5 7).bind fun x3 =>
  (zsi h2 x3 l1 l6).bind fun h4 =>
  some (.inl (some (.int l5)), h4)
set_option maxRecDepth 20000 in
theorem rX5_cutOne_76 {X : CT} {V : VT} {d n0 k0 : Nat} (hV : V.2.2.2.2.2.stackTraces = false) (l0 : Nat) (l1 : Int32) (l5 : Int32) (l6 : Int32) (h : AH) : zG X V RX5 "cutOne" cX5_cutOne 7 (some .int) (d + 14) n0 k0 (fX5_cutOne_76 l0 l1 l5 l6 h) 76 [(0, .ref l0), (1, .int l1), (5, .int l5), (6, .int l6)] [] h := by
  unfold fX5_cutOne_76
  refine z_aload_n 0 rfl rfl dX5_cutOne_76 ?_
  refine z_gR zf_RX5_15 dX5_cutOne_77 (fun x1 => ?_)
  refine z_iload_n 1 rfl rfl dX5_cutOne_80 ?_
  refine z_iconst (v := 1) (by decide) dX5_cutOne_81 ?_
  refine z_sI dX5_cutOne_82 (fun h2 => ?_)
  refine z_aload_n 0 rfl rfl dX5_cutOne_83 ?_
  refine z_gR zf_RX5_21 dX5_cutOne_84 (fun x3 => ?_)
  refine z_iload_n 1 rfl rfl dX5_cutOne_87 ?_
  refine z_iload 3 rfl dX5_cutOne_88 ?_
  refine z_sI dX5_cutOne_90 (fun h4 => ?_)
  refine z_goto 164 (by decide) dX5_cutOne_91 ?_
  refine z_iload 2 rfl dX5_cutOne_164 ?_
  exact z_iret rfl dX5_cutOne_166
def fX5_cutOne_28 : Nat → Nat → Int32 → Int32 → Int32 → Int32 → AH → RR
  | 0, _, _, _, _, _, _ => none
  | k + 1, l0, l1, l3, l5, l6, h =>
  if l3 ≤ l5 then (
    fX5_cutOne_76 l0 l1 l5 l6 h)
  else
  (zgR h l0 5 4).bind fun x1 =>
  (zai h x1 l5).bind fun x2 =>
  zca (fX5_isDigit x2 h) fun v3 h4 =>
  zvi v3 fun x5 =>
  if x5 = 0 then (
    fX5_cutOne_76 l0 l1 l5 l6 h4)
  else
  (zgR h4 l0 5 4).bind fun x6 =>
  (zai h4 x6 l5).bind fun x7 =>
  zlet (if 1000000 < ((((10 : Int32) * l6) + x7) - 48) then 1000000 else ((((10 : Int32) * l6) + x7) - 48)) fun w8 =>
  fX5_cutOne_28 k l0 l1 l3 (l5 + 1) w8 h4
set_option maxRecDepth 20000 in
theorem rX5_cutOne_28 {X : CT} {V : VT} {d n0 k0 : Nat} (hV : V.2.2.2.2.2.stackTraces = false) (fu : Nat) : ∀ (l0 : Nat) (l1 : Int32) (l3 : Int32) (l5 : Int32) (l6 : Int32) (h : AH), zG X V RX5 "cutOne" cX5_cutOne 7 (some .int) (d + 14) n0 k0 (fX5_cutOne_28 fu l0 l1 l3 l5 l6 h) 28 [(0, .ref l0), (1, .int l1), (3, .int l3), (5, .int l5), (6, .int l6)] [] h := by
  induction fu with
  | zero => intros; exact z_none
  | succ k ih =>
    intro l0 l1 l3 l5 l6 h
    rw [fX5_cutOne_28]
    refine z_iload 3 rfl dX5_cutOne_28 ?_
    refine z_iload_n 2 rfl rfl dX5_cutOne_30 ?_
    refine z_icmp_ge 76 (by decide) dX5_cutOne_31 ?_ ?_
    · exact z_sub [0, 1, 3, 4] rfl (rX5_cutOne_76 hV l0 l1 l5 l6 h)
    · refine z_aload_n 0 rfl rfl dX5_cutOne_34 ?_
      refine z_gR zf_RX5_9 dX5_cutOne_35 (fun x1 => ?_)
      refine z_iload 3 rfl dX5_cutOne_38 ?_
      refine z_aI dX5_cutOne_40 (fun x2 => ?_)
      refine z_cS (st := []) [.int x2] zk_RX5_41 rfl (Nat.le_of_ble_eq_true rfl) dX5_cutOne_41 (mX5_isDigit hV (d + 12) x2 h) (fun v3 h4 => ?_)
      refine z_vi (fun x5 => ?_)
      refine z_if_eq 76 (by decide) dX5_cutOne_44 ?_ ?_
      · exact z_sub [0, 1, 3, 4] rfl (rX5_cutOne_76 hV l0 l1 l5 l6 h4)
      · refine z_bipush (v := 10) (by decide) dX5_cutOne_47 ?_
        refine z_iload 4 rfl dX5_cutOne_49 ?_
        refine z_imul dX5_cutOne_51 ?_
        refine z_aload_n 0 rfl rfl dX5_cutOne_52 ?_
        refine z_gR zf_RX5_9 dX5_cutOne_53 (fun x6 => ?_)
        refine z_iload 3 rfl dX5_cutOne_56 ?_
        refine z_aI dX5_cutOne_58 (fun x7 => ?_)
        refine z_iadd dX5_cutOne_59 ?_
        refine z_bipush (v := 48) (by decide) dX5_cutOne_60 ?_
        refine z_isub dX5_cutOne_62 ?_
        refine z_ldc zw_515 dX5_cutOne_63 ?_
        refine z_mmin zw_516 zw_517 zw_83 zw_518 (Nat.le_of_ble_eq_true rfl) (by omega) dX5_cutOne_65 ?_
        refine z_topI (fun w8 => ?_)
        refine z_istore (lv' := [(6, .int w8), (0, .ref l0), (1, .int l1), (3, .int l3), (5, .int l5)]) (by decide) rfl dX5_cutOne_68 ?_
        refine z_inc (w := 1) (lv' := [(5, .int (l5 + 1)), (6, .int w8), (0, .ref l0), (1, .int l1), (3, .int l3)]) 4 rfl (by decide) (by decide) rfl dX5_cutOne_70 ?_
        refine z_goto 28 (by decide) dX5_cutOne_73 ?_
        exact z_sub [2, 3, 4, 0, 1] rfl (ih l0 l1 l3 (l5 + 1) w8 h4)
def fX5_cutOne (a0 : Nat) (a1 : Int32) (a2 : Int32) (a3 : Int32) (h : AH) : RR :=
  (zgR h a0 5 4).bind fun x1 =>
  (zai h x1 a2).bind fun x2 =>
  zca (fX5_isDigit x2 h) fun v3 h4 =>
  zvi v3 fun x5 =>
  if x5 = 0 then (
    zca (fX5_isLetter x2 h4) fun v6 h7 =>
    zvi v6 fun x8 =>
    if x8 = 0 then (
      (zgR h7 a0 5 5).bind fun x9 =>
      zca (fX5_isSign x2 h7) fun v10 h11 =>
      zvi v10 fun x12 =>
      if x12 = 0 then (
        fX5_cutOne_163 (a2 + 1) 7 a1 x9 h11)
      else
      fX5_cutOne_163 (a2 + 1) x2 a1 x9 h11)
    else
    fX5_cutOne_102 FU a0 a1 a2 a3 (a2 + 1) h7)
  else
  fX5_cutOne_28 FU a0 a1 a3 (a2 + 1) (x2 - 48) h4
set_option maxRecDepth 20000 in
theorem mX5_cutOne {V : VT} (hV : V.2.2.2.2.2.stackTraces = false) (d : Nat) (a0 : Nat) (a1 : Int32) (a2 : Int32) (a3 : Int32) (h : AH) : zM V yX5_cutOne cX5_cutOne 7 (some .int) (d + 14) [.ref a0, .int a1, .int a2, .int a3] h (fX5_cutOne a0 a1 a2 a3 h) := by
  refine z_meth hV (by decide +kernel) (Nat.le_of_ble_eq_true rfl) [(0, .ref a0), (1, .int a1), (2, .int a2), (3, .int a3)] rfl (fun X => ?_)
  show zG X V RX5 "cutOne" cX5_cutOne 7 (some .int) (d + 14) h.1 h.2.1 (fX5_cutOne a0 a1 a2 a3 h) 0 [(0, .ref a0), (1, .int a1), (2, .int a2), (3, .int a3)] [] h
  unfold fX5_cutOne
  refine z_aload_n 0 rfl rfl dX5_cutOne_0 ?_
  refine z_gR zf_RX5_9 dX5_cutOne_1 (fun x1 => ?_)
  refine z_iload_n 2 rfl rfl dX5_cutOne_4 ?_
  refine z_aI dX5_cutOne_5 (fun x2 => ?_)
  refine z_istore (lv' := [(4, .int x2), (0, .ref a0), (1, .int a1), (2, .int a2), (3, .int a3)]) (by decide) rfl dX5_cutOne_6 ?_
  refine z_iload_n 3 rfl rfl dX5_cutOne_8 ?_
  refine z_iconst (v := 1) (by decide) dX5_cutOne_9 ?_
  refine z_iadd dX5_cutOne_10 ?_
  refine z_istore (lv' := [(5, .int (a2 + 1)), (4, .int x2), (0, .ref a0), (1, .int a1), (2, .int a2), (3, .int a3)]) (by decide) rfl dX5_cutOne_11 ?_
  refine z_iload 1 rfl dX5_cutOne_13 ?_
  refine z_cS (st := []) [.int x2] zk_RX5_41 rfl (Nat.le_of_ble_eq_true rfl) dX5_cutOne_15 (mX5_isDigit hV (d + 12) x2 h) (fun v3 h4 => ?_)
  refine z_vi (fun x5 => ?_)
  refine z_if_eq 94 (by decide) dX5_cutOne_18 ?_ ?_
  · refine z_iload 1 rfl dX5_cutOne_94 ?_
    refine z_cS (st := []) [.int x2] zk_RX5_52 rfl (Nat.le_of_ble_eq_true rfl) dX5_cutOne_96 (mX5_isLetter hV (d + 12) x2 h4) (fun v6 h7 => ?_)
    refine z_vi (fun x8 => ?_)
    refine z_if_eq 143 (by decide) dX5_cutOne_99 ?_ ?_
    · refine z_aload_n 2 rfl rfl dX5_cutOne_143 ?_
      refine z_gR zf_RX5_15 dX5_cutOne_144 (fun x9 => ?_)
      refine z_iload_n 3 rfl rfl dX5_cutOne_147 ?_
      refine z_iload 1 rfl dX5_cutOne_148 ?_
      refine z_cS (st := [.int a1, .ref x9]) [.int x2] zk_RX5_58 rfl (Nat.le_of_ble_eq_true rfl) dX5_cutOne_150 (mX5_isSign hV (d + 12) x2 h7) (fun v10 h11 => ?_)
      refine z_vi (fun x12 => ?_)
      refine z_if_eq 161 (by decide) dX5_cutOne_153 ?_ ?_
      · refine z_bipush (v := 7) (by decide) dX5_cutOne_161 ?_
        exact z_sub [0] rfl (rX5_cutOne_163 hV (a2 + 1) 7 a1 x9 h11)
      · refine z_iload 1 rfl dX5_cutOne_156 ?_
        refine z_goto 163 (by decide) dX5_cutOne_158 ?_
        exact z_sub [0] rfl (rX5_cutOne_163 hV (a2 + 1) x2 a1 x9 h11)
    · exact z_sub [2, 3, 4, 5, 0] rfl (rX5_cutOne_102 hV FU a0 a1 a2 a3 (a2 + 1) h7)
  · refine z_iload 1 rfl dX5_cutOne_21 ?_
    refine z_bipush (v := 48) (by decide) dX5_cutOne_23 ?_
    refine z_isub dX5_cutOne_25 ?_
    refine z_istore (lv' := [(6, .int (x2 - 48)), (5, .int (a2 + 1)), (4, .int x2), (0, .ref a0), (1, .int a1), (2, .int a2), (3, .int a3)]) (by decide) rfl dX5_cutOne_26 ?_
    exact z_sub [3, 4, 6, 1, 0] rfl (rX5_cutOne_28 hV FU a0 a1 a3 (a2 + 1) (x2 - 48) h4)
def fX5_cut_61 (l0 : Nat) (l1 : Int32) (l2 : Int32) (h : AH) : RR :=
  (zgR h l0 5 5).bind fun x1 =>
  (zsi h x1 l2 0).bind fun h2 =>
  (zgR h2 l0 5 6).bind fun x3 =>
  (zsi h2 x3 l2 l1).bind fun h4 =>
  (zpf h4 l0 5 8 (.int (-1))).bind fun h5 =>
  (zpf h5 l0 5 1 (.int 7)).bind fun h6 =>
  zcv (zob h6 l0 5) (fX5_step l0 h6) fun v7 h8 =>
  zvn v7 <|
  some (.inl none, h8)
set_option maxRecDepth 20000 in
theorem rX5_cut_61 {X : CT} {V : VT} {d n0 k0 : Nat} (hV : V.2.2.2.2.2.stackTraces = false) (l0 : Nat) (l1 : Int32) (l2 : Int32) (h : AH) : zG X V RX5 "cut" cX5_cut 5 none (d + 15) n0 k0 (fX5_cut_61 l0 l1 l2 h) 61 [(0, .ref l0), (1, .int l1), (2, .int l2)] [] h := by
  unfold fX5_cut_61
  refine z_aload_n 0 rfl rfl dX5_cut_61 ?_
  refine z_gR zf_RX5_15 dX5_cut_62 (fun x1 => ?_)
  refine z_iload_n 2 rfl rfl dX5_cut_65 ?_
  refine z_iconst (v := 0) (by decide) dX5_cut_66 ?_
  refine z_sI dX5_cut_67 (fun h2 => ?_)
  refine z_aload_n 0 rfl rfl dX5_cut_68 ?_
  refine z_gR zf_RX5_18 dX5_cut_69 (fun x3 => ?_)
  refine z_iload_n 2 rfl rfl dX5_cut_72 ?_
  refine z_iload_n 1 rfl rfl dX5_cut_73 ?_
  refine z_sI dX5_cut_74 (fun h4 => ?_)
  refine z_aload_n 0 rfl rfl dX5_cut_75 ?_
  refine z_iconst (v := (-1)) (by decide) dX5_cut_76 ?_
  refine z_pI zf_RX5_32 zq_5_8 rfl dX5_cut_77 (fun h5 => ?_)
  refine z_aload_n 0 rfl rfl dX5_cut_80 ?_
  refine z_bipush (v := 7) (by decide) dX5_cut_81 ?_
  refine z_pI zf_RX5_35 zq_5_1 rfl dX5_cut_83 (fun h6 => ?_)
  refine z_aload_n 0 rfl rfl dX5_cut_86 ?_
  refine z_cV (st := []) [] zk_RX5_38 rfl (Nat.le_of_ble_eq_true rfl) dX5_cut_87 (mX5_step hV (d + 13) l0 h6) (fun v7 h8 => ?_)
  refine z_vn ?_
  exact z_vret rfl dX5_cut_90
def fX5_cut_7 : Nat → Nat → Int32 → Int32 → Int32 → Int32 → AH → RR
  | 0, _, _, _, _, _, _ => none
  | k + 1, l0, l1, l2, l3, l4, h =>
  if 300 ≤ l4 then (
    fX5_cut_61 l0 l1 l2 h)
  else
  if l1 ≤ l3 then (
    fX5_cut_61 l0 l1 l2 h)
  else
  (zgR h l0 5 4).bind fun x1 =>
  (zai h x1 l3).bind fun x2 =>
  if x2 = 32 then (
    fX5_cut_7 k l0 l1 l2 (l3 + 1) (l4 + 1) h)
  else
  (zgR h l0 5 6).bind fun x3 =>
  (zsi h x3 l2 l3).bind fun h4 =>
  zcv (zob h4 l0 5) (fX5_cutOne l0 l2 l3 l1 h4) fun v5 h6 =>
  zvi v5 fun x7 =>
  fX5_cut_7 k l0 l1 (l2 + 1) x7 (l4 + 1) h6
set_option maxRecDepth 20000 in
theorem rX5_cut_7 {X : CT} {V : VT} {d n0 k0 : Nat} (hV : V.2.2.2.2.2.stackTraces = false) (fu : Nat) : ∀ (l0 : Nat) (l1 : Int32) (l2 : Int32) (l3 : Int32) (l4 : Int32) (h : AH), zG X V RX5 "cut" cX5_cut 5 none (d + 15) n0 k0 (fX5_cut_7 fu l0 l1 l2 l3 l4 h) 7 [(0, .ref l0), (1, .int l1), (2, .int l2), (3, .int l3), (4, .int l4)] [] h := by
  induction fu with
  | zero => intros; exact z_none
  | succ k ih =>
    intro l0 l1 l2 l3 l4 h
    rw [fX5_cut_7]
    refine z_iload 4 rfl dX5_cut_7 ?_
    refine z_sipush (v := 300) (by decide) dX5_cut_9 ?_
    refine z_icmp_ge 61 (by decide) dX5_cut_12 ?_ ?_
    · exact z_sub [0, 1, 2] rfl (rX5_cut_61 hV l0 l1 l2 h)
    · refine z_iload_n 3 rfl rfl dX5_cut_15 ?_
      refine z_iload_n 1 rfl rfl dX5_cut_16 ?_
      refine z_icmp_ge 61 (by decide) dX5_cut_17 ?_ ?_
      · exact z_sub [0, 1, 2] rfl (rX5_cut_61 hV l0 l1 l2 h)
      · refine z_aload_n 0 rfl rfl dX5_cut_20 ?_
        refine z_gR zf_RX5_9 dX5_cut_21 (fun x1 => ?_)
        refine z_iload_n 3 rfl rfl dX5_cut_24 ?_
        refine z_aI dX5_cut_25 (fun x2 => ?_)
        refine z_bipush (v := 32) (by decide) dX5_cut_26 ?_
        refine z_icmp_ne 37 (by decide) dX5_cut_28 ?_ ?_
        · refine z_inc (w := 1) (lv' := [(3, .int (l3 + 1)), (0, .ref l0), (1, .int l1), (2, .int l2), (4, .int l4)]) 3 rfl (by decide) (by decide) rfl dX5_cut_31 ?_
          refine z_goto 55 (by decide) dX5_cut_34 ?_
          refine z_inc (w := 1) (lv' := [(4, .int (l4 + 1)), (3, .int (l3 + 1)), (0, .ref l0), (1, .int l1), (2, .int l2)]) 4 rfl (by decide) (by decide) rfl dX5_cut_55 ?_
          refine z_goto 7 (by decide) dX5_cut_58 ?_
          exact z_sub [2, 3, 4, 1, 0] rfl (ih l0 l1 l2 (l3 + 1) (l4 + 1) h)
        · refine z_aload_n 0 rfl rfl dX5_cut_37 ?_
          refine z_gR zf_RX5_18 dX5_cut_38 (fun x3 => ?_)
          refine z_iload_n 2 rfl rfl dX5_cut_41 ?_
          refine z_iload_n 3 rfl rfl dX5_cut_42 ?_
          refine z_sI dX5_cut_43 (fun h4 => ?_)
          refine z_aload_n 0 rfl rfl dX5_cut_44 ?_
          refine z_iload_n 2 rfl rfl dX5_cut_45 ?_
          refine z_iload_n 3 rfl rfl dX5_cut_46 ?_
          refine z_iload_n 1 rfl rfl dX5_cut_47 ?_
          refine z_cV (st := []) [.int l2, .int l3, .int l1] zk_RX5_28 rfl (Nat.le_of_ble_eq_true rfl) dX5_cut_48 (mX5_cutOne hV (d + 0) l0 l2 l3 l1 h4) (fun v5 h6 => ?_)
          refine z_vi (fun x7 => ?_)
          refine z_istore_n (lv' := [(3, .int x7), (0, .ref l0), (1, .int l1), (2, .int l2), (4, .int l4)]) rfl (by decide) rfl dX5_cut_51 ?_
          refine z_inc (w := 1) (lv' := [(2, .int (l2 + 1)), (3, .int x7), (0, .ref l0), (1, .int l1), (4, .int l4)]) 3 rfl (by decide) (by decide) rfl dX5_cut_52 ?_
          refine z_inc (w := 1) (lv' := [(4, .int (l4 + 1)), (2, .int (l2 + 1)), (3, .int x7), (0, .ref l0), (1, .int l1)]) 4 rfl (by decide) (by decide) rfl dX5_cut_55 ?_
          refine z_goto 7 (by decide) dX5_cut_58 ?_
          exact z_sub [3, 4, 1, 2, 0] rfl (ih l0 l1 (l2 + 1) x7 (l4 + 1) h6)
def fX5_cut (a0 : Nat) (a1 : Int32) (h : AH) : RR :=
  fX5_cut_7 FU a0 a1 0 0 0 h
set_option maxRecDepth 20000 in
theorem mX5_cut {V : VT} (hV : V.2.2.2.2.2.stackTraces = false) (d : Nat) (a0 : Nat) (a1 : Int32) (h : AH) : zM V yX5_cut cX5_cut 5 none (d + 15) [.ref a0, .int a1] h (fX5_cut a0 a1 h) := by
  refine z_meth hV (by decide +kernel) (Nat.le_of_ble_eq_true rfl) [(0, .ref a0), (1, .int a1)] rfl (fun X => ?_)
  show zG X V RX5 "cut" cX5_cut 5 none (d + 15) h.1 h.2.1 (fX5_cut a0 a1 h) 0 [(0, .ref a0), (1, .int a1)] [] h
  unfold fX5_cut
  refine z_iconst (v := 0) (by decide) dX5_cut_0 ?_
  refine z_istore_n (lv' := [(2, .int 0), (0, .ref a0), (1, .int a1)]) rfl (by decide) rfl dX5_cut_1 ?_
  refine z_iconst (v := 0) (by decide) dX5_cut_2 ?_
  refine z_istore_n (lv' := [(3, .int 0), (2, .int 0), (0, .ref a0), (1, .int a1)]) rfl (by decide) rfl dX5_cut_3 ?_
  refine z_iconst (v := 0) (by decide) dX5_cut_4 ?_
  refine z_istore (lv' := [(4, .int 0), (3, .int 0), (2, .int 0), (0, .ref a0), (1, .int a1)]) (by decide) rfl dX5_cut_5 ?_
  exact z_sub [3, 4, 2, 1, 0] rfl (rX5_cut_7 hV FU a0 a1 0 0 0 h)
