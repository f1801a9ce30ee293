/-! printed by a program of ours (wip/whole/drive.py) out of the code -/
def fX2_init (a0 : Nat) (a1 : Nat) (a2 : Nat) (a3 : Nat) (h : AH) : RR :=
  (zpf h a0 2 2 (.ref a1)).bind fun h1 =>
  (zpf h1 a0 2 3 (.ref a2)).bind fun h2 =>
  (zpf h2 a0 2 4 (.ref a3)).bind fun h3 =>
  zb2 (znM h3 5 64) fun b4 h5 =>
  (zpf h5 a0 2 5 (.ref b4)).bind fun h6 =>
  zb2 (znM h6 5 64) fun b7 h8 =>
  (zpf h8 a0 2 6 (.ref b7)).bind fun h9 =>
  zb2 (znM h9 5 64) fun b10 h11 =>
  (zpf h11 a0 2 7 (.ref b10)).bind fun h12 =>
  some (.inl none, h12)
set_option maxRecDepth 20000 in
theorem mX2_init {V : VT} (hV : V.2.2.2.2.2.stackTraces = false) (d : Nat) (a0 : Nat) (a1 : Nat) (a2 : Nat) (a3 : Nat) (h : AH) : zM V yX2_init cX2_init 4 none (d + 1) [.ref a0, .ref a1, .ref a2, .ref a3] h (fX2_init a0 a1 a2 a3 h) := by
  refine z_meth hV (by decide +kernel) (Nat.le_of_ble_eq_true rfl) [(0, .ref a0), (1, .ref a1), (2, .ref a2), (3, .ref a3)] rfl (fun X => ?_)
  show zG X V RX2 "<init>" cX2_init 4 none (d + 1) h.1 h.2.1 (fX2_init a0 a1 a2 a3 h) 0 [(0, .ref a0), (1, .ref a1), (2, .ref a2), (3, .ref a3)] [] h
  unfold fX2_init
  refine z_aload_n 0 rfl rfl dX2_init_0 ?_
  refine z_objInit zw_268 zw_98 zw_99 (Nat.le_of_ble_eq_true rfl) (by omega) dX2_init_1 ?_
  refine z_aload_n 0 rfl rfl dX2_init_4 ?_
  refine z_aload_n 1 rfl rfl dX2_init_5 ?_
  refine z_pR zf_RX2_9 zq_2_2 (Or.inl ⟨_, rfl⟩) dX2_init_6 (fun h1 => ?_)
  refine z_aload_n 0 rfl rfl dX2_init_9 ?_
  refine z_aload_n 2 rfl rfl dX2_init_10 ?_
  refine z_pR zf_RX2_15 zq_2_3 (Or.inl ⟨_, rfl⟩) dX2_init_11 (fun h2 => ?_)
  refine z_aload_n 0 rfl rfl dX2_init_14 ?_
  refine z_aload_n 3 rfl rfl dX2_init_15 ?_
  refine z_pR zf_RX2_19 zq_2_4 (Or.inl ⟨_, rfl⟩) dX2_init_16 (fun h3 => ?_)
  refine z_aload_n 0 rfl rfl dX2_init_19 ?_
  refine z_iconst (v := 5) (by decide) dX2_init_20 ?_
  refine z_bipush (v := 64) (by decide) dX2_init_21 ?_
  refine z_nM zw_269 zw_173 dX2_init_23 (fun b4 h5 => ?_)
  refine z_pR zf_RX2_25 zq_2_5 (Or.inr ⟨_, rfl⟩) dX2_init_27 (fun h6 => ?_)
  refine z_aload_n 0 rfl rfl dX2_init_30 ?_
  refine z_iconst (v := 5) (by decide) dX2_init_31 ?_
  refine z_bipush (v := 64) (by decide) dX2_init_32 ?_
  refine z_nM zw_269 zw_173 dX2_init_34 (fun b7 h8 => ?_)
  refine z_pR zf_RX2_28 zq_2_6 (Or.inr ⟨_, rfl⟩) dX2_init_38 (fun h9 => ?_)
  refine z_aload_n 0 rfl rfl dX2_init_41 ?_
  refine z_iconst (v := 5) (by decide) dX2_init_42 ?_
  refine z_bipush (v := 64) (by decide) dX2_init_43 ?_
  refine z_nM zw_269 zw_173 dX2_init_45 (fun b10 h11 => ?_)
  refine z_pR zf_RX2_31 zq_2_7 (Or.inr ⟨_, rfl⟩) dX2_init_49 (fun h12 => ?_)
  exact z_vret rfl dX2_init_52
def fX2_refuse (a0 : Nat) (a1 : Int32) (h : AH) : RR :=
  (zpf h a0 2 0 (.int a1)).bind fun h1 =>
  (zgR h1 a0 2 2).bind fun x2 =>
  (zgI h1 x2 5 2).bind fun x3 =>
  (zpf h1 a0 2 1 (.int x3)).bind fun h4 =>
  zbr 0 h4
set_option maxRecDepth 20000 in
theorem mX2_refuse {V : VT} (hV : V.2.2.2.2.2.stackTraces = false) (d : Nat) (a0 : Nat) (a1 : Int32) (h : AH) : zM V yX2_refuse cX2_refuse 2 (some .boolean) (d + 1) [.ref a0, .int a1] h (fX2_refuse a0 a1 h) := by
  refine z_meth hV (by decide +kernel) (Nat.le_of_ble_eq_true rfl) [(0, .ref a0), (1, .int a1)] rfl (fun X => ?_)
  show zG X V RX2 "refuse" cX2_refuse 2 (some .boolean) (d + 1) h.1 h.2.1 (fX2_refuse a0 a1 h) 0 [(0, .ref a0), (1, .int a1)] [] h
  unfold fX2_refuse
  refine z_aload_n 0 rfl rfl dX2_refuse_0 ?_
  refine z_iload_n 1 rfl rfl dX2_refuse_1 ?_
  refine z_pI zf_RX2_34 zq_2_0 rfl dX2_refuse_2 (fun h1 => ?_)
  refine z_aload_n 0 rfl rfl dX2_refuse_5 ?_
  refine z_aload_n 0 rfl rfl dX2_refuse_6 ?_
  refine z_gR zf_RX2_9 dX2_refuse_7 (fun x2 => ?_)
  refine z_gI zf_RX2_77 dX2_refuse_10 (fun x3 => ?_)
  refine z_pI zf_RX2_38 zq_2_1 rfl dX2_refuse_13 (fun h4 => ?_)
  refine z_iconst (v := 0) (by decide) dX2_refuse_16 ?_
  exact z_zret rfl dX2_refuse_17
def fX2_seeNumber (a0 : Nat) (a1 : Int32) (h : AH) : RR :=
  (zgR h a0 2 2).bind fun x1 =>
  (zgI h x1 5 1).bind fun x2 =>
  if x2 = 1 then (
    (zgR h a0 2 2).bind fun x3 =>
    (zgI h x3 5 3).bind fun x4 =>
    if x4 ≤ a1 then (
      zbr 1 h)
    else
    zcv (zob h a0 2) (fX2_refuse a0 2 h) fun v5 h6 =>
    zvi v5 fun x7 =>
    if x7 = 0 then (
      zbr 0 h6)
    else
    zbr 1 h6)
  else
  zcv (zob h a0 2) (fX2_refuse a0 1 h) fun v8 h9 =>
  zvi v8 fun x10 =>
  zbr x10 h9
set_option maxRecDepth 20000 in
theorem mX2_seeNumber {V : VT} (hV : V.2.2.2.2.2.stackTraces = false) (d : Nat) (a0 : Nat) (a1 : Int32) (h : AH) : zM V yX2_seeNumber cX2_seeNumber 2 (some .boolean) (d + 2) [.ref a0, .int a1] h (fX2_seeNumber a0 a1 h) := by
  refine z_meth hV (by decide +kernel) (Nat.le_of_ble_eq_true rfl) [(0, .ref a0), (1, .int a1)] rfl (fun X => ?_)
  show zG X V RX2 "seeNumber" cX2_seeNumber 2 (some .boolean) (d + 2) h.1 h.2.1 (fX2_seeNumber a0 a1 h) 0 [(0, .ref a0), (1, .int a1)] [] h
  unfold fX2_seeNumber
  refine z_aload_n 0 rfl rfl dX2_seeNumber_0 ?_
  refine z_gR zf_RX2_9 dX2_seeNumber_1 (fun x1 => ?_)
  refine z_gI zf_RX2_50 dX2_seeNumber_4 (fun x2 => ?_)
  refine z_iconst (v := 1) (by decide) dX2_seeNumber_7 ?_
  refine z_icmp_eq 17 (by decide) dX2_seeNumber_8 ?_ ?_
  · refine z_aload_n 0 rfl rfl dX2_seeNumber_17 ?_
    refine z_gR zf_RX2_9 dX2_seeNumber_18 (fun x3 => ?_)
    refine z_gI zf_RX2_80 dX2_seeNumber_21 (fun x4 => ?_)
    refine z_iload_n 1 rfl rfl dX2_seeNumber_24 ?_
    refine z_icmp_le 36 (by decide) dX2_seeNumber_25 ?_ ?_
    · refine z_iconst (v := 1) (by decide) dX2_seeNumber_36 ?_
      refine z_goto 41 (by decide) dX2_seeNumber_37 ?_
      exact z_zret rfl dX2_seeNumber_41
    · refine z_aload_n 0 rfl rfl dX2_seeNumber_28 ?_
      refine z_iconst (v := 2) (by decide) dX2_seeNumber_29 ?_
      refine z_cV (st := []) [.int 2] zk_RX2_55 rfl (Nat.le_of_ble_eq_true rfl) dX2_seeNumber_30 (mX2_refuse hV (d + 0) a0 2 h) (fun v5 h6 => ?_)
      refine z_vi (fun x7 => ?_)
      refine z_if_eq 40 (by decide) dX2_seeNumber_33 ?_ ?_
      · refine z_iconst (v := 0) (by decide) dX2_seeNumber_40 ?_
        exact z_zret rfl dX2_seeNumber_41
      · refine z_iconst (v := 1) (by decide) dX2_seeNumber_36 ?_
        refine z_goto 41 (by decide) dX2_seeNumber_37 ?_
        exact z_zret rfl dX2_seeNumber_41
  · refine z_aload_n 0 rfl rfl dX2_seeNumber_11 ?_
    refine z_iconst (v := 1) (by decide) dX2_seeNumber_12 ?_
    refine z_cV (st := []) [.int 1] zk_RX2_55 rfl (Nat.le_of_ble_eq_true rfl) dX2_seeNumber_13 (mX2_refuse hV (d + 0) a0 1 h) (fun v8 h9 => ?_)
    refine z_vi (fun x10 => ?_)
    exact z_zret rfl dX2_seeNumber_16
def fX2_isPrime_2 : Nat → Int32 → Int32 → AH → RR
  | 0, _, _, _ => none
  | k + 1, l0, l1, h =>
  if l0 ≤ l1 then (
    if l0 < 2 then (
      zbr 0 h)
    else
    zbr 1 h)
  else
  if l1 = 0 then none else
  if (l0 - l0 / l1 * l1) = 0 then (
    zbr 0 h)
  else
  fX2_isPrime_2 k l0 (l1 + 1) h
set_option maxRecDepth 20000 in
theorem rX2_isPrime_2 {X : CT} {V : VT} {d n0 k0 : Nat} (hV : V.2.2.2.2.2.stackTraces = false) (fu : Nat) : ∀ (l0 : Int32) (l1 : Int32) (h : AH), zG X V RX2 "isPrime" cX2_isPrime 2 (some .boolean) (d + 1) n0 k0 (fX2_isPrime_2 fu l0 l1 h) 2 [(0, .int l0), (1, .int l1)] [] h := by
  induction fu with
  | zero => intros; exact z_none
  | succ k ih =>
    intro l0 l1 h
    rw [fX2_isPrime_2]
    refine z_iload_n 1 rfl rfl dX2_isPrime_2 ?_
    refine z_iload_n 0 rfl rfl dX2_isPrime_3 ?_
    refine z_icmp_ge 21 (by decide) dX2_isPrime_4 ?_ ?_
    · refine z_iload_n 0 rfl rfl dX2_isPrime_21 ?_
      refine z_iconst (v := 2) (by decide) dX2_isPrime_22 ?_
      refine z_icmp_lt 30 (by decide) dX2_isPrime_23 ?_ ?_
      · refine z_iconst (v := 0) (by decide) dX2_isPrime_30 ?_
        exact z_zret rfl dX2_isPrime_31
      · refine z_iconst (v := 1) (by decide) dX2_isPrime_26 ?_
        refine z_goto 31 (by decide) dX2_isPrime_27 ?_
        exact z_zret rfl dX2_isPrime_31
    · refine z_iload_n 0 rfl rfl dX2_isPrime_7 ?_
      refine z_iload_n 1 rfl rfl dX2_isPrime_8 ?_
      refine z_irem dX2_isPrime_9 ?_
      refine z_if_ne 15 (by decide) dX2_isPrime_10 ?_ ?_
      · refine z_iconst (v := 0) (by decide) dX2_isPrime_13 ?_
        exact z_zret rfl dX2_isPrime_14
      · refine z_inc (w := 1) (lv' := [(1, .int (l1 + 1)), (0, .int l0)]) 1 rfl (by decide) (by decide) rfl dX2_isPrime_15 ?_
        refine z_goto 2 (by decide) dX2_isPrime_18 ?_
        exact z_sub [1, 0] rfl (ih l0 (l1 + 1) h)
def fX2_isPrime (a0 : Int32) (h : AH) : RR :=
  fX2_isPrime_2 FU a0 2 h
set_option maxRecDepth 20000 in
theorem mX2_isPrime {V : VT} (hV : V.2.2.2.2.2.stackTraces = false) (d : Nat) (a0 : Int32) (h : AH) : zM V yX2_isPrime cX2_isPrime 2 (some .boolean) (d + 1) [.int a0] h (fX2_isPrime a0 h) := by
  refine z_meth hV (by decide +kernel) (Nat.le_of_ble_eq_true rfl) [(0, .int a0)] rfl (fun X => ?_)
  show zG X V RX2 "isPrime" cX2_isPrime 2 (some .boolean) (d + 1) h.1 h.2.1 (fX2_isPrime a0 h) 0 [(0, .int a0)] [] h
  unfold fX2_isPrime
  refine z_iconst (v := 2) (by decide) dX2_isPrime_0 ?_
  refine z_istore_n (lv' := [(1, .int 2), (0, .int a0)]) rfl (by decide) rfl dX2_isPrime_1 ?_
  exact z_sub [1, 0] rfl (rX2_isPrime_2 hV FU a0 2 h)
def fX2_takeSign (a0 : Nat) (a1 : Int32) (h : AH) : RR :=
  (zgR h a0 2 2).bind fun x1 =>
  (zgI h x1 5 1).bind fun x2 =>
  if x2 = a1 then (
    (zgR h a0 2 2).bind fun x3 =>
    zcv (zob h x3 5) (fX5_step x3 h) fun v4 h5 =>
    zvn v4 <|
    zbr 1 h5)
  else
  zcv (zob h a0 2) (fX2_refuse a0 1 h) fun v6 h7 =>
  zvi v6 fun x8 =>
  zbr x8 h7
set_option maxRecDepth 20000 in
theorem mX2_takeSign {V : VT} (hV : V.2.2.2.2.2.stackTraces = false) (d : Nat) (a0 : Nat) (a1 : Int32) (h : AH) : zM V yX2_takeSign cX2_takeSign 2 (some .boolean) (d + 2) [.ref a0, .int a1] h (fX2_takeSign a0 a1 h) := by
  refine z_meth hV (by decide +kernel) (Nat.le_of_ble_eq_true rfl) [(0, .ref a0), (1, .int a1)] rfl (fun X => ?_)
  show zG X V RX2 "takeSign" cX2_takeSign 2 (some .boolean) (d + 2) h.1 h.2.1 (fX2_takeSign a0 a1 h) 0 [(0, .ref a0), (1, .int a1)] [] h
  unfold fX2_takeSign
  refine z_aload_n 0 rfl rfl dX2_takeSign_0 ?_
  refine z_gR zf_RX2_9 dX2_takeSign_1 (fun x1 => ?_)
  refine z_gI zf_RX2_50 dX2_takeSign_4 (fun x2 => ?_)
  refine z_iload_n 1 rfl rfl dX2_takeSign_7 ?_
  refine z_icmp_eq 17 (by decide) dX2_takeSign_8 ?_ ?_
  · refine z_aload_n 0 rfl rfl dX2_takeSign_17 ?_
    refine z_gR zf_RX2_9 dX2_takeSign_18 (fun x3 => ?_)
    refine z_cV (st := []) [] zk_RX2_59 rfl (Nat.le_of_ble_eq_true rfl) dX2_takeSign_21 (mX5_step hV (d + 0) x3 h) (fun v4 h5 => ?_)
    refine z_vn ?_
    refine z_iconst (v := 1) (by decide) dX2_takeSign_24 ?_
    exact z_zret rfl dX2_takeSign_25
  · refine z_aload_n 0 rfl rfl dX2_takeSign_11 ?_
    refine z_iconst (v := 1) (by decide) dX2_takeSign_12 ?_
    refine z_cV (st := []) [.int 1] zk_RX2_55 rfl (Nat.le_of_ble_eq_true rfl) dX2_takeSign_13 (mX2_refuse hV (d + 0) a0 1 h) (fun v6 h7 => ?_)
    refine z_vi (fun x8 => ?_)
    exact z_zret rfl dX2_takeSign_16
def fX2_readField_96 (l0 : Nat) (h : AH) : RR :=
  zcv (zob h l0 2) (fX2_refuse l0 2 h) fun v1 h2 =>
  zvi v1 fun x3 =>
  zbr x3 h2
set_option maxRecDepth 20000 in
theorem rX2_readField_96 {X : CT} {V : VT} {d n0 k0 : Nat} (hV : V.2.2.2.2.2.stackTraces = false) (l0 : Nat) (h : AH) : zG X V RX2 "readField" cX2_readField 3 (some .boolean) (d + 4) n0 k0 (fX2_readField_96 l0 h) 96 [(0, .ref l0)] [] h := by
  unfold fX2_readField_96
  refine z_aload_n 0 rfl rfl dX2_readField_96 ?_
  refine z_iconst (v := 2) (by decide) dX2_readField_97 ?_
  refine z_cV (st := []) [.int 2] zk_RX2_55 rfl (Nat.le_of_ble_eq_true rfl) dX2_readField_98 (mX2_refuse hV (d + 2) l0 2 h) (fun v1 h2 => ?_)
  refine z_vi (fun x3 => ?_)
  exact z_zret rfl dX2_readField_101
def fX2_readField (a0 : Nat) (h : AH) : RR :=
  (zgR h a0 2 2).bind fun x1 =>
  (zgI h x1 5 1).bind fun x2 =>
  if x2 = 2 then (
    (zgR h a0 2 2).bind fun x3 =>
    zcv (zob h x3 5) (fX5_step x3 h) fun v4 h5 =>
    zvn v4 <|
    zcv (zob h5 a0 2) (fX2_seeNumber a0 64 h5) fun v6 h7 =>
    zvi v6 fun x8 =>
    if x8 = 0 then (
      zbr 0 h7)
    else
    (zgR h7 a0 2 2).bind fun x9 =>
    (zgI h7 x9 5 3).bind fun x10 =>
    zca (fX2_isPrime x10 h7) fun v11 h12 =>
    zvi v11 fun x13 =>
    if x13 = 0 then (
      zcv (zob h12 a0 2) (fX2_refuse a0 2 h12) fun v14 h15 =>
      zvi v14 fun x16 =>
      zbr x16 h15)
    else
    (zgR h12 a0 2 2).bind fun x17 =>
    zcv (zob h12 x17 5) (fX5_step x17 h12) fun v18 h19 =>
    zvn v18 <|
    zcv (zob h19 a0 2) (fX2_seeNumber a0 64 h19) fun v20 h21 =>
    zvi v20 fun x22 =>
    if x22 = 0 then (
      zbr 0 h21)
    else
    (zgR h21 a0 2 2).bind fun x23 =>
    (zgI h21 x23 5 3).bind fun x24 =>
    if x24 = 0 then (
      fX2_readField_96 a0 h21)
    else
    zca (fX0_sizeOf x10 x24 h21) fun v25 h26 =>
    zvi v25 fun x27 =>
    if x27 ≤ 64 then (
      (zgR h26 a0 2 2).bind fun x28 =>
      zcv (zob h26 x28 5) (fX5_step x28 h26) fun v29 h30 =>
      zvn v29 <|
      (zgR h30 a0 2 4).bind fun x31 =>
      (zpf h30 x31 3 0 (.int x10)).bind fun h32 =>
      (zgR h32 a0 2 4).bind fun x33 =>
      (zpf h32 x33 3 1 (.int x24)).bind fun h34 =>
      (zgR h34 a0 2 3).bind fun x35 =>
      zcv (zob h34 x35 0) (fX0_tune x35 x10 x24 h34) fun v36 h37 =>
      zvn v36 <|
      zcv (zob h37 a0 2) (fX2_takeSign a0 59 h37) fun v38 h39 =>
      zvi v38 fun x40 =>
      zbr x40 h39)
    else
    fX2_readField_96 a0 h26)
  else
  zcv (zob h a0 2) (fX2_refuse a0 1 h) fun v41 h42 =>
  zvi v41 fun x43 =>
  zbr x43 h42
set_option maxRecDepth 20000 in
theorem mX2_readField {V : VT} (hV : V.2.2.2.2.2.stackTraces = false) (d : Nat) (a0 : Nat) (h : AH) : zM V yX2_readField cX2_readField 3 (some .boolean) (d + 4) [.ref a0] h (fX2_readField a0 h) := by
  refine z_meth hV (by decide +kernel) (Nat.le_of_ble_eq_true rfl) [(0, .ref a0)] rfl (fun X => ?_)
  show zG X V RX2 "readField" cX2_readField 3 (some .boolean) (d + 4) h.1 h.2.1 (fX2_readField a0 h) 0 [(0, .ref a0)] [] h
  unfold fX2_readField
  refine z_aload_n 0 rfl rfl dX2_readField_0 ?_
  refine z_gR zf_RX2_9 dX2_readField_1 (fun x1 => ?_)
  refine z_gI zf_RX2_50 dX2_readField_4 (fun x2 => ?_)
  refine z_iconst (v := 2) (by decide) dX2_readField_7 ?_
  refine z_icmp_eq 17 (by decide) dX2_readField_8 ?_ ?_
  · refine z_aload_n 0 rfl rfl dX2_readField_17 ?_
    refine z_gR zf_RX2_9 dX2_readField_18 (fun x3 => ?_)
    refine z_cV (st := []) [] zk_RX2_59 rfl (Nat.le_of_ble_eq_true rfl) dX2_readField_21 (mX5_step hV (d + 2) x3 h) (fun v4 h5 => ?_)
    refine z_vn ?_
    refine z_aload_n 0 rfl rfl dX2_readField_24 ?_
    refine z_bipush (v := 64) (by decide) dX2_readField_25 ?_
    refine z_cV (st := []) [.int 64] zk_RX2_83 rfl (Nat.le_of_ble_eq_true rfl) dX2_readField_27 (mX2_seeNumber hV (d + 1) a0 64 h5) (fun v6 h7 => ?_)
    refine z_vi (fun x8 => ?_)
    refine z_if_ne 35 (by decide) dX2_readField_30 ?_ ?_
    · refine z_iconst (v := 0) (by decide) dX2_readField_33 ?_
      exact z_zret rfl dX2_readField_34
    · refine z_aload_n 0 rfl rfl dX2_readField_35 ?_
      refine z_gR zf_RX2_9 dX2_readField_36 (fun x9 => ?_)
      refine z_gI zf_RX2_80 dX2_readField_39 (fun x10 => ?_)
      refine z_istore_n (lv' := [(1, .int x10), (0, .ref a0)]) rfl (by decide) rfl dX2_readField_42 ?_
      refine z_iload_n 0 rfl rfl dX2_readField_43 ?_
      refine z_cS (st := []) [.int x10] zk_RX2_86 rfl (Nat.le_of_ble_eq_true rfl) dX2_readField_44 (mX2_isPrime hV (d + 2) x10 h7) (fun v11 h12 => ?_)
      refine z_vi (fun x13 => ?_)
      refine z_if_ne 56 (by decide) dX2_readField_47 ?_ ?_
      · refine z_aload_n 1 rfl rfl dX2_readField_50 ?_
        refine z_iconst (v := 2) (by decide) dX2_readField_51 ?_
        refine z_cV (st := []) [.int 2] zk_RX2_55 rfl (Nat.le_of_ble_eq_true rfl) dX2_readField_52 (mX2_refuse hV (d + 2) a0 2 h12) (fun v14 h15 => ?_)
        refine z_vi (fun x16 => ?_)
        exact z_zret rfl dX2_readField_55
      · refine z_aload_n 1 rfl rfl dX2_readField_56 ?_
        refine z_gR zf_RX2_9 dX2_readField_57 (fun x17 => ?_)
        refine z_cV (st := []) [] zk_RX2_59 rfl (Nat.le_of_ble_eq_true rfl) dX2_readField_60 (mX5_step hV (d + 2) x17 h12) (fun v18 h19 => ?_)
        refine z_vn ?_
        refine z_aload_n 1 rfl rfl dX2_readField_63 ?_
        refine z_bipush (v := 64) (by decide) dX2_readField_64 ?_
        refine z_cV (st := []) [.int 64] zk_RX2_83 rfl (Nat.le_of_ble_eq_true rfl) dX2_readField_66 (mX2_seeNumber hV (d + 1) a0 64 h19) (fun v20 h21 => ?_)
        refine z_vi (fun x22 => ?_)
        refine z_if_ne 74 (by decide) dX2_readField_69 ?_ ?_
        · refine z_iconst (v := 0) (by decide) dX2_readField_72 ?_
          exact z_zret rfl dX2_readField_73
        · refine z_aload_n 1 rfl rfl dX2_readField_74 ?_
          refine z_gR zf_RX2_9 dX2_readField_75 (fun x23 => ?_)
          refine z_gI zf_RX2_80 dX2_readField_78 (fun x24 => ?_)
          refine z_istore_n (lv' := [(2, .int x24), (1, .int x10), (0, .ref a0)]) rfl (by decide) rfl dX2_readField_81 ?_
          refine z_iload_n 0 rfl rfl dX2_readField_82 ?_
          refine z_if_eq 96 (by decide) dX2_readField_83 ?_ ?_
          · exact z_sub [2] rfl (rX2_readField_96 hV a0 h21)
          · refine z_iload_n 1 rfl rfl dX2_readField_86 ?_
            refine z_iload_n 0 rfl rfl dX2_readField_87 ?_
            refine z_cS (st := []) [.int x10, .int x24] zk_RX2_89 rfl (Nat.le_of_ble_eq_true rfl) dX2_readField_88 (mX0_sizeOf hV (d + 2) x10 x24 h21) (fun v25 h26 => ?_)
            refine z_vi (fun x27 => ?_)
            refine z_bipush (v := 64) (by decide) dX2_readField_91 ?_
            refine z_icmp_le 102 (by decide) dX2_readField_93 ?_ ?_
            · refine z_aload_n 2 rfl rfl dX2_readField_102 ?_
              refine z_gR zf_RX2_9 dX2_readField_103 (fun x28 => ?_)
              refine z_cV (st := []) [] zk_RX2_59 rfl (Nat.le_of_ble_eq_true rfl) dX2_readField_106 (mX5_step hV (d + 2) x28 h26) (fun v29 h30 => ?_)
              refine z_vn ?_
              refine z_aload_n 2 rfl rfl dX2_readField_109 ?_
              refine z_gR zf_RX2_19 dX2_readField_110 (fun x31 => ?_)
              refine z_iload_n 1 rfl rfl dX2_readField_113 ?_
              refine z_pI zf_RX2_95 zq_3_0 rfl dX2_readField_114 (fun h32 => ?_)
              refine z_aload_n 2 rfl rfl dX2_readField_117 ?_
              refine z_gR zf_RX2_19 dX2_readField_118 (fun x33 => ?_)
              refine z_iload_n 0 rfl rfl dX2_readField_121 ?_
              refine z_pI zf_RX2_98 zq_3_1 rfl dX2_readField_122 (fun h34 => ?_)
              refine z_aload_n 2 rfl rfl dX2_readField_125 ?_
              refine z_gR zf_RX2_15 dX2_readField_126 (fun x35 => ?_)
              refine z_iload_n 1 rfl rfl dX2_readField_129 ?_
              refine z_iload_n 0 rfl rfl dX2_readField_130 ?_
              refine z_cV (st := []) [.int x10, .int x24] zk_RX2_101 rfl (Nat.le_of_ble_eq_true rfl) dX2_readField_131 (mX0_tune hV (d + 0) x35 x10 x24 h34) (fun v36 h37 => ?_)
              refine z_vn ?_
              refine z_aload_n 2 rfl rfl dX2_readField_134 ?_
              refine z_bipush (v := 59) (by decide) dX2_readField_135 ?_
              refine z_cV (st := []) [.int 59] zk_RX2_65 rfl (Nat.le_of_ble_eq_true rfl) dX2_readField_137 (mX2_takeSign hV (d + 1) a0 59 h37) (fun v38 h39 => ?_)
              refine z_vi (fun x40 => ?_)
              exact z_zret rfl dX2_readField_140
            · exact z_sub [2] rfl (rX2_readField_96 hV a0 h26)
  · refine z_aload_n 0 rfl rfl dX2_readField_11 ?_
    refine z_iconst (v := 1) (by decide) dX2_readField_12 ?_
    refine z_cV (st := []) [.int 1] zk_RX2_55 rfl (Nat.le_of_ble_eq_true rfl) dX2_readField_13 (mX2_refuse hV (d + 2) a0 1 h) (fun v41 h42 => ?_)
    refine z_vi (fun x43 => ?_)
    exact z_zret rfl dX2_readField_16
def fX2_readPoint_20 : Nat → Nat → Nat → Int32 → AH → RR
  | 0, _, _, _, _ => none
  | k + 1, l0, l1, l2, h =>
  (zgR h l0 2 3).bind fun x1 =>
  (zgI h x1 0 2).bind fun x2 =>
  if x2 ≤ l2 then (
    (zgR h l0 2 2).bind fun x3 =>
    zcv (zob h x3 5) (fX5_step x3 h) fun v4 h5 =>
    zvn v4 <|
    zbr 1 h5)
  else
  (zgR h l0 2 2).bind fun x6 =>
  (zgI h x6 5 3).bind fun x7 =>
  (zsi h l1 l2 x7).bind fun h8 =>
  fX2_readPoint_20 k l0 l1 (l2 + 1) h8
set_option maxRecDepth 20000 in
theorem rX2_readPoint_20 {X : CT} {V : VT} {d n0 k0 : Nat} (hV : V.2.2.2.2.2.stackTraces = false) (fu : Nat) : ∀ (l0 : Nat) (l1 : Nat) (l2 : Int32) (h : AH), zG X V RX2 "readPoint" cX2_readPoint 3 (some .boolean) (d + 3) n0 k0 (fX2_readPoint_20 fu l0 l1 l2 h) 20 [(0, .ref l0), (1, .ref l1), (2, .int l2)] [] h := by
  induction fu with
  | zero => intros; exact z_none
  | succ k ih =>
    intro l0 l1 l2 h
    rw [fX2_readPoint_20]
    refine z_iload_n 2 rfl rfl dX2_readPoint_20 ?_
    refine z_aload_n 0 rfl rfl dX2_readPoint_21 ?_
    refine z_gR zf_RX2_15 dX2_readPoint_22 (fun x1 => ?_)
    refine z_gI zf_RX2_108 dX2_readPoint_25 (fun x2 => ?_)
    refine z_icmp_ge 47 (by decide) dX2_readPoint_28 ?_ ?_
    · refine z_aload_n 0 rfl rfl dX2_readPoint_47 ?_
      refine z_gR zf_RX2_9 dX2_readPoint_48 (fun x3 => ?_)
      refine z_cV (st := []) [] zk_RX2_59 rfl (Nat.le_of_ble_eq_true rfl) dX2_readPoint_51 (mX5_step hV (d + 1) x3 h) (fun v4 h5 => ?_)
      refine z_vn ?_
      refine z_iconst (v := 1) (by decide) dX2_readPoint_54 ?_
      exact z_zret rfl dX2_readPoint_55
    · refine z_aload_n 1 rfl rfl dX2_readPoint_31 ?_
      refine z_iload_n 2 rfl rfl dX2_readPoint_32 ?_
      refine z_aload_n 0 rfl rfl dX2_readPoint_33 ?_
      refine z_gR zf_RX2_9 dX2_readPoint_34 (fun x6 => ?_)
      refine z_gI zf_RX2_80 dX2_readPoint_37 (fun x7 => ?_)
      refine z_sI dX2_readPoint_40 (fun h8 => ?_)
      refine z_inc (w := 1) (lv' := [(2, .int (l2 + 1)), (0, .ref l0), (1, .ref l1)]) 2 rfl (by decide) (by decide) rfl dX2_readPoint_41 ?_
      refine z_goto 20 (by decide) dX2_readPoint_44 ?_
      exact z_sub [1, 2, 0] rfl (ih l0 l1 (l2 + 1) h8)
def fX2_readPoint (a0 : Nat) (a1 : Nat) (h : AH) : RR :=
  (zgR h a0 2 3).bind fun x1 =>
  (zgI h x1 0 2).bind fun x2 =>
  zcv (zob h a0 2) (fX2_seeNumber a0 (x2 - 1) h) fun v3 h4 =>
  zvi v3 fun x5 =>
  if x5 = 0 then (
    zbr 0 h4)
  else
  fX2_readPoint_20 FU a0 a1 0 h4
set_option maxRecDepth 20000 in
theorem mX2_readPoint {V : VT} (hV : V.2.2.2.2.2.stackTraces = false) (d : Nat) (a0 : Nat) (a1 : Nat) (h : AH) : zM V yX2_readPoint cX2_readPoint 3 (some .boolean) (d + 3) [.ref a0, .ref a1] h (fX2_readPoint a0 a1 h) := by
  refine z_meth hV (by decide +kernel) (Nat.le_of_ble_eq_true rfl) [(0, .ref a0), (1, .ref a1)] rfl (fun X => ?_)
  show zG X V RX2 "readPoint" cX2_readPoint 3 (some .boolean) (d + 3) h.1 h.2.1 (fX2_readPoint a0 a1 h) 0 [(0, .ref a0), (1, .ref a1)] [] h
  unfold fX2_readPoint
  refine z_aload_n 0 rfl rfl dX2_readPoint_0 ?_
  refine z_aload_n 0 rfl rfl dX2_readPoint_1 ?_
  refine z_gR zf_RX2_15 dX2_readPoint_2 (fun x1 => ?_)
  refine z_gI zf_RX2_108 dX2_readPoint_5 (fun x2 => ?_)
  refine z_iconst (v := 1) (by decide) dX2_readPoint_8 ?_
  refine z_isub dX2_readPoint_9 ?_
  refine z_cV (st := []) [.int (x2 - 1)] zk_RX2_83 rfl (Nat.le_of_ble_eq_true rfl) dX2_readPoint_10 (mX2_seeNumber hV (d + 0) a0 (x2 - 1) h) (fun v3 h4 => ?_)
  refine z_vi (fun x5 => ?_)
  refine z_if_ne 18 (by decide) dX2_readPoint_13 ?_ ?_
  · refine z_iconst (v := 0) (by decide) dX2_readPoint_16 ?_
    exact z_zret rfl dX2_readPoint_17
  · refine z_iconst (v := 0) (by decide) dX2_readPoint_18 ?_
    refine z_istore_n (lv' := [(2, .int 0), (0, .ref a0), (1, .ref a1)]) rfl (by decide) rfl dX2_readPoint_19 ?_
    exact z_sub [1, 2, 0] rfl (rX2_readPoint_20 hV FU a0 a1 0 h4)
def fX2_readX_2 : Nat → Nat → Nat → Int32 → AH → RR
  | 0, _, _, _, _ => none
  | k + 1, l0, l1, l2, h =>
  (zgR h l0 2 3).bind fun x1 =>
  (zgI h x1 0 2).bind fun x2 =>
  if x2 ≤ l2 then (
    (zgR h l0 2 2).bind fun x3 =>
    zcv (zob h x3 5) (fX5_step x3 h) fun v4 h5 =>
    zvn v4 <|
    zbr 1 h5)
  else
  (zsi h l1 l2 l2).bind fun h6 =>
  fX2_readX_2 k l0 l1 (l2 + 1) h6
set_option maxRecDepth 20000 in
theorem rX2_readX_2 {X : CT} {V : VT} {d n0 k0 : Nat} (hV : V.2.2.2.2.2.stackTraces = false) (fu : Nat) : ∀ (l0 : Nat) (l1 : Nat) (l2 : Int32) (h : AH), zG X V RX2 "readX" cX2_readX 3 (some .boolean) (d + 2) n0 k0 (fX2_readX_2 fu l0 l1 l2 h) 2 [(0, .ref l0), (1, .ref l1), (2, .int l2)] [] h := by
  induction fu with
  | zero => intros; exact z_none
  | succ k ih =>
    intro l0 l1 l2 h
    rw [fX2_readX_2]
    refine z_iload_n 2 rfl rfl dX2_readX_2 ?_
    refine z_aload_n 0 rfl rfl dX2_readX_3 ?_
    refine z_gR zf_RX2_15 dX2_readX_4 (fun x1 => ?_)
    refine z_gI zf_RX2_108 dX2_readX_7 (fun x2 => ?_)
    refine z_icmp_ge 23 (by decide) dX2_readX_10 ?_ ?_
    · refine z_aload_n 0 rfl rfl dX2_readX_23 ?_
      refine z_gR zf_RX2_9 dX2_readX_24 (fun x3 => ?_)
      refine z_cV (st := []) [] zk_RX2_59 rfl (Nat.le_of_ble_eq_true rfl) dX2_readX_27 (mX5_step hV (d + 0) x3 h) (fun v4 h5 => ?_)
      refine z_vn ?_
      refine z_iconst (v := 1) (by decide) dX2_readX_30 ?_
      exact z_zret rfl dX2_readX_31
    · refine z_aload_n 1 rfl rfl dX2_readX_13 ?_
      refine z_iload_n 2 rfl rfl dX2_readX_14 ?_
      refine z_iload_n 2 rfl rfl dX2_readX_15 ?_
      refine z_sI dX2_readX_16 (fun h6 => ?_)
      refine z_inc (w := 1) (lv' := [(2, .int (l2 + 1)), (0, .ref l0), (1, .ref l1)]) 2 rfl (by decide) (by decide) rfl dX2_readX_17 ?_
      refine z_goto 2 (by decide) dX2_readX_20 ?_
      exact z_sub [1, 2, 0] rfl (ih l0 l1 (l2 + 1) h6)
def fX2_readX (a0 : Nat) (a1 : Nat) (h : AH) : RR :=
  fX2_readX_2 FU a0 a1 0 h
set_option maxRecDepth 20000 in
theorem mX2_readX {V : VT} (hV : V.2.2.2.2.2.stackTraces = false) (d : Nat) (a0 : Nat) (a1 : Nat) (h : AH) : zM V yX2_readX cX2_readX 3 (some .boolean) (d + 2) [.ref a0, .ref a1] h (fX2_readX a0 a1 h) := by
  refine z_meth hV (by decide +kernel) (Nat.le_of_ble_eq_true rfl) [(0, .ref a0), (1, .ref a1)] rfl (fun X => ?_)
  show zG X V RX2 "readX" cX2_readX 3 (some .boolean) (d + 2) h.1 h.2.1 (fX2_readX a0 a1 h) 0 [(0, .ref a0), (1, .ref a1)] [] h
  unfold fX2_readX
  refine z_iconst (v := 0) (by decide) dX2_readX_0 ?_
  refine z_istore_n (lv' := [(2, .int 0), (0, .ref a0), (1, .ref a1)]) rfl (by decide) rfl dX2_readX_1 ?_
  exact z_sub [1, 2, 0] rfl (rX2_readX_2 hV FU a0 a1 0 h)
def fX2_readBracket (S : Nat → Int32 → AH → RR) (a0 : Nat) (a1 : Int32) (h : AH) : RR :=
  (zgR h a0 2 2).bind fun x1 =>
  (zgI h x1 5 1).bind fun x2 =>
  if x2 = 40 then (
    if a1 < 4 then (
      (zgR h a0 2 2).bind fun x3 =>
      zcv (zob h x3 5) (fX5_step x3 h) fun v4 h5 =>
      zvn v4 <|
      zcv (zob h5 a0 2) (S a0 (a1 + 1) h5) fun v6 h7 =>
      zvi v6 fun x8 =>
      if x8 = 0 then (
        zbr 0 h7)
      else
      (zgR h7 a0 2 2).bind fun x9 =>
      (zgI h7 x9 5 1).bind fun x10 =>
      if x10 = 41 then (
        (zgR h7 a0 2 2).bind fun x11 =>
        zcv (zob h7 x11 5) (fX5_step x11 h7) fun v12 h13 =>
        zvn v12 <|
        (zgR h13 a0 2 5).bind fun x14 =>
        (zar h13 x14 (a1 + 1)).bind fun x15 =>
        (zgR h13 a0 2 7).bind fun x16 =>
        (zar h13 x16 a1).bind fun x17 =>
        (zcp h13 x15 0 x17 0 64).bind fun h18 =>
        zbr 1 h18)
      else
      zcv (zob h7 a0 2) (fX2_refuse a0 1 h7) fun v19 h20 =>
      zvi v19 fun x21 =>
      zbr x21 h20)
    else
    zcv (zob h a0 2) (fX2_refuse a0 4 h) fun v22 h23 =>
    zvi v22 fun x24 =>
    zbr x24 h23)
  else
  zcv (zob h a0 2) (fX2_refuse a0 1 h) fun v25 h26 =>
  zvi v25 fun x27 =>
  zbr x27 h26
set_option maxRecDepth 20000 in
theorem mX2_readBracket {V : VT} (hV : V.2.2.2.2.2.stackTraces = false) (d : Nat) (S : Nat → Int32 → AH → RR) (hS : ∀ (e : Nat) (u0 : Nat) (u1 : Int32) (h : AH), zM V yX2_readSum cX2_readSum 7 (some .boolean) (d + e + 4) [.ref u0, .int u1] h (S u0 u1 h)) (a0 : Nat) (a1 : Int32) (h : AH) : zM V yX2_readBracket cX2_readBracket 2 (some .boolean) (d + 5) [.ref a0, .int a1] h (fX2_readBracket S a0 a1 h) := by
  refine z_meth hV (by decide +kernel) (Nat.le_of_ble_eq_true rfl) [(0, .ref a0), (1, .int a1)] rfl (fun X => ?_)
  show zG X V RX2 "readBracket" cX2_readBracket 2 (some .boolean) (d + 5) h.1 h.2.1 (fX2_readBracket S a0 a1 h) 0 [(0, .ref a0), (1, .int a1)] [] h
  unfold fX2_readBracket
  refine z_aload_n 0 rfl rfl dX2_readBracket_0 ?_
  refine z_gR zf_RX2_9 dX2_readBracket_1 (fun x1 => ?_)
  refine z_gI zf_RX2_50 dX2_readBracket_4 (fun x2 => ?_)
  refine z_bipush (v := 40) (by decide) dX2_readBracket_7 ?_
  refine z_icmp_eq 18 (by decide) dX2_readBracket_9 ?_ ?_
  · refine z_iload_n 1 rfl rfl dX2_readBracket_18 ?_
    refine z_iconst (v := 4) (by decide) dX2_readBracket_19 ?_
    refine z_icmp_lt 29 (by decide) dX2_readBracket_20 ?_ ?_
    · refine z_aload_n 0 rfl rfl dX2_readBracket_29 ?_
      refine z_gR zf_RX2_9 dX2_readBracket_30 (fun x3 => ?_)
      refine z_cV (st := []) [] zk_RX2_59 rfl (Nat.le_of_ble_eq_true rfl) dX2_readBracket_33 (mX5_step hV (d + 3) x3 h) (fun v4 h5 => ?_)
      refine z_vn ?_
      refine z_aload_n 0 rfl rfl dX2_readBracket_36 ?_
      refine z_iload_n 1 rfl rfl dX2_readBracket_37 ?_
      refine z_iconst (v := 1) (by decide) dX2_readBracket_38 ?_
      refine z_iadd dX2_readBracket_39 ?_
      refine z_cV (st := []) [.int (a1 + 1)] zk_RX2_62 rfl (Nat.le_of_ble_eq_true rfl) dX2_readBracket_40 (hS 0 a0 (a1 + 1) h5) (fun v6 h7 => ?_)
      refine z_vi (fun x8 => ?_)
      refine z_if_ne 48 (by decide) dX2_readBracket_43 ?_ ?_
      · refine z_iconst (v := 0) (by decide) dX2_readBracket_46 ?_
        exact z_zret rfl dX2_readBracket_47
      · refine z_aload_n 0 rfl rfl dX2_readBracket_48 ?_
        refine z_gR zf_RX2_9 dX2_readBracket_49 (fun x9 => ?_)
        refine z_gI zf_RX2_50 dX2_readBracket_52 (fun x10 => ?_)
        refine z_bipush (v := 41) (by decide) dX2_readBracket_55 ?_
        refine z_icmp_eq 66 (by decide) dX2_readBracket_57 ?_ ?_
        · refine z_aload_n 0 rfl rfl dX2_readBracket_66 ?_
          refine z_gR zf_RX2_9 dX2_readBracket_67 (fun x11 => ?_)
          refine z_cV (st := []) [] zk_RX2_59 rfl (Nat.le_of_ble_eq_true rfl) dX2_readBracket_70 (mX5_step hV (d + 3) x11 h7) (fun v12 h13 => ?_)
          refine z_vn ?_
          refine z_aload_n 0 rfl rfl dX2_readBracket_73 ?_
          refine z_gR zf_RX2_25 dX2_readBracket_74 (fun x14 => ?_)
          refine z_iload_n 1 rfl rfl dX2_readBracket_77 ?_
          refine z_iconst (v := 1) (by decide) dX2_readBracket_78 ?_
          refine z_iadd dX2_readBracket_79 ?_
          refine z_aR dX2_readBracket_80 (fun x15 => ?_)
          refine z_iconst (v := 0) (by decide) dX2_readBracket_81 ?_
          refine z_aload_n 0 rfl rfl dX2_readBracket_82 ?_
          refine z_gR zf_RX2_31 dX2_readBracket_83 (fun x16 => ?_)
          refine z_iload_n 1 rfl rfl dX2_readBracket_86 ?_
          refine z_aR dX2_readBracket_87 (fun x17 => ?_)
          refine z_iconst (v := 0) (by decide) dX2_readBracket_88 ?_
          refine z_bipush (v := 64) (by decide) dX2_readBracket_89 ?_
          refine z_cp zw_640 zw_378 zw_377 zw_88 (Nat.le_of_ble_eq_true rfl) (by omega) dX2_readBracket_91 (fun h18 => ?_)
          refine z_iconst (v := 1) (by decide) dX2_readBracket_94 ?_
          exact z_zret rfl dX2_readBracket_95
        · refine z_aload_n 0 rfl rfl dX2_readBracket_60 ?_
          refine z_iconst (v := 1) (by decide) dX2_readBracket_61 ?_
          refine z_cV (st := []) [.int 1] zk_RX2_55 rfl (Nat.le_of_ble_eq_true rfl) dX2_readBracket_62 (mX2_refuse hV (d + 3) a0 1 h7) (fun v19 h20 => ?_)
          refine z_vi (fun x21 => ?_)
          exact z_zret rfl dX2_readBracket_65
    · refine z_aload_n 0 rfl rfl dX2_readBracket_23 ?_
      refine z_iconst (v := 4) (by decide) dX2_readBracket_24 ?_
      refine z_cV (st := []) [.int 4] zk_RX2_55 rfl (Nat.le_of_ble_eq_true rfl) dX2_readBracket_25 (mX2_refuse hV (d + 3) a0 4 h) (fun v22 h23 => ?_)
      refine z_vi (fun x24 => ?_)
      exact z_zret rfl dX2_readBracket_28
  · refine z_aload_n 0 rfl rfl dX2_readBracket_12 ?_
    refine z_iconst (v := 1) (by decide) dX2_readBracket_13 ?_
    refine z_cV (st := []) [.int 1] zk_RX2_55 rfl (Nat.le_of_ble_eq_true rfl) dX2_readBracket_14 (mX2_refuse hV (d + 3) a0 1 h) (fun v25 h26 => ?_)
    refine z_vi (fun x27 => ?_)
    exact z_zret rfl dX2_readBracket_17
def fX2_readInner_68 (S : Nat → Int32 → AH → RR) : Nat → Nat → Nat → Nat → Int32 → AH → RR
  | 0, _, _, _, _, _ => none
  | k + 1, l0, l2, l3, l4, h =>
  (zgR h l0 2 3).bind fun x1 =>
  (zgI h x1 0 2).bind fun x2 =>
  if x2 ≤ l4 then (
    zbr 1 h)
  else
  (zai h l3 l4).bind fun x3 =>
  (zai h l2 x3).bind fun x4 =>
  (zsi h l3 l4 x4).bind fun h5 =>
  fX2_readInner_68 S k l0 l2 l3 (l4 + 1) h5
set_option maxRecDepth 20000 in
theorem rX2_readInner_68 {X : CT} {V : VT} {d n0 k0 : Nat} (hV : V.2.2.2.2.2.stackTraces = false) (S : Nat → Int32 → AH → RR) (hS : ∀ (e : Nat) (u0 : Nat) (u1 : Int32) (h : AH), zM V yX2_readSum cX2_readSum 7 (some .boolean) (d + e + 4) [.ref u0, .int u1] h (S u0 u1 h)) (fu : Nat) : ∀ (l0 : Nat) (l2 : Nat) (l3 : Nat) (l4 : Int32) (h : AH), zG X V RX2 "readInner" cX2_readInner 5 (some .boolean) (d + 6) n0 k0 (fX2_readInner_68 S fu l0 l2 l3 l4 h) 68 [(0, .ref l0), (2, .ref l2), (3, .ref l3), (4, .int l4)] [] h := by
  induction fu with
  | zero => intros; exact z_none
  | succ k ih =>
    intro l0 l2 l3 l4 h
    rw [fX2_readInner_68]
    refine z_iload 3 rfl dX2_readInner_68 ?_
    refine z_aload_n 0 rfl rfl dX2_readInner_70 ?_
    refine z_gR zf_RX2_15 dX2_readInner_71 (fun x1 => ?_)
    refine z_gI zf_RX2_108 dX2_readInner_74 (fun x2 => ?_)
    refine z_icmp_ge 96 (by decide) dX2_readInner_77 ?_ ?_
    · refine z_iconst (v := 1) (by decide) dX2_readInner_96 ?_
      exact z_zret rfl dX2_readInner_97
    · refine z_aload_n 2 rfl rfl dX2_readInner_80 ?_
      refine z_iload 3 rfl dX2_readInner_81 ?_
      refine z_aload_n 1 rfl rfl dX2_readInner_83 ?_
      refine z_aload_n 2 rfl rfl dX2_readInner_84 ?_
      refine z_iload 3 rfl dX2_readInner_85 ?_
      refine z_aI dX2_readInner_87 (fun x3 => ?_)
      refine z_aI dX2_readInner_88 (fun x4 => ?_)
      refine z_sI dX2_readInner_89 (fun h5 => ?_)
      refine z_inc (w := 1) (lv' := [(4, .int (l4 + 1)), (0, .ref l0), (2, .ref l2), (3, .ref l3)]) 3 rfl (by decide) (by decide) rfl dX2_readInner_90 ?_
      refine z_goto 68 (by decide) dX2_readInner_93 ?_
      exact z_sub [1, 2, 3, 0] rfl (ih l0 l2 l3 (l4 + 1) h5)
def fX2_readInner (S : Nat → Int32 → AH → RR) (a0 : Nat) (a1 : Int32) (h : AH) : RR :=
  (zgR h a0 2 2).bind fun x1 =>
  zcv (zob h x1 5) (fX5_step x1 h) fun v2 h3 =>
  zvn v2 <|
  (zgR h3 a0 2 4).bind fun x4 =>
  (zgI h3 x4 3 2).bind fun x5 =>
  zcv (zob h3 a0 2) (fX2_seeNumber a0 (x5 - 1) h3) fun v6 h7 =>
  zvi v6 fun x8 =>
  if x8 = 0 then (
    zbr 0 h7)
  else
  (zgR h7 a0 2 4).bind fun x9 =>
  (zgR h7 x9 3 3).bind fun x10 =>
  (zgR h7 a0 2 2).bind fun x11 =>
  (zgI h7 x11 5 3).bind fun x12 =>
  (zar h7 x10 x12).bind fun x13 =>
  (zgR h7 a0 2 2).bind fun x14 =>
  zcv (zob h7 x14 5) (fX5_step x14 h7) fun v15 h16 =>
  zvn v15 <|
  zcv (zob h16 a0 2) (fX2_readBracket S a0 a1 h16) fun v17 h18 =>
  zvi v17 fun x19 =>
  if x19 = 0 then (
    zbr 0 h18)
  else
  (zgR h18 a0 2 7).bind fun x20 =>
  (zar h18 x20 a1).bind fun x21 =>
  fX2_readInner_68 S FU a0 x13 x21 0 h18
set_option maxRecDepth 20000 in
theorem mX2_readInner {V : VT} (hV : V.2.2.2.2.2.stackTraces = false) (d : Nat) (S : Nat → Int32 → AH → RR) (hS : ∀ (e : Nat) (u0 : Nat) (u1 : Int32) (h : AH), zM V yX2_readSum cX2_readSum 7 (some .boolean) (d + e + 4) [.ref u0, .int u1] h (S u0 u1 h)) (a0 : Nat) (a1 : Int32) (h : AH) : zM V yX2_readInner cX2_readInner 5 (some .boolean) (d + 6) [.ref a0, .int a1] h (fX2_readInner S a0 a1 h) := by
  refine z_meth hV (by decide +kernel) (Nat.le_of_ble_eq_true rfl) [(0, .ref a0), (1, .int a1)] rfl (fun X => ?_)
  show zG X V RX2 "readInner" cX2_readInner 5 (some .boolean) (d + 6) h.1 h.2.1 (fX2_readInner S a0 a1 h) 0 [(0, .ref a0), (1, .int a1)] [] h
  unfold fX2_readInner
  refine z_aload_n 0 rfl rfl dX2_readInner_0 ?_
  refine z_gR zf_RX2_9 dX2_readInner_1 (fun x1 => ?_)
  refine z_cV (st := []) [] zk_RX2_59 rfl (Nat.le_of_ble_eq_true rfl) dX2_readInner_4 (mX5_step hV (d + 4) x1 h) (fun v2 h3 => ?_)
  refine z_vn ?_
  refine z_aload_n 0 rfl rfl dX2_readInner_7 ?_
  refine z_aload_n 0 rfl rfl dX2_readInner_8 ?_
  refine z_gR zf_RX2_19 dX2_readInner_9 (fun x4 => ?_)
  refine z_gI zf_RX2_41 dX2_readInner_12 (fun x5 => ?_)
  refine z_iconst (v := 1) (by decide) dX2_readInner_15 ?_
  refine z_isub dX2_readInner_16 ?_
  refine z_cV (st := []) [.int (x5 - 1)] zk_RX2_83 rfl (Nat.le_of_ble_eq_true rfl) dX2_readInner_17 (mX2_seeNumber hV (d + 3) a0 (x5 - 1) h3) (fun v6 h7 => ?_)
  refine z_vi (fun x8 => ?_)
  refine z_if_ne 25 (by decide) dX2_readInner_20 ?_ ?_
  · refine z_iconst (v := 0) (by decide) dX2_readInner_23 ?_
    exact z_zret rfl dX2_readInner_24
  · refine z_aload_n 0 rfl rfl dX2_readInner_25 ?_
    refine z_gR zf_RX2_19 dX2_readInner_26 (fun x9 => ?_)
    refine z_gR zf_RX2_68 dX2_readInner_29 (fun x10 => ?_)
    refine z_aload_n 0 rfl rfl dX2_readInner_32 ?_
    refine z_gR zf_RX2_9 dX2_readInner_33 (fun x11 => ?_)
    refine z_gI zf_RX2_80 dX2_readInner_36 (fun x12 => ?_)
    refine z_aR dX2_readInner_39 (fun x13 => ?_)
    refine z_astore_n (lv' := [(2, .ref x13), (0, .ref a0), (1, .int a1)]) rfl (by decide) rfl dX2_readInner_40 ?_
    refine z_aload_n 1 rfl rfl dX2_readInner_41 ?_
    refine z_gR zf_RX2_9 dX2_readInner_42 (fun x14 => ?_)
    refine z_cV (st := []) [] zk_RX2_59 rfl (Nat.le_of_ble_eq_true rfl) dX2_readInner_45 (mX5_step hV (d + 4) x14 h7) (fun v15 h16 => ?_)
    refine z_vn ?_
    refine z_aload_n 1 rfl rfl dX2_readInner_48 ?_
    refine z_iload_n 2 rfl rfl dX2_readInner_49 ?_
    refine z_cV (st := []) [.int a1] zk_RX2_130 rfl (Nat.le_of_ble_eq_true rfl) dX2_readInner_50 (mX2_readBracket hV (d + 0) S (fun e u0 u1 h => by rw [Nat.add_assoc d 0 e]; exact hS (0 + e) u0 u1 h) a0 a1 h16) (fun v17 h18 => ?_)
    refine z_vi (fun x19 => ?_)
    refine z_if_ne 58 (by decide) dX2_readInner_53 ?_ ?_
    · refine z_iconst (v := 0) (by decide) dX2_readInner_56 ?_
      exact z_zret rfl dX2_readInner_57
    · refine z_aload_n 1 rfl rfl dX2_readInner_58 ?_
      refine z_gR zf_RX2_31 dX2_readInner_59 (fun x20 => ?_)
      refine z_iload_n 2 rfl rfl dX2_readInner_62 ?_
      refine z_aR dX2_readInner_63 (fun x21 => ?_)
      refine z_astore_n (lv' := [(3, .ref x21), (2, .ref x13), (0, .ref a0), (1, .int a1)]) rfl (by decide) rfl dX2_readInner_64 ?_
      refine z_iconst (v := 0) (by decide) dX2_readInner_65 ?_
      refine z_istore (lv' := [(4, .int 0), (3, .ref x21), (2, .ref x13), (0, .ref a0), (1, .int a1)]) (by decide) rfl dX2_readInner_66 ?_
      exact z_sub [3, 2, 1, 0] rfl (rX2_readInner_68 hV S hS FU a0 x13 x21 0 h18)
def fX2_readDickson_54 : Nat → Nat → Nat → Int32 → Int32 → AH → RR
  | 0, _, _, _, _, _ => none
  | k + 1, l0, l1, l2, l3, h =>
  (zgR h l0 2 3).bind fun x1 =>
  (zgI h x1 0 2).bind fun x2 =>
  if x2 ≤ l3 then (
    (zgR h l0 2 2).bind fun x3 =>
    zcv (zob h x3 5) (fX5_step x3 h) fun v4 h5 =>
    zvn v4 <|
    zbr 1 h5)
  else
  (zgR h l0 2 3).bind fun x6 =>
  (zgR h l0 2 2).bind fun x7 =>
  (zgI h x7 5 3).bind fun x8 =>
  zcv (zob h x6 0) (fX0_dicksonAt x6 l2 x8 l3 h) fun v9 h10 =>
  zvi v9 fun x11 =>
  (zsi h10 l1 l3 x11).bind fun h12 =>
  fX2_readDickson_54 k l0 l1 l2 (l3 + 1) h12
set_option maxRecDepth 20000 in
theorem rX2_readDickson_54 {X : CT} {V : VT} {d n0 k0 : Nat} (hV : V.2.2.2.2.2.stackTraces = false) (fu : Nat) : ∀ (l0 : Nat) (l1 : Nat) (l2 : Int32) (l3 : Int32) (h : AH), zG X V RX2 "readDickson" cX2_readDickson 4 (some .boolean) (d + 3) n0 k0 (fX2_readDickson_54 fu l0 l1 l2 l3 h) 54 [(0, .ref l0), (1, .ref l1), (2, .int l2), (3, .int l3)] [] h := by
  induction fu with
  | zero => intros; exact z_none
  | succ k ih =>
    intro l0 l1 l2 l3 h
    rw [fX2_readDickson_54]
    refine z_iload_n 3 rfl rfl dX2_readDickson_54 ?_
    refine z_aload_n 0 rfl rfl dX2_readDickson_55 ?_
    refine z_gR zf_RX2_15 dX2_readDickson_56 (fun x1 => ?_)
    refine z_gI zf_RX2_108 dX2_readDickson_59 (fun x2 => ?_)
    refine z_icmp_ge 90 (by decide) dX2_readDickson_62 ?_ ?_
    · refine z_aload_n 0 rfl rfl dX2_readDickson_90 ?_
      refine z_gR zf_RX2_9 dX2_readDickson_91 (fun x3 => ?_)
      refine z_cV (st := []) [] zk_RX2_59 rfl (Nat.le_of_ble_eq_true rfl) dX2_readDickson_94 (mX5_step hV (d + 1) x3 h) (fun v4 h5 => ?_)
      refine z_vn ?_
      refine z_iconst (v := 1) (by decide) dX2_readDickson_97 ?_
      exact z_zret rfl dX2_readDickson_98
    · refine z_aload_n 1 rfl rfl dX2_readDickson_65 ?_
      refine z_iload_n 3 rfl rfl dX2_readDickson_66 ?_
      refine z_aload_n 0 rfl rfl dX2_readDickson_67 ?_
      refine z_gR zf_RX2_15 dX2_readDickson_68 (fun x6 => ?_)
      refine z_iload_n 2 rfl rfl dX2_readDickson_71 ?_
      refine z_aload_n 0 rfl rfl dX2_readDickson_72 ?_
      refine z_gR zf_RX2_9 dX2_readDickson_73 (fun x7 => ?_)
      refine z_gI zf_RX2_80 dX2_readDickson_76 (fun x8 => ?_)
      refine z_iload_n 3 rfl rfl dX2_readDickson_79 ?_
      refine z_cV (st := [.int l3, .ref l1]) [.int l2, .int x8, .int l3] zk_RX2_142 rfl (Nat.le_of_ble_eq_true rfl) dX2_readDickson_80 (mX0_dicksonAt hV (d + 0) x6 l2 x8 l3 h) (fun v9 h10 => ?_)
      refine z_vi (fun x11 => ?_)
      refine z_sI dX2_readDickson_83 (fun h12 => ?_)
      refine z_inc (w := 1) (lv' := [(3, .int (l3 + 1)), (0, .ref l0), (1, .ref l1), (2, .int l2)]) 3 rfl (by decide) (by decide) rfl dX2_readDickson_84 ?_
      refine z_goto 54 (by decide) dX2_readDickson_87 ?_
      exact z_sub [1, 2, 3, 0] rfl (ih l0 l1 l2 (l3 + 1) h12)
def fX2_readDickson (a0 : Nat) (a1 : Nat) (h : AH) : RR :=
  (zgR h a0 2 2).bind fun x1 =>
  zcv (zob h x1 5) (fX5_step x1 h) fun v2 h3 =>
  zvn v2 <|
  zcv (zob h3 a0 2) (fX2_seeNumber a0 9999 h3) fun v4 h5 =>
  zvi v4 fun x6 =>
  if x6 = 0 then (
    zbr 0 h5)
  else
  (zgR h5 a0 2 2).bind fun x7 =>
  (zgI h5 x7 5 3).bind fun x8 =>
  (zgR h5 a0 2 2).bind fun x9 =>
  zcv (zob h5 x9 5) (fX5_step x9 h5) fun v10 h11 =>
  zvn v10 <|
  (zgR h11 a0 2 3).bind fun x12 =>
  (zgI h11 x12 0 2).bind fun x13 =>
  zcv (zob h11 a0 2) (fX2_seeNumber a0 (x13 - 1) h11) fun v14 h15 =>
  zvi v14 fun x16 =>
  if x16 = 0 then (
    zbr 0 h15)
  else
  fX2_readDickson_54 FU a0 a1 x8 0 h15
set_option maxRecDepth 20000 in
theorem mX2_readDickson {V : VT} (hV : V.2.2.2.2.2.stackTraces = false) (d : Nat) (a0 : Nat) (a1 : Nat) (h : AH) : zM V yX2_readDickson cX2_readDickson 4 (some .boolean) (d + 3) [.ref a0, .ref a1] h (fX2_readDickson a0 a1 h) := by
  refine z_meth hV (by decide +kernel) (Nat.le_of_ble_eq_true rfl) [(0, .ref a0), (1, .ref a1)] rfl (fun X => ?_)
  show zG X V RX2 "readDickson" cX2_readDickson 4 (some .boolean) (d + 3) h.1 h.2.1 (fX2_readDickson a0 a1 h) 0 [(0, .ref a0), (1, .ref a1)] [] h
  unfold fX2_readDickson
  refine z_aload_n 0 rfl rfl dX2_readDickson_0 ?_
  refine z_gR zf_RX2_9 dX2_readDickson_1 (fun x1 => ?_)
  refine z_cV (st := []) [] zk_RX2_59 rfl (Nat.le_of_ble_eq_true rfl) dX2_readDickson_4 (mX5_step hV (d + 1) x1 h) (fun v2 h3 => ?_)
  refine z_vn ?_
  refine z_aload_n 0 rfl rfl dX2_readDickson_7 ?_
  refine z_sipush (v := 9999) (by decide) dX2_readDickson_8 ?_
  refine z_cV (st := []) [.int 9999] zk_RX2_83 rfl (Nat.le_of_ble_eq_true rfl) dX2_readDickson_11 (mX2_seeNumber hV (d + 0) a0 9999 h3) (fun v4 h5 => ?_)
  refine z_vi (fun x6 => ?_)
  refine z_if_ne 19 (by decide) dX2_readDickson_14 ?_ ?_
  · refine z_iconst (v := 0) (by decide) dX2_readDickson_17 ?_
    exact z_zret rfl dX2_readDickson_18
  · refine z_aload_n 0 rfl rfl dX2_readDickson_19 ?_
    refine z_gR zf_RX2_9 dX2_readDickson_20 (fun x7 => ?_)
    refine z_gI zf_RX2_80 dX2_readDickson_23 (fun x8 => ?_)
    refine z_istore_n (lv' := [(2, .int x8), (0, .ref a0), (1, .ref a1)]) rfl (by decide) rfl dX2_readDickson_26 ?_
    refine z_aload_n 1 rfl rfl dX2_readDickson_27 ?_
    refine z_gR zf_RX2_9 dX2_readDickson_28 (fun x9 => ?_)
    refine z_cV (st := []) [] zk_RX2_59 rfl (Nat.le_of_ble_eq_true rfl) dX2_readDickson_31 (mX5_step hV (d + 1) x9 h5) (fun v10 h11 => ?_)
    refine z_vn ?_
    refine z_aload_n 1 rfl rfl dX2_readDickson_34 ?_
    refine z_aload_n 1 rfl rfl dX2_readDickson_35 ?_
    refine z_gR zf_RX2_15 dX2_readDickson_36 (fun x12 => ?_)
    refine z_gI zf_RX2_108 dX2_readDickson_39 (fun x13 => ?_)
    refine z_iconst (v := 1) (by decide) dX2_readDickson_42 ?_
    refine z_isub dX2_readDickson_43 ?_
    refine z_cV (st := []) [.int (x13 - 1)] zk_RX2_83 rfl (Nat.le_of_ble_eq_true rfl) dX2_readDickson_44 (mX2_seeNumber hV (d + 0) a0 (x13 - 1) h11) (fun v14 h15 => ?_)
    refine z_vi (fun x16 => ?_)
    refine z_if_ne 52 (by decide) dX2_readDickson_47 ?_ ?_
    · refine z_iconst (v := 0) (by decide) dX2_readDickson_50 ?_
      exact z_zret rfl dX2_readDickson_51
    · refine z_iconst (v := 0) (by decide) dX2_readDickson_52 ?_
      refine z_istore_n (lv' := [(3, .int 0), (2, .int x8), (0, .ref a0), (1, .ref a1)]) rfl (by decide) rfl dX2_readDickson_53 ?_
      exact z_sub [2, 3, 1, 0] rfl (rX2_readDickson_54 hV FU a0 a1 x8 0 h15)
def fX2_readPower_21 : Nat → Nat → Nat → Int32 → AH → RR
  | 0, _, _, _, _ => none
  | k + 1, l0, l1, l2, h =>
  (zgR h l0 2 3).bind fun x1 =>
  (zgI h x1 0 2).bind fun x2 =>
  if x2 ≤ l2 then (
    (zgR h l0 2 2).bind fun x3 =>
    zcv (zob h x3 5) (fX5_step x3 h) fun v4 h5 =>
    zvn v4 <|
    zbr 1 h5)
  else
  (zgR h l0 2 3).bind fun x6 =>
  (zai h l1 l2).bind fun x7 =>
  (zgR h l0 2 2).bind fun x8 =>
  (zgI h x8 5 3).bind fun x9 =>
  zcv (zob h x6 0) (fX0_raised x6 x7 x9 h) fun v10 h11 =>
  zvi v10 fun x12 =>
  (zsi h11 l1 l2 x12).bind fun h13 =>
  fX2_readPower_21 k l0 l1 (l2 + 1) h13
set_option maxRecDepth 20000 in
theorem rX2_readPower_21 {X : CT} {V : VT} {d n0 k0 : Nat} (hV : V.2.2.2.2.2.stackTraces = false) (fu : Nat) : ∀ (l0 : Nat) (l1 : Nat) (l2 : Int32) (h : AH), zG X V RX2 "readPower" cX2_readPower 3 (some .boolean) (d + 3) n0 k0 (fX2_readPower_21 fu l0 l1 l2 h) 21 [(0, .ref l0), (1, .ref l1), (2, .int l2)] [] h := by
  induction fu with
  | zero => intros; exact z_none
  | succ k ih =>
    intro l0 l1 l2 h
    rw [fX2_readPower_21]
    refine z_iload_n 2 rfl rfl dX2_readPower_21 ?_
    refine z_aload_n 0 rfl rfl dX2_readPower_22 ?_
    refine z_gR zf_RX2_15 dX2_readPower_23 (fun x1 => ?_)
    refine z_gI zf_RX2_108 dX2_readPower_26 (fun x2 => ?_)
    refine z_icmp_ge 58 (by decide) dX2_readPower_29 ?_ ?_
    · refine z_aload_n 0 rfl rfl dX2_readPower_58 ?_
      refine z_gR zf_RX2_9 dX2_readPower_59 (fun x3 => ?_)
      refine z_cV (st := []) [] zk_RX2_59 rfl (Nat.le_of_ble_eq_true rfl) dX2_readPower_62 (mX5_step hV (d + 1) x3 h) (fun v4 h5 => ?_)
      refine z_vn ?_
      refine z_iconst (v := 1) (by decide) dX2_readPower_65 ?_
      exact z_zret rfl dX2_readPower_66
    · refine z_aload_n 1 rfl rfl dX2_readPower_32 ?_
      refine z_iload_n 2 rfl rfl dX2_readPower_33 ?_
      refine z_aload_n 0 rfl rfl dX2_readPower_34 ?_
      refine z_gR zf_RX2_15 dX2_readPower_35 (fun x6 => ?_)
      refine z_aload_n 1 rfl rfl dX2_readPower_38 ?_
      refine z_iload_n 2 rfl rfl dX2_readPower_39 ?_
      refine z_aI dX2_readPower_40 (fun x7 => ?_)
      refine z_aload_n 0 rfl rfl dX2_readPower_41 ?_
      refine z_gR zf_RX2_9 dX2_readPower_42 (fun x8 => ?_)
      refine z_gI zf_RX2_80 dX2_readPower_45 (fun x9 => ?_)
      refine z_cV (st := [.int l2, .ref l1]) [.int x7, .int x9] zk_RX2_146 rfl (Nat.le_of_ble_eq_true rfl) dX2_readPower_48 (mX0_raised hV (d + 0) x6 x7 x9 h) (fun v10 h11 => ?_)
      refine z_vi (fun x12 => ?_)
      refine z_sI dX2_readPower_51 (fun h13 => ?_)
      refine z_inc (w := 1) (lv' := [(2, .int (l2 + 1)), (0, .ref l0), (1, .ref l1)]) 2 rfl (by decide) (by decide) rfl dX2_readPower_52 ?_
      refine z_goto 21 (by decide) dX2_readPower_55 ?_
      exact z_sub [1, 2, 0] rfl (ih l0 l1 (l2 + 1) h13)
def fX2_readPower (a0 : Nat) (a1 : Nat) (h : AH) : RR :=
  (zgR h a0 2 2).bind fun x1 =>
  zcv (zob h x1 5) (fX5_step x1 h) fun v2 h3 =>
  zvn v2 <|
  zcv (zob h3 a0 2) (fX2_seeNumber a0 9999 h3) fun v4 h5 =>
  zvi v4 fun x6 =>
  if x6 = 0 then (
    zbr 0 h5)
  else
  fX2_readPower_21 FU a0 a1 0 h5
set_option maxRecDepth 20000 in
theorem mX2_readPower {V : VT} (hV : V.2.2.2.2.2.stackTraces = false) (d : Nat) (a0 : Nat) (a1 : Nat) (h : AH) : zM V yX2_readPower cX2_readPower 3 (some .boolean) (d + 3) [.ref a0, .ref a1] h (fX2_readPower a0 a1 h) := by
  refine z_meth hV (by decide +kernel) (Nat.le_of_ble_eq_true rfl) [(0, .ref a0), (1, .ref a1)] rfl (fun X => ?_)
  show zG X V RX2 "readPower" cX2_readPower 3 (some .boolean) (d + 3) h.1 h.2.1 (fX2_readPower a0 a1 h) 0 [(0, .ref a0), (1, .ref a1)] [] h
  unfold fX2_readPower
  refine z_aload_n 0 rfl rfl dX2_readPower_0 ?_
  refine z_gR zf_RX2_9 dX2_readPower_1 (fun x1 => ?_)
  refine z_cV (st := []) [] zk_RX2_59 rfl (Nat.le_of_ble_eq_true rfl) dX2_readPower_4 (mX5_step hV (d + 1) x1 h) (fun v2 h3 => ?_)
  refine z_vn ?_
  refine z_aload_n 0 rfl rfl dX2_readPower_7 ?_
  refine z_sipush (v := 9999) (by decide) dX2_readPower_8 ?_
  refine z_cV (st := []) [.int 9999] zk_RX2_83 rfl (Nat.le_of_ble_eq_true rfl) dX2_readPower_11 (mX2_seeNumber hV (d + 0) a0 9999 h3) (fun v4 h5 => ?_)
  refine z_vi (fun x6 => ?_)
  refine z_if_ne 19 (by decide) dX2_readPower_14 ?_ ?_
  · refine z_iconst (v := 0) (by decide) dX2_readPower_17 ?_
    exact z_zret rfl dX2_readPower_18
  · refine z_iconst (v := 0) (by decide) dX2_readPower_19 ?_
    refine z_istore_n (lv' := [(2, .int 0), (0, .ref a0), (1, .ref a1)]) rfl (by decide) rfl dX2_readPower_20 ?_
    exact z_sub [1, 2, 0] rfl (rX2_readPower_21 hV FU a0 a1 0 h5)
def fX2_readUnit_122 (S : Nat → Int32 → AH → RR) (l0 : Nat) (l1 : Int32) (l2 : Int32) (h : AH) : RR :=
  if l2 = 0 then (
    zbr 0 h)
  else
  (zgR h l0 2 2).bind fun x1 =>
  (zgI h x1 5 1).bind fun x2 =>
  if x2 = 94 then (
    (zgR h l0 2 7).bind fun x3 =>
    (zar h x3 l1).bind fun x4 =>
    zcv (zob h l0 2) (fX2_readPower l0 x4 h) fun v5 h6 =>
    zvi v5 fun x7 =>
    if x7 = 0 then (
      zbr 0 h6)
    else
    zbr 1 h6)
  else
  zbr 1 h
set_option maxRecDepth 20000 in
theorem rX2_readUnit_122 {X : CT} {V : VT} {d n0 k0 : Nat} (hV : V.2.2.2.2.2.stackTraces = false) (S : Nat → Int32 → AH → RR) (hS : ∀ (e : Nat) (u0 : Nat) (u1 : Int32) (h : AH), zM V yX2_readSum cX2_readSum 7 (some .boolean) (d + e + 4) [.ref u0, .int u1] h (S u0 u1 h)) (l0 : Nat) (l1 : Int32) (l2 : Int32) (h : AH) : zG X V RX2 "readUnit" cX2_readUnit 3 (some .boolean) (d + 7) n0 k0 (fX2_readUnit_122 S l0 l1 l2 h) 122 [(0, .ref l0), (1, .int l1), (2, .int l2)] [] h := by
  unfold fX2_readUnit_122
  refine z_iload_n 2 rfl rfl dX2_readUnit_122 ?_
  refine z_if_eq 155 (by decide) dX2_readUnit_123 ?_ ?_
  · refine z_iconst (v := 0) (by decide) dX2_readUnit_155 ?_
    exact z_zret rfl dX2_readUnit_156
  · refine z_aload_n 0 rfl rfl dX2_readUnit_126 ?_
    refine z_gR zf_RX2_9 dX2_readUnit_127 (fun x1 => ?_)
    refine z_gI zf_RX2_50 dX2_readUnit_130 (fun x2 => ?_)
    refine z_bipush (v := 94) (by decide) dX2_readUnit_133 ?_
    refine z_icmp_ne 151 (by decide) dX2_readUnit_135 ?_ ?_
    · refine z_aload_n 0 rfl rfl dX2_readUnit_138 ?_
      refine z_aload_n 0 rfl rfl dX2_readUnit_139 ?_
      refine z_gR zf_RX2_31 dX2_readUnit_140 (fun x3 => ?_)
      refine z_iload_n 1 rfl rfl dX2_readUnit_143 ?_
      refine z_aR dX2_readUnit_144 (fun x4 => ?_)
      refine z_cV (st := []) [.ref x4] zk_RX2_139 rfl (Nat.le_of_ble_eq_true rfl) dX2_readUnit_145 (mX2_readPower hV (d + 3) l0 x4 h) (fun v5 h6 => ?_)
      refine z_vi (fun x7 => ?_)
      refine z_if_eq 155 (by decide) dX2_readUnit_148 ?_ ?_
      · refine z_iconst (v := 0) (by decide) dX2_readUnit_155 ?_
        exact z_zret rfl dX2_readUnit_156
      · refine z_iconst (v := 1) (by decide) dX2_readUnit_151 ?_
        refine z_goto 156 (by decide) dX2_readUnit_152 ?_
        exact z_zret rfl dX2_readUnit_156
    · refine z_iconst (v := 1) (by decide) dX2_readUnit_151 ?_
      refine z_goto 156 (by decide) dX2_readUnit_152 ?_
      exact z_zret rfl dX2_readUnit_156
def fX2_readUnit (S : Nat → Int32 → AH → RR) (a0 : Nat) (a1 : Int32) (h : AH) : RR :=
  (zgR h a0 2 2).bind fun x1 =>
  (zgI h x1 5 1).bind fun x2 =>
  if x2 = 1 then (
    (zgR h a0 2 7).bind fun x3 =>
    (zar h x3 a1).bind fun x4 =>
    zcv (zob h a0 2) (fX2_readPoint a0 x4 h) fun v5 h6 =>
    zvi v5 fun x7 =>
    fX2_readUnit_122 S a0 a1 x7 h6)
  else
  if x2 = 4 then (
    (zgR h a0 2 7).bind fun x8 =>
    (zar h x8 a1).bind fun x9 =>
    zcv (zob h a0 2) (fX2_readX a0 x9 h) fun v10 h11 =>
    zvi v10 fun x12 =>
    fX2_readUnit_122 S a0 a1 x12 h11)
  else
  if x2 = 5 then (
    zcv (zob h a0 2) (fX2_readInner S a0 a1 h) fun v13 h14 =>
    zvi v13 fun x15 =>
    fX2_readUnit_122 S a0 a1 x15 h14)
  else
  if x2 = 6 then (
    (zgR h a0 2 7).bind fun x16 =>
    (zar h x16 a1).bind fun x17 =>
    zcv (zob h a0 2) (fX2_readDickson a0 x17 h) fun v18 h19 =>
    zvi v18 fun x20 =>
    fX2_readUnit_122 S a0 a1 x20 h19)
  else
  if x2 = 40 then (
    zcv (zob h a0 2) (fX2_readBracket S a0 a1 h) fun v21 h22 =>
    zvi v21 fun x23 =>
    fX2_readUnit_122 S a0 a1 x23 h22)
  else
  zcv (zob h a0 2) (fX2_refuse a0 1 h) fun v24 h25 =>
  zvi v24 fun x26 =>
  fX2_readUnit_122 S a0 a1 x26 h25
set_option maxRecDepth 20000 in
theorem mX2_readUnit {V : VT} (hV : V.2.2.2.2.2.stackTraces = false) (d : Nat) (S : Nat → Int32 → AH → RR) (hS : ∀ (e : Nat) (u0 : Nat) (u1 : Int32) (h : AH), zM V yX2_readSum cX2_readSum 7 (some .boolean) (d + e + 4) [.ref u0, .int u1] h (S u0 u1 h)) (a0 : Nat) (a1 : Int32) (h : AH) : zM V yX2_readUnit cX2_readUnit 3 (some .boolean) (d + 7) [.ref a0, .int a1] h (fX2_readUnit S a0 a1 h) := by
  refine z_meth hV (by decide +kernel) (Nat.le_of_ble_eq_true rfl) [(0, .ref a0), (1, .int a1)] rfl (fun X => ?_)
  show zG X V RX2 "readUnit" cX2_readUnit 3 (some .boolean) (d + 7) h.1 h.2.1 (fX2_readUnit S a0 a1 h) 0 [(0, .ref a0), (1, .int a1)] [] h
  unfold fX2_readUnit
  refine z_aload_n 0 rfl rfl dX2_readUnit_0 ?_
  refine z_gR zf_RX2_9 dX2_readUnit_1 (fun x1 => ?_)
  refine z_gI zf_RX2_50 dX2_readUnit_4 (fun x2 => ?_)
  refine z_if (fun q0 => ?_) (fun q0 => ?_)
  · refine z_look 56 (by decide) (by rw [q0]) (by decide) dX2_readUnit_7 ?_
    refine z_aload_n 0 rfl rfl dX2_readUnit_56 ?_
    refine z_aload_n 0 rfl rfl dX2_readUnit_57 ?_
    refine z_gR zf_RX2_31 dX2_readUnit_58 (fun x3 => ?_)
    refine z_iload_n 1 rfl rfl dX2_readUnit_61 ?_
    refine z_aR dX2_readUnit_62 (fun x4 => ?_)
    refine z_cV (st := []) [.ref x4] zk_RX2_123 rfl (Nat.le_of_ble_eq_true rfl) dX2_readUnit_63 (mX2_readPoint hV (d + 3) a0 x4 h) (fun v5 h6 => ?_)
    refine z_vi (fun x7 => ?_)
    refine z_istore_n (lv' := [(2, .int x7), (0, .ref a0), (1, .int a1)]) rfl (by decide) rfl dX2_readUnit_66 ?_
    refine z_goto 122 (by decide) dX2_readUnit_67 ?_
    exact z_sub [1, 2, 0] rfl (rX2_readUnit_122 hV S hS a0 a1 x7 h6)
  · refine z_if (fun q1 => ?_) (fun q1 => ?_)
    · refine z_look 70 (by decide) (by rw [q1]) (by decide) dX2_readUnit_7 ?_
      refine z_aload_n 0 rfl rfl dX2_readUnit_70 ?_
      refine z_aload_n 0 rfl rfl dX2_readUnit_71 ?_
      refine z_gR zf_RX2_31 dX2_readUnit_72 (fun x8 => ?_)
      refine z_iload_n 1 rfl rfl dX2_readUnit_75 ?_
      refine z_aR dX2_readUnit_76 (fun x9 => ?_)
      refine z_cV (st := []) [.ref x9] zk_RX2_127 rfl (Nat.le_of_ble_eq_true rfl) dX2_readUnit_77 (mX2_readX hV (d + 4) a0 x9 h) (fun v10 h11 => ?_)
      refine z_vi (fun x12 => ?_)
      refine z_istore_n (lv' := [(2, .int x12), (0, .ref a0), (1, .int a1)]) rfl (by decide) rfl dX2_readUnit_80 ?_
      refine z_goto 122 (by decide) dX2_readUnit_81 ?_
      exact z_sub [1, 2, 0] rfl (rX2_readUnit_122 hV S hS a0 a1 x12 h11)
    · refine z_if (fun q2 => ?_) (fun q2 => ?_)
      · refine z_look 93 (by decide) (by rw [q2]) (by decide) dX2_readUnit_7 ?_
        refine z_aload_n 0 rfl rfl dX2_readUnit_93 ?_
        refine z_iload_n 1 rfl rfl dX2_readUnit_94 ?_
        refine z_cV (st := []) [.int a1] zk_RX2_133 rfl (Nat.le_of_ble_eq_true rfl) dX2_readUnit_95 (mX2_readInner hV (d + 0) S (fun e u0 u1 h => by rw [Nat.add_assoc d 0 e]; exact hS (0 + e) u0 u1 h) a0 a1 h) (fun v13 h14 => ?_)
        refine z_vi (fun x15 => ?_)
        refine z_istore_n (lv' := [(2, .int x15), (0, .ref a0), (1, .int a1)]) rfl (by decide) rfl dX2_readUnit_98 ?_
        refine z_goto 122 (by decide) dX2_readUnit_99 ?_
        exact z_sub [1, 2, 0] rfl (rX2_readUnit_122 hV S hS a0 a1 x15 h14)
      · refine z_if (fun q3 => ?_) (fun q3 => ?_)
        · refine z_look 102 (by decide) (by rw [q3]) (by decide) dX2_readUnit_7 ?_
          refine z_aload_n 0 rfl rfl dX2_readUnit_102 ?_
          refine z_aload_n 0 rfl rfl dX2_readUnit_103 ?_
          refine z_gR zf_RX2_31 dX2_readUnit_104 (fun x16 => ?_)
          refine z_iload_n 1 rfl rfl dX2_readUnit_107 ?_
          refine z_aR dX2_readUnit_108 (fun x17 => ?_)
          refine z_cV (st := []) [.ref x17] zk_RX2_136 rfl (Nat.le_of_ble_eq_true rfl) dX2_readUnit_109 (mX2_readDickson hV (d + 3) a0 x17 h) (fun v18 h19 => ?_)
          refine z_vi (fun x20 => ?_)
          refine z_istore_n (lv' := [(2, .int x20), (0, .ref a0), (1, .int a1)]) rfl (by decide) rfl dX2_readUnit_112 ?_
          refine z_goto 122 (by decide) dX2_readUnit_113 ?_
          exact z_sub [1, 2, 0] rfl (rX2_readUnit_122 hV S hS a0 a1 x20 h19)
        · refine z_if (fun q4 => ?_) (fun q4 => ?_)
          · refine z_look 84 (by decide) (by rw [q4]) (by decide) dX2_readUnit_7 ?_
            refine z_aload_n 0 rfl rfl dX2_readUnit_84 ?_
            refine z_iload_n 1 rfl rfl dX2_readUnit_85 ?_
            refine z_cV (st := []) [.int a1] zk_RX2_130 rfl (Nat.le_of_ble_eq_true rfl) dX2_readUnit_86 (mX2_readBracket hV (d + 1) S (fun e u0 u1 h => by rw [Nat.add_assoc d 1 e]; exact hS (1 + e) u0 u1 h) a0 a1 h) (fun v21 h22 => ?_)
            refine z_vi (fun x23 => ?_)
            refine z_istore_n (lv' := [(2, .int x23), (0, .ref a0), (1, .int a1)]) rfl (by decide) rfl dX2_readUnit_89 ?_
            refine z_goto 122 (by decide) dX2_readUnit_90 ?_
            exact z_sub [1, 2, 0] rfl (rX2_readUnit_122 hV S hS a0 a1 x23 h22)
          · refine z_look (off := 109) 116 (by decide) (by rw [lv_osw q0 (show Int32.toInt 1 = 1 from rfl)]; rw [lv_osw q1 (show Int32.toInt 4 = 4 from rfl)]; rw [lv_osw q2 (show Int32.toInt 5 = 5 from rfl)]; rw [lv_osw q3 (show Int32.toInt 6 = 6 from rfl)]; rw [lv_osw q4 (show Int32.toInt 40 = 40 from rfl)]; rfl) (by decide) dX2_readUnit_7 ?_
            refine z_aload_n 0 rfl rfl dX2_readUnit_116 ?_
            refine z_iconst (v := 1) (by decide) dX2_readUnit_117 ?_
            refine z_cV (st := []) [.int 1] zk_RX2_55 rfl (Nat.le_of_ble_eq_true rfl) dX2_readUnit_118 (mX2_refuse hV (d + 5) a0 1 h) (fun v24 h25 => ?_)
            refine z_vi (fun x26 => ?_)
            refine z_istore_n (lv' := [(2, .int x26), (0, .ref a0), (1, .int a1)]) rfl (by decide) rfl dX2_readUnit_121 ?_
            exact z_sub [1, 2, 0] rfl (rX2_readUnit_122 hV S hS a0 a1 x26 h25)
def fX2_readProduct_76 (S : Nat → Int32 → AH → RR) (K36 : Nat → Int32 → Nat → Nat → Int32 → AH → RR) : Nat → Nat → Int32 → Nat → Nat → Int32 → Int32 → AH → RR
  | 0, _, _, _, _, _, _, _ => none
  | k + 1, l0, l1, l2, l3, l4, l5, h =>
  (zgR h l0 2 3).bind fun x1 =>
  (zgI h x1 0 2).bind fun x2 =>
  if x2 ≤ l5 then (
    K36 l0 l1 l2 l3 (l4 + 1) h)
  else
  (zgR h l0 2 3).bind fun x3 =>
  (zai h l2 l5).bind fun x4 =>
  (zai h l3 l5).bind fun x5 =>
  zcv (zob h x3 0) (fX0_product x3 x4 x5 h) fun v6 h7 =>
  zvi v6 fun x8 =>
  (zsi h7 l2 l5 x8).bind fun h9 =>
  fX2_readProduct_76 S K36 k l0 l1 l2 l3 l4 (l5 + 1) h9
set_option maxRecDepth 20000 in
theorem rX2_readProduct_76 {X : CT} {V : VT} {d n0 k0 : Nat} (hV : V.2.2.2.2.2.stackTraces = false) (S : Nat → Int32 → AH → RR) (hS : ∀ (e : Nat) (u0 : Nat) (u1 : Int32) (h : AH), zM V yX2_readSum cX2_readSum 7 (some .boolean) (d + e + 4) [.ref u0, .int u1] h (S u0 u1 h)) (K36 : Nat → Int32 → Nat → Nat → Int32 → AH → RR) (hK36 : ∀ l0 l1 l2 l3 l4  h, zG X V RX2 "readProduct" cX2_readProduct 6 (some .boolean) (d + 8) n0 k0 (K36 l0 l1 l2 l3 l4 h) 36 [(0, .ref l0), (1, .int l1), (2, .ref l2), (3, .ref l3), (4, .int l4)] [] h) (fu : Nat) : ∀ (l0 : Nat) (l1 : Int32) (l2 : Nat) (l3 : Nat) (l4 : Int32) (l5 : Int32) (h : AH), zG X V RX2 "readProduct" cX2_readProduct 6 (some .boolean) (d + 8) n0 k0 (fX2_readProduct_76 S K36 fu l0 l1 l2 l3 l4 l5 h) 76 [(0, .ref l0), (1, .int l1), (2, .ref l2), (3, .ref l3), (4, .int l4), (5, .int l5)] [] h := by
  induction fu with
  | zero => intros; exact z_none
  | succ k ih =>
    intro l0 l1 l2 l3 l4 l5 h
    rw [fX2_readProduct_76]
    refine z_iload 5 rfl dX2_readProduct_76 ?_
    refine z_aload_n 0 rfl rfl dX2_readProduct_78 ?_
    refine z_gR zf_RX2_15 dX2_readProduct_79 (fun x1 => ?_)
    refine z_gI zf_RX2_108 dX2_readProduct_82 (fun x2 => ?_)
    refine z_icmp_ge 113 (by decide) dX2_readProduct_85 ?_ ?_
    · refine z_inc (w := 1) (lv' := [(4, .int (l4 + 1)), (0, .ref l0), (1, .int l1), (2, .ref l2), (3, .ref l3), (5, .int l5)]) 4 rfl (by decide) (by decide) rfl dX2_readProduct_113 ?_
      refine z_goto 36 (by decide) dX2_readProduct_116 ?_
      exact z_sub [1, 2, 3, 4, 0] rfl (hK36 l0 l1 l2 l3 (l4 + 1) h)
    · refine z_aload_n 2 rfl rfl dX2_readProduct_88 ?_
      refine z_iload 5 rfl dX2_readProduct_89 ?_
      refine z_aload_n 0 rfl rfl dX2_readProduct_91 ?_
      refine z_gR zf_RX2_15 dX2_readProduct_92 (fun x3 => ?_)
      refine z_aload_n 2 rfl rfl dX2_readProduct_95 ?_
      refine z_iload 5 rfl dX2_readProduct_96 ?_
      refine z_aI dX2_readProduct_98 (fun x4 => ?_)
      refine z_aload_n 3 rfl rfl dX2_readProduct_99 ?_
      refine z_iload 5 rfl dX2_readProduct_100 ?_
      refine z_aI dX2_readProduct_102 (fun x5 => ?_)
      refine z_cV (st := [.int l5, .ref l2]) [.int x4, .int x5] zk_RX2_120 rfl (Nat.le_of_ble_eq_true rfl) dX2_readProduct_103 (mX0_product hV (d + 6) x3 x4 x5 h) (fun v6 h7 => ?_)
      refine z_vi (fun x8 => ?_)
      refine z_sI dX2_readProduct_106 (fun h9 => ?_)
      refine z_inc (w := 1) (lv' := [(5, .int (l5 + 1)), (0, .ref l0), (1, .int l1), (2, .ref l2), (3, .ref l3), (4, .int l4)]) 5 rfl (by decide) (by decide) rfl dX2_readProduct_107 ?_
      refine z_goto 76 (by decide) dX2_readProduct_110 ?_
      exact z_sub [1, 2, 3, 4, 5, 0] rfl (ih l0 l1 l2 l3 l4 (l5 + 1) h9)
def fX2_readProduct_36 (S : Nat → Int32 → AH → RR) : Nat → Nat → Int32 → Nat → Nat → Int32 → AH → RR
  | 0, _, _, _, _, _, _ => none
  | k + 1, l0, l1, l2, l3, l4, h =>
  if 300 ≤ l4 then (
    zbr 1 h)
  else
  (zgR h l0 2 2).bind fun x1 =>
  (zgI h x1 5 1).bind fun x2 =>
  if x2 = 42 then (
    (zgR h l0 2 2).bind fun x3 =>
    zcv (zob h x3 5) (fX5_step x3 h) fun v4 h5 =>
    zvn v4 <|
    zcv (zob h5 l0 2) (fX2_readUnit S l0 l1 h5) fun v6 h7 =>
    zvi v6 fun x8 =>
    if x8 = 0 then (
      zbr 0 h7)
    else
    fX2_readProduct_76 S (fun p0 p1 p2 p3 p4 h => fX2_readProduct_36 S k p0 p1 p2 p3 p4 h) FU l0 l1 l2 l3 l4 0 h7)
  else
  zbr 1 h
set_option maxRecDepth 20000 in
theorem rX2_readProduct_36 {X : CT} {V : VT} {d n0 k0 : Nat} (hV : V.2.2.2.2.2.stackTraces = false) (S : Nat → Int32 → AH → RR) (hS : ∀ (e : Nat) (u0 : Nat) (u1 : Int32) (h : AH), zM V yX2_readSum cX2_readSum 7 (some .boolean) (d + e + 4) [.ref u0, .int u1] h (S u0 u1 h)) (fu : Nat) : ∀ (l0 : Nat) (l1 : Int32) (l2 : Nat) (l3 : Nat) (l4 : Int32) (h : AH), zG X V RX2 "readProduct" cX2_readProduct 6 (some .boolean) (d + 8) n0 k0 (fX2_readProduct_36 S fu l0 l1 l2 l3 l4 h) 36 [(0, .ref l0), (1, .int l1), (2, .ref l2), (3, .ref l3), (4, .int l4)] [] h := by
  induction fu with
  | zero => intros; exact z_none
  | succ k ih =>
    intro l0 l1 l2 l3 l4 h
    rw [fX2_readProduct_36]
    refine z_iload 4 rfl dX2_readProduct_36 ?_
    refine z_sipush (v := 300) (by decide) dX2_readProduct_38 ?_
    refine z_icmp_ge 119 (by decide) dX2_readProduct_41 ?_ ?_
    · refine z_iconst (v := 1) (by decide) dX2_readProduct_119 ?_
      exact z_zret rfl dX2_readProduct_120
    · refine z_aload_n 0 rfl rfl dX2_readProduct_44 ?_
      refine z_gR zf_RX2_9 dX2_readProduct_45 (fun x1 => ?_)
      refine z_gI zf_RX2_50 dX2_readProduct_48 (fun x2 => ?_)
      refine z_bipush (v := 42) (by decide) dX2_readProduct_51 ?_
      refine z_icmp_ne 119 (by decide) dX2_readProduct_53 ?_ ?_
      · refine z_aload_n 0 rfl rfl dX2_readProduct_56 ?_
        refine z_gR zf_RX2_9 dX2_readProduct_57 (fun x3 => ?_)
        refine z_cV (st := []) [] zk_RX2_59 rfl (Nat.le_of_ble_eq_true rfl) dX2_readProduct_60 (mX5_step hV (d + 6) x3 h) (fun v4 h5 => ?_)
        refine z_vn ?_
        refine z_aload_n 0 rfl rfl dX2_readProduct_63 ?_
        refine z_iload_n 1 rfl rfl dX2_readProduct_64 ?_
        refine z_cV (st := []) [.int l1] zk_RX2_117 rfl (Nat.le_of_ble_eq_true rfl) dX2_readProduct_65 (mX2_readUnit hV (d + 0) S (fun e u0 u1 h => by rw [Nat.add_assoc d 0 e]; exact hS (0 + e) u0 u1 h) l0 l1 h5) (fun v6 h7 => ?_)
        refine z_vi (fun x8 => ?_)
        refine z_if_ne 73 (by decide) dX2_readProduct_68 ?_ ?_
        · refine z_iconst (v := 0) (by decide) dX2_readProduct_71 ?_
          exact z_zret rfl dX2_readProduct_72
        · refine z_iconst (v := 0) (by decide) dX2_readProduct_73 ?_
          refine z_istore (lv' := [(5, .int 0), (0, .ref l0), (1, .int l1), (2, .ref l2), (3, .ref l3), (4, .int l4)]) (by decide) rfl dX2_readProduct_74 ?_
          exact z_sub [1, 2, 3, 4, 5, 0] rfl (rX2_readProduct_76 hV S hS (fun p0 p1 p2 p3 p4 h => fX2_readProduct_36 S k p0 p1 p2 p3 p4 h) ih FU l0 l1 l2 l3 l4 0 h7)
      · refine z_iconst (v := 1) (by decide) dX2_readProduct_119 ?_
        exact z_zret rfl dX2_readProduct_120
def fX2_readProduct (S : Nat → Int32 → AH → RR) (a0 : Nat) (a1 : Int32) (h : AH) : RR :=
  zcv (zob h a0 2) (fX2_readUnit S a0 a1 h) fun v1 h2 =>
  zvi v1 fun x3 =>
  if x3 = 0 then (
    zbr 0 h2)
  else
  (zgR h2 a0 2 6).bind fun x4 =>
  (zar h2 x4 a1).bind fun x5 =>
  (zgR h2 a0 2 7).bind fun x6 =>
  (zar h2 x6 a1).bind fun x7 =>
  (zcp h2 x7 0 x5 0 64).bind fun h8 =>
  fX2_readProduct_36 S FU a0 a1 x5 x7 0 h8
set_option maxRecDepth 20000 in
theorem mX2_readProduct {V : VT} (hV : V.2.2.2.2.2.stackTraces = false) (d : Nat) (S : Nat → Int32 → AH → RR) (hS : ∀ (e : Nat) (u0 : Nat) (u1 : Int32) (h : AH), zM V yX2_readSum cX2_readSum 7 (some .boolean) (d + e + 4) [.ref u0, .int u1] h (S u0 u1 h)) (a0 : Nat) (a1 : Int32) (h : AH) : zM V yX2_readProduct cX2_readProduct 6 (some .boolean) (d + 8) [.ref a0, .int a1] h (fX2_readProduct S a0 a1 h) := by
  refine z_meth hV (by decide +kernel) (Nat.le_of_ble_eq_true rfl) [(0, .ref a0), (1, .int a1)] rfl (fun X => ?_)
  show zG X V RX2 "readProduct" cX2_readProduct 6 (some .boolean) (d + 8) h.1 h.2.1 (fX2_readProduct S a0 a1 h) 0 [(0, .ref a0), (1, .int a1)] [] h
  unfold fX2_readProduct
  refine z_aload_n 0 rfl rfl dX2_readProduct_0 ?_
  refine z_iload_n 1 rfl rfl dX2_readProduct_1 ?_
  refine z_cV (st := []) [.int a1] zk_RX2_117 rfl (Nat.le_of_ble_eq_true rfl) dX2_readProduct_2 (mX2_readUnit hV (d + 0) S (fun e u0 u1 h => by rw [Nat.add_assoc d 0 e]; exact hS (0 + e) u0 u1 h) a0 a1 h) (fun v1 h2 => ?_)
  refine z_vi (fun x3 => ?_)
  refine z_if_ne 10 (by decide) dX2_readProduct_5 ?_ ?_
  · refine z_iconst (v := 0) (by decide) dX2_readProduct_8 ?_
    exact z_zret rfl dX2_readProduct_9
  · refine z_aload_n 0 rfl rfl dX2_readProduct_10 ?_
    refine z_gR zf_RX2_28 dX2_readProduct_11 (fun x4 => ?_)
    refine z_iload_n 1 rfl rfl dX2_readProduct_14 ?_
    refine z_aR dX2_readProduct_15 (fun x5 => ?_)
    refine z_astore_n (lv' := [(2, .ref x5), (0, .ref a0), (1, .int a1)]) rfl (by decide) rfl dX2_readProduct_16 ?_
    refine z_aload_n 1 rfl rfl dX2_readProduct_17 ?_
    refine z_gR zf_RX2_31 dX2_readProduct_18 (fun x6 => ?_)
    refine z_iload_n 2 rfl rfl dX2_readProduct_21 ?_
    refine z_aR dX2_readProduct_22 (fun x7 => ?_)
    refine z_astore_n (lv' := [(3, .ref x7), (2, .ref x5), (0, .ref a0), (1, .int a1)]) rfl (by decide) rfl dX2_readProduct_23 ?_
    refine z_aload_n 0 rfl rfl dX2_readProduct_24 ?_
    refine z_iconst (v := 0) (by decide) dX2_readProduct_25 ?_
    refine z_aload_n 1 rfl rfl dX2_readProduct_26 ?_
    refine z_iconst (v := 0) (by decide) dX2_readProduct_27 ?_
    refine z_bipush (v := 64) (by decide) dX2_readProduct_28 ?_
    refine z_cp zw_640 zw_378 zw_377 zw_88 (Nat.le_of_ble_eq_true rfl) (by omega) dX2_readProduct_30 (fun h8 => ?_)
    refine z_iconst (v := 0) (by decide) dX2_readProduct_33 ?_
    refine z_istore (lv' := [(4, .int 0), (3, .ref x7), (2, .ref x5), (0, .ref a0), (1, .int a1)]) (by decide) rfl dX2_readProduct_34 ?_
    exact z_sub [3, 4, 2, 1, 0] rfl (rX2_readProduct_36 hV S hS FU a0 a1 x5 x7 0 h8)
def fX2_readSum_144 (S : Nat → Int32 → AH → RR) (K36 : Nat → Int32 → Nat → Nat → Int32 → AH → RR) (K89 : Nat → Int32 → Nat → Nat → Int32 → Int32 → Int32 → AH → RR) (l0 : Nat) (l1 : Int32) (l2 : Nat) (l3 : Nat) (l4 : Int32) (l5 : Int32) (l6 : Int32) (s0 : Int32) (s1 : Int32) (s2 : Nat) (h : AH) : RR :=
  (zsi h s2 s1 s0).bind fun h1 =>
  K89 l0 l1 l2 l3 l4 l5 (l6 + 1) h1
set_option maxRecDepth 20000 in
theorem rX2_readSum_144 {X : CT} {V : VT} {d n0 k0 : Nat} (hV : V.2.2.2.2.2.stackTraces = false) (S : Nat → Int32 → AH → RR) (hS : ∀ (e : Nat) (u0 : Nat) (u1 : Int32) (h : AH), zM V yX2_readSum cX2_readSum 7 (some .boolean) (d + e + 4) [.ref u0, .int u1] h (S u0 u1 h)) (K36 : Nat → Int32 → Nat → Nat → Int32 → AH → RR) (K89 : Nat → Int32 → Nat → Nat → Int32 → Int32 → Int32 → AH → RR) (hK36 : ∀ l0 l1 l2 l3 l4  h, zG X V RX2 "readSum" cX2_readSum 7 (some .boolean) (d + 9) n0 k0 (K36 l0 l1 l2 l3 l4 h) 36 [(0, .ref l0), (1, .int l1), (2, .ref l2), (3, .ref l3), (4, .int l4)] [] h) (hK89 : ∀ l0 l1 l2 l3 l4 l5 l6  h, zG X V RX2 "readSum" cX2_readSum 7 (some .boolean) (d + 9) n0 k0 (K89 l0 l1 l2 l3 l4 l5 l6 h) 89 [(0, .ref l0), (1, .int l1), (2, .ref l2), (3, .ref l3), (4, .int l4), (5, .int l5), (6, .int l6)] [] h) (l0 : Nat) (l1 : Int32) (l2 : Nat) (l3 : Nat) (l4 : Int32) (l5 : Int32) (l6 : Int32) (s0 : Int32) (s1 : Int32) (s2 : Nat) (h : AH) : zG X V RX2 "readSum" cX2_readSum 7 (some .boolean) (d + 9) n0 k0 (fX2_readSum_144 S K36 K89 l0 l1 l2 l3 l4 l5 l6 s0 s1 s2 h) 144 [(0, .ref l0), (1, .int l1), (2, .ref l2), (3, .ref l3), (4, .int l4), (5, .int l5), (6, .int l6)] [.int s0, .int s1, .ref s2] h := by
  unfold fX2_readSum_144
  refine z_sI dX2_readSum_144 (fun h1 => ?_)
  refine z_inc (w := 1) (lv' := [(6, .int (l6 + 1)), (0, .ref l0), (1, .int l1), (2, .ref l2), (3, .ref l3), (4, .int l4), (5, .int l5)]) 6 rfl (by decide) (by decide) rfl dX2_readSum_145 ?_
  refine z_goto 89 (by decide) dX2_readSum_148 ?_
  exact z_sub [1, 2, 3, 4, 5, 6, 0] rfl (hK89 l0 l1 l2 l3 l4 l5 (l6 + 1) h1)
def fX2_readSum_89 (S : Nat → Int32 → AH → RR) (K36 : Nat → Int32 → Nat → Nat → Int32 → AH → RR) : Nat → Nat → Int32 → Nat → Nat → Int32 → Int32 → Int32 → AH → RR
  | 0, _, _, _, _, _, _, _, _ => none
  | k + 1, l0, l1, l2, l3, l4, l5, l6, h =>
  (zgR h l0 2 3).bind fun x1 =>
  (zgI h x1 0 2).bind fun x2 =>
  if x2 ≤ l6 then (
    K36 l0 l1 l2 l3 (l4 + 1) h)
  else
  if l5 = 43 then (
    (zgR h l0 2 3).bind fun x3 =>
    (zai h l2 l6).bind fun x4 =>
    (zai h l3 l6).bind fun x5 =>
    zcv (zob h x3 0) (fX0_sum x3 x4 x5 h) fun v6 h7 =>
    zvi v6 fun x8 =>
    fX2_readSum_144 S K36 (fun p0 p1 p2 p3 p4 p5 p6 h => fX2_readSum_89 S K36 k p0 p1 p2 p3 p4 p5 p6 h) l0 l1 l2 l3 l4 l5 l6 x8 l6 l2 h7)
  else
  (zgR h l0 2 3).bind fun x9 =>
  (zai h l2 l6).bind fun x10 =>
  (zai h l3 l6).bind fun x11 =>
  zcv (zob h x9 0) (fX0_difference x9 x10 x11 h) fun v12 h13 =>
  zvi v12 fun x14 =>
  fX2_readSum_144 S K36 (fun p0 p1 p2 p3 p4 p5 p6 h => fX2_readSum_89 S K36 k p0 p1 p2 p3 p4 p5 p6 h) l0 l1 l2 l3 l4 l5 l6 x14 l6 l2 h13
set_option maxRecDepth 20000 in
theorem rX2_readSum_89 {X : CT} {V : VT} {d n0 k0 : Nat} (hV : V.2.2.2.2.2.stackTraces = false) (S : Nat → Int32 → AH → RR) (hS : ∀ (e : Nat) (u0 : Nat) (u1 : Int32) (h : AH), zM V yX2_readSum cX2_readSum 7 (some .boolean) (d + e + 4) [.ref u0, .int u1] h (S u0 u1 h)) (K36 : Nat → Int32 → Nat → Nat → Int32 → AH → RR) (hK36 : ∀ l0 l1 l2 l3 l4  h, zG X V RX2 "readSum" cX2_readSum 7 (some .boolean) (d + 9) n0 k0 (K36 l0 l1 l2 l3 l4 h) 36 [(0, .ref l0), (1, .int l1), (2, .ref l2), (3, .ref l3), (4, .int l4)] [] h) (fu : Nat) : ∀ (l0 : Nat) (l1 : Int32) (l2 : Nat) (l3 : Nat) (l4 : Int32) (l5 : Int32) (l6 : Int32) (h : AH), zG X V RX2 "readSum" cX2_readSum 7 (some .boolean) (d + 9) n0 k0 (fX2_readSum_89 S K36 fu l0 l1 l2 l3 l4 l5 l6 h) 89 [(0, .ref l0), (1, .int l1), (2, .ref l2), (3, .ref l3), (4, .int l4), (5, .int l5), (6, .int l6)] [] h := by
  induction fu with
  | zero => intros; exact z_none
  | succ k ih =>
    intro l0 l1 l2 l3 l4 l5 l6 h
    rw [fX2_readSum_89]
    refine z_iload 6 rfl dX2_readSum_89 ?_
    refine z_aload_n 0 rfl rfl dX2_readSum_91 ?_
    refine z_gR zf_RX2_15 dX2_readSum_92 (fun x1 => ?_)
    refine z_gI zf_RX2_108 dX2_readSum_95 (fun x2 => ?_)
    refine z_icmp_ge 151 (by decide) dX2_readSum_98 ?_ ?_
    · refine z_inc (w := 1) (lv' := [(4, .int (l4 + 1)), (0, .ref l0), (1, .int l1), (2, .ref l2), (3, .ref l3), (5, .int l5), (6, .int l6)]) 4 rfl (by decide) (by decide) rfl dX2_readSum_151 ?_
      refine z_goto 36 (by decide) dX2_readSum_154 ?_
      exact z_sub [1, 2, 3, 4, 0] rfl (hK36 l0 l1 l2 l3 (l4 + 1) h)
    · refine z_aload_n 2 rfl rfl dX2_readSum_101 ?_
      refine z_iload 6 rfl dX2_readSum_102 ?_
      refine z_iload 5 rfl dX2_readSum_104 ?_
      refine z_bipush (v := 43) (by decide) dX2_readSum_106 ?_
      refine z_icmp_ne 129 (by decide) dX2_readSum_108 ?_ ?_
      · refine z_aload_n 0 rfl rfl dX2_readSum_111 ?_
        refine z_gR zf_RX2_15 dX2_readSum_112 (fun x3 => ?_)
        refine z_aload_n 2 rfl rfl dX2_readSum_115 ?_
        refine z_iload 6 rfl dX2_readSum_116 ?_
        refine z_aI dX2_readSum_118 (fun x4 => ?_)
        refine z_aload_n 3 rfl rfl dX2_readSum_119 ?_
        refine z_iload 6 rfl dX2_readSum_120 ?_
        refine z_aI dX2_readSum_122 (fun x5 => ?_)
        refine z_cV (st := [.int l6, .ref l2]) [.int x4, .int x5] zk_RX2_111 rfl (Nat.le_of_ble_eq_true rfl) dX2_readSum_123 (mX0_sum hV (d + 7) x3 x4 x5 h) (fun v6 h7 => ?_)
        refine z_vi (fun x8 => ?_)
        refine z_goto 144 (by decide) dX2_readSum_126 ?_
        exact z_sub [0, 1, 2, 3, 4, 5, 6] rfl (rX2_readSum_144 hV S hS K36 (fun p0 p1 p2 p3 p4 p5 p6 h => fX2_readSum_89 S K36 k p0 p1 p2 p3 p4 p5 p6 h) hK36 ih l0 l1 l2 l3 l4 l5 l6 x8 l6 l2 h7)
      · refine z_aload_n 0 rfl rfl dX2_readSum_129 ?_
        refine z_gR zf_RX2_15 dX2_readSum_130 (fun x9 => ?_)
        refine z_aload_n 2 rfl rfl dX2_readSum_133 ?_
        refine z_iload 6 rfl dX2_readSum_134 ?_
        refine z_aI dX2_readSum_136 (fun x10 => ?_)
        refine z_aload_n 3 rfl rfl dX2_readSum_137 ?_
        refine z_iload 6 rfl dX2_readSum_138 ?_
        refine z_aI dX2_readSum_140 (fun x11 => ?_)
        refine z_cV (st := [.int l6, .ref l2]) [.int x10, .int x11] zk_RX2_114 rfl (Nat.le_of_ble_eq_true rfl) dX2_readSum_141 (mX0_difference hV (d + 7) x9 x10 x11 h) (fun v12 h13 => ?_)
        refine z_vi (fun x14 => ?_)
        exact z_sub [0, 1, 2, 3, 4, 5, 6] rfl (rX2_readSum_144 hV S hS K36 (fun p0 p1 p2 p3 p4 p5 p6 h => fX2_readSum_89 S K36 k p0 p1 p2 p3 p4 p5 p6 h) hK36 ih l0 l1 l2 l3 l4 l5 l6 x14 l6 l2 h13)
def fX2_readSum_69 (S : Nat → Int32 → AH → RR) (K36 : Nat → Int32 → Nat → Nat → Int32 → AH → RR) (l0 : Nat) (l1 : Int32) (l2 : Nat) (l3 : Nat) (l4 : Int32) (l5 : Int32) (h : AH) : RR :=
  (zgR h l0 2 2).bind fun x1 =>
  zcv (zob h x1 5) (fX5_step x1 h) fun v2 h3 =>
  zvn v2 <|
  zcv (zob h3 l0 2) (fX2_readProduct S l0 l1 h3) fun v4 h5 =>
  zvi v4 fun x6 =>
  if x6 = 0 then (
    zbr 0 h5)
  else
  fX2_readSum_89 S K36 FU l0 l1 l2 l3 l4 l5 0 h5
set_option maxRecDepth 20000 in
theorem rX2_readSum_69 {X : CT} {V : VT} {d n0 k0 : Nat} (hV : V.2.2.2.2.2.stackTraces = false) (S : Nat → Int32 → AH → RR) (hS : ∀ (e : Nat) (u0 : Nat) (u1 : Int32) (h : AH), zM V yX2_readSum cX2_readSum 7 (some .boolean) (d + e + 4) [.ref u0, .int u1] h (S u0 u1 h)) (K36 : Nat → Int32 → Nat → Nat → Int32 → AH → RR) (hK36 : ∀ l0 l1 l2 l3 l4  h, zG X V RX2 "readSum" cX2_readSum 7 (some .boolean) (d + 9) n0 k0 (K36 l0 l1 l2 l3 l4 h) 36 [(0, .ref l0), (1, .int l1), (2, .ref l2), (3, .ref l3), (4, .int l4)] [] h) (l0 : Nat) (l1 : Int32) (l2 : Nat) (l3 : Nat) (l4 : Int32) (l5 : Int32) (h : AH) : zG X V RX2 "readSum" cX2_readSum 7 (some .boolean) (d + 9) n0 k0 (fX2_readSum_69 S K36 l0 l1 l2 l3 l4 l5 h) 69 [(0, .ref l0), (1, .int l1), (2, .ref l2), (3, .ref l3), (4, .int l4), (5, .int l5)] [] h := by
  unfold fX2_readSum_69
  refine z_aload_n 0 rfl rfl dX2_readSum_69 ?_
  refine z_gR zf_RX2_9 dX2_readSum_70 (fun x1 => ?_)
  refine z_cV (st := []) [] zk_RX2_59 rfl (Nat.le_of_ble_eq_true rfl) dX2_readSum_73 (mX5_step hV (d + 7) x1 h) (fun v2 h3 => ?_)
  refine z_vn ?_
  refine z_aload_n 0 rfl rfl dX2_readSum_76 ?_
  refine z_iload_n 1 rfl rfl dX2_readSum_77 ?_
  refine z_cV (st := []) [.int l1] zk_RX2_105 rfl (Nat.le_of_ble_eq_true rfl) dX2_readSum_78 (mX2_readProduct hV (d + 0) S (fun e u0 u1 h => by rw [Nat.add_assoc d 0 e]; exact hS (0 + e) u0 u1 h) l0 l1 h3) (fun v4 h5 => ?_)
  refine z_vi (fun x6 => ?_)
  refine z_if_ne 86 (by decide) dX2_readSum_81 ?_ ?_
  · refine z_iconst (v := 0) (by decide) dX2_readSum_84 ?_
    exact z_zret rfl dX2_readSum_85
  · refine z_iconst (v := 0) (by decide) dX2_readSum_86 ?_
    refine z_istore (lv' := [(6, .int 0), (0, .ref l0), (1, .int l1), (2, .ref l2), (3, .ref l3), (4, .int l4), (5, .int l5)]) (by decide) rfl dX2_readSum_87 ?_
    exact z_sub [1, 2, 3, 4, 5, 6, 0] rfl (rX2_readSum_89 hV S hS K36 hK36 FU l0 l1 l2 l3 l4 l5 0 h5)
def fX2_readSum_36 (S : Nat → Int32 → AH → RR) : Nat → Nat → Int32 → Nat → Nat → Int32 → AH → RR
  | 0, _, _, _, _, _, _ => none
  | k + 1, l0, l1, l2, l3, l4, h =>
  if 300 ≤ l4 then (
    zbr 1 h)
  else
  (zgR h l0 2 2).bind fun x1 =>
  (zgI h x1 5 1).bind fun x2 =>
  if x2 = 43 then (
    fX2_readSum_69 S (fun p0 p1 p2 p3 p4 h => fX2_readSum_36 S k p0 p1 p2 p3 p4 h) l0 l1 l2 l3 l4 x2 h)
  else
  if x2 = 45 then (
    fX2_readSum_69 S (fun p0 p1 p2 p3 p4 h => fX2_readSum_36 S k p0 p1 p2 p3 p4 h) l0 l1 l2 l3 l4 x2 h)
  else
  zbr 1 h
set_option maxRecDepth 20000 in
theorem rX2_readSum_36 {X : CT} {V : VT} {d n0 k0 : Nat} (hV : V.2.2.2.2.2.stackTraces = false) (S : Nat → Int32 → AH → RR) (hS : ∀ (e : Nat) (u0 : Nat) (u1 : Int32) (h : AH), zM V yX2_readSum cX2_readSum 7 (some .boolean) (d + e + 4) [.ref u0, .int u1] h (S u0 u1 h)) (fu : Nat) : ∀ (l0 : Nat) (l1 : Int32) (l2 : Nat) (l3 : Nat) (l4 : Int32) (h : AH), zG X V RX2 "readSum" cX2_readSum 7 (some .boolean) (d + 9) n0 k0 (fX2_readSum_36 S fu l0 l1 l2 l3 l4 h) 36 [(0, .ref l0), (1, .int l1), (2, .ref l2), (3, .ref l3), (4, .int l4)] [] h := by
  induction fu with
  | zero => intros; exact z_none
  | succ k ih =>
    intro l0 l1 l2 l3 l4 h
    rw [fX2_readSum_36]
    refine z_iload 4 rfl dX2_readSum_36 ?_
    refine z_sipush (v := 300) (by decide) dX2_readSum_38 ?_
    refine z_icmp_ge 157 (by decide) dX2_readSum_41 ?_ ?_
    · refine z_iconst (v := 1) (by decide) dX2_readSum_157 ?_
      exact z_zret rfl dX2_readSum_158
    · refine z_aload_n 0 rfl rfl dX2_readSum_44 ?_
      refine z_gR zf_RX2_9 dX2_readSum_45 (fun x1 => ?_)
      refine z_gI zf_RX2_50 dX2_readSum_48 (fun x2 => ?_)
      refine z_istore (lv' := [(5, .int x2), (0, .ref l0), (1, .int l1), (2, .ref l2), (3, .ref l3), (4, .int l4)]) (by decide) rfl dX2_readSum_51 ?_
      refine z_iload 0 rfl dX2_readSum_53 ?_
      refine z_bipush (v := 43) (by decide) dX2_readSum_55 ?_
      refine z_icmp_eq 69 (by decide) dX2_readSum_57 ?_ ?_
      · exact z_sub [1, 2, 3, 4, 5, 0] rfl (rX2_readSum_69 hV S hS (fun p0 p1 p2 p3 p4 h => fX2_readSum_36 S k p0 p1 p2 p3 p4 h) ih l0 l1 l2 l3 l4 x2 h)
      · refine z_iload 0 rfl dX2_readSum_60 ?_
        refine z_bipush (v := 45) (by decide) dX2_readSum_62 ?_
        refine z_icmp_eq 69 (by decide) dX2_readSum_64 ?_ ?_
        · exact z_sub [1, 2, 3, 4, 5, 0] rfl (rX2_readSum_69 hV S hS (fun p0 p1 p2 p3 p4 h => fX2_readSum_36 S k p0 p1 p2 p3 p4 h) ih l0 l1 l2 l3 l4 x2 h)
        · refine z_iconst (v := 1) (by decide) dX2_readSum_67 ?_
          exact z_zret rfl dX2_readSum_68
def fX2_readSumB (S : Nat → Int32 → AH → RR) (a0 : Nat) (a1 : Int32) (h : AH) : RR :=
  zcv (zob h a0 2) (fX2_readProduct S a0 a1 h) fun v1 h2 =>
  zvi v1 fun x3 =>
  if x3 = 0 then (
    zbr 0 h2)
  else
  (zgR h2 a0 2 5).bind fun x4 =>
  (zar h2 x4 a1).bind fun x5 =>
  (zgR h2 a0 2 6).bind fun x6 =>
  (zar h2 x6 a1).bind fun x7 =>
  (zcp h2 x7 0 x5 0 64).bind fun h8 =>
  fX2_readSum_36 S FU a0 a1 x5 x7 0 h8
set_option maxRecDepth 20000 in
theorem mX2_readSumB {V : VT} (hV : V.2.2.2.2.2.stackTraces = false) (d : Nat) (S : Nat → Int32 → AH → RR) (hS : ∀ (e : Nat) (u0 : Nat) (u1 : Int32) (h : AH), zM V yX2_readSum cX2_readSum 7 (some .boolean) (d + e + 4) [.ref u0, .int u1] h (S u0 u1 h)) (a0 : Nat) (a1 : Int32) (h : AH) : zM V yX2_readSum cX2_readSum 7 (some .boolean) (d + 9) [.ref a0, .int a1] h (fX2_readSumB S a0 a1 h) := by
  refine z_meth hV (by decide +kernel) (Nat.le_of_ble_eq_true rfl) [(0, .ref a0), (1, .int a1)] rfl (fun X => ?_)
  show zG X V RX2 "readSum" cX2_readSum 7 (some .boolean) (d + 9) h.1 h.2.1 (fX2_readSumB S a0 a1 h) 0 [(0, .ref a0), (1, .int a1)] [] h
  unfold fX2_readSumB
  refine z_aload_n 0 rfl rfl dX2_readSum_0 ?_
  refine z_iload_n 1 rfl rfl dX2_readSum_1 ?_
  refine z_cV (st := []) [.int a1] zk_RX2_105 rfl (Nat.le_of_ble_eq_true rfl) dX2_readSum_2 (mX2_readProduct hV (d + 0) S (fun e u0 u1 h => by rw [Nat.add_assoc d 0 e]; exact hS (0 + e) u0 u1 h) a0 a1 h) (fun v1 h2 => ?_)
  refine z_vi (fun x3 => ?_)
  refine z_if_ne 10 (by decide) dX2_readSum_5 ?_ ?_
  · refine z_iconst (v := 0) (by decide) dX2_readSum_8 ?_
    exact z_zret rfl dX2_readSum_9
  · refine z_aload_n 0 rfl rfl dX2_readSum_10 ?_
    refine z_gR zf_RX2_25 dX2_readSum_11 (fun x4 => ?_)
    refine z_iload_n 1 rfl rfl dX2_readSum_14 ?_
    refine z_aR dX2_readSum_15 (fun x5 => ?_)
    refine z_astore_n (lv' := [(2, .ref x5), (0, .ref a0), (1, .int a1)]) rfl (by decide) rfl dX2_readSum_16 ?_
    refine z_aload_n 1 rfl rfl dX2_readSum_17 ?_
    refine z_gR zf_RX2_28 dX2_readSum_18 (fun x6 => ?_)
    refine z_iload_n 2 rfl rfl dX2_readSum_21 ?_
    refine z_aR dX2_readSum_22 (fun x7 => ?_)
    refine z_astore_n (lv' := [(3, .ref x7), (2, .ref x5), (0, .ref a0), (1, .int a1)]) rfl (by decide) rfl dX2_readSum_23 ?_
    refine z_aload_n 0 rfl rfl dX2_readSum_24 ?_
    refine z_iconst (v := 0) (by decide) dX2_readSum_25 ?_
    refine z_aload_n 1 rfl rfl dX2_readSum_26 ?_
    refine z_iconst (v := 0) (by decide) dX2_readSum_27 ?_
    refine z_bipush (v := 64) (by decide) dX2_readSum_28 ?_
    refine z_cp zw_640 zw_378 zw_377 zw_88 (Nat.le_of_ble_eq_true rfl) (by omega) dX2_readSum_30 (fun h8 => ?_)
    refine z_iconst (v := 0) (by decide) dX2_readSum_33 ?_
    refine z_istore (lv' := [(4, .int 0), (3, .ref x7), (2, .ref x5), (0, .ref a0), (1, .int a1)]) (by decide) rfl dX2_readSum_34 ?_
    exact z_sub [3, 4, 2, 1, 0] rfl (rX2_readSum_36 hV S hS FU a0 a1 x5 x7 0 h8)
def fX2_readSum : Nat → Nat → Int32 → AH → RR
  | 0, _, _, _ => none
  | n + 1, a0, a1, h => fX2_readSumB (fX2_readSum n) a0 a1 h
theorem mX2_readSum {V : VT} (hV : V.2.2.2.2.2.stackTraces = false) (n : Nat) : ∀ (d : Nat) (a0 : Nat) (a1 : Int32) (h : AH), zM V yX2_readSum cX2_readSum 7 (some .boolean) (d + (5 * n + 4)) [.ref a0, .int a1] h (fX2_readSum n a0 a1 h) := by
  induction n with
  | zero => intros; exact fun _ _ hr => by cases hr
  | succ n ih =>
    intro d a0 a1 h
    have e : d + (5 * (n + 1) + 4) = (d + 5 * n) + 9 := by omega
    rw [e, fX2_readSum]
    refine mX2_readSumB hV (d + 5 * n) (fX2_readSum n) (fun e u0 u1 h => ?_) a0 a1 h
    have e2 : (d + 5 * n) + e + 4 = (d + e) + (5 * n + 4) := by omega
    rw [e2]
    exact ih (d + e) u0 u1 h
theorem mX2_readSumF {V : VT} (hV : V.2.2.2.2.2.stackTraces = false) (d : Nat) (a0 : Nat) (a1 : Int32) (h : AH) : zM V yX2_readSum cX2_readSum 7 (some .boolean) (d + 64) [.ref a0, .int a1] h (fX2_readSum 12 a0 a1 h) := mX2_readSum hV 12 d a0 a1 h
def fX2_read_29 : Nat → Nat → Int32 → AH → RR
  | 0, _, _, _ => none
  | k + 1, l0, l1, h =>
  if 6 < l1 then (
    zbr 1 h)
  else
  (zgR h l0 2 2).bind fun x1 =>
  (zgI h x1 5 1).bind fun x2 =>
  if x2 = 0 then (
    zbr 1 h)
  else
  (zgR h l0 2 2).bind fun x3 =>
  (zgI h x3 5 1).bind fun x4 =>
  if x4 = 3 then (
    (zgR h l0 2 4).bind fun x5 =>
    (zgI h x5 3 2).bind fun x6 =>
    if x6 < 6 then (
      (zgR h l0 2 2).bind fun x7 =>
      zcv (zob h x7 5) (fX5_step x7 h) fun v8 h9 =>
      zvn v8 <|
      zcv (zob h9 l0 2) (fX2_readSum 12 l0 0 h9) fun v10 h11 =>
      zvi v10 fun x12 =>
      if x12 = 0 then (
        zbr 0 h11)
      else
      zcv (zob h11 l0 2) (fX2_takeSign l0 59 h11) fun v13 h14 =>
      zvi v13 fun x15 =>
      if x15 = 0 then (
        zbr 0 h14)
      else
      (zgR h14 l0 2 5).bind fun x16 =>
      (zar h14 x16 0).bind fun x17 =>
      (zgR h14 l0 2 4).bind fun x18 =>
      (zgR h14 x18 3 3).bind fun x19 =>
      (zgR h14 l0 2 4).bind fun x20 =>
      (zgI h14 x20 3 2).bind fun x21 =>
      (zar h14 x19 x21).bind fun x22 =>
      (zcp h14 x17 0 x22 0 64).bind fun h23 =>
      (zgR h23 l0 2 4).bind fun x24 =>
      (zgI h23 x24 3 2).bind fun x25 =>
      (zpf h23 x24 3 2 (.int (x25 + 1))).bind fun h26 =>
      fX2_read_29 k l0 (l1 + 1) h26)
    else
    zcv (zob h l0 2) (fX2_refuse l0 3 h) fun v27 h28 =>
    zvi v27 fun x29 =>
    zbr x29 h28)
  else
  zcv (zob h l0 2) (fX2_refuse l0 1 h) fun v30 h31 =>
  zvi v30 fun x32 =>
  zbr x32 h31
set_option maxRecDepth 20000 in
theorem rX2_read_29 {X : CT} {V : VT} {d n0 k0 : Nat} (hV : V.2.2.2.2.2.stackTraces = false) (fu : Nat) : ∀ (l0 : Nat) (l1 : Int32) (h : AH), zG X V RX2 "read" cX2_read 2 (some .boolean) (d + 65) n0 k0 (fX2_read_29 fu l0 l1 h) 29 [(0, .ref l0), (1, .int l1)] [] h := by
  induction fu with
  | zero => intros; exact z_none
  | succ k ih =>
    intro l0 l1 h
    rw [fX2_read_29]
    refine z_iload_n 1 rfl rfl dX2_read_29 ?_
    refine z_bipush (v := 6) (by decide) dX2_read_30 ?_
    refine z_icmp_gt 153 (by decide) dX2_read_32 ?_ ?_
    · refine z_iconst (v := 1) (by decide) dX2_read_153 ?_
      exact z_zret rfl dX2_read_154
    · refine z_aload_n 0 rfl rfl dX2_read_35 ?_
      refine z_gR zf_RX2_9 dX2_read_36 (fun x1 => ?_)
      refine z_gI zf_RX2_50 dX2_read_39 (fun x2 => ?_)
      refine z_if_eq 153 (by decide) dX2_read_42 ?_ ?_
      · refine z_iconst (v := 1) (by decide) dX2_read_153 ?_
        exact z_zret rfl dX2_read_154
      · refine z_aload_n 0 rfl rfl dX2_read_45 ?_
        refine z_gR zf_RX2_9 dX2_read_46 (fun x3 => ?_)
        refine z_gI zf_RX2_50 dX2_read_49 (fun x4 => ?_)
        refine z_iconst (v := 3) (by decide) dX2_read_52 ?_
        refine z_icmp_eq 62 (by decide) dX2_read_53 ?_ ?_
        · refine z_aload_n 0 rfl rfl dX2_read_62 ?_
          refine z_gR zf_RX2_19 dX2_read_63 (fun x5 => ?_)
          refine z_gI zf_RX2_41 dX2_read_66 (fun x6 => ?_)
          refine z_bipush (v := 6) (by decide) dX2_read_69 ?_
          refine z_icmp_lt 80 (by decide) dX2_read_71 ?_ ?_
          · refine z_aload_n 0 rfl rfl dX2_read_80 ?_
            refine z_gR zf_RX2_9 dX2_read_81 (fun x7 => ?_)
            refine z_cV (st := []) [] zk_RX2_59 rfl (Nat.le_of_ble_eq_true rfl) dX2_read_84 (mX5_step hV (d + 63) x7 h) (fun v8 h9 => ?_)
            refine z_vn ?_
            refine z_aload_n 0 rfl rfl dX2_read_87 ?_
            refine z_iconst (v := 0) (by decide) dX2_read_88 ?_
            refine z_cV (st := []) [.int 0] zk_RX2_62 rfl (Nat.le_of_ble_eq_true rfl) dX2_read_89 (mX2_readSumF hV (d + 0) l0 0 h9) (fun v10 h11 => ?_)
            refine z_vi (fun x12 => ?_)
            refine z_if_eq 104 (by decide) dX2_read_92 ?_ ?_
            · refine z_iconst (v := 0) (by decide) dX2_read_104 ?_
              exact z_zret rfl dX2_read_105
            · refine z_aload_n 0 rfl rfl dX2_read_95 ?_
              refine z_bipush (v := 59) (by decide) dX2_read_96 ?_
              refine z_cV (st := []) [.int 59] zk_RX2_65 rfl (Nat.le_of_ble_eq_true rfl) dX2_read_98 (mX2_takeSign hV (d + 62) l0 59 h11) (fun v13 h14 => ?_)
              refine z_vi (fun x15 => ?_)
              refine z_if_ne 106 (by decide) dX2_read_101 ?_ ?_
              · refine z_iconst (v := 0) (by decide) dX2_read_104 ?_
                exact z_zret rfl dX2_read_105
              · refine z_aload_n 0 rfl rfl dX2_read_106 ?_
                refine z_gR zf_RX2_25 dX2_read_107 (fun x16 => ?_)
                refine z_iconst (v := 0) (by decide) dX2_read_110 ?_
                refine z_aR dX2_read_111 (fun x17 => ?_)
                refine z_iconst (v := 0) (by decide) dX2_read_112 ?_
                refine z_aload_n 0 rfl rfl dX2_read_113 ?_
                refine z_gR zf_RX2_19 dX2_read_114 (fun x18 => ?_)
                refine z_gR zf_RX2_68 dX2_read_117 (fun x19 => ?_)
                refine z_aload_n 0 rfl rfl dX2_read_120 ?_
                refine z_gR zf_RX2_19 dX2_read_121 (fun x20 => ?_)
                refine z_gI zf_RX2_41 dX2_read_124 (fun x21 => ?_)
                refine z_aR dX2_read_127 (fun x22 => ?_)
                refine z_iconst (v := 0) (by decide) dX2_read_128 ?_
                refine z_bipush (v := 64) (by decide) dX2_read_129 ?_
                refine z_cp zw_640 zw_378 zw_377 zw_88 (Nat.le_of_ble_eq_true rfl) (by omega) dX2_read_131 (fun h23 => ?_)
                refine z_aload_n 0 rfl rfl dX2_read_134 ?_
                refine z_gR zf_RX2_19 dX2_read_135 (fun x24 => ?_)
                refine z_dup rfl dX2_read_138 ?_
                refine z_gI zf_RX2_41 dX2_read_139 (fun x25 => ?_)
                refine z_iconst (v := 1) (by decide) dX2_read_142 ?_
                refine z_iadd dX2_read_143 ?_
                refine z_pI zf_RX2_41 zq_3_2 rfl dX2_read_144 (fun h26 => ?_)
                refine z_inc (w := 1) (lv' := [(1, .int (l1 + 1)), (0, .ref l0)]) 1 rfl (by decide) (by decide) rfl dX2_read_147 ?_
                refine z_goto 29 (by decide) dX2_read_150 ?_
                exact z_sub [1, 0] rfl (ih l0 (l1 + 1) h26)
          · refine z_aload_n 0 rfl rfl dX2_read_74 ?_
            refine z_iconst (v := 3) (by decide) dX2_read_75 ?_
            refine z_cV (st := []) [.int 3] zk_RX2_55 rfl (Nat.le_of_ble_eq_true rfl) dX2_read_76 (mX2_refuse hV (d + 63) l0 3 h) (fun v27 h28 => ?_)
            refine z_vi (fun x29 => ?_)
            exact z_zret rfl dX2_read_79
        · refine z_aload_n 0 rfl rfl dX2_read_56 ?_
          refine z_iconst (v := 1) (by decide) dX2_read_57 ?_
          refine z_cV (st := []) [.int 1] zk_RX2_55 rfl (Nat.le_of_ble_eq_true rfl) dX2_read_58 (mX2_refuse hV (d + 63) l0 1 h) (fun v30 h31 => ?_)
          refine z_vi (fun x32 => ?_)
          exact z_zret rfl dX2_read_61
def fX2_read (a0 : Nat) (h : AH) : RR :=
  (zpf h a0 2 0 (.int 0)).bind fun h1 =>
  (zpf h1 a0 2 1 (.int (-1))).bind fun h2 =>
  (zgR h2 a0 2 4).bind fun x3 =>
  (zpf h2 x3 3 2 (.int 0)).bind fun h4 =>
  zcv (zob h4 a0 2) (fX2_readField a0 h4) fun v5 h6 =>
  zvi v5 fun x7 =>
  if x7 = 0 then (
    zbr 0 h6)
  else
  fX2_read_29 FU a0 0 h6
set_option maxRecDepth 20000 in
theorem mX2_read {V : VT} (hV : V.2.2.2.2.2.stackTraces = false) (d : Nat) (a0 : Nat) (h : AH) : zM V yX2_read cX2_read 2 (some .boolean) (d + 65) [.ref a0] h (fX2_read a0 h) := by
  refine z_meth hV (by decide +kernel) (Nat.le_of_ble_eq_true rfl) [(0, .ref a0)] rfl (fun X => ?_)
  show zG X V RX2 "read" cX2_read 2 (some .boolean) (d + 65) h.1 h.2.1 (fX2_read a0 h) 0 [(0, .ref a0)] [] h
  unfold fX2_read
  refine z_aload_n 0 rfl rfl dX2_read_0 ?_
  refine z_iconst (v := 0) (by decide) dX2_read_1 ?_
  refine z_pI zf_RX2_34 zq_2_0 rfl dX2_read_2 (fun h1 => ?_)
  refine z_aload_n 0 rfl rfl dX2_read_5 ?_
  refine z_iconst (v := (-1)) (by decide) dX2_read_6 ?_
  refine z_pI zf_RX2_38 zq_2_1 rfl dX2_read_7 (fun h2 => ?_)
  refine z_aload_n 0 rfl rfl dX2_read_10 ?_
  refine z_gR zf_RX2_19 dX2_read_11 (fun x3 => ?_)
  refine z_iconst (v := 0) (by decide) dX2_read_14 ?_
  refine z_pI zf_RX2_41 zq_3_2 rfl dX2_read_15 (fun h4 => ?_)
  refine z_aload_n 0 rfl rfl dX2_read_18 ?_
  refine z_cV (st := []) [] zk_RX2_46 rfl (Nat.le_of_ble_eq_true rfl) dX2_read_19 (mX2_readField hV (d + 60) a0 h4) (fun v5 h6 => ?_)
  refine z_vi (fun x7 => ?_)
  refine z_if_ne 27 (by decide) dX2_read_22 ?_ ?_
  · refine z_iconst (v := 0) (by decide) dX2_read_25 ?_
    exact z_zret rfl dX2_read_26
  · refine z_iconst (v := 0) (by decide) dX2_read_27 ?_
    refine z_istore_n (lv' := [(1, .int 0), (0, .ref a0)]) rfl (by decide) rfl dX2_read_28 ?_
    exact z_sub [1, 0] rfl (rX2_read_29 hV FU a0 0 h6)
