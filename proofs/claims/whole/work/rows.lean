section
-- ===== PART A: goes FIRST, ahead of the names: the tables' words, and 'selects' of the private methods out of them =====
/-- a private method of a class that the tables say can be made, by its rows of tables_1 -/
def lw_okq (q : MethodName × Nat) : Prop := (q.1.cls ≠ "java/lang/invoke/MethodHandle" ∧ q.1.cls ≠ "java/lang/invoke/VarHandle") ∧ Cond.instantiable q.1.cls q.2 ∈ tables_1 ∧ Cond.privateMethod q.1 ∈ tables_1 ∧ Cond.instanceMethod q.1 ∈ tables_1
theorem lw_p0 : lw_okq (⟨"FieldPerms$Field", "fillSums", "(II)V"⟩, 9) := ⟨⟨by decide +kernel, by decide +kernel⟩, List.mem_of_getElem? (i := 31) (by decide +kernel), List.mem_of_getElem? (i := 47) (by decide +kernel), List.mem_of_getElem? (i := 48) (by decide +kernel)⟩
theorem lw_p1 : lw_okq (⟨"FieldPerms$Field", "fillRisen", "(II)V"⟩, 9) := ⟨⟨by decide +kernel, by decide +kernel⟩, List.mem_of_getElem? (i := 31) (by decide +kernel), List.mem_of_getElem? (i := 55) (by decide +kernel), List.mem_of_getElem? (i := 56) (by decide +kernel)⟩
theorem lw_p2 : lw_okq (⟨"FieldPerms$Field", "fillProducts", "(II)V"⟩, 9) := ⟨⟨by decide +kernel, by decide +kernel⟩, List.mem_of_getElem? (i := 31) (by decide +kernel), List.mem_of_getElem? (i := 59) (by decide +kernel), List.mem_of_getElem? (i := 60) (by decide +kernel)⟩
theorem lw_p3 : lw_okq (⟨"FieldPerms$Study", "imageOfSet", "([IJ)J"⟩, 6) := ⟨⟨by decide +kernel, by decide +kernel⟩, List.mem_of_getElem? (i := 228) (by decide +kernel), List.mem_of_getElem? (i := 333) (by decide +kernel), List.mem_of_getElem? (i := 334) (by decide +kernel)⟩
theorem lw_p4 : lw_okq (⟨"FieldPerms", "needNumber", "(III)V"⟩, 9) := ⟨⟨by decide +kernel, by decide +kernel⟩, List.mem_of_getElem? (i := 23) (by decide +kernel), List.mem_of_getElem? (i := 363) (by decide +kernel), List.mem_of_getElem? (i := 364) (by decide +kernel)⟩
theorem lw_p5 : lw_okq (⟨"java/lang/Throwable", "fillInStackTrace", "(I)Ljava/lang/Throwable;"⟩, 6) := ⟨⟨by decide +kernel, by decide +kernel⟩, List.mem_of_getElem? (i := 405) (by decide +kernel), List.mem_of_getElem? (i := 403) (by decide +kernel), List.mem_of_getElem? (i := 404) (by decide +kernel)⟩
theorem lw_p6 : lw_okq (⟨"FieldPerms$Tape", "cutOne", "(III)I"⟩, 9) := ⟨⟨by decide +kernel, by decide +kernel⟩, List.mem_of_getElem? (i := 156) (by decide +kernel), List.mem_of_getElem? (i := 439) (by decide +kernel), List.mem_of_getElem? (i := 440) (by decide +kernel)⟩
theorem lw_p7 : lw_okq (⟨"FieldPerms$Tape", "wordKind", "(II)I"⟩, 9) := ⟨⟨by decide +kernel, by decide +kernel⟩, List.mem_of_getElem? (i := 156) (by decide +kernel), List.mem_of_getElem? (i := 453) (by decide +kernel), List.mem_of_getElem? (i := 454) (by decide +kernel)⟩
theorem lw_p8 : lw_okq (⟨"FieldPerms$Tape", "spells", "(Ljava/lang/String;II)Z"⟩, 9) := ⟨⟨by decide +kernel, by decide +kernel⟩, List.mem_of_getElem? (i := 156) (by decide +kernel), List.mem_of_getElem? (i := 458) (by decide +kernel), List.mem_of_getElem? (i := 459) (by decide +kernel)⟩
theorem lw_p9 : lw_okq (⟨"FieldPerms$Reader", "readField", "()Z"⟩, 8) := ⟨⟨by decide +kernel, by decide +kernel⟩, List.mem_of_getElem? (i := 194) (by decide +kernel), List.mem_of_getElem? (i := 525) (by decide +kernel), List.mem_of_getElem? (i := 526) (by decide +kernel)⟩
theorem lw_p10 : lw_okq (⟨"FieldPerms$Reader", "refuse", "(I)Z"⟩, 8) := ⟨⟨by decide +kernel, by decide +kernel⟩, List.mem_of_getElem? (i := 194) (by decide +kernel), List.mem_of_getElem? (i := 529) (by decide +kernel), List.mem_of_getElem? (i := 530) (by decide +kernel)⟩
theorem lw_p11 : lw_okq (⟨"FieldPerms$Reader", "seeNumber", "(I)Z"⟩, 8) := ⟨⟨by decide +kernel, by decide +kernel⟩, List.mem_of_getElem? (i := 194) (by decide +kernel), List.mem_of_getElem? (i := 534) (by decide +kernel), List.mem_of_getElem? (i := 535) (by decide +kernel)⟩
theorem lw_p12 : lw_okq (⟨"FieldPerms$Reader", "takeSign", "(I)Z"⟩, 8) := ⟨⟨by decide +kernel, by decide +kernel⟩, List.mem_of_getElem? (i := 194) (by decide +kernel), List.mem_of_getElem? (i := 543) (by decide +kernel), List.mem_of_getElem? (i := 544) (by decide +kernel)⟩
theorem lw_p13 : lw_okq (⟨"FieldPerms$Reader", "readSum", "(I)Z"⟩, 8) := ⟨⟨by decide +kernel, by decide +kernel⟩, List.mem_of_getElem? (i := 194) (by decide +kernel), List.mem_of_getElem? (i := 547) (by decide +kernel), List.mem_of_getElem? (i := 548) (by decide +kernel)⟩
theorem lw_p14 : lw_okq (⟨"FieldPerms$Reader", "readProduct", "(I)Z"⟩, 8) := ⟨⟨by decide +kernel, by decide +kernel⟩, List.mem_of_getElem? (i := 194) (by decide +kernel), List.mem_of_getElem? (i := 551) (by decide +kernel), List.mem_of_getElem? (i := 552) (by decide +kernel)⟩
theorem lw_p15 : lw_okq (⟨"FieldPerms$Reader", "readUnit", "(I)Z"⟩, 8) := ⟨⟨by decide +kernel, by decide +kernel⟩, List.mem_of_getElem? (i := 194) (by decide +kernel), List.mem_of_getElem? (i := 555) (by decide +kernel), List.mem_of_getElem? (i := 556) (by decide +kernel)⟩
def lw_privs_1 : List (MethodName × Nat) := [(⟨"FieldPerms$Field", "fillSums", "(II)V"⟩, 9), (⟨"FieldPerms$Field", "fillRisen", "(II)V"⟩, 9), (⟨"FieldPerms$Field", "fillProducts", "(II)V"⟩, 9), (⟨"FieldPerms$Study", "imageOfSet", "([IJ)J"⟩, 6), (⟨"FieldPerms", "needNumber", "(III)V"⟩, 9), (⟨"java/lang/Throwable", "fillInStackTrace", "(I)Ljava/lang/Throwable;"⟩, 6), (⟨"FieldPerms$Tape", "cutOne", "(III)I"⟩, 9), (⟨"FieldPerms$Tape", "wordKind", "(II)I"⟩, 9), (⟨"FieldPerms$Tape", "spells", "(Ljava/lang/String;II)Z"⟩, 9), (⟨"FieldPerms$Reader", "readField", "()Z"⟩, 8), (⟨"FieldPerms$Reader", "refuse", "(I)Z"⟩, 8), (⟨"FieldPerms$Reader", "seeNumber", "(I)Z"⟩, 8), (⟨"FieldPerms$Reader", "takeSign", "(I)Z"⟩, 8), (⟨"FieldPerms$Reader", "readSum", "(I)Z"⟩, 8), (⟨"FieldPerms$Reader", "readProduct", "(I)Z"⟩, 8), (⟨"FieldPerms$Reader", "readUnit", "(I)Z"⟩, 8)]
theorem lw_r1 : ∀ q ∈ lw_privs_1, lw_okq q := List.forall_mem_cons.mpr ⟨lw_p0, List.forall_mem_cons.mpr ⟨lw_p1, List.forall_mem_cons.mpr ⟨lw_p2, List.forall_mem_cons.mpr ⟨lw_p3, List.forall_mem_cons.mpr ⟨lw_p4, List.forall_mem_cons.mpr ⟨lw_p5, List.forall_mem_cons.mpr ⟨lw_p6, List.forall_mem_cons.mpr ⟨lw_p7, List.forall_mem_cons.mpr ⟨lw_p8, List.forall_mem_cons.mpr ⟨lw_p9, List.forall_mem_cons.mpr ⟨lw_p10, List.forall_mem_cons.mpr ⟨lw_p11, List.forall_mem_cons.mpr ⟨lw_p12, List.forall_mem_cons.mpr ⟨lw_p13, List.forall_mem_cons.mpr ⟨lw_p14, List.forall_mem_cons.mpr ⟨lw_p15, fun _ h => absurd h List.not_mem_nil⟩⟩⟩⟩⟩⟩⟩⟩⟩⟩⟩⟩⟩⟩⟩⟩
theorem lw_p16 : lw_okq (⟨"FieldPerms$Reader", "readPoint", "([I)Z"⟩, 8) := ⟨⟨by decide +kernel, by decide +kernel⟩, List.mem_of_getElem? (i := 194) (by decide +kernel), List.mem_of_getElem? (i := 559) (by decide +kernel), List.mem_of_getElem? (i := 560) (by decide +kernel)⟩
theorem lw_p17 : lw_okq (⟨"FieldPerms$Reader", "readX", "([I)Z"⟩, 8) := ⟨⟨by decide +kernel, by decide +kernel⟩, List.mem_of_getElem? (i := 194) (by decide +kernel), List.mem_of_getElem? (i := 563) (by decide +kernel), List.mem_of_getElem? (i := 564) (by decide +kernel)⟩
theorem lw_p18 : lw_okq (⟨"FieldPerms$Reader", "readBracket", "(I)Z"⟩, 8) := ⟨⟨by decide +kernel, by decide +kernel⟩, List.mem_of_getElem? (i := 194) (by decide +kernel), List.mem_of_getElem? (i := 567) (by decide +kernel), List.mem_of_getElem? (i := 568) (by decide +kernel)⟩
theorem lw_p19 : lw_okq (⟨"FieldPerms$Reader", "readInner", "(I)Z"⟩, 8) := ⟨⟨by decide +kernel, by decide +kernel⟩, List.mem_of_getElem? (i := 194) (by decide +kernel), List.mem_of_getElem? (i := 572) (by decide +kernel), List.mem_of_getElem? (i := 573) (by decide +kernel)⟩
theorem lw_p20 : lw_okq (⟨"FieldPerms$Reader", "readDickson", "([I)Z"⟩, 8) := ⟨⟨by decide +kernel, by decide +kernel⟩, List.mem_of_getElem? (i := 194) (by decide +kernel), List.mem_of_getElem? (i := 576) (by decide +kernel), List.mem_of_getElem? (i := 577) (by decide +kernel)⟩
theorem lw_p21 : lw_okq (⟨"FieldPerms$Reader", "readPower", "([I)Z"⟩, 8) := ⟨⟨by decide +kernel, by decide +kernel⟩, List.mem_of_getElem? (i := 194) (by decide +kernel), List.mem_of_getElem? (i := 588) (by decide +kernel), List.mem_of_getElem? (i := 589) (by decide +kernel)⟩
theorem lw_p22 : lw_okq (⟨"FieldPerms", "needPoly", "(I)V"⟩, 9) := ⟨⟨by decide +kernel, by decide +kernel⟩, List.mem_of_getElem? (i := 23) (by decide +kernel), List.mem_of_getElem? (i := 612) (by decide +kernel), List.mem_of_getElem? (i := 613) (by decide +kernel)⟩
theorem lw_p23 : lw_okq (⟨"FieldPerms", "needPoint", "(I)V"⟩, 9) := ⟨⟨by decide +kernel, by decide +kernel⟩, List.mem_of_getElem? (i := 23) (by decide +kernel), List.mem_of_getElem? (i := 632) (by decide +kernel), List.mem_of_getElem? (i := 633) (by decide +kernel)⟩
theorem lw_p24 : lw_okq (⟨"FieldPerms", "needRoom", "()V"⟩, 9) := ⟨⟨by decide +kernel, by decide +kernel⟩, List.mem_of_getElem? (i := 23) (by decide +kernel), List.mem_of_getElem? (i := 645) (by decide +kernel), List.mem_of_getElem? (i := 646) (by decide +kernel)⟩
theorem lw_p25 : lw_okq (⟨"FieldPerms", "needPermuting", "(I)V"⟩, 9) := ⟨⟨by decide +kernel, by decide +kernel⟩, List.mem_of_getElem? (i := 23) (by decide +kernel), List.mem_of_getElem? (i := 689) (by decide +kernel), List.mem_of_getElem? (i := 690) (by decide +kernel)⟩
theorem lw_p26 : lw_okq (⟨"FieldPermsModel", "bad", "(ZII)Z"⟩, 28) := ⟨⟨by decide +kernel, by decide +kernel⟩, List.mem_of_getElem? (i := 873) (by decide +kernel), List.mem_of_getElem? (i := 980) (by decide +kernel), List.mem_of_getElem? (i := 981) (by decide +kernel)⟩
theorem lw_p27 : lw_okq (⟨"FieldPermsModel", "readsField", "()V"⟩, 28) := ⟨⟨by decide +kernel, by decide +kernel⟩, List.mem_of_getElem? (i := 873) (by decide +kernel), List.mem_of_getElem? (i := 984) (by decide +kernel), List.mem_of_getElem? (i := 985) (by decide +kernel)⟩
theorem lw_p28 : lw_okq (⟨"FieldPermsModel", "takes", "(Ljava/lang/String;)Z"⟩, 28) := ⟨⟨by decide +kernel, by decide +kernel⟩, List.mem_of_getElem? (i := 873) (by decide +kernel), List.mem_of_getElem? (i := 989) (by decide +kernel), List.mem_of_getElem? (i := 990) (by decide +kernel)⟩
theorem lw_p29 : lw_okq (⟨"FieldPermsModel", "fine", "()Z"⟩, 28) := ⟨⟨by decide +kernel, by decide +kernel⟩, List.mem_of_getElem? (i := 873) (by decide +kernel), List.mem_of_getElem? (i := 993) (by decide +kernel), List.mem_of_getElem? (i := 994) (by decide +kernel)⟩
theorem lw_p30 : lw_okq (⟨"FieldPermsModel", "here", "()I"⟩, 28) := ⟨⟨by decide +kernel, by decide +kernel⟩, List.mem_of_getElem? (i := 873) (by decide +kernel), List.mem_of_getElem? (i := 997) (by decide +kernel), List.mem_of_getElem? (i := 998) (by decide +kernel)⟩
theorem lw_p31 : lw_okq (⟨"FieldPermsModel", "byteAt", "(I)I"⟩, 28) := ⟨⟨by decide +kernel, by decide +kernel⟩, List.mem_of_getElem? (i := 873) (by decide +kernel), List.mem_of_getElem? (i := 1001) (by decide +kernel), List.mem_of_getElem? (i := 1002) (by decide +kernel)⟩
def lw_privs_2 : List (MethodName × Nat) := [(⟨"FieldPerms$Reader", "readPoint", "([I)Z"⟩, 8), (⟨"FieldPerms$Reader", "readX", "([I)Z"⟩, 8), (⟨"FieldPerms$Reader", "readBracket", "(I)Z"⟩, 8), (⟨"FieldPerms$Reader", "readInner", "(I)Z"⟩, 8), (⟨"FieldPerms$Reader", "readDickson", "([I)Z"⟩, 8), (⟨"FieldPerms$Reader", "readPower", "([I)Z"⟩, 8), (⟨"FieldPerms", "needPoly", "(I)V"⟩, 9), (⟨"FieldPerms", "needPoint", "(I)V"⟩, 9), (⟨"FieldPerms", "needRoom", "()V"⟩, 9), (⟨"FieldPerms", "needPermuting", "(I)V"⟩, 9), (⟨"FieldPermsModel", "bad", "(ZII)Z"⟩, 28), (⟨"FieldPermsModel", "readsField", "()V"⟩, 28), (⟨"FieldPermsModel", "takes", "(Ljava/lang/String;)Z"⟩, 28), (⟨"FieldPermsModel", "fine", "()Z"⟩, 28), (⟨"FieldPermsModel", "here", "()I"⟩, 28), (⟨"FieldPermsModel", "byteAt", "(I)I"⟩, 28)]
theorem lw_r2 : ∀ q ∈ lw_privs_2, lw_okq q := List.forall_mem_cons.mpr ⟨lw_p16, List.forall_mem_cons.mpr ⟨lw_p17, List.forall_mem_cons.mpr ⟨lw_p18, List.forall_mem_cons.mpr ⟨lw_p19, List.forall_mem_cons.mpr ⟨lw_p20, List.forall_mem_cons.mpr ⟨lw_p21, List.forall_mem_cons.mpr ⟨lw_p22, List.forall_mem_cons.mpr ⟨lw_p23, List.forall_mem_cons.mpr ⟨lw_p24, List.forall_mem_cons.mpr ⟨lw_p25, List.forall_mem_cons.mpr ⟨lw_p26, List.forall_mem_cons.mpr ⟨lw_p27, List.forall_mem_cons.mpr ⟨lw_p28, List.forall_mem_cons.mpr ⟨lw_p29, List.forall_mem_cons.mpr ⟨lw_p30, List.forall_mem_cons.mpr ⟨lw_p31, fun _ h => absurd h List.not_mem_nil⟩⟩⟩⟩⟩⟩⟩⟩⟩⟩⟩⟩⟩⟩⟩⟩
theorem lw_p32 : lw_okq (⟨"FieldPermsModel", "wrong", "(II)V"⟩, 28) := ⟨⟨by decide +kernel, by decide +kernel⟩, List.mem_of_getElem? (i := 873) (by decide +kernel), List.mem_of_getElem? (i := 1010) (by decide +kernel), List.mem_of_getElem? (i := 1011) (by decide +kernel)⟩
theorem lw_p33 : lw_okq (⟨"FieldPermsModel", "number", "(II)I"⟩, 28) := ⟨⟨by decide +kernel, by decide +kernel⟩, List.mem_of_getElem? (i := 873) (by decide +kernel), List.mem_of_getElem? (i := 1014) (by decide +kernel), List.mem_of_getElem? (i := 1015) (by decide +kernel)⟩
theorem lw_p34 : lw_okq (⟨"FieldPermsModel", "must", "(I)V"⟩, 28) := ⟨⟨by decide +kernel, by decide +kernel⟩, List.mem_of_getElem? (i := 873) (by decide +kernel), List.mem_of_getElem? (i := 1031) (by decide +kernel), List.mem_of_getElem? (i := 1032) (by decide +kernel)⟩
theorem lw_p35 : lw_okq (⟨"FieldPermsModel", "lays", "([I)V"⟩, 28) := ⟨⟨by decide +kernel, by decide +kernel⟩, List.mem_of_getElem? (i := 873) (by decide +kernel), List.mem_of_getElem? (i := 1035) (by decide +kernel), List.mem_of_getElem? (i := 1036) (by decide +kernel)⟩
theorem lw_p36 : lw_okq (⟨"FieldPermsModel", "isProduct", "(I)Z"⟩, 28) := ⟨⟨by decide +kernel, by decide +kernel⟩, List.mem_of_getElem? (i := 873) (by decide +kernel), List.mem_of_getElem? (i := 1039) (by decide +kernel), List.mem_of_getElem? (i := 1040) (by decide +kernel)⟩
theorem lw_p37 : lw_okq (⟨"FieldPermsModel", "rests", "(III)V"⟩, 28) := ⟨⟨by decide +kernel, by decide +kernel⟩, List.mem_of_getElem? (i := 873) (by decide +kernel), List.mem_of_getElem? (i := 1046) (by decide +kernel), List.mem_of_getElem? (i := 1047) (by decide +kernel)⟩
theorem lw_p38 : lw_okq (⟨"FieldPermsModel", "summed", "(II)I"⟩, 28) := ⟨⟨by decide +kernel, by decide +kernel⟩, List.mem_of_getElem? (i := 873) (by decide +kernel), List.mem_of_getElem? (i := 1050) (by decide +kernel), List.mem_of_getElem? (i := 1051) (by decide +kernel)⟩
theorem lw_p39 : lw_okq (⟨"FieldPermsModel", "numberOf", "()I"⟩, 28) := ⟨⟨by decide +kernel, by decide +kernel⟩, List.mem_of_getElem? (i := 873) (by decide +kernel), List.mem_of_getElem? (i := 1054) (by decide +kernel), List.mem_of_getElem? (i := 1055) (by decide +kernel)⟩
theorem lw_p40 : lw_okq (⟨"FieldPermsModel", "multiplied", "(II)I"⟩, 28) := ⟨⟨by decide +kernel, by decide +kernel⟩, List.mem_of_getElem? (i := 873) (by decide +kernel), List.mem_of_getElem? (i := 1058) (by decide +kernel), List.mem_of_getElem? (i := 1059) (by decide +kernel)⟩
theorem lw_p41 : lw_okq (⟨"FieldPermsModel", "readsPoly", "(I)V"⟩, 28) := ⟨⟨by decide +kernel, by decide +kernel⟩, List.mem_of_getElem? (i := 873) (by decide +kernel), List.mem_of_getElem? (i := 1063) (by decide +kernel), List.mem_of_getElem? (i := 1064) (by decide +kernel)⟩
theorem lw_p42 : lw_okq (⟨"FieldPermsModel", "sum", "()[I"⟩, 28) := ⟨⟨by decide +kernel, by decide +kernel⟩, List.mem_of_getElem? (i := 873) (by decide +kernel), List.mem_of_getElem? (i := 1067) (by decide +kernel), List.mem_of_getElem? (i := 1068) (by decide +kernel)⟩
theorem lw_p43 : lw_okq (⟨"FieldPermsModel", "product", "()[I"⟩, 28) := ⟨⟨by decide +kernel, by decide +kernel⟩, List.mem_of_getElem? (i := 873) (by decide +kernel), List.mem_of_getElem? (i := 1071) (by decide +kernel), List.mem_of_getElem? (i := 1072) (by decide +kernel)⟩
theorem lw_p44 : lw_okq (⟨"FieldPermsModel", "unit", "()[I"⟩, 28) := ⟨⟨by decide +kernel, by decide +kernel⟩, List.mem_of_getElem? (i := 873) (by decide +kernel), List.mem_of_getElem? (i := 1075) (by decide +kernel), List.mem_of_getElem? (i := 1076) (by decide +kernel)⟩
theorem lw_p45 : lw_okq (⟨"FieldPermsModel", "part", "()[I"⟩, 28) := ⟨⟨by decide +kernel, by decide +kernel⟩, List.mem_of_getElem? (i := 873) (by decide +kernel), List.mem_of_getElem? (i := 1079) (by decide +kernel), List.mem_of_getElem? (i := 1080) (by decide +kernel)⟩
theorem lw_p46 : lw_okq (⟨"FieldPermsModel", "row", "(I)[I"⟩, 28) := ⟨⟨by decide +kernel, by decide +kernel⟩, List.mem_of_getElem? (i := 873) (by decide +kernel), List.mem_of_getElem? (i := 1083) (by decide +kernel), List.mem_of_getElem? (i := 1084) (by decide +kernel)⟩
theorem lw_p47 : lw_okq (⟨"FieldPermsModel", "opens", "()V"⟩, 28) := ⟨⟨by decide +kernel, by decide +kernel⟩, List.mem_of_getElem? (i := 873) (by decide +kernel), List.mem_of_getElem? (i := 1088) (by decide +kernel), List.mem_of_getElem? (i := 1089) (by decide +kernel)⟩
def lw_privs_3 : List (MethodName × Nat) := [(⟨"FieldPermsModel", "wrong", "(II)V"⟩, 28), (⟨"FieldPermsModel", "number", "(II)I"⟩, 28), (⟨"FieldPermsModel", "must", "(I)V"⟩, 28), (⟨"FieldPermsModel", "lays", "([I)V"⟩, 28), (⟨"FieldPermsModel", "isProduct", "(I)Z"⟩, 28), (⟨"FieldPermsModel", "rests", "(III)V"⟩, 28), (⟨"FieldPermsModel", "summed", "(II)I"⟩, 28), (⟨"FieldPermsModel", "numberOf", "()I"⟩, 28), (⟨"FieldPermsModel", "multiplied", "(II)I"⟩, 28), (⟨"FieldPermsModel", "readsPoly", "(I)V"⟩, 28), (⟨"FieldPermsModel", "sum", "()[I"⟩, 28), (⟨"FieldPermsModel", "product", "()[I"⟩, 28), (⟨"FieldPermsModel", "unit", "()[I"⟩, 28), (⟨"FieldPermsModel", "part", "()[I"⟩, 28), (⟨"FieldPermsModel", "row", "(I)[I"⟩, 28), (⟨"FieldPermsModel", "opens", "()V"⟩, 28)]
theorem lw_r3 : ∀ q ∈ lw_privs_3, lw_okq q := List.forall_mem_cons.mpr ⟨lw_p32, List.forall_mem_cons.mpr ⟨lw_p33, List.forall_mem_cons.mpr ⟨lw_p34, List.forall_mem_cons.mpr ⟨lw_p35, List.forall_mem_cons.mpr ⟨lw_p36, List.forall_mem_cons.mpr ⟨lw_p37, List.forall_mem_cons.mpr ⟨lw_p38, List.forall_mem_cons.mpr ⟨lw_p39, List.forall_mem_cons.mpr ⟨lw_p40, List.forall_mem_cons.mpr ⟨lw_p41, List.forall_mem_cons.mpr ⟨lw_p42, List.forall_mem_cons.mpr ⟨lw_p43, List.forall_mem_cons.mpr ⟨lw_p44, List.forall_mem_cons.mpr ⟨lw_p45, List.forall_mem_cons.mpr ⟨lw_p46, List.forall_mem_cons.mpr ⟨lw_p47, fun _ h => absurd h List.not_mem_nil⟩⟩⟩⟩⟩⟩⟩⟩⟩⟩⟩⟩⟩⟩⟩⟩
theorem lw_p48 : lw_okq (⟨"FieldPermsModel", "closes", "()V"⟩, 28) := ⟨⟨by decide +kernel, by decide +kernel⟩, List.mem_of_getElem? (i := 873) (by decide +kernel), List.mem_of_getElem? (i := 1092) (by decide +kernel), List.mem_of_getElem? (i := 1093) (by decide +kernel)⟩
theorem lw_p49 : lw_okq (⟨"FieldPermsModel", "dickson", "(III)I"⟩, 28) := ⟨⟨by decide +kernel, by decide +kernel⟩, List.mem_of_getElem? (i := 873) (by decide +kernel), List.mem_of_getElem? (i := 1098) (by decide +kernel), List.mem_of_getElem? (i := 1099) (by decide +kernel)⟩
theorem lw_p50 : lw_okq (⟨"FieldPermsModel", "apart", "(II)I"⟩, 28) := ⟨⟨by decide +kernel, by decide +kernel⟩, List.mem_of_getElem? (i := 873) (by decide +kernel), List.mem_of_getElem? (i := 1102) (by decide +kernel), List.mem_of_getElem? (i := 1103) (by decide +kernel)⟩
theorem lw_p51 : lw_okq (⟨"FieldPermsModel", "raisedPoint", "(II)I"⟩, 28) := ⟨⟨by decide +kernel, by decide +kernel⟩, List.mem_of_getElem? (i := 873) (by decide +kernel), List.mem_of_getElem? (i := 1106) (by decide +kernel), List.mem_of_getElem? (i := 1107) (by decide +kernel)⟩
theorem lw_p52 : lw_okq (⟨"FieldPermsModel", "remembers", "()V"⟩, 28) := ⟨⟨by decide +kernel, by decide +kernel⟩, List.mem_of_getElem? (i := 873) (by decide +kernel), List.mem_of_getElem? (i := 1110) (by decide +kernel), List.mem_of_getElem? (i := 1111) (by decide +kernel)⟩
theorem lw_p53 : lw_okq (⟨"FieldPermsModel", "begins", "()V"⟩, 28) := ⟨⟨by decide +kernel, by decide +kernel⟩, List.mem_of_getElem? (i := 873) (by decide +kernel), List.mem_of_getElem? (i := 1129) (by decide +kernel), List.mem_of_getElem? (i := 1130) (by decide +kernel)⟩
theorem lw_p54 : lw_okq (⟨"FieldPermsModel", "isPoly", "(I)Z"⟩, 28) := ⟨⟨by decide +kernel, by decide +kernel⟩, List.mem_of_getElem? (i := 873) (by decide +kernel), List.mem_of_getElem? (i := 1133) (by decide +kernel), List.mem_of_getElem? (i := 1134) (by decide +kernel)⟩
theorem lw_p55 : lw_okq (⟨"FieldPermsModel", "isPoint", "(I)Z"⟩, 28) := ⟨⟨by decide +kernel, by decide +kernel⟩, List.mem_of_getElem? (i := 873) (by decide +kernel), List.mem_of_getElem? (i := 1137) (by decide +kernel), List.mem_of_getElem? (i := 1138) (by decide +kernel)⟩
theorem lw_p56 : lw_okq (⟨"FieldPermsModel", "of", "(II)I"⟩, 28) := ⟨⟨by decide +kernel, by decide +kernel⟩, List.mem_of_getElem? (i := 873) (by decide +kernel), List.mem_of_getElem? (i := 1141) (by decide +kernel), List.mem_of_getElem? (i := 1142) (by decide +kernel)⟩
theorem lw_p57 : lw_okq (⟨"FieldPermsModel", "isFull", "()Z"⟩, 28) := ⟨⟨by decide +kernel, by decide +kernel⟩, List.mem_of_getElem? (i := 873) (by decide +kernel), List.mem_of_getElem? (i := 1149) (by decide +kernel), List.mem_of_getElem? (i := 1150) (by decide +kernel)⟩
theorem lw_p58 : lw_okq (⟨"FieldPermsModel", "comes", "()I"⟩, 28) := ⟨⟨by decide +kernel, by decide +kernel⟩, List.mem_of_getElem? (i := 873) (by decide +kernel), List.mem_of_getElem? (i := 1153) (by decide +kernel), List.mem_of_getElem? (i := 1154) (by decide +kernel)⟩
theorem lw_p59 : lw_okq (⟨"FieldPermsModel", "putsBehind", "([I[I)V"⟩, 28) := ⟨⟨by decide +kernel, by decide +kernel⟩, List.mem_of_getElem? (i := 873) (by decide +kernel), List.mem_of_getElem? (i := 1162) (by decide +kernel), List.mem_of_getElem? (i := 1163) (by decide +kernel)⟩
theorem lw_p60 : lw_okq (⟨"FieldPermsModel", "isPermuting", "(I)Z"⟩, 28) := ⟨⟨by decide +kernel, by decide +kernel⟩, List.mem_of_getElem? (i := 873) (by decide +kernel), List.mem_of_getElem? (i := 1170) (by decide +kernel), List.mem_of_getElem? (i := 1171) (by decide +kernel)⟩
theorem lw_p61 : lw_okq (⟨"FieldPermsModel", "imageOf", "(I)I"⟩, 28) := ⟨⟨by decide +kernel, by decide +kernel⟩, List.mem_of_getElem? (i := 873) (by decide +kernel), List.mem_of_getElem? (i := 1174) (by decide +kernel), List.mem_of_getElem? (i := 1175) (by decide +kernel)⟩
theorem lw_p62 : lw_okq (⟨"FieldPermsModel", "takenBy", "(II)I"⟩, 28) := ⟨⟨by decide +kernel, by decide +kernel⟩, List.mem_of_getElem? (i := 873) (by decide +kernel), List.mem_of_getElem? (i := 1178) (by decide +kernel), List.mem_of_getElem? (i := 1179) (by decide +kernel)⟩
theorem lw_p63 : lw_okq (⟨"FieldPermsModel", "takesValues", "(I)V"⟩, 28) := ⟨⟨by decide +kernel, by decide +kernel⟩, List.mem_of_getElem? (i := 873) (by decide +kernel), List.mem_of_getElem? (i := 1204) (by decide +kernel), List.mem_of_getElem? (i := 1205) (by decide +kernel)⟩
def lw_privs_4 : List (MethodName × Nat) := [(⟨"FieldPermsModel", "closes", "()V"⟩, 28), (⟨"FieldPermsModel", "dickson", "(III)I"⟩, 28), (⟨"FieldPermsModel", "apart", "(II)I"⟩, 28), (⟨"FieldPermsModel", "raisedPoint", "(II)I"⟩, 28), (⟨"FieldPermsModel", "remembers", "()V"⟩, 28), (⟨"FieldPermsModel", "begins", "()V"⟩, 28), (⟨"FieldPermsModel", "isPoly", "(I)Z"⟩, 28), (⟨"FieldPermsModel", "isPoint", "(I)Z"⟩, 28), (⟨"FieldPermsModel", "of", "(II)I"⟩, 28), (⟨"FieldPermsModel", "isFull", "()Z"⟩, 28), (⟨"FieldPermsModel", "comes", "()I"⟩, 28), (⟨"FieldPermsModel", "putsBehind", "([I[I)V"⟩, 28), (⟨"FieldPermsModel", "isPermuting", "(I)Z"⟩, 28), (⟨"FieldPermsModel", "imageOf", "(I)I"⟩, 28), (⟨"FieldPermsModel", "takenBy", "(II)I"⟩, 28), (⟨"FieldPermsModel", "takesValues", "(I)V"⟩, 28)]
theorem lw_r4 : ∀ q ∈ lw_privs_4, lw_okq q := List.forall_mem_cons.mpr ⟨lw_p48, List.forall_mem_cons.mpr ⟨lw_p49, List.forall_mem_cons.mpr ⟨lw_p50, List.forall_mem_cons.mpr ⟨lw_p51, List.forall_mem_cons.mpr ⟨lw_p52, List.forall_mem_cons.mpr ⟨lw_p53, List.forall_mem_cons.mpr ⟨lw_p54, List.forall_mem_cons.mpr ⟨lw_p55, List.forall_mem_cons.mpr ⟨lw_p56, List.forall_mem_cons.mpr ⟨lw_p57, List.forall_mem_cons.mpr ⟨lw_p58, List.forall_mem_cons.mpr ⟨lw_p59, List.forall_mem_cons.mpr ⟨lw_p60, List.forall_mem_cons.mpr ⟨lw_p61, List.forall_mem_cons.mpr ⟨lw_p62, List.forall_mem_cons.mpr ⟨lw_p63, fun _ h => absurd h List.not_mem_nil⟩⟩⟩⟩⟩⟩⟩⟩⟩⟩⟩⟩⟩⟩⟩⟩
theorem lw_p64 : lw_okq (⟨"FieldPermsModel", "coefficientOf", "(I)I"⟩, 28) := ⟨⟨by decide +kernel, by decide +kernel⟩, List.mem_of_getElem? (i := 873) (by decide +kernel), List.mem_of_getElem? (i := 1208) (by decide +kernel), List.mem_of_getElem? (i := 1209) (by decide +kernel)⟩
theorem lw_p65 : lw_okq (⟨"FieldPermsModel", "badPerm", "(IZI)Z"⟩, 28) := ⟨⟨by decide +kernel, by decide +kernel⟩, List.mem_of_getElem? (i := 873) (by decide +kernel), List.mem_of_getElem? (i := 1237) (by decide +kernel), List.mem_of_getElem? (i := 1238) (by decide +kernel)⟩
theorem lw_p66 : lw_okq (⟨"FieldPermsModel", "cyclesOf", "(II)I"⟩, 28) := ⟨⟨by decide +kernel, by decide +kernel⟩, List.mem_of_getElem? (i := 873) (by decide +kernel), List.mem_of_getElem? (i := 1241) (by decide +kernel), List.mem_of_getElem? (i := 1242) (by decide +kernel)⟩
theorem lw_p67 : lw_okq (⟨"FieldPermsModel", "cycleOf", "(II)I"⟩, 28) := ⟨⟨by decide +kernel, by decide +kernel⟩, List.mem_of_getElem? (i := 873) (by decide +kernel), List.mem_of_getElem? (i := 1245) (by decide +kernel), List.mem_of_getElem? (i := 1246) (by decide +kernel)⟩
theorem lw_p68 : lw_okq (⟨"FieldPermsModel", "laysOrbits", "()V"⟩, 28) := ⟨⟨by decide +kernel, by decide +kernel⟩, List.mem_of_getElem? (i := 873) (by decide +kernel), List.mem_of_getElem? (i := 1264) (by decide +kernel), List.mem_of_getElem? (i := 1265) (by decide +kernel)⟩
theorem lw_p69 : lw_okq (⟨"FieldPermsModel", "areAll", "()Z"⟩, 28) := ⟨⟨by decide +kernel, by decide +kernel⟩, List.mem_of_getElem? (i := 873) (by decide +kernel), List.mem_of_getElem? (i := 1280) (by decide +kernel), List.mem_of_getElem? (i := 1281) (by decide +kernel)⟩
def lw_privs_5 : List (MethodName × Nat) := [(⟨"FieldPermsModel", "coefficientOf", "(I)I"⟩, 28), (⟨"FieldPermsModel", "badPerm", "(IZI)Z"⟩, 28), (⟨"FieldPermsModel", "cyclesOf", "(II)I"⟩, 28), (⟨"FieldPermsModel", "cycleOf", "(II)I"⟩, 28), (⟨"FieldPermsModel", "laysOrbits", "()V"⟩, 28), (⟨"FieldPermsModel", "areAll", "()Z"⟩, 28)]
theorem lw_r5 : ∀ q ∈ lw_privs_5, lw_okq q := List.forall_mem_cons.mpr ⟨lw_p64, List.forall_mem_cons.mpr ⟨lw_p65, List.forall_mem_cons.mpr ⟨lw_p66, List.forall_mem_cons.mpr ⟨lw_p67, List.forall_mem_cons.mpr ⟨lw_p68, List.forall_mem_cons.mpr ⟨lw_p69, fun _ h => absurd h List.not_mem_nil⟩⟩⟩⟩⟩⟩
def lw_privs : List (MethodName × Nat) := lw_privs_1 ++ (lw_privs_2 ++ (lw_privs_3 ++ (lw_privs_4 ++ (lw_privs_5))))
def lw_tbl : List Cond := k2_sels lw_privs ++ tables_1
theorem lw_privs_ok : ∀ q ∈ lw_privs, lw_okq q := by
  show ∀ q ∈ lw_privs_1 ++ (lw_privs_2 ++ (lw_privs_3 ++ (lw_privs_4 ++ (lw_privs_5)))), lw_okq q
  exact List.forall_mem_append.mpr ⟨lw_r1, List.forall_mem_append.mpr ⟨lw_r2, List.forall_mem_append.mpr ⟨lw_r3, List.forall_mem_append.mpr ⟨lw_r4, lw_r5⟩⟩⟩⟩
-- ===== end of PART A; then your names; then what follows =====
end
section
/-! ===== BEGIN words of one list among another's, by their places ===== -/
theorem goodIn_r {big : List Cond} (ws : List Cond) (ps : List Nat) (hp : ws = ps.filterMap (fun i => big[i]?)) (h : ws.all goodWord = true) : GoodIn big ws := by
  intro w hw
  have h1 := List.all_eq_true.mp h w hw
  rw [hp] at hw
  obtain ⟨i, -, hi⟩ := List.mem_filterMap.mp hw
  have hm : w ∈ big := by first | exact List.mem_of_getElem? hi | exact List.getElem?_mem hi
  exact ⟨hm, good_of_word h1⟩
theorem goodIn_app {big a b : List Cond} (ha : GoodIn big a) (hb : GoodIn big b) : GoodIn big (a ++ b) := fun w h => (List.mem_append.mp h).elim (ha w) (hb w)
theorem goodIn_ca {big a b : List Cond} {c : Cond} (ha : GoodIn big (c :: a)) (hb : GoodIn big b) : GoodIn big (c :: (a ++ b)) := fun w h => (List.mem_cons.mp h).elim (fun e => ha w (List.mem_cons.mpr (Or.inl e))) (fun h => (List.mem_append.mp h).elim (fun h => ha w (List.mem_cons.mpr (Or.inr h))) (hb w))
theorem goodIn_sub {big ws : List Cond} (hm : ∀ w ∈ ws, w ∈ big) (h : ws.all goodWord = true) : GoodIn big ws := fun w hw => ⟨hm w hw, good_of_word (List.all_eq_true.mp h w hw)⟩
/-! ===== END ===== -/


/-! ===== BEGIN exceptions that leave a method, and their catching by the caller (launches without stack traces) ===== -/
section VXA
/-! The laws vx_back, vx_callV, vx_callS, vx_callSW, vx_throw0, vx_throwS follow proofs of the library, with one case more: JvmDerived/Free/Laws.lean (Back.of_free), Shelf42/LK1.lean (callV, callS), Shelf/KitTraced.lean (throwNew0V, throwNewS). -/
/-- where a method has thrown q: the class by its name, the cell, what was written, the world -/
def vx_T (XC : String → State → State → Prop) (st : State) (q : Addr) (t : State) (mc ms : Nat) (free : Addr → Prop) : Prop :=
  ∃ (E : String) (ce : Cell) (L : List Loc), XC E st t ∧ t.heap[q]? = some ce ∧ ce.vm = .none ∧ st.vm.findClass E = some ce.cls ∧ st.WarmedH t.vm ∧ st.sameButNew ({ t with vm := st.vm } : State) L mc ms ∧ ∀ z ∈ L, free z.base
def vx_Q (Qc : Array Value → State → Outcome → State → Prop) (XC : String → State → State → Prop) (mc ms : Nat) (free : Addr → Prop) : Array Value → State → Outcome → State → Prop := fun a st o t =>
  (Qc a st o t ∧ ∃ L, FrameEnd st o t L mc ms ∧ ∀ q ∈ L, free q.base) ∨ ∃ q, o = .threw q ∧ vx_T XC st q t mc ms free
/-- a callee that returns or throws -/
def vx_Met (l : Launch) (y : MethodName) (ws : List Cond) (rm : Room) (Pc : Array Value → State → Prop) (Qc : Array Value → State → Outcome → State → Prop) (XC : String → State → State → Prop) (mc ms : Nat) (free : Addr → Prop) : Prop :=
  MetFree l y (headSpec ws rm) Pc (fun _ _ _ _ _ => True) (vx_Q Qc XC mc ms free)
def vx_Post (XC : String → State → State → Prop) (mc ms : Nat) (free : Addr → Prop) : Pt → Array Value → Addr → Pt → Prop := fun A a q B =>
  ∃ (g : JFrame) (mk : MethodId) (t : State) (L : List Loc) (E : String) (ce : Cell), B.U.heap = t.heap ∧ B.U.vm = t.vm ∧ XC E (A.U.calling g mk a) t ∧ t.heap[q]? = some ce ∧ ce.vm = .none ∧ A.U.vm.findClass E = some ce.cls ∧ B.locs = A.locs ++ L ∧ (∀ z ∈ L, free z.base) ∧ B.cells = A.cells + mc ∧ B.slots = A.slots + ms
def vx_Back (l : Launch) (R : Room) (p : Program) (e : Env) (below : List Frame) (s : State) (sargs : Array Value) (y : MethodName) (len W9 : Nat)
    (Pre : Pt → Array Value → Prop) (Post : Pt → Array Value → Option Value → Pt → Prop) (PostX : Pt → Array Value → Addr → Pt → Prop) : Prop :=
  ∀ (m : MethodId) (meth : Method) (c : Code) (A : Pt) (g : JFrame) (ig : Instr) (mk : MethodId) (a : Array Value),
    Stand p l e R s m sargs below meth c A.U A.locs A.cells A.slots → g.method = m → g.locals.size = c.maxLocals → decode c.code g.pc = .ok (ig, len) →
    2 * g.monitorRoom + (g.stack.map fun v => v.category).sum ≤ W9 → A.U.methodNamed? y = some mk → Pre A a →
    (∃ (v : Option Value) (B : Pt), Stand p l e R s m sargs below meth c B.U B.locs B.cells B.slots ∧ Post A a v B ∧
      Steps p.tables e below (doInvoke e (A.U.setTop g) [] mk a).1 (B.U.setTop { g with pc := g.pc + len, stack := v.toList ++ g.stack })) ∨
    (∃ (q : Addr) (B : Pt), Stand p l e R s m sargs below meth c B.U B.locs B.cells B.slots ∧ PostX A a q B ∧
      Steps p.tables e below (doInvoke e (A.U.setTop g) [] mk a).1 ((B.U.setTop g).pushFrame (.throwing q)))
section Payer
variable {l : Launch} {R : Room} {p : Program} {e : Env} {below : List Frame} {s : State} {sargs : Array Value} {y : MethodName} {len W9 : Nat}
theorem vx_back {ws : List Cond} {rm : Room} {Pc : Array Value → State → Prop} {Qc : Array Value → State → Outcome → State → Prop} {XC : String → State → State → Prop} {mc ms : Nat} {free : Addr → Prop} {bytes : ByteArray} {maxL : Nat} {ret : Option FieldType}
    (hM : vx_Met l y ws rm Pc Qc XC mc ms free) (hblind : FrameBlind Pc) (hrc : rm.cells = mc) (hrs : rm.slots = ms)
    (hframes : rm.frames + 1 ≤ R.frames) (hlocals : W9 + (maxL + 11) + rm.locals ≤ R.locals)
    (hws : ∀ w ∈ ws, ∀ a' U, s.WarmedH U.vm → w.before a' U = true) (hcode : Cond.code y bytes maxL ret ∈ ws) (hinit : ∀ a' U, s.WarmedH U.vm → (Cond.initialized y.cls).before a' U = true) :
    vx_Back l R p e below s sargs y len W9 (PreOf R mc ms Pc) (PostOf Qc mc ms free) (vx_Post XC mc ms free) := by
  intro m meth c A g ig mk a X hg hsize hdg hW hn hp
  have h1 : (headSpec ws rm).pre.before a A.U = true := atoms_intro fun w hw => hws w hw _ _ X.warmed
  have h2 : (Cond.code y bytes maxL ret).before a A.U = true := hws _ hcode _ _ X.warmed
  have h3 : (Cond.initialized y.cls).before a A.U = true := hinit _ _ X.warmed
  have h4 : A.cells + (headSpec ws rm).room.cells ≤ R.cells := by rw [show (headSpec ws rm).room.cells = mc from hrc]; exact hp.1
  have h5 : A.slots + (headSpec ws rm).room.slots ≤ R.slots := by rw [show (headSpec ws rm).room.slots = ms from hrs]; exact hp.2.1
  have hPc : Pc a (A.U.calling g mk a) := hblind _ _ _ _ hp.2.2
  obtain ⟨U, Ls, c0, s0⟩ := A
  dsimp only [Pt.U, Pt.locs, Pt.cells, Pt.slots] at h1 h2 h3 h4 h5 X hn hPc ⊢
  obtain ⟨methY, cY, hmY, hcY, -, hlY, -, -, -, -⟩ := Cond.code_spec hn h2
  obtain ⟨kY, hkY, -⟩ := className_of_methodNamed hn
  have hinitY : kY.init = .initialized := Cond.initialized_spec (findClass_of_methodNamed hn) hkY h3
  have h : At U g.method c below := by rw [hg]; exact X.here
  have hlocals9 : W9 + (maxL + 11) + (headSpec ws rm).room.locals ≤ R.locals := hlocals
  have happ : (headSpec ws rm).appliesLoose y e.platform (U.calling g mk a) = true :=
    Spec.appliesLoose_calling (g := g) h hdg hn hkY hinitY
      (X.room_calling (g := g) (R' := (headSpec ws rm).room) hsize hmY hcY hframes (by rw [hlY]; omega) h4 h5) h1
  obtain ⟨mid, hmid⟩ := h.above
  have hfr : (U.setTop g).frames = (.java g :: mid) ++ below := by rw [State.frames_setTop' g h.top, hmid]; rfl
  obtain ⟨o, s₂, hsteps, -, hend, hq⟩ := Steps.callFree hM p X.admits X.cas X.clock (acts := []) hfr happ hPc trivial
  have hq' : vx_Q Qc XC mc ms free a (U.calling g mk a) o s₂ := hq
  rw [State.frames_setTop' g h.top] at hend
  obtain ⟨g₀, hg0⟩ := Option.isSome_iff_exists.mp h.top
  obtain ⟨r, hr⟩ := State.topJava?_eq_some.mp hg0
  have hr' : (({ U with heap := s₂.heap, slotsUsed := s₂.slotsUsed } : State).setVm s₂.vm).frames = .java g₀ :: r := hr
  rcases hq' with ⟨hqc, L, hfe, hL⟩ | ⟨q, rfl, E, ce, L, hx, hce, hcv, hcl, hW₂, hsm, hL⟩
  · obtain ⟨⟨v, rfl⟩, hW₂, e2, q2, q3, q4, q5, q6⟩ := id hfe
    have e3 : s₂ = ({ (U.calling g mk a).setFrames s₂.frames with heap := s₂.heap, slotsUsed := s₂.slotsUsed } : State).setVm s₂.vm := by
      have : s₂ = ({ s₂ with vm := (U.calling g mk a).vm } : State).setVm s₂.vm := rfl
      rw [e2] at this
      exact this
    obtain ⟨c₂, i₂, len₂, hc₂, hd₂, hf₂⟩ := hend
    have hW' : U.WarmedH s₂.vm := hW₂
    have hcc : c₂ = c := by
      have h1 : s₂.code? g.method = U.code? g.method := by
        rw [State.code?_eq, State.code?_eq, hW'.alike.method?]
      exact Option.some.inj (hc₂.symm.trans (h1.trans h.code))
    subst hcc
    have hlen : len₂ = len := by rw [hdg] at hd₂; cases hd₂; rfl
    subst hlen
    have hs₂ : s₂ = (({ U with heap := s₂.heap, slotsUsed := s₂.slotsUsed } : State).setVm s₂.vm).setTop { g with pc := g.pc + len₂, stack := v.toList ++ g.stack } := by
      refine e3.trans ?_
      rw [hf₂, State.calling_eq h.top, State.setFrames_setFrames, State.setTop_of_frames _ hr', hr]
      rfl
    have hsame : U.sameButNew ({ U with heap := s₂.heap, slotsUsed := s₂.slotsUsed } : State) L mc ms := by
      refine ⟨?_, q2, q3, q4, q5, q6⟩
      obtain ⟨t, ht, -⟩ := State.frames_cons hr
      show ({ U with heap := s₂.heap, slotsUsed := s₂.slotsUsed } : State) = { U.setFrames U.frames with heap := s₂.heap, slotsUsed := s₂.slotsUsed }
      rw [State.setFrames_self ht]
    subst hg
    refine Or.inl ⟨v, ⟨(({ U with heap := s₂.heap, slotsUsed := s₂.slotsUsed } : State).setVm s₂.vm), Ls ++ L, c0 + mc, s0 + ms⟩,
      ⟨X.admits, X.cas, X.clock, X.frames, X.room, X.hears, X.method, X.code, (X.here.setHeapUsed s₂.heap s₂.slotsUsed).setVm hW'.alike, X.tail, State.WarmedH.trans X.warmed hW', X.limits, X.bytes, X.same.trans (hsame.setVm s.vm)⟩,
      ⟨g, mk, s₂, L, rfl, rfl, hqc, rfl, hL, rfl, rfl⟩, ?_⟩
    show Steps p.tables e below _ ((({ U with heap := s₂.heap, slotsUsed := s₂.slotsUsed } : State).setVm s₂.vm).setTop { g with pc := g.pc + len₂, stack := v.toList ++ g.stack })
    rw [← hs₂]
    exact hsteps
  · obtain ⟨e2, q2, q3, q4, q5, q6⟩ := id hsm
    have e3 : s₂ = ({ (U.calling g mk a).setFrames s₂.frames with heap := s₂.heap, slotsUsed := s₂.slotsUsed } : State).setVm s₂.vm := by
      have : s₂ = ({ s₂ with vm := (U.calling g mk a).vm } : State).setVm s₂.vm := rfl
      rw [e2] at this
      exact this
    have hf₂ : s₂.frames = .throwing q :: .java g :: U.frames.tail := hend
    have hW' : U.WarmedH s₂.vm := hW₂
    have hs₂ : s₂ = ((({ U with heap := s₂.heap, slotsUsed := s₂.slotsUsed } : State).setVm s₂.vm).setTop g).pushFrame (.throwing q) := by
      refine e3.trans ?_
      rw [hf₂, State.calling_eq h.top, State.setFrames_setFrames, State.pushFrame, State.frames_setTop _ hr', State.setTop_of_frames _ hr', State.setFrames_setFrames, hr]
      rfl
    have hsame : U.sameButNew ({ U with heap := s₂.heap, slotsUsed := s₂.slotsUsed } : State) L mc ms := by
      refine ⟨?_, q2, q3, q4, q5, q6⟩
      obtain ⟨t, ht, -⟩ := State.frames_cons hr
      show ({ U with heap := s₂.heap, slotsUsed := s₂.slotsUsed } : State) = { U.setFrames U.frames with heap := s₂.heap, slotsUsed := s₂.slotsUsed }
      rw [State.setFrames_self ht]
    subst hg
    refine Or.inr ⟨q, ⟨(({ U with heap := s₂.heap, slotsUsed := s₂.slotsUsed } : State).setVm s₂.vm), Ls ++ L, c0 + mc, s0 + ms⟩,
      ⟨X.admits, X.cas, X.clock, X.frames, X.room, X.hears, X.method, X.code, (X.here.setHeapUsed s₂.heap s₂.slotsUsed).setVm hW'.alike, X.tail, State.WarmedH.trans X.warmed hW', X.limits, X.bytes, X.same.trans (hsame.setVm s.vm)⟩,
      ⟨g, mk, s₂, L, E, ce, rfl, rfl, hx, hce, hcv, hcl, rfl, hL, rfl, rfl⟩, ?_⟩
    show Steps p.tables e below _ (((({ U with heap := s₂.heap, slotsUsed := s₂.slotsUsed } : State).setVm s₂.vm).setTop g).pushFrame (.throwing q))
    rw [← hs₂]
    exact hsteps
end Payer
section Calls
variable {p : Program} {l : Launch} {e : Env} {R : Room} {s : State} {m : MethodId} {args : Array Value} {below : List Frame} {meth : Method} {c : Code} {T : State} {locs : List Loc} {cells slots : Nat}
theorem vx_callV (X : Stand p l e R s m args below meth c T locs cells slots) (hexec : p.tables.exec = Jvm.exec) {own C : String} {index : Nat} {y : MethodName} {bytes : ByteArray} {maxL : Nat} {ret : Option FieldType}
    (hown : s.vm.findClass own = some m.cls) (hlink : (Cond.methodLink own index y).before args s = true) (hinst : (Cond.instanceMethod y).before args s = true) (hsel : (Cond.selects C y y).before args s = true)
    (hcode : (Cond.code y bytes maxL ret).before args s = true) (hy : y.cls ≠ "java/lang/invoke/MethodHandle" ∧ y.cls ≠ "java/lang/invoke/VarHandle")
    {W9 : Nat} {Pre : Pt → Array Value → Prop} {Post : Pt → Array Value → Option Value → Pt → Prop} {PostX : Pt → Array Value → Addr → Pt → Prop} (hK : vx_Back l R p e below s args y 3 W9 Pre Post PostX)
    {b : Addr} {cellB : Cell} (hcell : T.heap[b]? = some cellB) (hobj : cellB.vm.isStatics = false) (hcls : s.vm.findClass C = some cellB.cls)
    {g : JFrame} (hg : g.method = m) (hsize : g.locals.size = c.maxLocals) {argsL rest : List Value} (hlen : ∀ sig, parseMethodDescriptor y.desc = some sig → argsL.length = sig.parameters.length)
    (hstack : g.stack = argsL.reverse ++ .ref b :: rest) (hW : 2 * g.monitorRoom + (rest.map fun v => v.category).sum ≤ W9) (hdg : decode c.code g.pc = .ok (.invokevirtual index, 3))
    (hpre : ∀ vm₁, s.WarmedH vm₁ → Pre ⟨T.setVm vm₁, locs, cells, slots⟩ (Value.ref b :: argsL).toArray) :
    (∃ (v : Option Value) (vm₁ : Vm) (B : Pt), s.WarmedH vm₁ ∧ Stand p l e R s m args below meth c B.U B.locs B.cells B.slots ∧ Post ⟨T.setVm vm₁, locs, cells, slots⟩ (Value.ref b :: argsL).toArray v B ∧
      ∀ target, Steps p.tables e below (B.U.setTop { g with pc := g.pc + 3, stack := v.toList ++ rest }) target → Steps p.tables e below (T.setTop g) target) ∨
    (∃ (q : Addr) (vm₁ : Vm) (B : Pt), s.WarmedH vm₁ ∧ Stand p l e R s m args below meth c B.U B.locs B.cells B.slots ∧ PostX ⟨T.setVm vm₁, locs, cells, slots⟩ (Value.ref b :: argsL).toArray q B ∧
      Steps p.tables e below (T.setTop g) ((B.U.setTop { g with stack := rest }).pushFrame (.throwing q))) := by
  obtain ⟨mk, methM, hnamed, hmethM, hstM, habM⟩ := Cond.instanceMethod_spec hinst
  obtain ⟨methM', cM, hmethM', -, -, -, -, -, -, hsigM⟩ := Cond.code_spec hnamed hcode
  cases hmethM.symm.trans hmethM'
  obtain ⟨c2, r2, m2, q1, q2, q3, q4, kP, hkP, hkPi⟩ := Cond.selects_spec hsel
  cases hcls.symm.trans q1
  cases (State.methodFound?_of_named hnamed hy).symm.trans q2
  cases hnamed.symm.trans q3
  have hselP : selectMethod e.platform s.vm cellB.cls mk = .method mk := by rw [Launch.admits_selectMethod X.admits]; exact q4
  obtain ⟨vm₁, X₁, hstep₁⟩ := X.invokevirtual hexec hown hlink hnamed hmethM hstM hkP hkPi hy (a := b) (cell := cellB) hcell
    (fun z h => by rw [h] at hobj; cases hobj) hselP hmethM habM hkP hkPi (g := g) hg (argsL := argsL) (rest := rest) (hlen _ hsigM) hstack hdg
  rcases hK m meth c ⟨T.setVm vm₁, locs, cells, slots⟩ { g with stack := rest } (.invokevirtual index) mk (Value.ref b :: argsL).toArray X₁ hg hsize hdg hW (X₁.named hnamed) (hpre vm₁ X₁.warmed) with ⟨v, B, X', hpost, hsteps⟩ | ⟨q, B, X', hpost, hsteps⟩
  · exact Or.inl ⟨v, vm₁, B, X₁.warmed, X', hpost, fun target h => hstep₁ _ fun acts => by rw [doInvoke_state]; exact hsteps.trans h⟩
  · exact Or.inr ⟨q, vm₁, B, X₁.warmed, X', hpost, hstep₁ _ fun acts => by rw [doInvoke_state]; exact hsteps⟩
theorem vx_callS (X : Stand p l e R s m args below meth c T locs cells slots) (hexec : p.tables.exec = Jvm.exec) {own : String} {index : Nat} {y : MethodName} {bytes : ByteArray} {maxL : Nat} {ret : Option FieldType}
    (hown : s.vm.findClass own = some m.cls) (hlink : (Cond.methodLink own index y).before args s = true) (hstat : (Cond.static y).before args s = true) (hinit : (Cond.initialized y.cls).before args s = true)
    (hcode : (Cond.code y bytes maxL ret).before args s = true) (hy : y.cls ≠ "java/lang/invoke/MethodHandle" ∧ y.cls ≠ "java/lang/invoke/VarHandle")
    {W9 : Nat} {Pre : Pt → Array Value → Prop} {Post : Pt → Array Value → Option Value → Pt → Prop} {PostX : Pt → Array Value → Addr → Pt → Prop} (hK : vx_Back l R p e below s args y 3 W9 Pre Post PostX)
    {g : JFrame} (hg : g.method = m) (hsize : g.locals.size = c.maxLocals) {argsL rest : List Value} (hlen : ∀ sig, parseMethodDescriptor y.desc = some sig → argsL.length = sig.parameters.length)
    (hstack : g.stack = argsL.reverse ++ rest) (hW : 2 * g.monitorRoom + (rest.map fun v => v.category).sum ≤ W9) (hdg : decode c.code g.pc = .ok (.invokestatic index, 3))
    (hpre : ∀ vm₁, s.WarmedH vm₁ → Pre ⟨T.setVm vm₁, locs, cells, slots⟩ argsL.toArray) :
    (∃ (v : Option Value) (vm₁ : Vm) (B : Pt), s.WarmedH vm₁ ∧ Stand p l e R s m args below meth c B.U B.locs B.cells B.slots ∧ Post ⟨T.setVm vm₁, locs, cells, slots⟩ argsL.toArray v B ∧
      ∀ target, Steps p.tables e below (B.U.setTop { g with pc := g.pc + 3, stack := v.toList ++ rest }) target → Steps p.tables e below (T.setTop g) target) ∨
    (∃ (q : Addr) (vm₁ : Vm) (B : Pt), s.WarmedH vm₁ ∧ Stand p l e R s m args below meth c B.U B.locs B.cells B.slots ∧ PostX ⟨T.setVm vm₁, locs, cells, slots⟩ argsL.toArray q B ∧
      Steps p.tables e below (T.setTop g) ((B.U.setTop { g with stack := rest }).pushFrame (.throwing q))) := by
  obtain ⟨mk, hnamed⟩ := Cond.code_named hcode
  obtain ⟨methM, cM, hmethM, -, -, -, -, -, -, hsigM⟩ := Cond.code_spec hnamed hcode
  have hstatic : methM.isStatic = true := Cond.static_spec hnamed hmethM hstat
  obtain ⟨kP, hkP, -⟩ := className_of_methodNamed hnamed
  have hinitP : kP.init = .initialized := Cond.initialized_spec (findClass_of_methodNamed hnamed) hkP hinit
  obtain ⟨vm₁, X₁, hstep₁⟩ := X.invokestatic hexec hown hlink hnamed hmethM hstatic hkP hinitP hy (g := g) hg (argsL := argsL) (rest := rest) (hlen _ hsigM) hstack hdg
  rcases hK m meth c ⟨T.setVm vm₁, locs, cells, slots⟩ { g with stack := rest } (.invokestatic index) mk argsL.toArray X₁ hg hsize hdg hW (X₁.named hnamed) (hpre vm₁ X₁.warmed) with ⟨v, B, X', hpost, hsteps⟩ | ⟨q, B, X', hpost, hsteps⟩
  · exact Or.inl ⟨v, vm₁, B, X₁.warmed, X', hpost, fun target h => hstep₁ _ fun acts => by rw [doInvoke_state]; exact hsteps.trans h⟩
  · exact Or.inr ⟨q, vm₁, B, X₁.warmed, X', hpost, hstep₁ _ fun acts => by rw [doInvoke_state]; exact hsteps⟩
end Calls
theorem vx_cls {s : State} {T : State} {vm₁ : Vm} {E : String} {k : ClassId} (hW : s.WarmedH vm₁) (h : (T.setVm vm₁).vm.findClass E = some k) : s.vm.findClass E = some k := by
  have h1 : vm₁.findClass E = some k := h
  rw [hW.alike.findClass] at h1
  exact h1
/-- the method's frame g, with q thrown over it -/
def vx_W (p : Program) (l : Launch) (e : Env) (R : Room) (s : State) (m : MethodId) (args : Array Value) (below : List Frame) (meth : Method) (c : Code) (H : Heap) (locs : List Loc) (cells slots : Nat) (Q : State → Prop) (g : JFrame) (q : Addr) : Prop :=
  ∀ T : State, T.heap = H → Stand p l e R s m args below meth c T locs cells slots → ∃ t, Steps p.tables e below ((T.setTop g).pushFrame (.throwing q)) t ∧ Q t
def vx_Run (p : Program) (l : Launch) (e : Env) (R : Room) (s : State) (m : MethodId) (args : Array Value) (below : List Frame) (meth : Method) (c : Code) (H : Heap) (locs : List Loc) (cells slots mc ms : Nat) (g : JFrame) (rest : List Value) (Qa : State → Outcome → State → Prop) (XC : String → State → State → Prop) (free : Addr → Prop) : Prop :=
  ∀ T : State, T.heap = H → Stand p l e R s m args below meth c T locs cells slots →
    (∃ (v : Option Value) (st₀ t T' : State) (L : List Loc), st₀.heap = H ∧ Stand p l e R s m args below meth c T' (locs ++ L) (cells + mc) (slots + ms) ∧ (∀ q ∈ L, free q.base) ∧ T'.heap = t.heap ∧ T'.vm = t.vm ∧ Qa st₀ (.returned v) t ∧
      Goes p e below T g T' { g with pc := g.pc + 3, stack := v.toList ++ rest }) ∨
    (∃ (q : Addr) (st₀ t T' : State) (L : List Loc) (E : String) (ce : Cell), st₀.heap = H ∧ Stand p l e R s m args below meth c T' (locs ++ L) (cells + mc) (slots + ms) ∧ (∀ z ∈ L, free z.base) ∧ T'.heap = t.heap ∧ T'.vm = t.vm ∧ XC E st₀ t ∧ t.heap[q]? = some ce ∧ ce.vm = .none ∧ s.vm.findClass E = some ce.cls ∧
      Steps p.tables e below (T.setTop g) ((T'.setTop { g with stack := rest }).pushFrame (.throwing q)))
def vx_X {S : Type} (px : S → Prop) (B : String → S → State → Prop) (A : Nat → Prop) : String → State → State → Prop := fun E st t => ∃ u : S, px u ∧ B E u t ∧ va_F A st t
section Runs
variable {p : Program} {l : Launch} {e : Env} {R : Room} {s : State} {m : MethodId} {args : Array Value} {below : List Frame} {meth : Method} {c : Code} {H : Heap} {locs : List Loc} {cells slots : Nat}
variable {y : MethodName} {bytes cc : ByteArray} {maxL nL mc ms n index : Nat} {ret : Option FieldType} {ws : List Cond} {rm : Room} {Pc : Array Value → State → Prop} {Qc : Array Value → State → Outcome → State → Prop} {XC : String → State → State → Prop} {free : Addr → Prop} {Ts : List Cond} {own C : String} {b : Addr} {As rest : List Value} {g : JFrame}
theorem vx_callBack (cb : CallB R s args own index y bytes maxL ret ws rm mc ms n) (hM : vx_Met l y ws rm Pc Qc XC mc ms free) (hbl : FrameBlind Pc) : vx_Back l R p e below s args y 3 8 (PreOf R mc ms Pc) (PostOf Qc mc ms free) (vx_Post XC mc ms free) := by
  obtain ⟨hrc, hrs, hfr, hlo, hws, hcw, -, hini, -⟩ := cb
  exact vx_back (bytes := bytes) (maxL := maxL) (ret := ret) hM hbl hrc hrs hfr hlo hws hcw (fun a' U hW => word_at hW (Or.inl (by first | rfl | simp [Cond.onTables, Cond.keeps, Cond.steady])) hini)
theorem vx_runV (S : CallFix p m c cc nL s args Ts own) (hM : vx_Met l y ws rm Pc Qc XC mc ms free) (cw : CallW R s args own C index y bytes maxL ret ws rm mc ms n) (hp : PreV s H C b Pc As)
    (hg : g.method = m) (hn : As.length = n) (hsize : g.locals.size = nL) (hstack : g.stack = As.reverse ++ .ref b :: rest) (hW : 2 * g.monitorRoom + (rest.map fun v => v.category).sum ≤ 8) (hdg : decode cc g.pc = .ok (.invokevirtual index, 3)) (hf : cells + mc ≤ R.cells ∧ slots + ms ≤ R.slots) :
    vx_Run p l e R s m args below meth c H locs cells slots mc ms g rest (Qc (Value.ref b :: As).toArray) XC free := by
  have hK : vx_Back l R p e below s args y 3 8 (PreOf R mc ms Pc) (PostOf Qc mc ms free) (vx_Post XC mc ms free) := vx_callBack cw.1 hM hp.1
  obtain ⟨⟨-, -, -, -, -, -, hcode, -, hy, hlen, hl⟩, hin, hse⟩ := cw
  obtain ⟨hx, hb, hml, ho, -⟩ := S
  obtain ⟨-, ⟨cellB, hcB, hoB, hclB⟩, hPc⟩ := hp
  intro T hT X
  rcases vx_callV X hx (C := C) (bytes := bytes) (maxL := maxL) (ret := ret) ho hl hin hse hcode hy hK (by rw [hT]; exact hcB) hoB hclB hg (hsize.trans hml.symm) (argsL := As) (rest := rest) (fun sig h => hn.trans (hlen sig h)) hstack hW (by rw [hb]; exact hdg)
    (fun vm₁ hW₁ => ⟨hf.1, hf.2, hPc (T.setVm vm₁) hT hW₁⟩) with ⟨v, vm₁, ⟨U', l2, c2, s2⟩, hW₁, X', ⟨g', mk, t, L, e1, e2, hq, h1, hL, h2, h3⟩, st⟩ | ⟨q, vm₁, ⟨U', l2, c2, s2⟩, hW₁, X', ⟨g', mk, t, L, E, ce, e1, e2, hq, hce, hcv, hcl, h1, hL, h2, h3⟩, st⟩
  · dsimp only [Pt.U, Pt.locs, Pt.cells, Pt.slots] at X' e1 e2 h1 h2 h3 st
    subst h1; subst h2; subst h3
    exact Or.inl ⟨v, (T.setVm vm₁).calling g' mk (Value.ref b :: As).toArray, t, U', L, hT, X', hL, e1, e2, hq, st⟩
  · dsimp only [Pt.U, Pt.locs, Pt.cells, Pt.slots] at X' e1 e2 h1 h2 h3 st hcl
    subst h1; subst h2; subst h3
    exact Or.inr ⟨q, (T.setVm vm₁).calling g' mk (Value.ref b :: As).toArray, t, U', L, E, ce, hT, X', hL, e1, e2, hq, hce, hcv, vx_cls hW₁ hcl, st⟩
theorem vx_runS (S : CallFix p m c cc nL s args Ts own) (hM : vx_Met l y ws rm Pc Qc XC mc ms free) (cw : CallB R s args own index y bytes maxL ret ws rm mc ms n ∧ (Cond.static y).before args s = true) (hp : PreS s H Pc As)
    (hg : g.method = m) (hn : As.length = n) (hsize : g.locals.size = nL) (hstack : g.stack = As.reverse ++ rest) (hW : 2 * g.monitorRoom + (rest.map fun v => v.category).sum ≤ 8) (hdg : decode cc g.pc = .ok (.invokestatic index, 3)) (hf : cells + mc ≤ R.cells ∧ slots + ms ≤ R.slots) :
    vx_Run p l e R s m args below meth c H locs cells slots mc ms g rest (Qc As.toArray) XC free := by
  have hK : vx_Back l R p e below s args y 3 8 (PreOf R mc ms Pc) (PostOf Qc mc ms free) (vx_Post XC mc ms free) := vx_callBack cw.1 hM hp.1
  obtain ⟨⟨-, -, -, -, -, -, hcode, hini, hy, hlen, hl⟩, hstt⟩ := cw
  obtain ⟨hx, hb, hml, ho, -⟩ := S
  intro T hT X
  rcases vx_callS X hx (bytes := bytes) (maxL := maxL) (ret := ret) ho hl hstt hini hcode hy hK hg (hsize.trans hml.symm) (argsL := As) (rest := rest) (fun sig h => hn.trans (hlen sig h)) hstack hW (by rw [hb]; exact hdg)
    (fun vm₁ hW₁ => ⟨hf.1, hf.2, hp.2 (T.setVm vm₁) hT hW₁⟩) with ⟨v, vm₁, ⟨U', l2, c2, s2⟩, hW₁, X', ⟨g', mk, t, L, e1, e2, hq, h1, hL, h2, h3⟩, st⟩ | ⟨q, vm₁, ⟨U', l2, c2, s2⟩, hW₁, X', ⟨g', mk, t, L, E, ce, e1, e2, hq, hce, hcv, hcl, h1, hL, h2, h3⟩, st⟩
  · dsimp only [Pt.U, Pt.locs, Pt.cells, Pt.slots] at X' e1 e2 h1 h2 h3 st
    subst h1; subst h2; subst h3
    exact Or.inl ⟨v, (T.setVm vm₁).calling g' mk As.toArray, t, U', L, hT, X', hL, e1, e2, hq, st⟩
  · dsimp only [Pt.U, Pt.locs, Pt.cells, Pt.slots] at X' e1 e2 h1 h2 h3 st hcl
    subst h1; subst h2; subst h3
    exact Or.inr ⟨q, (T.setVm vm₁).calling g' mk As.toArray, t, U', L, E, ce, hT, X', hL, e1, e2, hq, hce, hcv, vx_cls hW₁ hcl, st⟩
end Runs
section Rows
variable {p : Program} {l : Launch} {e : Env} {R : Room} {s : State} {m : MethodId} {args : Array Value} {below : List Frame} {meth : Method} {c : Code} {H : Heap} {locs : List Loc} {cells slots : Nat} {Q : State → Prop}
variable {mc ms : Nat} {free : Addr → Prop} {A0 A1 : Nat → Prop} {H0 : Heap} {a : Array Value} {pc : Nat} {ls : Array Slot} {st0 rest : List Value}
theorem vx_keep {st₀ t T' : State} {L : List Loc} (h0 : st₀.heap = H) (e1 : T'.heap = t.heap) (hS : va_S A0 H0 H locs) (hA : ∀ q, q < H.size → A1 q → A0 q) (hf : ∀ q, free q → A0 q) (hL : ∀ q ∈ L, free q.base) (hF : va_F A1 st₀ t) :
    H.size ≤ T'.heap.size ∧ (∀ q : Nat, q < H.size → ¬ A1 q → T'.heap[q]? = H[q]?) ∧ va_S A0 H0 T'.heap (locs ++ L) := by
  obtain ⟨hz, hk⟩ := hF
  rw [h0] at hz hk
  exact ⟨by rw [e1]; exact hz, fun q h1 h2 => by rw [e1]; exact hk q h1 h2,
    ⟨Nat.le_trans hS.1 (by rw [e1]; exact hz), fun q h1 h2 => by rw [e1, hk q (Nat.lt_of_lt_of_le h1 hS.1) (fun z => h2 (hA q (Nat.lt_of_lt_of_le h1 hS.1) z))]; exact hS.2.1 q h1 h2, fun q hq => by
      rcases List.mem_append.mp hq with h | h
      · exact hS.2.2 q h
      · exact hf _ (hL q h)⟩⟩
theorem vx_calli {S SX : Type} {post : Int32 → S → Prop} {px : SX → Prop} {B : S → State → Prop} {BX : String → SX → State → Prop} {AX : Nat → Prop} (hr : vx_Run p l e R s m args below meth c H locs cells slots mc ms (F0 m pc ls st0) rest (va_Qi post B A1 a) (vx_X px BX AX) free) (hS : va_S A0 H0 H locs) (hA : ∀ q, q < H.size → A1 q → A0 q) (hf : ∀ q, free q → A0 q) (hAX : ∀ q, q < H.size → AX q → A0 q)
    (kx : ∀ (E : String) (ce : Cell) (q9 : Addr) (u : SX) (t : State) (H1 : Heap) (locs1 : List Loc), t.heap = H1 → s.vm.Alike t.vm → px u → BX E u t → H.size ≤ H1.size → (∀ q : Nat, q < H.size → ¬ AX q → H1[q]? = H[q]?) → va_S A0 H0 H1 locs1 → H1[q9]? = some ce → ce.vm = .none → s.vm.findClass E = some ce.cls → vx_W p l e R s m args below meth c H1 locs1 (cells + mc) (slots + ms) Q (F0 m pc ls rest) q9)
    (kk : ∀ (r : Int32) (u : S) (t : State) (H1 : Heap) (locs1 : List Loc), t.heap = H1 → s.vm.Alike t.vm → post r u → B u t → H.size ≤ H1.size → (∀ q : Nat, q < H.size → ¬ A1 q → H1[q]? = H[q]?) → va_S A0 H0 H1 locs1 → W p l e R s m args below meth c H1 locs1 (cells + mc) (slots + ms) Q (F0 m (pc + 3) ls (.int r :: rest))) : W p l e R s m args below meth c H locs cells slots Q (F0 m pc ls st0) := by
  intro T hT X
  rcases hr T hT X with ⟨v, st₀, t, T', L, h0, X', hL, e1, e2, ⟨⟨r, u, hv, hp, hb⟩, hF⟩, st⟩ | ⟨q, st₀, t, T', L, E, ce, h0, X', hL, e1, e2, ⟨u, hp, hb, hF⟩, hce, hcv, hcl, st⟩
  · cases hv
    obtain ⟨k1, k2, k3⟩ := vx_keep h0 e1 hS hA hf hL hF
    obtain ⟨t2, a1, b1⟩ := kk r u t T'.heap (locs ++ L) e1.symm (by rw [← e2]; exact X'.warmed.alike) hp hb k1 k2 k3 T' rfl X'
    exact ⟨t2, st t2 a1, b1⟩
  · obtain ⟨k1, k2, k3⟩ := vx_keep h0 e1 hS hAX hf hL hF
    obtain ⟨t2, a1, b1⟩ := kx E ce q u t T'.heap (locs ++ L) e1.symm (by rw [← e2]; exact X'.warmed.alike) hp hb k1 k2 k3 (by rw [e1]; exact hce) hcv hcl T' rfl X'
    exact ⟨t2, st.trans a1, b1⟩
theorem vx_calll {S SX : Type} {post : Int64 → S → Prop} {px : SX → Prop} {B : S → State → Prop} {BX : String → SX → State → Prop} {AX : Nat → Prop} (hr : vx_Run p l e R s m args below meth c H locs cells slots mc ms (F0 m pc ls st0) rest (va_Ql post B A1 a) (vx_X px BX AX) free) (hS : va_S A0 H0 H locs) (hA : ∀ q, q < H.size → A1 q → A0 q) (hf : ∀ q, free q → A0 q) (hAX : ∀ q, q < H.size → AX q → A0 q)
    (kx : ∀ (E : String) (ce : Cell) (q9 : Addr) (u : SX) (t : State) (H1 : Heap) (locs1 : List Loc), t.heap = H1 → s.vm.Alike t.vm → px u → BX E u t → H.size ≤ H1.size → (∀ q : Nat, q < H.size → ¬ AX q → H1[q]? = H[q]?) → va_S A0 H0 H1 locs1 → H1[q9]? = some ce → ce.vm = .none → s.vm.findClass E = some ce.cls → vx_W p l e R s m args below meth c H1 locs1 (cells + mc) (slots + ms) Q (F0 m pc ls rest) q9)
    (kk : ∀ (r : Int64) (u : S) (t : State) (H1 : Heap) (locs1 : List Loc), t.heap = H1 → s.vm.Alike t.vm → post r u → B u t → H.size ≤ H1.size → (∀ q : Nat, q < H.size → ¬ A1 q → H1[q]? = H[q]?) → va_S A0 H0 H1 locs1 → W p l e R s m args below meth c H1 locs1 (cells + mc) (slots + ms) Q (F0 m (pc + 3) ls (.long r :: rest))) : W p l e R s m args below meth c H locs cells slots Q (F0 m pc ls st0) := by
  intro T hT X
  rcases hr T hT X with ⟨v, st₀, t, T', L, h0, X', hL, e1, e2, ⟨⟨r, u, hv, hp, hb⟩, hF⟩, st⟩ | ⟨q, st₀, t, T', L, E, ce, h0, X', hL, e1, e2, ⟨u, hp, hb, hF⟩, hce, hcv, hcl, st⟩
  · cases hv
    obtain ⟨k1, k2, k3⟩ := vx_keep h0 e1 hS hA hf hL hF
    obtain ⟨t2, a1, b1⟩ := kk r u t T'.heap (locs ++ L) e1.symm (by rw [← e2]; exact X'.warmed.alike) hp hb k1 k2 k3 T' rfl X'
    exact ⟨t2, st t2 a1, b1⟩
  · obtain ⟨k1, k2, k3⟩ := vx_keep h0 e1 hS hAX hf hL hF
    obtain ⟨t2, a1, b1⟩ := kx E ce q u t T'.heap (locs ++ L) e1.symm (by rw [← e2]; exact X'.warmed.alike) hp hb k1 k2 k3 (by rw [e1]; exact hce) hcv hcl T' rfl X'
    exact ⟨t2, st.trans a1, b1⟩
theorem vx_callf {S SX : Type} {post : UInt32 → S → Prop} {px : SX → Prop} {B : S → State → Prop} {BX : String → SX → State → Prop} {AX : Nat → Prop} (hr : vx_Run p l e R s m args below meth c H locs cells slots mc ms (F0 m pc ls st0) rest (va_Qf post B A1 a) (vx_X px BX AX) free) (hS : va_S A0 H0 H locs) (hA : ∀ q, q < H.size → A1 q → A0 q) (hf : ∀ q, free q → A0 q) (hAX : ∀ q, q < H.size → AX q → A0 q)
    (kx : ∀ (E : String) (ce : Cell) (q9 : Addr) (u : SX) (t : State) (H1 : Heap) (locs1 : List Loc), t.heap = H1 → s.vm.Alike t.vm → px u → BX E u t → H.size ≤ H1.size → (∀ q : Nat, q < H.size → ¬ AX q → H1[q]? = H[q]?) → va_S A0 H0 H1 locs1 → H1[q9]? = some ce → ce.vm = .none → s.vm.findClass E = some ce.cls → vx_W p l e R s m args below meth c H1 locs1 (cells + mc) (slots + ms) Q (F0 m pc ls rest) q9)
    (kk : ∀ (r : UInt32) (u : S) (t : State) (H1 : Heap) (locs1 : List Loc), t.heap = H1 → s.vm.Alike t.vm → post r u → B u t → H.size ≤ H1.size → (∀ q : Nat, q < H.size → ¬ A1 q → H1[q]? = H[q]?) → va_S A0 H0 H1 locs1 → W p l e R s m args below meth c H1 locs1 (cells + mc) (slots + ms) Q (F0 m (pc + 3) ls (.float r :: rest))) : W p l e R s m args below meth c H locs cells slots Q (F0 m pc ls st0) := by
  intro T hT X
  rcases hr T hT X with ⟨v, st₀, t, T', L, h0, X', hL, e1, e2, ⟨⟨r, u, hv, hp, hb⟩, hF⟩, st⟩ | ⟨q, st₀, t, T', L, E, ce, h0, X', hL, e1, e2, ⟨u, hp, hb, hF⟩, hce, hcv, hcl, st⟩
  · cases hv
    obtain ⟨k1, k2, k3⟩ := vx_keep h0 e1 hS hA hf hL hF
    obtain ⟨t2, a1, b1⟩ := kk r u t T'.heap (locs ++ L) e1.symm (by rw [← e2]; exact X'.warmed.alike) hp hb k1 k2 k3 T' rfl X'
    exact ⟨t2, st t2 a1, b1⟩
  · obtain ⟨k1, k2, k3⟩ := vx_keep h0 e1 hS hAX hf hL hF
    obtain ⟨t2, a1, b1⟩ := kx E ce q u t T'.heap (locs ++ L) e1.symm (by rw [← e2]; exact X'.warmed.alike) hp hb k1 k2 k3 (by rw [e1]; exact hce) hcv hcl T' rfl X'
    exact ⟨t2, st.trans a1, b1⟩
theorem vx_calld {S SX : Type} {post : UInt64 → S → Prop} {px : SX → Prop} {B : S → State → Prop} {BX : String → SX → State → Prop} {AX : Nat → Prop} (hr : vx_Run p l e R s m args below meth c H locs cells slots mc ms (F0 m pc ls st0) rest (va_Qd post B A1 a) (vx_X px BX AX) free) (hS : va_S A0 H0 H locs) (hA : ∀ q, q < H.size → A1 q → A0 q) (hf : ∀ q, free q → A0 q) (hAX : ∀ q, q < H.size → AX q → A0 q)
    (kx : ∀ (E : String) (ce : Cell) (q9 : Addr) (u : SX) (t : State) (H1 : Heap) (locs1 : List Loc), t.heap = H1 → s.vm.Alike t.vm → px u → BX E u t → H.size ≤ H1.size → (∀ q : Nat, q < H.size → ¬ AX q → H1[q]? = H[q]?) → va_S A0 H0 H1 locs1 → H1[q9]? = some ce → ce.vm = .none → s.vm.findClass E = some ce.cls → vx_W p l e R s m args below meth c H1 locs1 (cells + mc) (slots + ms) Q (F0 m pc ls rest) q9)
    (kk : ∀ (r : UInt64) (u : S) (t : State) (H1 : Heap) (locs1 : List Loc), t.heap = H1 → s.vm.Alike t.vm → post r u → B u t → H.size ≤ H1.size → (∀ q : Nat, q < H.size → ¬ A1 q → H1[q]? = H[q]?) → va_S A0 H0 H1 locs1 → W p l e R s m args below meth c H1 locs1 (cells + mc) (slots + ms) Q (F0 m (pc + 3) ls (.double r :: rest))) : W p l e R s m args below meth c H locs cells slots Q (F0 m pc ls st0) := by
  intro T hT X
  rcases hr T hT X with ⟨v, st₀, t, T', L, h0, X', hL, e1, e2, ⟨⟨r, u, hv, hp, hb⟩, hF⟩, st⟩ | ⟨q, st₀, t, T', L, E, ce, h0, X', hL, e1, e2, ⟨u, hp, hb, hF⟩, hce, hcv, hcl, st⟩
  · cases hv
    obtain ⟨k1, k2, k3⟩ := vx_keep h0 e1 hS hA hf hL hF
    obtain ⟨t2, a1, b1⟩ := kk r u t T'.heap (locs ++ L) e1.symm (by rw [← e2]; exact X'.warmed.alike) hp hb k1 k2 k3 T' rfl X'
    exact ⟨t2, st t2 a1, b1⟩
  · obtain ⟨k1, k2, k3⟩ := vx_keep h0 e1 hS hAX hf hL hF
    obtain ⟨t2, a1, b1⟩ := kx E ce q u t T'.heap (locs ++ L) e1.symm (by rw [← e2]; exact X'.warmed.alike) hp hb k1 k2 k3 (by rw [e1]; exact hce) hcv hcl T' rfl X'
    exact ⟨t2, st.trans a1, b1⟩
theorem vx_callv {S SX : Type} {post : S → Prop} {px : SX → Prop} {B : S → State → Prop} {BX : String → SX → State → Prop} {AX : Nat → Prop} (hr : vx_Run p l e R s m args below meth c H locs cells slots mc ms (F0 m pc ls st0) rest (va_Qv post B A1 a) (vx_X px BX AX) free) (hS : va_S A0 H0 H locs) (hA : ∀ q, q < H.size → A1 q → A0 q) (hf : ∀ q, free q → A0 q) (hAX : ∀ q, q < H.size → AX q → A0 q)
    (kx : ∀ (E : String) (ce : Cell) (q9 : Addr) (u : SX) (t : State) (H1 : Heap) (locs1 : List Loc), t.heap = H1 → s.vm.Alike t.vm → px u → BX E u t → H.size ≤ H1.size → (∀ q : Nat, q < H.size → ¬ AX q → H1[q]? = H[q]?) → va_S A0 H0 H1 locs1 → H1[q9]? = some ce → ce.vm = .none → s.vm.findClass E = some ce.cls → vx_W p l e R s m args below meth c H1 locs1 (cells + mc) (slots + ms) Q (F0 m pc ls rest) q9)
    (kk : ∀ (u : S) (t : State) (H1 : Heap) (locs1 : List Loc), t.heap = H1 → s.vm.Alike t.vm → post u → B u t → H.size ≤ H1.size → (∀ q : Nat, q < H.size → ¬ A1 q → H1[q]? = H[q]?) → va_S A0 H0 H1 locs1 → W p l e R s m args below meth c H1 locs1 (cells + mc) (slots + ms) Q (F0 m (pc + 3) ls (rest))) : W p l e R s m args below meth c H locs cells slots Q (F0 m pc ls st0) := by
  intro T hT X
  rcases hr T hT X with ⟨v, st₀, t, T', L, h0, X', hL, e1, e2, ⟨⟨u, hv, hp, hb⟩, hF⟩, st⟩ | ⟨q, st₀, t, T', L, E, ce, h0, X', hL, e1, e2, ⟨u, hp, hb, hF⟩, hce, hcv, hcl, st⟩
  · cases hv
    obtain ⟨k1, k2, k3⟩ := vx_keep h0 e1 hS hA hf hL hF
    obtain ⟨t2, a1, b1⟩ := kk u t T'.heap (locs ++ L) e1.symm (by rw [← e2]; exact X'.warmed.alike) hp hb k1 k2 k3 T' rfl X'
    exact ⟨t2, st t2 a1, b1⟩
  · obtain ⟨k1, k2, k3⟩ := vx_keep h0 e1 hS hAX hf hL hF
    obtain ⟨t2, a1, b1⟩ := kx E ce q u t T'.heap (locs ++ L) e1.symm (by rw [← e2]; exact X'.warmed.alike) hp hb k1 k2 k3 (by rw [e1]; exact hce) hcv hcl T' rfl X'
    exact ⟨t2, st.trans a1, b1⟩
/-- caught by the row x of this method's table; the rows ahead don't take it -/
theorem vx_catch {own name : String} {E : String} {ce : Cell} {q : Addr} (hown : s.vm.findClass own = some m.cls) (pre : List ExceptionTableEntry) (x : ExceptionTableEntry) (suf : List ExceptionTableEntry) (hsplit : c.exceptionTable.toList = pre ++ x :: suf)
    (hpass : ∀ z ∈ pre, covers z pc = false ∨ (z.catchType ≠ 0 ∧ ∃ nm : String, (Cond.classLink own z.catchType nm).before args s = true ∧ va_Nc E nm s)) (hx : covers x pc = true) (h0 : x.catchType ≠ 0)
    (hlink : (Cond.classLink own x.catchType name).before args s = true) (hcast : (Cond.castable E name).before args s = true) (hcell : H[q]? = some ce) (hv : ce.vm = .none) (hcl : s.vm.findClass E = some ce.cls)
    (kk : W p l e R s m args below meth c H locs cells slots Q (F0 m x.handlerPc ls [.ref q])) : vx_W p l e R s m args below meth c H locs cells slots Q (F0 m pc ls rest) q := by
  intro T hT X
  have hpl : e.platform.magicAccessors = ({} : Platform).magicAccessors := by rw [X.admits.platform]
  obtain ⟨c3, c4, hc3, hc4, hasg⟩ := Cond.castable_spec hcast
  cases Option.some.inj (hc3.symm.trans hcl)
  obtain ⟨c5, hc5, hcl5⟩ := Cond.classLink_spec hown hlink e.platform hpl
  cases Option.some.inj (hc4.symm.trans hc5)
  obtain ⟨vm', X', st⟩ := X.thenCaughtThrough q (g := F0 m pc ls rest) rfl (Steps.refl _) (by rw [hT]; exact hcell) (by rw [hv]; rfl) (by obtain ⟨k9, h9, -⟩ := Vm.findClass_spec hcl; exact ⟨k9, h9⟩) pre x suf hsplit
    (fun z hz => by
      rcases hpass z hz with h | ⟨hz0, nm, hl1, hn1⟩
      · exact Or.inl h
      · obtain ⟨c6, hc6, hcl6⟩ := Cond.classLink_spec hown hl1 e.platform hpl
        obtain ⟨a8, b8, h1, h2, h3⟩ := hn1
        cases Option.some.inj (h1.symm.trans hcl)
        cases Option.some.inj (h2.symm.trans hc6)
        exact Or.inr ⟨hz0, _, hcl6, h3⟩) hx (Or.inr ⟨h0, c4, hcl5, hasg⟩)
  obtain ⟨t, a1, b1⟩ := kk (T.setVm vm') hT X'
  exact ⟨t, st.trans a1, b1⟩
end Rows
section Ends
variable {p : Program} {l : Launch} {e : Env} {R : Room} {s : State} {m : MethodId} {args : Array Value} {below : List Frame} {meth : Method} {c : Code} {H : Heap} {locs : List Loc} {cells slots : Nat} {Q : State → Prop}
variable {mc ms : Nat} {free : Addr → Prop} {A0 A1 : Nat → Prop} {H0 : Heap} {a : Array Value} {ls : Array Slot} {st0 rest : List Value}
variable {Qc : Array Value → State → Outcome → State → Prop} {XC : String → State → State → Prop}
/-- what a body that may throw owes at its end -/
def vx_MQ (below : List Frame) (Qc : Array Value → State → Outcome → State → Prop) (XC : String → State → State → Prop) (a : Array Value) (s : State) (mc ms : Nat) (free : Addr → Prop) : State → Prop := fun t =>
  ∃ o, t.status = .running ∧ Ended t below o ∧ vx_Q Qc XC mc ms free a s o t
theorem vx_ret {g : JFrame} {mc ms : Nat} (k : W p l e R s m args below meth c H locs cells slots (MQ below Qc args s mc ms free) g) : W p l e R s m args below meth c H locs cells slots (vx_MQ below Qc XC args s mc ms free) g := by
  intro T hT X
  obtain ⟨t, a1, o, b1, b2, b3, b4⟩ := k T hT X
  exact ⟨t, a1, o, b1, b2, Or.inl ⟨b3, b4⟩⟩
/-- not caught here: it goes on to the caller -/
theorem vx_widen {g : JFrame} {q : Addr} {k n : Nat} (h1 : cells ≤ k) (h2 : slots ≤ n) (kk : vx_W p l e R s m args below meth c H locs k n Q g q) : vx_W p l e R s m args below meth c H locs cells slots Q g q := fun T hT X => kk T hT (stand_widen X h1 h2)
theorem vx_out {pc : Nat} {E : String} {ce : Cell} {q : Addr} {mc ms : Nat} (hout : ∀ x ∈ c.exceptionTable.toList, covers x pc = false) (hlocks : meth.locks = false) (hcell : H[q]? = some ce) (hv : ce.vm = .none) (hcl : s.vm.findClass E = some ce.cls)
    (hx : ∀ t : State, t.heap = H → s.vm.Alike t.vm → XC E s t) (hf : ∀ z ∈ locs, free z.base) (hc : cells ≤ mc) (hs : slots ≤ ms) :
    vx_W p l e R s m args below meth c H locs cells slots (vx_MQ below Qc XC args s mc ms free) (F0 m pc ls rest) q := by
  intro T hT X
  obtain ⟨st1, hrun, hend, hW, hsm⟩ := X.leaveThrown q (g := F0 m pc ls rest) rfl rfl rfl hout hlocks
  have hcell9 : (T.setFrames (.throwing q :: below)).heap[q]? = some ce := by
    show T.heap[q]? = some ce
    rw [hT]; exact hcell
  exact ⟨_, st1, .threw q, hrun, hend, Or.inr ⟨q, rfl, E, ce, locs, hx _ hT hW.alike, hcell9, hv, hcl, hW, hsm.mono hc hs, hf⟩⟩
theorem vx_frame {U : State} {k n : Nat} (h : s.sameButNew ({ U with vm := s.vm } : State) locs k n) : s.heap.size ≤ U.heap.size ∧ ∀ q : Nat, q < s.heap.size → (∀ z ∈ locs, z.base ≠ q) → U.heap[q]? = s.heap[q]? := by
  obtain ⟨-, h2, -, -, -, h6⟩ := h
  refine ⟨h2, fun q hq hz => ?_⟩
  obtain ⟨c9, e1, e2, e3, e4⟩ := h6 q _ (Array.getElem?_eq_getElem hq)
  have hs : c9.slots = (s.heap[q]).slots := Array.ext_getElem? fun i => e4 i fun hm => hz _ hm rfl
  have h9 : c9 = s.heap[q] := by
    rw [hs] at e2
    exact e2
  have e5 : U.heap[q]? = some c9 := e1
  rw [e5, h9, Array.getElem?_eq_getElem hq]
/-- the words of a throw but the four that speak of the heap -/
def vx_no (w : Cond) : Bool := decide (w ≠ .isRef (.static Bundle.tN "UNASSIGNED_STACK" Bundle.steD)) && decide (w ≠ .isRef (.static Bundle.tN "SUPPRESSED_SENTINEL" Bundle.listD)) && decide (w ≠ .laysStatic Bundle.tN "UNASSIGNED_STACK" Bundle.steD) && decide (w ≠ .laysStatic Bundle.tN "SUPPRESSED_SENTINEL" Bundle.listD)
def vx_at0 (own : String) (ic : Nat) (X : String) (names : List String) : List Cond := (Bundle.ownAtoms0 own ic X names).filter vx_no
def vx_atS (own : String) (ic : Nat) (X : String) (names : List String) : List Cond := (Bundle.ownAtoms own ic X names).filter vx_no
/-- a word that the tables alone decide, or a good one -/
def vx_ot (w : Cond) : Bool := w.onTables || goodWord w
theorem vx_ot_at {args a' : Array Value} {s U : State} {w : Cond} (hW : s.WarmedH U.vm) (hvm : s.vm = U.vm) (hg : vx_ot w = true) (h : w.before args s = true) : w.before a' U = true := by
  simp only [vx_ot, Bool.or_eq_true] at hg
  rcases hg with hg | hg
  · exact va_tabs hg hvm h
  · exact word_at hW (good_of_word hg) h
/-- a list's words: the good ones out of the method's own list, the others by premises of their own -/
theorem vx_hat {args : Array Value} {s : State} {L B : List Cond} (h1 : ∀ w ∈ L.filter goodWord, w.before args s = true) (h2 : ∀ w ∈ L.filter (fun w => !goodWord w), w ∈ B) (h3 : ∀ w ∈ B, w.before args s = true) : ∀ w ∈ L, w.before args s = true := by
  intro w hw
  by_cases g : goodWord w = true
  · exact h1 w (List.mem_filter.mpr ⟨hw, g⟩)
  · refine h3 w (h2 w (List.mem_filter.mpr ⟨hw, ?_⟩))
    show (!goodWord w) = true
    cases hgw : goodWord w
    · rfl
    · exact absurd hgw g
theorem vx_c {args : Array Value} {s : State} {w : Cond} {B : List Cond} (h : w.before args s = true) (t : ∀ w ∈ B, w.before args s = true) : ∀ w' ∈ w :: B, w'.before args s = true := fun w' h' => (List.mem_cons.mp h').elim (fun e => by rw [e]; exact h) (t w')
theorem vx_n {args : Array Value} {s : State} : ∀ w ∈ ([] : List Cond), w.before args s = true := fun _ h => nomatch h
theorem vx_own {args : Array Value} {s : State} {L : List Cond} (h1 : ∀ w ∈ L.filter vx_no, w.before args s = true)
    (hU : (Cond.isRef (.static Bundle.tN "UNASSIGNED_STACK" Bundle.steD)).before args s = true) (hN : (Cond.isRef (.static Bundle.tN "SUPPRESSED_SENTINEL" Bundle.listD)).before args s = true)
    (lU : (Cond.laysStatic Bundle.tN "UNASSIGNED_STACK" Bundle.steD).before args s = true) (lN : (Cond.laysStatic Bundle.tN "SUPPRESSED_SENTINEL" Bundle.listD).before args s = true) : ∀ w ∈ L, w.before args s = true := by
  intro w hw
  by_cases e1 : w = .isRef (.static Bundle.tN "UNASSIGNED_STACK" Bundle.steD)
  · rw [e1]; exact hU
  · by_cases e2 : w = .isRef (.static Bundle.tN "SUPPRESSED_SENTINEL" Bundle.listD)
    · rw [e2]; exact hN
    · by_cases e3 : w = .laysStatic Bundle.tN "UNASSIGNED_STACK" Bundle.steD
      · rw [e3]; exact lU
      · by_cases e4 : w = .laysStatic Bundle.tN "SUPPRESSED_SENTINEL" Bundle.listD
        · rw [e4]; exact lN
        · exact h1 w (List.mem_filter.mpr ⟨hw, by unfold vx_no; rw [decide_eq_true e1, decide_eq_true e2, decide_eq_true e3, decide_eq_true e4]; rfl⟩)
/-- where a static field lies, its class's statics cell in H -/
def vx_L (C n d : String) (A : Nat → Prop) (U : State) (H : Heap) : Prop := ∃ (c : ClassId) (k : Class) (i : Nat) (f : Field) (a : Nat) (cell : Cell), U.vm.findClass C = some c ∧ U.fieldFound? C n d = some (c, k, i, f) ∧ f.isStatic = true ∧ k.statics = some a ∧ H[a]? = some cell ∧ cell.vm.isStatics = true ∧ cell.cls = c ∧ f.slot < cell.slots.size ∧ k.staticTypes[f.slot]? = some f.type ∧ ¬ A a
theorem vx_L.moved {C n d : String} {A : Nat → Prop} {u U : State} {H : Heap} (hvm : u.vm.Alike U.vm) (h : vx_L C n d A u H) : vx_L C n d A U H := by
  obtain ⟨c, k, i, f, a, cell, h1, h2, h3, h4, h5, h6, h7, h8, h9, h10⟩ := h
  obtain ⟨k', hi', he⟩ := State.fieldFound?_setVm hvm h2
  exact ⟨c, k', i, f, a, cell, by rw [hvm.findClass]; exact h1, hi', h3, by rw [he]; exact h4, h5, h6, h7, h8, by rw [he]; exact h9, h10⟩
theorem vx_L.kept {C n d : String} {A : Nat → Prop} {U : State} {H H1 : Heap} (h : vx_L C n d A U H) (hq : ∀ a : Nat, a < H.size → ¬ A a → H1[a]? = H[a]?) : vx_L C n d A U H1 := by
  obtain ⟨c, k, i, f, a, cell, h1, h2, h3, h4, h5, h6, h7, h8, h9, h10⟩ := h
  exact ⟨c, k, i, f, a, cell, h1, h2, h3, h4, by rw [hq a (Array.getElem?_eq_some_iff.mp h5).1 h10]; exact h5, h6, h7, h8, h9, h10⟩
theorem vx_L.narrow {C n d : String} {A B : Nat → Prop} {U : State} {H : Heap} (h : vx_L C n d A U H) (hAB : ∀ q, B q → A q) : vx_L C n d B U H := by
  obtain ⟨c, k, i, f, a, cell, h1, h2, h3, h4, h5, h6, h7, h8, h9, h10⟩ := h
  exact ⟨c, k, i, f, a, cell, h1, h2, h3, h4, h5, h6, h7, h8, h9, fun z => h10 (hAB _ z)⟩
theorem vx_L.word {C n d : String} {A : Nat → Prop} {s : State} {args : Array Value} (h : vx_L C n d A s s.heap) : (Cond.laysStatic C n d).before args s = true := by
  obtain ⟨c, k, i, f, a, cell, h1, h2, h3, h4, h5, h6, h7, h8, h9, -⟩ := h
  show (Cond.laysStatic C n d).holds args s none s [] = true
  exact Cond.laysStatic_of h1 h2 h3 h4 h5 h6 h7 h8 h9
/-- .. and what it holds: null or some reference -/
def vx_Zq (C n d : String) (A : Nat → Prop) (U : State) (H : Heap) : Prop := va_Zq C n d A U H ∧ vx_L C n d A U H
theorem vx_Zq.moved {C n d : String} {A : Nat → Prop} {u U : State} {H : Heap} (hvm : u.vm.Alike U.vm) (h : vx_Zq C n d A u H) : vx_Zq C n d A U H := ⟨va_Zq.moved hvm h.1, vx_L.moved hvm h.2⟩
theorem vx_Zq.kept {C n d : String} {A : Nat → Prop} {U : State} {H H1 : Heap} (h : vx_Zq C n d A U H) (hq : ∀ a : Nat, a < H.size → ¬ A a → H1[a]? = H[a]?) : vx_Zq C n d A U H1 := ⟨va_Zq.kept h.1 hq, vx_L.kept h.2 hq⟩
theorem vx_Zq.narrow {C n d : String} {A B : Nat → Prop} {U : State} {H : Heap} (h : vx_Zq C n d A U H) (hAB : ∀ q, B q → A q) : vx_Zq C n d B U H := ⟨va_Zq.narrow h.1 hAB, vx_L.narrow h.2 hAB⟩
theorem vx_Zqof {args : Array Value} {s : State} {C n d : String} {A : Nat → Prop} (hl : (Cond.laysStatic C n d).before args s = true) (hini : (Cond.initialized C).before args s = true) (h : (Cond.isRef (.static C n d)).before args s = true) (hA : ∀ a : Nat, a < s.heap.size → ¬ A a) : vx_Zq C n d A s s.heap := by
  refine ⟨va_Zqof hl hini h hA, ?_⟩
  obtain ⟨c, k, i, f, a, cell, h1, h2, h3, h4, h5, h6, h7, h8, h9⟩ := Cond.laysStatic_spec hl
  exact ⟨c, k, i, f, a, cell, h1, h2, h3, h4, h5, h6, h7, h8, h9, hA a (Array.getElem?_eq_some_iff.mp h5).1⟩
theorem vx_isRef {C n d : String} {v : Value} {A : Nat → Prop} {s : State} {args : Array Value} (h : va_Z C n d v A s s.heap) (hv : v.isRef = true) : (Cond.isRef (.static C n d)).before args s = true := by
  obtain ⟨cf, kf, fi, f, a, cell, h1, h2, h3, h4, h5, h6, h7, -⟩ := h
  have he : (Term.static C n d).eval args s none [] s = some v := by
    simp [Term.eval, State.fieldNamed?, h1, h2, h4, h5, h6, h7]
  simp only [Cond.before, Cond.holds, Cond.value, he]
  cases v <;> simp_all [Value.isRef]
theorem vx_isRefq {C n d : String} {A : Nat → Prop} {s : State} {args : Array Value} (h : va_Zq C n d A s s.heap) : (Cond.isRef (.static C n d)).before args s = true := by
  rcases h with h | ⟨t, h⟩
  · exact vx_isRef h rfl
  · exact vx_isRef h rfl
/-- the same frame, seen from here: as if the method were called anew in this heap -/
theorem vx_rebase {T : State} (X : Stand p l e R s m args below meth c T locs cells slots) {R' : Room} (hf : R'.frames ≤ R.frames) (hl : R'.locals ≤ R.locals) (hc : cells + R'.cells ≤ R.cells) (hs : slots + R'.slots ≤ R.slots) :
    Stand p l e R' ((T.setVm s.vm).setFrames (.invoking m args :: below)) m args below meth c T [] 0 0 := by
  have htop : (T.setVm s.vm).topJava?.isSome := X.here.top
  have hF : ((T.setVm s.vm).setFrames (.invoking m args :: below)).frames = .invoking m args :: below := State.frames_setFrames _ (State.cur_lt_of_top htop)
  obtain ⟨g₀, hg0⟩ := Option.isSome_iff_exists.mp htop
  obtain ⟨r, hr⟩ := State.topJava?_eq_some.mp hg0
  have hl9 : e.platform.stackLimits (T.setVm s.vm).me = e.platform.stackLimits s.me := X.limits
  have hb9 : (T.setVm s.vm).me.stackBytes = s.me.stackBytes := X.bytes
  refine ⟨X.admits, X.cas, X.clock, hF, ?_, X.hears, X.method, X.code, X.here, X.tail, X.warmed, ?_, ?_, ?_⟩
  · have h := X.room
    have hU : ((T.setVm s.vm).setFrames (.invoking m args :: below)).localsInUse = s.localsInUse := by
      rw [State.localsInUse_invoking hF (meth := meth) (c := c) X.method X.code, State.localsInUse_invoking X.frames X.method X.code]
    simp only [State.hasRoom, Bool.and_eq_true, decide_eq_true_eq] at h ⊢
    obtain ⟨⟨⟨⟨h1, h2, h3, h4, h5, h6⟩, h7⟩, h8⟩, h9⟩ := h
    rw [X.frames, List.length_cons] at h2 h3
    have q1 := X.heapSize
    have q2 := X.used
    simp only [hF, hU, List.length_cons, State.stackLimits_setFrames, State.stackBytes_setFrames, hl9, hb9]
    refine ⟨⟨⟨⟨by omega, by omega, by omega, by omega, by omega, h6⟩, ?_⟩, ?_⟩, X.book⟩
    · show T.heap.size + R'.cells ≤ e.platform.maxCells
      omega
    · show T.slotsUsed + R'.slots ≤ e.platform.maxSlots
      omega
  · rw [State.stackLimits_setFrames]; rfl
  · rw [State.stackBytes_setFrames]; rfl
  · refine ⟨?_, Nat.le_refl _, Nat.le_refl _, ?_, ?_, fun a c9 h9 => ⟨c9, h9, rfl, rfl, fun _ _ => rfl⟩⟩
    · obtain ⟨t, ht, -⟩ := State.frames_cons hr
      show T.setVm s.vm = { ((T.setVm s.vm).setFrames (.invoking m args :: below)).setFrames (T.setVm s.vm).frames with heap := T.heap, slotsUsed := T.slotsUsed }
      rw [State.setFrames_setFrames, State.setFrames_self ht]
      rfl
    · show T.slotsUsed = T.slotsUsed + ((T.heap.toList.drop T.heap.size).map (·.slots.size)).sum
      rw [List.drop_eq_nil_of_le (Nat.le_of_eq Array.length_toList)]
      rfl
    · show ((T.heap.toList.drop T.heap.size).map (·.slots.size)).sum ≤ 0
      rw [List.drop_eq_nil_of_le (Nat.le_of_eq Array.length_toList)]
      exact Nat.le_refl _
/-- 'throw new E()': new; dup; invokespecial; athrow -/
theorem vx_throw0 {cc : ByteArray} {pc : Nat} (hexec : p.tables.exec = Jvm.exec) (hb : c.code = cc) (hl : l.stackTraces = false) {own cls : String} {names : List String} {ik ic mc ms : Nat} {A : Nat → Prop}
    (hown : s.vm.findClass own = some m.cls) (hcls : Bundle.fit cls = true) (hnames : ∀ n ∈ names, Bundle.fit n = true)
    (hk : (Cond.classLink own ik cls).before args s = true) (hini : (Cond.initialized cls).before args s = true) (hat : ∀ w ∈ vx_at0 own ic cls names, w.before args s = true)
    (hgood : ∀ w ∈ Cond.classLink own ik cls :: Cond.initialized cls :: vx_at0 own ic cls names, vx_ot w = true)
    (hU : vx_Zq Bundle.tN "UNASSIGNED_STACK" Bundle.steD A s s.heap) (hN : vx_Zq Bundle.tN "SUPPRESSED_SENTINEL" Bundle.listD A s s.heap) (hS : va_S A s.heap H locs) (hsize : ls.size = c.maxLocals)
    (d0 : decode cc pc = .ok (.new ik, 3)) (d3 : decode cc (pc + 3) = .ok (.dup, 1)) (d4 : decode cc (pc + 4) = .ok (.invokespecial ic, 3)) (d7 : decode cc (pc + 7) = .ok (.athrow, 1))
    (hout : ∀ x ∈ c.exceptionTable.toList, covers x (pc + 7) = false)
    (hRframes : names.length + 3 < R.frames) (hRlocals : (rest.map fun v => v.category).sum + (13 * (names.length + 1) + 42) ≤ R.locals) (hRcells : cells + 1 ≤ R.cells) (hRslots : slots + 6 ≤ R.slots) (hlocks : meth.locks = false)
    (hx : ∀ t : State, s.vm.Alike t.vm → H.size ≤ t.heap.size → (∀ q : Nat, q < H.size → t.heap[q]? = H[q]?) → XC cls s t)
    (hf : ∀ z ∈ locs, free z.base) (hc : cells + 1 ≤ mc) (hs : slots + 6 ≤ ms) :
    W p l e R s m args below meth c H locs cells slots (vx_MQ below Qc XC args s mc ms free) (F0 m pc ls rest) := by
  intro T hT X
  have htr : e.platform.stackTraces = false := (show e.platform.stackTraces = l.stackTraces by rw [X.admits.platform]).trans hl
  have Y := vx_rebase X (R' := { frames := R.frames, locals := R.locals, cells := 1, slots := 6 }) (Nat.le_refl _) (Nat.le_refl _) hRcells hRslots
  obtain ⟨s', hA⟩ : ∃ z, z = (T.setVm s.vm).setFrames (.invoking m args :: below) := ⟨_, rfl⟩
  rw [← hA] at Y
  have hvm : s'.vm = s.vm := by rw [hA]; rfl
  have hhp : s'.heap = H := by rw [hA]; exact hT
  have hW0 : s.WarmedH s'.vm := by rw [hvm]; exact State.WarmedH.refl s
  have hat' : ∀ w ∈ vx_at0 own ic cls names, w.before args s' = true := fun w hw => vx_ot_at hW0 hvm.symm (hgood w (List.mem_cons_of_mem _ (List.mem_cons_of_mem _ hw))) (hat w hw)
  have hk' : (Cond.classLink own ik cls).before args s' = true := vx_ot_at hW0 hvm.symm (hgood _ List.mem_cons_self) hk
  have hini' : (Cond.initialized cls).before args s' = true := vx_ot_at hW0 hvm.symm (hgood _ (List.mem_cons_of_mem _ List.mem_cons_self)) hini
  have hU' : vx_Zq Bundle.tN "UNASSIGNED_STACK" Bundle.steD A s' s'.heap := by rw [hhp]; exact vx_Zq.moved hW0.alike (hU.kept hS.2.1)
  have hN' : vx_Zq Bundle.tN "SUPPRESSED_SENTINEL" Bundle.listD A s' s'.heap := by rw [hhp]; exact vx_Zq.moved hW0.alike (hN.kept hS.2.1)
  have h : ∀ w ∈ Bundle.ownAtoms0 own ic cls names, w.before args s' = true := vx_own hat' (vx_isRefq hU'.1) (vx_isRefq hN'.1) hU'.2.word hN'.2.word
  have hown' : s'.vm.findClass own = some m.cls := by rw [hvm]; exact hown
  have hins : (Cond.instantiable cls 6).before args s' = true := h _ (by simp [Bundle.ownAtoms0])
  obtain ⟨vm₁, cX, kX, hfX, hkX, -, -, X₁, st1⟩ := Y.newCold hexec (own := own) (C := cls) (index := ik) (n := 6) hown' hk' hins hini'
    (g := F0 m pc ls rest) rfl (by rw [hb]; exact d0) (Nat.le_refl _) (Nat.le_refl _)
  generalize hT1 : (T.setVm vm₁).pushCell { cls := cX, slots := kX.instanceTypes.map defaultValue, vm := .none } = T1 at X₁ st1
  have hcat : (Value.ref T.heap.size).category = 1 := rfl
  have hcellA : T1.heap[T.heap.size]? = some (freshCell cX kX) := by rw [← hT1]; exact State.heap_pushCell_size _ _
  have d3' : decode c.code (pc + 3) = .ok (.dup, 1) := by rw [hb]; exact d3
  obtain ⟨U, hsteps, hrun, hend, hW, hsame, ce, hce, hO⟩ := X₁.ctorThrow0 hexec htr (own := own) (cls := cls) (names := names) (ic := ic) hown' hcls hnames h (fun x hx => nomatch hx) hfX hkX hcellA (by rw [hhp, hT]; exact Nat.le_refl _)
    (g := { method := m, pc := pc + 4, locals := ls, stack := .ref T.heap.size :: .ref T.heap.size :: rest, locked := none }) rfl hsize rfl rfl (rest := rest) rfl
    (by rw [hb]; exact d4) (by rw [hb]; exact d7) hout hRframes (by simp only [List.map_cons, List.sum_cons, hcat]; omega) hlocks
  obtain ⟨f1, f2⟩ := vx_frame hsame
  rw [hhp] at f1 f2
  have hWs : s.WarmedH U.vm := State.WarmedH.trans hW0 hW
  have hcl : s.vm.findClass cls = some ce.cls := by
    have h9 := hO.cls
    rw [hvm] at h9
    exact h9
  have hall : s.sameButNew ({ U with vm := s.vm } : State) locs mc ms := by
    subst hA
    obtain ⟨e1, e2⟩ := hsame
    rw [State.setFrames_setFrames] at e1
    have h2 : (T.setVm s.vm).sameButNew ({ U with vm := s.vm } : State) [] (0 + 1) (0 + 6) := ⟨e1, e2⟩
    have h3 := X.same.trans h2
    rw [List.append_nil] at h3
    exact h3.mono hc hs
  refine ⟨U, ?_, .threw T.heap.size, hrun, hend, Or.inr ⟨T.heap.size, rfl, cls, ce, locs, hx U hWs.alike f1 (fun q hq => f2 q hq (fun z hz => nomatch hz)), hce, hO.vm, hcl, hWs, hall, hf⟩⟩
  refine st1 _ ?_
  show Steps p.tables e below (T1.setTop { method := m, pc := pc + 3, locals := ls, stack := .ref T.heap.size :: rest, locked := none }) _
  jvm_step X₁.here [X₁.here.top, hexec, d3', Value.category]
  exact hsteps
/-- 'throw new E("text")': new; dup; ldc; invokespecial; athrow -/
theorem vx_throwS {cc : ByteArray} {pc : Nat} (hexec : p.tables.exec = Jvm.exec) (hb : c.code = cc) (hl : l.stackTraces = false) {own cls text : String} {names : List String} {ik is ic mc ms sa : Nat} {A : Nat → Prop}
    (hown : s.vm.findClass own = some m.cls) (hcls : Bundle.fit cls = true) (hnames : ∀ n ∈ names, Bundle.fit n = true)
    (hk : (Cond.classLink own ik cls).before args s = true) (hini : (Cond.initialized cls).before args s = true) (hstr : vk_R own is text sa s) (hat : ∀ w ∈ vx_atS own ic cls names, w.before args s = true)
    (hgood : ∀ w ∈ Cond.classLink own ik cls :: Cond.initialized cls :: vx_atS own ic cls names, vx_ot w = true)
    (hU : vx_Zq Bundle.tN "UNASSIGNED_STACK" Bundle.steD A s s.heap) (hN : vx_Zq Bundle.tN "SUPPRESSED_SENTINEL" Bundle.listD A s s.heap) (hS : va_S A s.heap H locs) (hsize : ls.size = c.maxLocals)
    (d0 : decode cc pc = .ok (.new ik, 3)) (d3 : decode cc (pc + 3) = .ok (.dup, 1)) (d4 : decode cc (pc + 4) = .ok (.ldc is, 2)) (d6 : decode cc (pc + 6) = .ok (.invokespecial ic, 3)) (d9 : decode cc (pc + 9) = .ok (.athrow, 1))
    (hout : ∀ x ∈ c.exceptionTable.toList, covers x (pc + 9) = false)
    (hRframes : names.length + 3 < R.frames) (hRlocals : (rest.map fun v => v.category).sum + (13 * (names.length + 1) + 43) ≤ R.locals) (hRcells : cells + 1 ≤ R.cells) (hRslots : slots + 6 ≤ R.slots) (hlocks : meth.locks = false)
    (hx : ∀ t : State, s.vm.Alike t.vm → H.size ≤ t.heap.size → (∀ q : Nat, q < H.size → t.heap[q]? = H[q]?) → XC cls s t)
    (hf : ∀ z ∈ locs, free z.base) (hc : cells + 1 ≤ mc) (hs : slots + 6 ≤ ms) :
    W p l e R s m args below meth c H locs cells slots (vx_MQ below Qc XC args s mc ms free) (F0 m pc ls rest) := by
  intro T hT X
  have htr : e.platform.stackTraces = false := (show e.platform.stackTraces = l.stackTraces by rw [X.admits.platform]).trans hl
  have Y := vx_rebase X (R' := { frames := R.frames, locals := R.locals, cells := 1, slots := 6 }) (Nat.le_refl _) (Nat.le_refl _) hRcells hRslots
  obtain ⟨s', hA⟩ : ∃ z, z = (T.setVm s.vm).setFrames (.invoking m args :: below) := ⟨_, rfl⟩
  rw [← hA] at Y
  have hvm : s'.vm = s.vm := by rw [hA]; rfl
  have hhp : s'.heap = H := by rw [hA]; exact hT
  have hW0 : s.WarmedH s'.vm := by rw [hvm]; exact State.WarmedH.refl s
  have hat' : ∀ w ∈ vx_atS own ic cls names, w.before args s' = true := fun w hw => vx_ot_at hW0 hvm.symm (hgood w (List.mem_cons_of_mem _ (List.mem_cons_of_mem _ hw))) (hat w hw)
  have hk' : (Cond.classLink own ik cls).before args s' = true := vx_ot_at hW0 hvm.symm (hgood _ List.mem_cons_self) hk
  have hini' : (Cond.initialized cls).before args s' = true := vx_ot_at hW0 hvm.symm (hgood _ (List.mem_cons_of_mem _ List.mem_cons_self)) hini
  have hU' : vx_Zq Bundle.tN "UNASSIGNED_STACK" Bundle.steD A s' s'.heap := by rw [hhp]; exact vx_Zq.moved hW0.alike (hU.kept hS.2.1)
  have hN' : vx_Zq Bundle.tN "SUPPRESSED_SENTINEL" Bundle.listD A s' s'.heap := by rw [hhp]; exact vx_Zq.moved hW0.alike (hN.kept hS.2.1)
  have h : ∀ w ∈ Bundle.ownAtoms own ic cls names, w.before args s' = true := vx_own hat' (vx_isRefq hU'.1) (vx_isRefq hN'.1) hU'.2.word hN'.2.word
  have hown' : s'.vm.findClass own = some m.cls := by rw [hvm]; exact hown
  have hins : (Cond.instantiable cls 6).before args s' = true := h _ (by simp [Bundle.ownAtoms])
  obtain ⟨vm₁, cX, kX, hfX, hkX, -, -, X₁, st1⟩ := Y.newCold hexec (own := own) (C := cls) (index := ik) (n := 6) hown' hk' hins hini'
    (g := F0 m pc ls rest) rfl (by rw [hb]; exact d0) (Nat.le_refl _) (Nat.le_refl _)
  generalize hT1 : (T.setVm vm₁).pushCell { cls := cX, slots := kX.instanceTypes.map defaultValue, vm := .none } = T1 at X₁ st1
  have hcat : (Value.ref T.heap.size).category = 1 := rfl
  have hcellA : T1.heap[T.heap.size]? = some (freshCell cX kX) := by rw [← hT1]; exact State.heap_pushCell_size _ _
  have d3' : decode c.code (pc + 3) = .ok (.dup, 1) := by rw [hb]; exact d3
  have d4' : decode c.code (pc + 4) = .ok (.ldc is, 2) := by rw [hb]; exact d4
  have hstr' : vk_R own is text sa s' := vk_R.warm hW0 hstr
  obtain ⟨U, hsteps, hrun, hend, hW, hsame, ce, hce, hO⟩ := X₁.ctorThrowS hexec htr (own := own) (cls := cls) (names := names) (ic := ic) hown' hcls hnames h (fun x hx => nomatch hx) hfX hkX hcellA (by rw [hhp, hT]; exact Nat.le_refl _) (msg := .ref sa) rfl
    (g := { method := m, pc := pc + 6, locals := ls, stack := .ref sa :: .ref T.heap.size :: .ref T.heap.size :: rest, locked := none }) rfl hsize rfl rfl (rest := rest) rfl
    (by rw [hb]; exact d6) (by rw [hb]; exact d9) hout hRframes (by simp only [List.map_cons, List.sum_cons, hcat]; omega) hlocks
  obtain ⟨f1, f2⟩ := vx_frame hsame
  rw [hhp] at f1 f2
  have hWs : s.WarmedH U.vm := State.WarmedH.trans hW0 hW
  have hcl : s.vm.findClass cls = some ce.cls := by
    have h9 := hO.cls
    rw [hvm] at h9
    exact h9
  have hall : s.sameButNew ({ U with vm := s.vm } : State) locs mc ms := by
    subst hA
    obtain ⟨e1, e2⟩ := hsame
    rw [State.setFrames_setFrames] at e1
    have h2 : (T.setVm s.vm).sameButNew ({ U with vm := s.vm } : State) [] (0 + 1) (0 + 6) := ⟨e1, e2⟩
    have h3 := X.same.trans h2
    rw [List.append_nil] at h3
    exact h3.mono hc hs
  refine ⟨U, ?_, .threw T.heap.size, hrun, hend, Or.inr ⟨T.heap.size, rfl, cls, ce, locs, hx U hWs.alike f1 (fun q hq => f2 q hq (fun z hz => nomatch hz)), hce, hO.vm, hcl, hWs, hall, hf⟩⟩
  refine st1 _ ?_
  show Steps p.tables e below (T1.setTop { method := m, pc := pc + 3, locals := ls, stack := .ref T.heap.size :: rest, locked := none }) _
  jvm_step X₁.here [X₁.here.top, hexec, d3', Value.category]
  exact X₁.ldcString hexec (own := own) (text := text) (index := is) (a := sa) hown' hstr'.1 hstr'.2
    (g := { method := m, pc := pc + 4, locals := ls, stack := .ref T.heap.size :: .ref T.heap.size :: rest, locked := none }) rfl d4' _ hsteps
/-- 'throw new E("text")', the text by a wide index -/
theorem vx_throwSW {cc : ByteArray} {pc : Nat} (hexec : p.tables.exec = Jvm.exec) (hb : c.code = cc) (hl : l.stackTraces = false) {own cls text : String} {names : List String} {ik is ic mc ms sa : Nat} {A : Nat → Prop}
    (hown : s.vm.findClass own = some m.cls) (hcls : Bundle.fit cls = true) (hnames : ∀ n ∈ names, Bundle.fit n = true)
    (hk : (Cond.classLink own ik cls).before args s = true) (hini : (Cond.initialized cls).before args s = true) (hstr : vk_R own is text sa s) (hat : ∀ w ∈ vx_atS own ic cls names, w.before args s = true)
    (hgood : ∀ w ∈ Cond.classLink own ik cls :: Cond.initialized cls :: vx_atS own ic cls names, vx_ot w = true)
    (hU : vx_Zq Bundle.tN "UNASSIGNED_STACK" Bundle.steD A s s.heap) (hN : vx_Zq Bundle.tN "SUPPRESSED_SENTINEL" Bundle.listD A s s.heap) (hS : va_S A s.heap H locs) (hsize : ls.size = c.maxLocals)
    (d0 : decode cc pc = .ok (.new ik, 3)) (d3 : decode cc (pc + 3) = .ok (.dup, 1)) (d4 : decode cc (pc + 4) = .ok (.ldc_w is, 3)) (d7 : decode cc (pc + 7) = .ok (.invokespecial ic, 3)) (d10 : decode cc (pc + 10) = .ok (.athrow, 1))
    (hout : ∀ x ∈ c.exceptionTable.toList, covers x (pc + 10) = false)
    (hRframes : names.length + 3 < R.frames) (hRlocals : (rest.map fun v => v.category).sum + (13 * (names.length + 1) + 43) ≤ R.locals) (hRcells : cells + 1 ≤ R.cells) (hRslots : slots + 6 ≤ R.slots) (hlocks : meth.locks = false)
    (hx : ∀ t : State, s.vm.Alike t.vm → H.size ≤ t.heap.size → (∀ q : Nat, q < H.size → t.heap[q]? = H[q]?) → XC cls s t)
    (hf : ∀ z ∈ locs, free z.base) (hc : cells + 1 ≤ mc) (hs : slots + 6 ≤ ms) :
    W p l e R s m args below meth c H locs cells slots (vx_MQ below Qc XC args s mc ms free) (F0 m pc ls rest) := by
  intro T hT X
  have htr : e.platform.stackTraces = false := (show e.platform.stackTraces = l.stackTraces by rw [X.admits.platform]).trans hl
  have Y := vx_rebase X (R' := { frames := R.frames, locals := R.locals, cells := 1, slots := 6 }) (Nat.le_refl _) (Nat.le_refl _) hRcells hRslots
  obtain ⟨s', hA⟩ : ∃ z, z = (T.setVm s.vm).setFrames (.invoking m args :: below) := ⟨_, rfl⟩
  rw [← hA] at Y
  have hvm : s'.vm = s.vm := by rw [hA]; rfl
  have hhp : s'.heap = H := by rw [hA]; exact hT
  have hW0 : s.WarmedH s'.vm := by rw [hvm]; exact State.WarmedH.refl s
  have hat' : ∀ w ∈ vx_atS own ic cls names, w.before args s' = true := fun w hw => vx_ot_at hW0 hvm.symm (hgood w (List.mem_cons_of_mem _ (List.mem_cons_of_mem _ hw))) (hat w hw)
  have hk' : (Cond.classLink own ik cls).before args s' = true := vx_ot_at hW0 hvm.symm (hgood _ List.mem_cons_self) hk
  have hini' : (Cond.initialized cls).before args s' = true := vx_ot_at hW0 hvm.symm (hgood _ (List.mem_cons_of_mem _ List.mem_cons_self)) hini
  have hU' : vx_Zq Bundle.tN "UNASSIGNED_STACK" Bundle.steD A s' s'.heap := by rw [hhp]; exact vx_Zq.moved hW0.alike (hU.kept hS.2.1)
  have hN' : vx_Zq Bundle.tN "SUPPRESSED_SENTINEL" Bundle.listD A s' s'.heap := by rw [hhp]; exact vx_Zq.moved hW0.alike (hN.kept hS.2.1)
  have h : ∀ w ∈ Bundle.ownAtoms own ic cls names, w.before args s' = true := vx_own hat' (vx_isRefq hU'.1) (vx_isRefq hN'.1) hU'.2.word hN'.2.word
  have hown' : s'.vm.findClass own = some m.cls := by rw [hvm]; exact hown
  have hins : (Cond.instantiable cls 6).before args s' = true := h _ (by simp [Bundle.ownAtoms])
  obtain ⟨vm₁, cX, kX, hfX, hkX, -, -, X₁, st1⟩ := Y.newCold hexec (own := own) (C := cls) (index := ik) (n := 6) hown' hk' hins hini'
    (g := F0 m pc ls rest) rfl (by rw [hb]; exact d0) (Nat.le_refl _) (Nat.le_refl _)
  generalize hT1 : (T.setVm vm₁).pushCell { cls := cX, slots := kX.instanceTypes.map defaultValue, vm := .none } = T1 at X₁ st1
  have hcat : (Value.ref T.heap.size).category = 1 := rfl
  have hcellA : T1.heap[T.heap.size]? = some (freshCell cX kX) := by rw [← hT1]; exact State.heap_pushCell_size _ _
  have d3' : decode c.code (pc + 3) = .ok (.dup, 1) := by rw [hb]; exact d3
  have d4' : decode c.code (pc + 4) = .ok (.ldc_w is, 3) := by rw [hb]; exact d4
  have hstr' : vk_R own is text sa s' := vk_R.warm hW0 hstr
  obtain ⟨U, hsteps, hrun, hend, hW, hsame, ce, hce, hO⟩ := X₁.ctorThrowS hexec htr (own := own) (cls := cls) (names := names) (ic := ic) hown' hcls hnames h (fun x hx => nomatch hx) hfX hkX hcellA (by rw [hhp, hT]; exact Nat.le_refl _) (msg := .ref sa) rfl
    (g := { method := m, pc := pc + 7, locals := ls, stack := .ref sa :: .ref T.heap.size :: .ref T.heap.size :: rest, locked := none }) rfl hsize rfl rfl (rest := rest) rfl
    (by rw [hb]; exact d7) (by rw [hb]; exact d10) hout hRframes (by simp only [List.map_cons, List.sum_cons, hcat]; omega) hlocks
  obtain ⟨f1, f2⟩ := vx_frame hsame
  rw [hhp] at f1 f2
  have hWs : s.WarmedH U.vm := State.WarmedH.trans hW0 hW
  have hcl : s.vm.findClass cls = some ce.cls := by
    have h9 := hO.cls
    rw [hvm] at h9
    exact h9
  have hall : s.sameButNew ({ U with vm := s.vm } : State) locs mc ms := by
    subst hA
    obtain ⟨e1, e2⟩ := hsame
    rw [State.setFrames_setFrames] at e1
    have h2 : (T.setVm s.vm).sameButNew ({ U with vm := s.vm } : State) [] (0 + 1) (0 + 6) := ⟨e1, e2⟩
    have h3 := X.same.trans h2
    rw [List.append_nil] at h3
    exact h3.mono hc hs
  refine ⟨U, ?_, .threw T.heap.size, hrun, hend, Or.inr ⟨T.heap.size, rfl, cls, ce, locs, hx U hWs.alike f1 (fun q hq => f2 q hq (fun z hz => nomatch hz)), hce, hO.vm, hcl, hWs, hall, hf⟩⟩
  refine st1 _ ?_
  show Steps p.tables e below (T1.setTop { method := m, pc := pc + 3, locals := ls, stack := .ref T.heap.size :: rest, locked := none }) _
  jvm_step X₁.here [X₁.here.top, hexec, d3', Value.category]
  exact X₁.ldcStringW hexec (own := own) (text := text) (index := is) (a := sa) hown' hstr'.1 hstr'.2
    (g := { method := m, pc := pc + 4, locals := ls, stack := .ref T.heap.size :: .ref T.heap.size :: rest, locked := none }) rfl d4' _ hsteps
end Ends
section Bodies
variable {l : Launch}
theorem vx_ofW {y : MethodName} {ws ws' : List Cond} {rm : Room} {Pc : Array Value → State → Prop} {Qc : Array Value → State → Outcome → State → Prop} {XC : String → State → State → Prop} {mc ms : Nat} {free : Addr → Prop} {cc : ByteArray} {maxL : Nat} {ret : Option FieldType}
    (hy : plainName y.cls = true) (hw : ws = Cond.code y cc maxL ret :: ws')
    (body : ∀ p e s m args below meth c s₁, BodyLoose p l y (headSpec ws rm) cc maxL ret e s m args below meth c s₁ → c.maxLocals = maxL → (∀ x ∈ c.exceptionTable.toList, False) → Pc args s →
      W p l e (headSpec ws rm).room s m args below meth c s.heap [] 0 0 (vx_MQ below Qc XC args s mc ms free) (entryFrame m args maxL)) : vx_Met l y ws rm Pc Qc XC mc ms free := by
  refine MetFree.of_bodyS (code := cc) (maxLocals := maxL) (ret := ret) hy ?_ ?_
  · intro args s m h hn
    obtain ⟨meth, c, h1, h2, h3, h4, h5, h6, -, -⟩ := Cond.code_spec hn (atoms_spec (ws := ws) h _ (by rw [hw]; exact List.mem_cons_self))
    exact ⟨meth, c, h1, h2, h3, h4, h5, h6⟩
  · intro p e s m args below meth c s₁ B hml hP _
    have hh0 : s₁.heap = s.heap := by rw [B.state]; rfl
    have ht : ∀ x ∈ c.exceptionTable.toList, False := by
      obtain ⟨meth9, c9, h1, h2, -, -, -, -, h7, -⟩ := Cond.code_spec B.named (atoms_spec (ws := ws) B.pre _ (by rw [hw]; exact List.mem_cons_self))
      cases Option.some.inj (h1.symm.trans B.method)
      cases Option.some.inj (h2.symm.trans (Stand.of_body B).code)
      intro x hx
      rw [Array.isEmpty_iff.mp h7] at hx
      cases hx
    obtain ⟨t, a1, o, b1, b2, b3⟩ := body p e s m args below meth c s₁ B hml ht hP s₁ hh0 (Stand.of_body B)
    exact ⟨t, o, a1, b1, b2, b3⟩
/-- the table of a body with handlers -/
theorem vx_table {p : Program} {x y : MethodName} {S : Spec} {cc bytes : ByteArray} {maxL maxL' : Nat} {ret ret' : Option FieldType} {e : Env} {s s₁ : State} {m : MethodId} {args : Array Value} {below : List Frame} {meth : Method} {c : Code} {hh : List (Nat × Nat × Nat × Nat)}
    (B : BodyLoose p l y S cc maxL ret e s m args below meth c s₁) (h : (Cond.codeWith y bytes maxL' ret' hh).before args s = true) : c.exceptionTable.toList = tableOf hh := by
  obtain ⟨m9, meth9, c9, hn9, h1, h2, -, -, h6, -⟩ := Cond.codeWith_spec h
  cases Option.some.inj (hn9.symm.trans B.named)
  cases Option.some.inj (h1.symm.trans B.method)
  cases Option.some.inj (h2.symm.trans (Stand.of_body B).code)
  rw [← h6, table_eq]
end Bodies
end VXA
/-! ===== END ===== -/
/-! ===== BEGIN a static call of a method with an exception table ===== -/
section VXS
variable {p : Program} {l : Launch} {e : Env} {R : Room} {s : State} {m : MethodId} {args : Array Value} {below : List Frame} {meth : Method} {c : Code} {T : State} {H : Heap} {locs : List Loc} {cells slots : Nat}
abbrev vx_CSW (R : Room) (s : State) (args : Array Value) (own : String) (index : Nat) (y : MethodName) (bytes : ByteArray) (maxL : Nat) (ret : Option FieldType) (hh : List (Nat × Nat × Nat × Nat)) (ws : List Cond) (rm : Room) (mc ms n : Nat) : Prop :=
  (rm.cells = mc ∧ rm.slots = ms ∧ rm.frames + 1 ≤ R.frames ∧ 8 + (maxL + 11) + rm.locals ≤ R.locals ∧ (∀ w ∈ ws, ∀ (a' : Array Value) (U : State), s.WarmedH U.vm → w.before a' U = true) ∧ Cond.codeWith y bytes maxL ret hh ∈ ws) ∧
  (Cond.codeWith y bytes maxL ret hh).before args s = true ∧ (Cond.initialized y.cls).before args s = true ∧ (y.cls ≠ "java/lang/invoke/MethodHandle" ∧ y.cls ≠ "java/lang/invoke/VarHandle") ∧
  (∀ sig, parseMethodDescriptor y.desc = some sig → n = sig.parameters.length) ∧ (Cond.methodLink own index y).before args s = true ∧ (Cond.static y).before args s = true
theorem vx_cwSW {own : String} {index maxL mc ms : Nat} {y : MethodName} {bytes : ByteArray} {ret : Option FieldType} {hh : List (Nat × Nat × Nat × Nat)} {Ts ws ws' : List Cond} {rm : Room} (n : Nat) (ht : ∀ w ∈ Ts, w.before args s = true) (hT : GoodIn Ts (va_wsS own index y ws)) (hw : ws = Cond.codeWith y bytes maxL ret hh :: ws') (hrc : rm.cells = mc) (hrs : rm.slots = ms)
    (hd : y.cls ≠ "java/lang/invoke/MethodHandle" ∧ y.cls ≠ "java/lang/invoke/VarHandle" ∧ (parseMethodDescriptor y.desc).map (fun d => d.parameters.length) = some n) (hR : rm.frames + 1 ≤ R.frames ∧ 8 + (maxL + 11) + rm.locals ≤ R.locals) :
    vx_CSW R s args own index y bytes maxL ret hh ws rm mc ms n := by
  have ok : ∀ w ∈ va_wsS own index y ws, w.before args s = true := fun w h => ht w (hT w h).1
  have hG : GoodIn Ts ws := fun w h => hT w (by unfold va_wsS; exact List.mem_append_right _ h)
  have hc : Cond.codeWith y bytes maxL ret hh ∈ ws := by rw [hw]; exact List.mem_cons_self
  refine ⟨⟨hrc, hrs, hR.1, hR.2, pay_in ht hG, hc⟩, ht _ (hG _ hc).1, ok _ (by simp [va_wsS]), ⟨hd.1, hd.2.1⟩, fun sig h => ?_, ok _ (by simp [va_wsS]), ok _ (by simp [va_wsS])⟩
  have h2 := hd.2.2
  rw [h] at h2
  exact (Option.some.inj h2).symm
theorem vx_callSW (X : Stand p l e R s m args below meth c T locs cells slots) (hexec : p.tables.exec = Jvm.exec) {own : String} {index : Nat} {y : MethodName} {bytes : ByteArray} {maxL : Nat} {ret : Option FieldType} {hh : List (Nat × Nat × Nat × Nat)}
    (hown : s.vm.findClass own = some m.cls) (hlink : (Cond.methodLink own index y).before args s = true) (hstat : (Cond.static y).before args s = true) (hinit : (Cond.initialized y.cls).before args s = true)
    (hcode : (Cond.codeWith y bytes maxL ret hh).before args s = true) (hy : y.cls ≠ "java/lang/invoke/MethodHandle" ∧ y.cls ≠ "java/lang/invoke/VarHandle")
    {W9 : Nat} {Pre : Pt → Array Value → Prop} {Post : Pt → Array Value → Option Value → Pt → Prop} (hK : Back l R p e below s args y 3 W9 Pre Post)
    {g : JFrame} (hg : g.method = m) (hsize : g.locals.size = c.maxLocals) {argsL rest : List Value} (hlen : ∀ sig, parseMethodDescriptor y.desc = some sig → argsL.length = sig.parameters.length)
    (hstack : g.stack = argsL.reverse ++ rest) (hW : 2 * g.monitorRoom + (rest.map fun v => v.category).sum ≤ W9) (hdg : decode c.code g.pc = .ok (.invokestatic index, 3))
    (hpre : ∀ vm₁, s.WarmedH vm₁ → Pre ⟨T.setVm vm₁, locs, cells, slots⟩ argsL.toArray) :
    ∃ (v : Option Value) (vm₁ : Vm) (B : Pt), s.WarmedH vm₁ ∧ Stand p l e R s m args below meth c B.U B.locs B.cells B.slots ∧ Post ⟨T.setVm vm₁, locs, cells, slots⟩ argsL.toArray v B ∧
      ∀ target, Steps p.tables e below (B.U.setTop { g with pc := g.pc + 3, stack := v.toList ++ rest }) target → Steps p.tables e below (T.setTop g) target := by
  obtain ⟨mk, methM, cM, hnamed, hmethM, -, -, -, -, -, -, hsigM⟩ := Cond.codeWith_spec hcode
  have hstatic : methM.isStatic = true := Cond.static_spec hnamed hmethM hstat
  obtain ⟨kP, hkP, -⟩ := className_of_methodNamed hnamed
  have hinitP : kP.init = .initialized := Cond.initialized_spec (findClass_of_methodNamed hnamed) hkP hinit
  obtain ⟨vm₁, X₁, hstep₁⟩ := X.invokestatic hexec hown hlink hnamed hmethM hstatic hkP hinitP hy (g := g) hg (argsL := argsL) (rest := rest) (hlen _ hsigM) hstack hdg
  obtain ⟨v, B, X', hpost, hsteps⟩ := hK m meth c ⟨T.setVm vm₁, locs, cells, slots⟩ { g with stack := rest } (.invokestatic index) mk argsL.toArray X₁ hg hsize hdg hW (X₁.named hnamed) (hpre vm₁ X₁.warmed)
  exact ⟨v, vm₁, B, X₁.warmed, X', hpost, fun target h => hstep₁ _ fun acts => by rw [doInvoke_state]; exact hsteps.trans h⟩
theorem vx_runSW {y : MethodName} {bytes cc : ByteArray} {maxL nL mc ms n index : Nat} {ret : Option FieldType} {hh : List (Nat × Nat × Nat × Nat)} {ws : List Cond} {rm : Room} {Pc : Array Value → State → Prop} {Qc : Array Value → State → Outcome → State → Prop} {free : Addr → Prop} {Ts : List Cond} {own : String} {As rest : List Value} {g : JFrame}
    (S : CallFix p m c cc nL s args Ts own) (hM : Met l y ws rm Pc Qc mc ms free) (cw : vx_CSW R s args own index y bytes maxL ret hh ws rm mc ms n) (hp : PreS s H Pc As)
    (hg : g.method = m) (hn : As.length = n) (hsize : g.locals.size = nL) (hstack : g.stack = As.reverse ++ rest) (hW : 2 * g.monitorRoom + (rest.map fun v => v.category).sum ≤ 8) (hdg : decode cc g.pc = .ok (.invokestatic index, 3)) (hf : cells + mc ≤ R.cells ∧ slots + ms ≤ R.slots) :
    va_Run p l e R s m args below meth c H locs cells slots mc ms g rest (Qc As.toArray) (free) := by
  obtain ⟨⟨hrc, hrs, hfr, hlo, hws, hcw⟩, hcode, hini, hy, hlen, hl, hstt⟩ := cw
  have hK : Back l R p e below s args y 3 8 (PreOf R mc ms Pc) (PostOf Qc mc ms free) := va_backW (hh := hh) (bytes := bytes) (maxL := maxL) (ret := ret) hM hp.1 hrc hrs hfr hlo hws hcw (fun a' U hW => word_at hW (Or.inl (by first | rfl | simp [Cond.onTables, Cond.keeps, Cond.steady])) hini)
  obtain ⟨hx, hb, hml, ho, -⟩ := S
  intro T hT X
  obtain ⟨v, vm₁, ⟨U', l2, c2, s2⟩, hW₁, X', ⟨g', mk, t, L, e1, e2, hq, h1, hL, h2, h3⟩, st⟩ := vx_callSW X hx (hh := hh) (bytes := bytes) (maxL := maxL) (ret := ret) ho hl hstt hini hcode hy hK hg (hsize.trans hml.symm) (argsL := As) (rest := rest) (fun sig h => hn.trans (hlen sig h)) hstack hW (by rw [hb]; exact hdg)
    (fun vm₁ hW₁ => ⟨hf.1, hf.2, hp.2 (T.setVm vm₁) hT hW₁⟩)
  dsimp only [Pt.U, Pt.locs, Pt.cells, Pt.slots] at X' e1 e2 h1 h2 h3 st
  subst h1; subst h2; subst h3
  exact ⟨v, (T.setVm vm₁).calling g' mk As.toArray, t, U', L, hT, X', hL, e1, e2, hq, st⟩
/-- not caught here, past rows that name other classes: it goes on to the caller -/
theorem vx_outP {p : Program} {l : Launch} {e : Env} {R : Room} {s : State} {m : MethodId} {args : Array Value} {below : List Frame} {meth : Method} {c : Code} {H : Heap} {locs : List Loc} {cells slots : Nat} {free : Addr → Prop} {ls : Array Slot} {rest : List Value} {Qc : Array Value → State → Outcome → State → Prop} {XC : String → State → State → Prop}
    {pc : Nat} {own E : String} {ce : Cell} {q : Addr} {mc ms : Nat} (hown : s.vm.findClass own = some m.cls) (hlocks : meth.locks = false)
    (hpass : ∀ z ∈ c.exceptionTable.toList, covers z pc = false ∨ (z.catchType ≠ 0 ∧ ∃ nm : String, (Cond.classLink own z.catchType nm).before args s = true ∧ va_Nc E nm s)) (hcell : H[q]? = some ce) (hv : ce.vm = .none) (hcl : s.vm.findClass E = some ce.cls)
    (hx : ∀ t : State, t.heap = H → s.vm.Alike t.vm → XC E s t) (hf : ∀ z ∈ locs, free z.base) (hc : cells ≤ mc) (hs : slots ≤ ms) :
    vx_W p l e R s m args below meth c H locs cells slots (vx_MQ below Qc XC args s mc ms free) (F0 m pc ls rest) q := by
  intro T hT X
  have hpl : e.platform.magicAccessors = ({} : Platform).magicAccessors := by rw [X.admits.platform]
  obtain ⟨vm', hW', X', st⟩ := X.outThrough hlocks q (g := F0 m pc ls rest) rfl rfl rfl (cell := ce) (by rw [hT]; exact hcell) (by rw [hv]; rfl)
    (by obtain ⟨k9, h9, -⟩ := Vm.findClass_spec hcl; exact ⟨k9, h9⟩) (fun z hz => by
      rcases hpass z hz with h | ⟨hz0, nm, hl1, hn1⟩
      · exact Or.inl h
      · obtain ⟨c6, hc6, hcl6⟩ := Cond.classLink_spec hown hl1 e.platform hpl
        obtain ⟨a8, b8, h1, h2, h3⟩ := hn1
        cases Option.some.inj (h1.symm.trans hcl)
        cases Option.some.inj (h2.symm.trans hc6)
        exact Or.inr ⟨hz0, _, hcl6, h3⟩)
  obtain ⟨g₀, hfr⟩ := X'.frames_eq
  have hcell9 : ((T.setVm vm').setFrames (.throwing q :: below)).heap[q]? = some ce := by
    show T.heap[q]? = some ce
    rw [hT]; exact hcell
  have hend : Ended ((T.setVm vm').setFrames (.throwing q :: below)) below (.threw q) := State.frames_setFrames _ (State.cur_lt_of_frames hfr)
  refine ⟨(T.setVm vm').setFrames (.throwing q :: below), ?_, .threw q, X'.here.running, hend, Or.inr ⟨q, rfl, E, ce, locs, hx _ hT (X'.ends _).1.alike, hcell9, hv, hcl, (X'.ends _).1, (X'.ends _).2.mono hc hs, hf⟩⟩
  rw [X.pushThrowing_eq]
  exact st
/-- a thing of a world lies in the heap -/
theorem vx_lt {D : va_G} {cl : List vw_C} {ws : va_W} {H1 : Heap} (h : va_P D cl ws H1) {k : Nat} {q : Nat × va_E} (hk : ws[k]? = some q) : q.1 < H1.size := (h k q hk).lt
end VXS
/-! ===== END ===== -/
/-! ===== BEGIN methods with a table of their own: called by a name, returning or throwing ===== -/
section VXH
/-! vx_backW, vx_callVX, vx_callSX, vx_callVW, vx_runVW, vx_runVX, vx_runSX, vx_ofWH follow the same proofs as their sisters above (Free/Laws.lean, Shelf42/LK1.lean); vx_outP calls Shelf42/NT130.lean (outThrough). -/
section
variable {l : Launch} {R : Room} {p : Program} {e : Env} {below : List Frame} {s : State} {sargs : Array Value} {y : MethodName} {len W9 : Nat}
theorem vx_backW {ws : List Cond} {rm : Room} {Pc : Array Value → State → Prop} {Qc : Array Value → State → Outcome → State → Prop} {XC : String → State → State → Prop} {mc ms : Nat} {free : Addr → Prop} {bytes : ByteArray} {maxL : Nat} {ret : Option FieldType} {hh : List (Nat × Nat × Nat × Nat)}
    (hM : vx_Met l y ws rm Pc Qc XC mc ms free) (hblind : FrameBlind Pc) (hrc : rm.cells = mc) (hrs : rm.slots = ms)
    (hframes : rm.frames + 1 ≤ R.frames) (hlocals : W9 + (maxL + 11) + rm.locals ≤ R.locals)
    (hws : ∀ w ∈ ws, ∀ a' U, s.WarmedH U.vm → w.before a' U = true) (hcode : Cond.codeWith y bytes maxL ret hh ∈ ws) (hinit : ∀ a' U, s.WarmedH U.vm → (Cond.initialized y.cls).before a' U = true) :
    vx_Back l R p e below s sargs y len W9 (PreOf R mc ms Pc) (PostOf Qc mc ms free) (vx_Post XC mc ms free) := by
  intro m meth c A g ig mk a X hg hsize hdg hW hn hp
  have h1 : (headSpec ws rm).pre.before a A.U = true := atoms_intro fun w hw => hws w hw _ _ X.warmed
  have h2 : (Cond.codeWith y bytes maxL ret hh).before a A.U = true := hws _ hcode _ _ X.warmed
  have h3 : (Cond.initialized y.cls).before a A.U = true := hinit _ _ X.warmed
  have h4 : A.cells + (headSpec ws rm).room.cells ≤ R.cells := by rw [show (headSpec ws rm).room.cells = mc from hrc]; exact hp.1
  have h5 : A.slots + (headSpec ws rm).room.slots ≤ R.slots := by rw [show (headSpec ws rm).room.slots = ms from hrs]; exact hp.2.1
  have hPc : Pc a (A.U.calling g mk a) := hblind _ _ _ _ hp.2.2
  obtain ⟨U, Ls, c0, s0⟩ := A
  dsimp only [Pt.U, Pt.locs, Pt.cells, Pt.slots] at h1 h2 h3 h4 h5 X hn hPc ⊢
  obtain ⟨m9, methY, cY, hn9, hmY, hcY, -, hlY, -⟩ := Cond.codeWith_spec h2
  cases Option.some.inj (hn9.symm.trans hn)
  obtain ⟨kY, hkY, -⟩ := className_of_methodNamed hn
  have hinitY : kY.init = .initialized := Cond.initialized_spec (findClass_of_methodNamed hn) hkY h3
  have h : At U g.method c below := by rw [hg]; exact X.here
  have hlocals9 : W9 + (maxL + 11) + (headSpec ws rm).room.locals ≤ R.locals := hlocals
  have happ : (headSpec ws rm).appliesLoose y e.platform (U.calling g mk a) = true :=
    Spec.appliesLoose_calling (g := g) h hdg hn hkY hinitY
      (X.room_calling (g := g) (R' := (headSpec ws rm).room) hsize hmY hcY hframes (by rw [hlY]; omega) h4 h5) h1
  obtain ⟨mid, hmid⟩ := h.above
  have hfr : (U.setTop g).frames = (.java g :: mid) ++ below := by rw [State.frames_setTop' g h.top, hmid]; rfl
  obtain ⟨o, s₂, hsteps, -, hend, hq⟩ := Steps.callFree hM p X.admits X.cas X.clock (acts := []) hfr happ hPc trivial
  have hq' : vx_Q Qc XC mc ms free a (U.calling g mk a) o s₂ := hq
  rw [State.frames_setTop' g h.top] at hend
  obtain ⟨g₀, hg0⟩ := Option.isSome_iff_exists.mp h.top
  obtain ⟨r, hr⟩ := State.topJava?_eq_some.mp hg0
  have hr' : (({ U with heap := s₂.heap, slotsUsed := s₂.slotsUsed } : State).setVm s₂.vm).frames = .java g₀ :: r := hr
  rcases hq' with ⟨hqc, L, hfe, hL⟩ | ⟨q, rfl, E, ce, L, hx, hce, hcv, hcl, hW₂, hsm, hL⟩
  · obtain ⟨⟨v, rfl⟩, hW₂, e2, q2, q3, q4, q5, q6⟩ := id hfe
    have e3 : s₂ = ({ (U.calling g mk a).setFrames s₂.frames with heap := s₂.heap, slotsUsed := s₂.slotsUsed } : State).setVm s₂.vm := by
      have : s₂ = ({ s₂ with vm := (U.calling g mk a).vm } : State).setVm s₂.vm := rfl
      rw [e2] at this
      exact this
    obtain ⟨c₂, i₂, len₂, hc₂, hd₂, hf₂⟩ := hend
    have hW' : U.WarmedH s₂.vm := hW₂
    have hcc : c₂ = c := by
      have h1 : s₂.code? g.method = U.code? g.method := by
        rw [State.code?_eq, State.code?_eq, hW'.alike.method?]
      exact Option.some.inj (hc₂.symm.trans (h1.trans h.code))
    subst hcc
    have hlen : len₂ = len := by rw [hdg] at hd₂; cases hd₂; rfl
    subst hlen
    have hs₂ : s₂ = (({ U with heap := s₂.heap, slotsUsed := s₂.slotsUsed } : State).setVm s₂.vm).setTop { g with pc := g.pc + len₂, stack := v.toList ++ g.stack } := by
      refine e3.trans ?_
      rw [hf₂, State.calling_eq h.top, State.setFrames_setFrames, State.setTop_of_frames _ hr', hr]
      rfl
    have hsame : U.sameButNew ({ U with heap := s₂.heap, slotsUsed := s₂.slotsUsed } : State) L mc ms := by
      refine ⟨?_, q2, q3, q4, q5, q6⟩
      obtain ⟨t, ht, -⟩ := State.frames_cons hr
      show ({ U with heap := s₂.heap, slotsUsed := s₂.slotsUsed } : State) = { U.setFrames U.frames with heap := s₂.heap, slotsUsed := s₂.slotsUsed }
      rw [State.setFrames_self ht]
    subst hg
    refine Or.inl ⟨v, ⟨(({ U with heap := s₂.heap, slotsUsed := s₂.slotsUsed } : State).setVm s₂.vm), Ls ++ L, c0 + mc, s0 + ms⟩,
      ⟨X.admits, X.cas, X.clock, X.frames, X.room, X.hears, X.method, X.code, (X.here.setHeapUsed s₂.heap s₂.slotsUsed).setVm hW'.alike, X.tail, State.WarmedH.trans X.warmed hW', X.limits, X.bytes, X.same.trans (hsame.setVm s.vm)⟩,
      ⟨g, mk, s₂, L, rfl, rfl, hqc, rfl, hL, rfl, rfl⟩, ?_⟩
    show Steps p.tables e below _ ((({ U with heap := s₂.heap, slotsUsed := s₂.slotsUsed } : State).setVm s₂.vm).setTop { g with pc := g.pc + len₂, stack := v.toList ++ g.stack })
    rw [← hs₂]
    exact hsteps
  · obtain ⟨e2, q2, q3, q4, q5, q6⟩ := id hsm
    have e3 : s₂ = ({ (U.calling g mk a).setFrames s₂.frames with heap := s₂.heap, slotsUsed := s₂.slotsUsed } : State).setVm s₂.vm := by
      have : s₂ = ({ s₂ with vm := (U.calling g mk a).vm } : State).setVm s₂.vm := rfl
      rw [e2] at this
      exact this
    have hf₂ : s₂.frames = .throwing q :: .java g :: U.frames.tail := hend
    have hW' : U.WarmedH s₂.vm := hW₂
    have hs₂ : s₂ = ((({ U with heap := s₂.heap, slotsUsed := s₂.slotsUsed } : State).setVm s₂.vm).setTop g).pushFrame (.throwing q) := by
      refine e3.trans ?_
      rw [hf₂, State.calling_eq h.top, State.setFrames_setFrames, State.pushFrame, State.frames_setTop _ hr', State.setTop_of_frames _ hr', State.setFrames_setFrames, hr]
      rfl
    have hsame : U.sameButNew ({ U with heap := s₂.heap, slotsUsed := s₂.slotsUsed } : State) L mc ms := by
      refine ⟨?_, q2, q3, q4, q5, q6⟩
      obtain ⟨t, ht, -⟩ := State.frames_cons hr
      show ({ U with heap := s₂.heap, slotsUsed := s₂.slotsUsed } : State) = { U.setFrames U.frames with heap := s₂.heap, slotsUsed := s₂.slotsUsed }
      rw [State.setFrames_self ht]
    subst hg
    refine Or.inr ⟨q, ⟨(({ U with heap := s₂.heap, slotsUsed := s₂.slotsUsed } : State).setVm s₂.vm), Ls ++ L, c0 + mc, s0 + ms⟩,
      ⟨X.admits, X.cas, X.clock, X.frames, X.room, X.hears, X.method, X.code, (X.here.setHeapUsed s₂.heap s₂.slotsUsed).setVm hW'.alike, X.tail, State.WarmedH.trans X.warmed hW', X.limits, X.bytes, X.same.trans (hsame.setVm s.vm)⟩,
      ⟨g, mk, s₂, L, E, ce, rfl, rfl, hx, hce, hcv, hcl, rfl, hL, rfl, rfl⟩, ?_⟩
    show Steps p.tables e below _ (((({ U with heap := s₂.heap, slotsUsed := s₂.slotsUsed } : State).setVm s₂.vm).setTop g).pushFrame (.throwing q))
    rw [← hs₂]
    exact hsteps
end
variable {p : Program} {l : Launch} {e : Env} {R : Room} {s : State} {m : MethodId} {args : Array Value} {below : List Frame} {meth : Method} {c : Code} {T : State} {H : Heap} {locs : List Loc} {cells slots : Nat}
theorem vx_callVX (X : Stand p l e R s m args below meth c T locs cells slots) (hexec : p.tables.exec = Jvm.exec) {own C : String} {index : Nat} {y : MethodName} {bytes : ByteArray} {maxL : Nat} {ret : Option FieldType} {hh : List (Nat × Nat × Nat × Nat)}
    (hown : s.vm.findClass own = some m.cls) (hlink : (Cond.methodLink own index y).before args s = true) (hinst : (Cond.instanceMethod y).before args s = true) (hsel : (Cond.selects C y y).before args s = true)
    (hcode : (Cond.codeWith y bytes maxL ret hh).before args s = true) (hy : y.cls ≠ "java/lang/invoke/MethodHandle" ∧ y.cls ≠ "java/lang/invoke/VarHandle")
    {W9 : Nat} {Pre : Pt → Array Value → Prop} {Post : Pt → Array Value → Option Value → Pt → Prop} {PostX : Pt → Array Value → Addr → Pt → Prop} (hK : vx_Back l R p e below s args y 3 W9 Pre Post PostX)
    {b : Addr} {cellB : Cell} (hcell : T.heap[b]? = some cellB) (hobj : cellB.vm.isStatics = false) (hcls : s.vm.findClass C = some cellB.cls)
    {g : JFrame} (hg : g.method = m) (hsize : g.locals.size = c.maxLocals) {argsL rest : List Value} (hlen : ∀ sig, parseMethodDescriptor y.desc = some sig → argsL.length = sig.parameters.length)
    (hstack : g.stack = argsL.reverse ++ .ref b :: rest) (hW : 2 * g.monitorRoom + (rest.map fun v => v.category).sum ≤ W9) (hdg : decode c.code g.pc = .ok (.invokevirtual index, 3))
    (hpre : ∀ vm₁, s.WarmedH vm₁ → Pre ⟨T.setVm vm₁, locs, cells, slots⟩ (Value.ref b :: argsL).toArray) :
    (∃ (v : Option Value) (vm₁ : Vm) (B : Pt), s.WarmedH vm₁ ∧ Stand p l e R s m args below meth c B.U B.locs B.cells B.slots ∧ Post ⟨T.setVm vm₁, locs, cells, slots⟩ (Value.ref b :: argsL).toArray v B ∧
      ∀ target, Steps p.tables e below (B.U.setTop { g with pc := g.pc + 3, stack := v.toList ++ rest }) target → Steps p.tables e below (T.setTop g) target) ∨
    (∃ (q : Addr) (vm₁ : Vm) (B : Pt), s.WarmedH vm₁ ∧ Stand p l e R s m args below meth c B.U B.locs B.cells B.slots ∧ PostX ⟨T.setVm vm₁, locs, cells, slots⟩ (Value.ref b :: argsL).toArray q B ∧
      Steps p.tables e below (T.setTop g) ((B.U.setTop { g with stack := rest }).pushFrame (.throwing q))) := by
  obtain ⟨mk, methM, hnamed, hmethM, hstM, habM⟩ := Cond.instanceMethod_spec hinst
  obtain ⟨m8, methM', cM, hn8, hmethM', -, -, -, -, -, -, hsigM⟩ := Cond.codeWith_spec hcode
  cases Option.some.inj (hn8.symm.trans hnamed)
  cases hmethM.symm.trans hmethM'
  obtain ⟨c2, r2, m2, q1, q2, q3, q4, kP, hkP, hkPi⟩ := Cond.selects_spec hsel
  cases hcls.symm.trans q1
  cases (State.methodFound?_of_named hnamed hy).symm.trans q2
  cases hnamed.symm.trans q3
  have hselP : selectMethod e.platform s.vm cellB.cls mk = .method mk := by rw [Launch.admits_selectMethod X.admits]; exact q4
  obtain ⟨vm₁, X₁, hstep₁⟩ := X.invokevirtual hexec hown hlink hnamed hmethM hstM hkP hkPi hy (a := b) (cell := cellB) hcell
    (fun z h => by rw [h] at hobj; cases hobj) hselP hmethM habM hkP hkPi (g := g) hg (argsL := argsL) (rest := rest) (hlen _ hsigM) hstack hdg
  rcases hK m meth c ⟨T.setVm vm₁, locs, cells, slots⟩ { g with stack := rest } (.invokevirtual index) mk (Value.ref b :: argsL).toArray X₁ hg hsize hdg hW (X₁.named hnamed) (hpre vm₁ X₁.warmed) with ⟨v, B, X', hpost, hsteps⟩ | ⟨q, B, X', hpost, hsteps⟩
  · exact Or.inl ⟨v, vm₁, B, X₁.warmed, X', hpost, fun target h => hstep₁ _ fun acts => by rw [doInvoke_state]; exact hsteps.trans h⟩
  · exact Or.inr ⟨q, vm₁, B, X₁.warmed, X', hpost, hstep₁ _ fun acts => by rw [doInvoke_state]; exact hsteps⟩
theorem vx_callSX (X : Stand p l e R s m args below meth c T locs cells slots) (hexec : p.tables.exec = Jvm.exec) {own : String} {index : Nat} {y : MethodName} {bytes : ByteArray} {maxL : Nat} {ret : Option FieldType} {hh : List (Nat × Nat × Nat × Nat)}
    (hown : s.vm.findClass own = some m.cls) (hlink : (Cond.methodLink own index y).before args s = true) (hstat : (Cond.static y).before args s = true) (hinit : (Cond.initialized y.cls).before args s = true)
    (hcode : (Cond.codeWith y bytes maxL ret hh).before args s = true) (hy : y.cls ≠ "java/lang/invoke/MethodHandle" ∧ y.cls ≠ "java/lang/invoke/VarHandle")
    {W9 : Nat} {Pre : Pt → Array Value → Prop} {Post : Pt → Array Value → Option Value → Pt → Prop} {PostX : Pt → Array Value → Addr → Pt → Prop} (hK : vx_Back l R p e below s args y 3 W9 Pre Post PostX)
    {g : JFrame} (hg : g.method = m) (hsize : g.locals.size = c.maxLocals) {argsL rest : List Value} (hlen : ∀ sig, parseMethodDescriptor y.desc = some sig → argsL.length = sig.parameters.length)
    (hstack : g.stack = argsL.reverse ++ rest) (hW : 2 * g.monitorRoom + (rest.map fun v => v.category).sum ≤ W9) (hdg : decode c.code g.pc = .ok (.invokestatic index, 3))
    (hpre : ∀ vm₁, s.WarmedH vm₁ → Pre ⟨T.setVm vm₁, locs, cells, slots⟩ argsL.toArray) :
    (∃ (v : Option Value) (vm₁ : Vm) (B : Pt), s.WarmedH vm₁ ∧ Stand p l e R s m args below meth c B.U B.locs B.cells B.slots ∧ Post ⟨T.setVm vm₁, locs, cells, slots⟩ argsL.toArray v B ∧
      ∀ target, Steps p.tables e below (B.U.setTop { g with pc := g.pc + 3, stack := v.toList ++ rest }) target → Steps p.tables e below (T.setTop g) target) ∨
    (∃ (q : Addr) (vm₁ : Vm) (B : Pt), s.WarmedH vm₁ ∧ Stand p l e R s m args below meth c B.U B.locs B.cells B.slots ∧ PostX ⟨T.setVm vm₁, locs, cells, slots⟩ argsL.toArray q B ∧
      Steps p.tables e below (T.setTop g) ((B.U.setTop { g with stack := rest }).pushFrame (.throwing q))) := by
  obtain ⟨mk, methM, cM, hnamed, hmethM, -, -, -, -, -, -, hsigM⟩ := Cond.codeWith_spec hcode
  have hstatic : methM.isStatic = true := Cond.static_spec hnamed hmethM hstat
  obtain ⟨kP, hkP, -⟩ := className_of_methodNamed hnamed
  have hinitP : kP.init = .initialized := Cond.initialized_spec (findClass_of_methodNamed hnamed) hkP hinit
  obtain ⟨vm₁, X₁, hstep₁⟩ := X.invokestatic hexec hown hlink hnamed hmethM hstatic hkP hinitP hy (g := g) hg (argsL := argsL) (rest := rest) (hlen _ hsigM) hstack hdg
  rcases hK m meth c ⟨T.setVm vm₁, locs, cells, slots⟩ { g with stack := rest } (.invokestatic index) mk argsL.toArray X₁ hg hsize hdg hW (X₁.named hnamed) (hpre vm₁ X₁.warmed) with ⟨v, B, X', hpost, hsteps⟩ | ⟨q, B, X', hpost, hsteps⟩
  · exact Or.inl ⟨v, vm₁, B, X₁.warmed, X', hpost, fun target h => hstep₁ _ fun acts => by rw [doInvoke_state]; exact hsteps.trans h⟩
  · exact Or.inr ⟨q, vm₁, B, X₁.warmed, X', hpost, hstep₁ _ fun acts => by rw [doInvoke_state]; exact hsteps⟩
theorem vx_callVW (X : Stand p l e R s m args below meth c T locs cells slots) (hexec : p.tables.exec = Jvm.exec) {own C : String} {index : Nat} {y : MethodName} {bytes : ByteArray} {maxL : Nat} {ret : Option FieldType} {hh : List (Nat × Nat × Nat × Nat)}
    (hown : s.vm.findClass own = some m.cls) (hlink : (Cond.methodLink own index y).before args s = true) (hinst : (Cond.instanceMethod y).before args s = true) (hsel : (Cond.selects C y y).before args s = true)
    (hcode : (Cond.codeWith y bytes maxL ret hh).before args s = true) (hy : y.cls ≠ "java/lang/invoke/MethodHandle" ∧ y.cls ≠ "java/lang/invoke/VarHandle")
    {W9 : Nat} {Pre : Pt → Array Value → Prop} {Post : Pt → Array Value → Option Value → Pt → Prop} (hK : Back l R p e below s args y 3 W9 Pre Post)
    {b : Addr} {cellB : Cell} (hcell : T.heap[b]? = some cellB) (hobj : cellB.vm.isStatics = false) (hcls : s.vm.findClass C = some cellB.cls)
    {g : JFrame} (hg : g.method = m) (hsize : g.locals.size = c.maxLocals) {argsL rest : List Value} (hlen : ∀ sig, parseMethodDescriptor y.desc = some sig → argsL.length = sig.parameters.length)
    (hstack : g.stack = argsL.reverse ++ .ref b :: rest) (hW : 2 * g.monitorRoom + (rest.map fun v => v.category).sum ≤ W9) (hdg : decode c.code g.pc = .ok (.invokevirtual index, 3))
    (hpre : ∀ vm₁, s.WarmedH vm₁ → Pre ⟨T.setVm vm₁, locs, cells, slots⟩ (Value.ref b :: argsL).toArray) :
    ∃ (v : Option Value) (vm₁ : Vm) (B : Pt), s.WarmedH vm₁ ∧ Stand p l e R s m args below meth c B.U B.locs B.cells B.slots ∧ Post ⟨T.setVm vm₁, locs, cells, slots⟩ (Value.ref b :: argsL).toArray v B ∧
      ∀ target, Steps p.tables e below (B.U.setTop { g with pc := g.pc + 3, stack := v.toList ++ rest }) target → Steps p.tables e below (T.setTop g) target := by
  obtain ⟨mk, methM, hnamed, hmethM, hstM, habM⟩ := Cond.instanceMethod_spec hinst
  obtain ⟨m8, methM', cM, hn8, hmethM', -, -, -, -, -, -, hsigM⟩ := Cond.codeWith_spec hcode
  cases Option.some.inj (hn8.symm.trans hnamed)
  cases hmethM.symm.trans hmethM'
  obtain ⟨c2, r2, m2, q1, q2, q3, q4, kP, hkP, hkPi⟩ := Cond.selects_spec hsel
  cases hcls.symm.trans q1
  cases (State.methodFound?_of_named hnamed hy).symm.trans q2
  cases hnamed.symm.trans q3
  have hselP : selectMethod e.platform s.vm cellB.cls mk = .method mk := by rw [Launch.admits_selectMethod X.admits]; exact q4
  obtain ⟨vm₁, X₁, hstep₁⟩ := X.invokevirtual hexec hown hlink hnamed hmethM hstM hkP hkPi hy (a := b) (cell := cellB) hcell
    (fun z h => by rw [h] at hobj; cases hobj) hselP hmethM habM hkP hkPi (g := g) hg (argsL := argsL) (rest := rest) (hlen _ hsigM) hstack hdg
  obtain ⟨v, B, X', hpost, hsteps⟩ := hK m meth c ⟨T.setVm vm₁, locs, cells, slots⟩ { g with stack := rest } (.invokevirtual index) mk (Value.ref b :: argsL).toArray X₁ hg hsize hdg hW (X₁.named hnamed) (hpre vm₁ X₁.warmed)
  exact ⟨v, vm₁, B, X₁.warmed, X', hpost, fun target h => hstep₁ _ fun acts => by rw [doInvoke_state]; exact hsteps.trans h⟩
abbrev vx_CVW (R : Room) (s : State) (args : Array Value) (own C : String) (index : Nat) (y : MethodName) (bytes : ByteArray) (maxL : Nat) (ret : Option FieldType) (hh : List (Nat × Nat × Nat × Nat)) (ws : List Cond) (rm : Room) (mc ms n : Nat) : Prop :=
  (rm.cells = mc ∧ rm.slots = ms ∧ rm.frames + 1 ≤ R.frames ∧ 8 + (maxL + 11) + rm.locals ≤ R.locals ∧ (∀ w ∈ ws, ∀ (a' : Array Value) (U : State), s.WarmedH U.vm → w.before a' U = true) ∧ Cond.codeWith y bytes maxL ret hh ∈ ws) ∧
  (Cond.codeWith y bytes maxL ret hh).before args s = true ∧ (Cond.initialized y.cls).before args s = true ∧ (y.cls ≠ "java/lang/invoke/MethodHandle" ∧ y.cls ≠ "java/lang/invoke/VarHandle") ∧
  (∀ sig, parseMethodDescriptor y.desc = some sig → n = sig.parameters.length) ∧ (Cond.methodLink own index y).before args s = true ∧ (Cond.instanceMethod y).before args s = true ∧ (Cond.selects C y y).before args s = true
theorem vx_cwVW {own C : String} {index maxL mc ms : Nat} {y : MethodName} {bytes : ByteArray} {ret : Option FieldType} {hh : List (Nat × Nat × Nat × Nat)} {Ts ws ws' : List Cond} {rm : Room} (n : Nat) (ht : ∀ w ∈ Ts, w.before args s = true) (hT : GoodIn Ts (wsV own index C y ws)) (hw : ws = Cond.codeWith y bytes maxL ret hh :: ws') (hrc : rm.cells = mc) (hrs : rm.slots = ms)
    (hd : y.cls = C ∧ y.cls ≠ "java/lang/invoke/MethodHandle" ∧ y.cls ≠ "java/lang/invoke/VarHandle" ∧ (parseMethodDescriptor y.desc).map (fun d => d.parameters.length) = some n) (hR : rm.frames + 1 ≤ R.frames ∧ 8 + (maxL + 11) + rm.locals ≤ R.locals) :
    vx_CVW R s args own C index y bytes maxL ret hh ws rm mc ms n := by
  obtain ⟨hC, hd⟩ := hd
  subst hC
  have ok : ∀ w ∈ wsV own index y.cls y ws, w.before args s = true := fun w h => ht w (hT w h).1
  have hG : GoodIn Ts ws := fun w h => hT w (by unfold wsV; exact List.mem_append_right _ h)
  have hc : Cond.codeWith y bytes maxL ret hh ∈ ws := by rw [hw]; exact List.mem_cons_self
  refine ⟨⟨hrc, hrs, hR.1, hR.2, pay_in ht hG, hc⟩, ht _ (hG _ hc).1, ok _ (by simp [wsV]), ⟨hd.1, hd.2.1⟩, fun sig h => ?_, ok _ (by simp [wsV]), ok _ (by simp [wsV]), ok _ (by simp [wsV])⟩
  have h2 := hd.2.2
  rw [h] at h2
  exact (Option.some.inj h2).symm
theorem vx_runVW {y : MethodName} {bytes cc : ByteArray} {maxL nL mc ms n index : Nat} {ret : Option FieldType} {hh : List (Nat × Nat × Nat × Nat)} {ws : List Cond} {rm : Room} {Pc : Array Value → State → Prop} {Qc : Array Value → State → Outcome → State → Prop} {free : Addr → Prop} {Ts : List Cond} {own C : String} {b : Addr} {As rest : List Value} {g : JFrame}
    (S : CallFix p m c cc nL s args Ts own) (hM : Met l y ws rm Pc Qc mc ms free) (cw : vx_CVW R s args own C index y bytes maxL ret hh ws rm mc ms n) (hp : PreV s H C b Pc As)
    (hg : g.method = m) (hn : As.length = n) (hsize : g.locals.size = nL) (hstack : g.stack = As.reverse ++ .ref b :: rest) (hW : 2 * g.monitorRoom + (rest.map fun v => v.category).sum ≤ 8) (hdg : decode cc g.pc = .ok (.invokevirtual index, 3)) (hf : cells + mc ≤ R.cells ∧ slots + ms ≤ R.slots) :
    va_Run p l e R s m args below meth c H locs cells slots mc ms g rest (Qc (Value.ref b :: As).toArray) free := by
  obtain ⟨⟨hrc, hrs, hfr, hlo, hws, hcw⟩, hcode, hini, hy, hlen, hl, hin, hse⟩ := cw
  have hK : Back l R p e below s args y 3 8 (PreOf R mc ms Pc) (PostOf Qc mc ms free) := va_backW (hh := hh) (bytes := bytes) (maxL := maxL) (ret := ret) hM hp.1 hrc hrs hfr hlo hws hcw (fun a' U hW => word_at hW (Or.inl (by first | rfl | simp [Cond.onTables, Cond.keeps, Cond.steady])) hini)
  obtain ⟨hx, hb, hml, ho, -⟩ := S
  obtain ⟨-, ⟨cellB, hcB, hoB, hclB⟩, hPc⟩ := hp
  intro T hT X
  obtain ⟨v, vm₁, ⟨U', l2, c2, s2⟩, hW₁, X', ⟨g', mk, t, L, e1, e2, hq, h1, hL, h2, h3⟩, st⟩ := vx_callVW X hx (C := C) (hh := hh) (bytes := bytes) (maxL := maxL) (ret := ret) ho hl hin hse hcode hy hK (by rw [hT]; exact hcB) hoB hclB hg (hsize.trans hml.symm) (argsL := As) (rest := rest) (fun sig h => hn.trans (hlen sig h)) hstack hW (by rw [hb]; exact hdg)
    (fun vm₁ hW₁ => ⟨hf.1, hf.2, hPc (T.setVm vm₁) hT hW₁⟩)
  dsimp only [Pt.U, Pt.locs, Pt.cells, Pt.slots] at X' e1 e2 h1 h2 h3 st
  subst h1; subst h2; subst h3
  exact ⟨v, (T.setVm vm₁).calling g' mk (Value.ref b :: As).toArray, t, U', L, hT, X', hL, e1, e2, hq, st⟩
section
variable {y : MethodName} {bytes cc : ByteArray} {maxL nL mc ms n index : Nat} {ret : Option FieldType} {ws : List Cond} {rm : Room} {Pc : Array Value → State → Prop} {Qc : Array Value → State → Outcome → State → Prop} {XC : String → State → State → Prop} {free : Addr → Prop} {Ts : List Cond} {own C : String} {b : Addr} {As rest : List Value} {g : JFrame}
theorem vx_runVX {hh : List (Nat × Nat × Nat × Nat)} (S : CallFix p m c cc nL s args Ts own) (hM : vx_Met l y ws rm Pc Qc XC mc ms free) (cw : vx_CVW R s args own C index y bytes maxL ret hh ws rm mc ms n) (hp : PreV s H C b Pc As)
    (hg : g.method = m) (hn : As.length = n) (hsize : g.locals.size = nL) (hstack : g.stack = As.reverse ++ .ref b :: rest) (hW : 2 * g.monitorRoom + (rest.map fun v => v.category).sum ≤ 8) (hdg : decode cc g.pc = .ok (.invokevirtual index, 3)) (hf : cells + mc ≤ R.cells ∧ slots + ms ≤ R.slots) :
    vx_Run p l e R s m args below meth c H locs cells slots mc ms g rest (Qc (Value.ref b :: As).toArray) XC free := by
  obtain ⟨⟨hrc, hrs, hfr, hlo, hws, hcw⟩, hcode, hini, hy, hlen, hl, hin, hse⟩ := cw
  have hK : vx_Back l R p e below s args y 3 8 (PreOf R mc ms Pc) (PostOf Qc mc ms free) (vx_Post XC mc ms free) := vx_backW (hh := hh) (bytes := bytes) (maxL := maxL) (ret := ret) hM hp.1 hrc hrs hfr hlo hws hcw (fun a' U hW => word_at hW (Or.inl (by first | rfl | simp [Cond.onTables, Cond.keeps, Cond.steady])) hini)
  obtain ⟨hx, hb, hml, ho, -⟩ := S
  obtain ⟨-, ⟨cellB, hcB, hoB, hclB⟩, hPc⟩ := hp
  intro T hT X
  rcases vx_callVX X hx (C := C) (hh := hh) (bytes := bytes) (maxL := maxL) (ret := ret) ho hl hin hse hcode hy hK (by rw [hT]; exact hcB) hoB hclB hg (hsize.trans hml.symm) (argsL := As) (rest := rest) (fun sig h => hn.trans (hlen sig h)) hstack hW (by rw [hb]; exact hdg)
    (fun vm₁ hW₁ => ⟨hf.1, hf.2, hPc (T.setVm vm₁) hT hW₁⟩) with ⟨v, vm₁, ⟨U', l2, c2, s2⟩, hW₁, X', ⟨g', mk, t, L, e1, e2, hq, h1, hL, h2, h3⟩, st⟩ | ⟨q, vm₁, ⟨U', l2, c2, s2⟩, hW₁, X', ⟨g', mk, t, L, E, ce, e1, e2, hq, hce, hcv, hcl, h1, hL, h2, h3⟩, st⟩
  · dsimp only [Pt.U, Pt.locs, Pt.cells, Pt.slots] at X' e1 e2 h1 h2 h3 st
    subst h1; subst h2; subst h3
    exact Or.inl ⟨v, (T.setVm vm₁).calling g' mk (Value.ref b :: As).toArray, t, U', L, hT, X', hL, e1, e2, hq, st⟩
  · dsimp only [Pt.U, Pt.locs, Pt.cells, Pt.slots] at X' e1 e2 h1 h2 h3 st hcl
    subst h1; subst h2; subst h3
    exact Or.inr ⟨q, (T.setVm vm₁).calling g' mk (Value.ref b :: As).toArray, t, U', L, E, ce, hT, X', hL, e1, e2, hq, hce, hcv, vx_cls hW₁ hcl, st⟩
theorem vx_runSX {hh : List (Nat × Nat × Nat × Nat)} (S : CallFix p m c cc nL s args Ts own) (hM : vx_Met l y ws rm Pc Qc XC mc ms free) (cw : vx_CSW R s args own index y bytes maxL ret hh ws rm mc ms n) (hp : PreS s H Pc As)
    (hg : g.method = m) (hn : As.length = n) (hsize : g.locals.size = nL) (hstack : g.stack = As.reverse ++ rest) (hW : 2 * g.monitorRoom + (rest.map fun v => v.category).sum ≤ 8) (hdg : decode cc g.pc = .ok (.invokestatic index, 3)) (hf : cells + mc ≤ R.cells ∧ slots + ms ≤ R.slots) :
    vx_Run p l e R s m args below meth c H locs cells slots mc ms g rest (Qc As.toArray) XC free := by
  obtain ⟨⟨hrc, hrs, hfr, hlo, hws, hcw⟩, hcode, hini, hy, hlen, hl, hstt⟩ := cw
  have hK : vx_Back l R p e below s args y 3 8 (PreOf R mc ms Pc) (PostOf Qc mc ms free) (vx_Post XC mc ms free) := vx_backW (hh := hh) (bytes := bytes) (maxL := maxL) (ret := ret) hM hp.1 hrc hrs hfr hlo hws hcw (fun a' U hW => word_at hW (Or.inl (by first | rfl | simp [Cond.onTables, Cond.keeps, Cond.steady])) hini)
  obtain ⟨hx, hb, hml, ho, -⟩ := S
  intro T hT X
  rcases vx_callSX X hx (hh := hh) (bytes := bytes) (maxL := maxL) (ret := ret) ho hl hstt hini hcode hy hK hg (hsize.trans hml.symm) (argsL := As) (rest := rest) (fun sig h => hn.trans (hlen sig h)) hstack hW (by rw [hb]; exact hdg)
    (fun vm₁ hW₁ => ⟨hf.1, hf.2, hp.2 (T.setVm vm₁) hT hW₁⟩) with ⟨v, vm₁, ⟨U', l2, c2, s2⟩, hW₁, X', ⟨g', mk, t, L, e1, e2, hq, h1, hL, h2, h3⟩, st⟩ | ⟨q, vm₁, ⟨U', l2, c2, s2⟩, hW₁, X', ⟨g', mk, t, L, E, ce, e1, e2, hq, hce, hcv, hcl, h1, hL, h2, h3⟩, st⟩
  · dsimp only [Pt.U, Pt.locs, Pt.cells, Pt.slots] at X' e1 e2 h1 h2 h3 st
    subst h1; subst h2; subst h3
    exact Or.inl ⟨v, (T.setVm vm₁).calling g' mk As.toArray, t, U', L, hT, X', hL, e1, e2, hq, st⟩
  · dsimp only [Pt.U, Pt.locs, Pt.cells, Pt.slots] at X' e1 e2 h1 h2 h3 st hcl
    subst h1; subst h2; subst h3
    exact Or.inr ⟨q, (T.setVm vm₁).calling g' mk As.toArray, t, U', L, E, ce, hT, X', hL, e1, e2, hq, hce, hcv, vx_cls hW₁ hcl, st⟩
end
end VXH
theorem vx_ofWH {l : Launch} {y : MethodName} {ws ws' : List Cond} {rm : Room} {Pc : Array Value → State → Prop} {Qc : Array Value → State → Outcome → State → Prop} {XC : String → State → State → Prop} {mc ms : Nat} {free : Addr → Prop} {cc : ByteArray} {maxL : Nat} {ret : Option FieldType} {hh : List (Nat × Nat × Nat × Nat)}
    (hy : plainName y.cls = true) (hw : ws = Cond.codeWith y cc maxL ret hh :: ws')
    (body : ∀ p e s m args below meth c s₁, BodyLoose p l y (headSpec ws rm) cc maxL ret e s m args below meth c s₁ → c.maxLocals = maxL → Pc args s →
      W p l e (headSpec ws rm).room s m args below meth c s.heap [] 0 0 (vx_MQ below Qc XC args s mc ms free) (entryFrame m args maxL)) : vx_Met l y ws rm Pc Qc XC mc ms free := by
  refine MetFree.of_bodyS (code := cc) (maxLocals := maxL) (ret := ret) hy ?_ ?_
  · intro args s m h hn
    obtain ⟨m9, meth, c, hn9, h1, h2, h3, h4, -, h5, h6, -⟩ := Cond.codeWith_spec (atoms_spec (ws := ws) h _ (by rw [hw]; exact List.mem_cons_self))
    cases hn.symm.trans hn9
    exact ⟨meth, c, h1, h2, h3, h4, h5, h6⟩
  · intro p e s m args below meth c s₁ B hml hP _
    have hh0 : s₁.heap = s.heap := by rw [B.state]; rfl
    obtain ⟨t, a1, o, b1, b2, b3⟩ := body p e s m args below meth c s₁ B hml hP s₁ hh0 (Stand.of_body B)
    exact ⟨t, o, a1, b1, b2, b3⟩
/-! ===== END ===== -/
end
section
/-! ===== BEGIN printed: names, fields, word lists, decode rows ===== -/
def RX0 : String := "FieldPerms$Field"
def TX0 : u_T := fun k => match k with
  | 0 => ("FieldPerms$Field", "prime", "I", false)
  | 1 => ("FieldPerms$Field", "power", "I", false)
  | 2 => ("FieldPerms$Field", "size", "I", false)
  | 3 => ("FieldPerms$Field", "modulus", "I", false)
  | 4 => ("FieldPerms$Field", "sums", "[I", true)
  | 5 => ("FieldPerms$Field", "products", "[I", true)
  | 6 => ("FieldPerms$Field", "negatives", "[I", true)
  | 7 => ("FieldPerms$Field", "inverses", "[I", true)
  | _ => ("FieldPerms$Field", "risen", "[I", true)
def tyX0 : Nat → FieldType := fun k => match k with
  | 0 => .int
  | 1 => .int
  | 2 => .int
  | 3 => .int
  | 4 => .array .int
  | 5 => .array .int
  | 6 => .array .int
  | 7 => .array .int
  | _ => .array .int
abbrev wsX00 : List Cond := u_ws RX0 TX0 9
theorem nmX0 : ∀ a, a < 9 → ∀ b, b < 9 → a ≠ b → (TX0 a).2.1 ≠ (TX0 b).2.1 := by decide +kernel
theorem tyX0_ok : ∀ k, k < 9 → parseFieldDescriptor (TX0 k).2.2.1 = some (tyX0 k) := by decide +kernel
abbrev cX0_init : ByteArray := prog_2_method_1_code
def yX0_init : MethodName := ⟨RX0, "<init>", "()V"⟩
abbrev cX0_tune : ByteArray := prog_2_method_2_code
def yX0_tune : MethodName := ⟨RX0, "tune", "(II)V"⟩
abbrev cX0_sizeOf : ByteArray := prog_2_method_3_code
def yX0_sizeOf : MethodName := ⟨RX0, "sizeOf", "(II)I"⟩
abbrev cX0_leastModulus : ByteArray := prog_2_method_4_code
def yX0_leastModulus : MethodName := ⟨RX0, "leastModulus", "(I)I"⟩
abbrev cX0_fillSums : ByteArray := prog_2_method_5_code
def yX0_fillSums : MethodName := ⟨RX0, "fillSums", "(II)V"⟩
abbrev cX0_fillRisen : ByteArray := prog_2_method_6_code
def yX0_fillRisen : MethodName := ⟨RX0, "fillRisen", "(II)V"⟩
abbrev cX0_fillProducts : ByteArray := prog_2_method_7_code
def yX0_fillProducts : MethodName := ⟨RX0, "fillProducts", "(II)V"⟩
abbrev cX0_sum : ByteArray := prog_2_method_8_code
def yX0_sum : MethodName := ⟨RX0, "sum", "(II)I"⟩
abbrev cX0_difference : ByteArray := prog_2_method_9_code
def yX0_difference : MethodName := ⟨RX0, "difference", "(II)I"⟩
abbrev cX0_product : ByteArray := prog_2_method_10_code
def yX0_product : MethodName := ⟨RX0, "product", "(II)I"⟩
abbrev cX0_raised : ByteArray := prog_2_method_11_code
def yX0_raised : MethodName := ⟨RX0, "raised", "(II)I"⟩
abbrev cX0_dicksonAt : ByteArray := prog_2_method_12_code
def yX0_dicksonAt : MethodName := ⟨RX0, "dicksonAt", "(III)I"⟩
def RX1 : String := "FieldPerms$History"
def TX1 : u_T := fun k => match k with
  | 0 => ("FieldPerms$History", "size", "I", false)
  | 1 => ("FieldPerms$History", "next", "I", false)
  | _ => ("FieldPerms$History", "past", "[LFieldPerms$State;", true)
def tyX1 : Nat → FieldType := fun k => match k with
  | 0 => .int
  | 1 => .int
  | _ => .array (.object "FieldPerms$State")
abbrev wsX10 : List Cond := u_ws RX1 TX1 3
theorem nmX1 : ∀ a, a < 3 → ∀ b, b < 3 → a ≠ b → (TX1 a).2.1 ≠ (TX1 b).2.1 := by decide +kernel
theorem tyX1_ok : ∀ k, k < 3 → parseFieldDescriptor (TX1 k).2.2.1 = some (tyX1 k) := by decide +kernel
abbrev cX1_init : ByteArray := prog_3_method_1_code
def yX1_init : MethodName := ⟨RX1, "<init>", "()V"⟩
abbrev cX1_keep : ByteArray := prog_3_method_2_code
def yX1_keep : MethodName := ⟨RX1, "keep", "(LFieldPerms$State;)V"⟩
abbrev cX1_takeLast : ByteArray := prog_3_method_3_code
def yX1_takeLast : MethodName := ⟨RX1, "takeLast", "()LFieldPerms$State;"⟩
def RX2 : String := "FieldPerms$Reader"
def TX2 : u_T := fun k => match k with
  | 0 => ("FieldPerms$Reader", "faultKind", "I", false)
  | 1 => ("FieldPerms$Reader", "faultPlace", "I", false)
  | 2 => ("FieldPerms$Reader", "tape", "LFieldPerms$Tape;", true)
  | 3 => ("FieldPerms$Reader", "field", "LFieldPerms$Field;", true)
  | 4 => ("FieldPerms$Reader", "draft", "LFieldPerms$State;", true)
  | 5 => ("FieldPerms$Reader", "sums", "[[I", true)
  | 6 => ("FieldPerms$Reader", "products", "[[I", true)
  | _ => ("FieldPerms$Reader", "units", "[[I", true)
def tyX2 : Nat → FieldType := fun k => match k with
  | 0 => .int
  | 1 => .int
  | 2 => .object "FieldPerms$Tape"
  | 3 => .object "FieldPerms$Field"
  | 4 => .object "FieldPerms$State"
  | 5 => .array (.array .int)
  | 6 => .array (.array .int)
  | _ => .array (.array .int)
abbrev wsX20 : List Cond := u_ws RX2 TX2 8
theorem nmX2 : ∀ a, a < 8 → ∀ b, b < 8 → a ≠ b → (TX2 a).2.1 ≠ (TX2 b).2.1 := by decide +kernel
theorem tyX2_ok : ∀ k, k < 8 → parseFieldDescriptor (TX2 k).2.2.1 = some (tyX2 k) := by decide +kernel
abbrev cX2_init : ByteArray := prog_4_method_1_code
def yX2_init : MethodName := ⟨RX2, "<init>", "(LFieldPerms$Tape;LFieldPerms$Field;LFieldPerms$State;)V"⟩
abbrev cX2_read : ByteArray := prog_4_method_2_code
def yX2_read : MethodName := ⟨RX2, "read", "()Z"⟩
abbrev cX2_refuse : ByteArray := prog_4_method_3_code
def yX2_refuse : MethodName := ⟨RX2, "refuse", "(I)Z"⟩
abbrev cX2_takeSign : ByteArray := prog_4_method_4_code
def yX2_takeSign : MethodName := ⟨RX2, "takeSign", "(I)Z"⟩
abbrev cX2_seeNumber : ByteArray := prog_4_method_5_code
def yX2_seeNumber : MethodName := ⟨RX2, "seeNumber", "(I)Z"⟩
abbrev cX2_readField : ByteArray := prog_4_method_6_code
def yX2_readField : MethodName := ⟨RX2, "readField", "()Z"⟩
abbrev cX2_isPrime : ByteArray := prog_4_method_7_code
def yX2_isPrime : MethodName := ⟨RX2, "isPrime", "(I)Z"⟩
abbrev cX2_readSum : ByteArray := prog_4_method_8_code
def yX2_readSum : MethodName := ⟨RX2, "readSum", "(I)Z"⟩
abbrev cX2_readProduct : ByteArray := prog_4_method_9_code
def yX2_readProduct : MethodName := ⟨RX2, "readProduct", "(I)Z"⟩
abbrev cX2_readUnit : ByteArray := prog_4_method_10_code
def yX2_readUnit : MethodName := ⟨RX2, "readUnit", "(I)Z"⟩
abbrev cX2_readPoint : ByteArray := prog_4_method_11_code
def yX2_readPoint : MethodName := ⟨RX2, "readPoint", "([I)Z"⟩
abbrev cX2_readX : ByteArray := prog_4_method_12_code
def yX2_readX : MethodName := ⟨RX2, "readX", "([I)Z"⟩
abbrev cX2_readBracket : ByteArray := prog_4_method_13_code
def yX2_readBracket : MethodName := ⟨RX2, "readBracket", "(I)Z"⟩
abbrev cX2_readInner : ByteArray := prog_4_method_14_code
def yX2_readInner : MethodName := ⟨RX2, "readInner", "(I)Z"⟩
abbrev cX2_readDickson : ByteArray := prog_4_method_15_code
def yX2_readDickson : MethodName := ⟨RX2, "readDickson", "([I)Z"⟩
abbrev cX2_readPower : ByteArray := prog_4_method_16_code
def yX2_readPower : MethodName := ⟨RX2, "readPower", "([I)Z"⟩
def RX3 : String := "FieldPerms$State"
def TX3 : u_T := fun k => match k with
  | 0 => ("FieldPerms$State", "prime", "I", false)
  | 1 => ("FieldPerms$State", "power", "I", false)
  | 2 => ("FieldPerms$State", "count", "I", false)
  | _ => ("FieldPerms$State", "rows", "[[I", true)
def tyX3 : Nat → FieldType := fun k => match k with
  | 0 => .int
  | 1 => .int
  | 2 => .int
  | _ => .array (.array .int)
abbrev wsX30 : List Cond := u_ws RX3 TX3 4
theorem nmX3 : ∀ a, a < 4 → ∀ b, b < 4 → a ≠ b → (TX3 a).2.1 ≠ (TX3 b).2.1 := by decide +kernel
theorem tyX3_ok : ∀ k, k < 4 → parseFieldDescriptor (TX3 k).2.2.1 = some (tyX3 k) := by decide +kernel
abbrev cX3_init : ByteArray := prog_5_method_1_code
def yX3_init : MethodName := ⟨RX3, "<init>", "()V"⟩
abbrev cX3_become : ByteArray := prog_5_method_2_code
def yX3_become : MethodName := ⟨RX3, "become", "(LFieldPerms$State;)V"⟩
abbrev cX3_remove : ByteArray := prog_5_method_3_code
def yX3_remove : MethodName := ⟨RX3, "remove", "(I)V"⟩
def RX4 : String := "FieldPerms$Study"
def TX4 : u_T := fun k => match k with
  | 0 => ("FieldPerms$Study", "cycleCount", "I", false)
  | 1 => ("FieldPerms$Study", "cycleCounts", "[I", true)
  | 2 => ("FieldPerms$Study", "field", "LFieldPerms$Field;", true)
  | 3 => ("FieldPerms$Study", "counts", "[I", true)
  | 4 => ("FieldPerms$Study", "first", "[I", true)
  | _ => ("FieldPerms$Study", "second", "[I", true)
def tyX4 : Nat → FieldType := fun k => match k with
  | 0 => .int
  | 1 => .array .int
  | 2 => .object "FieldPerms$Field"
  | 3 => .array .int
  | 4 => .array .int
  | _ => .array .int
abbrev wsX40 : List Cond := u_ws RX4 TX4 6
theorem nmX4 : ∀ a, a < 6 → ∀ b, b < 6 → a ≠ b → (TX4 a).2.1 ≠ (TX4 b).2.1 := by decide +kernel
theorem tyX4_ok : ∀ k, k < 6 → parseFieldDescriptor (TX4 k).2.2.1 = some (tyX4 k) := by decide +kernel
abbrev cX4_init : ByteArray := prog_6_method_1_code
def yX4_init : MethodName := ⟨RX4, "<init>", "(LFieldPerms$Field;)V"⟩
abbrev cX4_join : ByteArray := prog_6_method_2_code
def yX4_join : MethodName := ⟨RX4, "join", "([I[I[I)V"⟩
abbrev cX4_repeat : ByteArray := prog_6_method_3_code
def yX4_repeat : MethodName := ⟨RX4, "repeat", "([II[I)V"⟩
abbrev cX4_invert : ByteArray := prog_6_method_4_code
def yX4_invert : MethodName := ⟨RX4, "invert", "([I[I)V"⟩
abbrev cX4_coefficientOf : ByteArray := prog_6_method_5_code
def yX4_coefficientOf : MethodName := ⟨RX4, "coefficientOf", "([II)I"⟩
abbrev cX4_degreeOf : ByteArray := prog_6_method_6_code
def yX4_degreeOf : MethodName := ⟨RX4, "degreeOf", "([I)I"⟩
abbrev cX4_countOf : ByteArray := prog_6_method_7_code
def yX4_countOf : MethodName := ⟨RX4, "countOf", "([II)I"⟩
abbrev cX4_imageOf : ByteArray := prog_6_method_8_code
def yX4_imageOf : MethodName := ⟨RX4, "imageOf", "([I)I"⟩
abbrev cX4_isPermuting : ByteArray := prog_6_method_9_code
def yX4_isPermuting : MethodName := ⟨RX4, "isPermuting", "([I)Z"⟩
abbrev cX4_powersOf : ByteArray := prog_6_method_10_code
def yX4_powersOf : MethodName := ⟨RX4, "powersOf", "([I)I"⟩
abbrev cX4_findCycles : ByteArray := prog_6_method_11_code
def yX4_findCycles : MethodName := ⟨RX4, "findCycles", "([I)V"⟩
abbrev cX4_cycleMultiple : ByteArray := prog_6_method_12_code
def yX4_cycleMultiple : MethodName := ⟨RX4, "cycleMultiple", "()I"⟩
abbrev cX4_commonDivisor : ByteArray := prog_6_method_13_code
def yX4_commonDivisor : MethodName := ⟨RX4, "commonDivisor", "(II)I"⟩
abbrev cX4_reachFrom : ByteArray := prog_6_method_14_code
def yX4_reachFrom : MethodName := ⟨RX4, "reachFrom", "(ILFieldPerms$State;)J"⟩
abbrev cX4_imageOfSet : ByteArray := prog_6_method_15_code
def yX4_imageOfSet : MethodName := ⟨RX4, "imageOfSet", "([IJ)J"⟩
abbrev cX4_spreadOf : ByteArray := prog_6_method_16_code
def yX4_spreadOf : MethodName := ⟨RX4, "spreadOf", "([I)I"⟩
abbrev cX4_permutingMonomials : ByteArray := prog_6_method_17_code
def yX4_permutingMonomials : MethodName := ⟨RX4, "permutingMonomials", "()J"⟩
abbrev cX4_permutingDicksons : ByteArray := prog_6_method_18_code
def yX4_permutingDicksons : MethodName := ⟨RX4, "permutingDicksons", "(I)J"⟩
abbrev cX4_permutingBinomials : ByteArray := prog_6_method_19_code
def yX4_permutingBinomials : MethodName := ⟨RX4, "permutingBinomials", "(I)I"⟩
def RX5 : String := "FieldPerms$Tape"
def TX5 : u_T := fun k => match k with
  | 0 => ("FieldPerms$Tape", "held", "I", false)
  | 1 => ("FieldPerms$Tape", "kind", "I", false)
  | 2 => ("FieldPerms$Tape", "place", "I", false)
  | 3 => ("FieldPerms$Tape", "number", "I", false)
  | 4 => ("FieldPerms$Tape", "bytes", "[I", true)
  | 5 => ("FieldPerms$Tape", "kinds", "[I", true)
  | 6 => ("FieldPerms$Tape", "places", "[I", true)
  | 7 => ("FieldPerms$Tape", "numbers", "[I", true)
  | _ => ("FieldPerms$Tape", "current", "I", false)
def tyX5 : Nat → FieldType := fun k => match k with
  | 0 => .int
  | 1 => .int
  | 2 => .int
  | 3 => .int
  | 4 => .array .int
  | 5 => .array .int
  | 6 => .array .int
  | 7 => .array .int
  | _ => .int
abbrev wsX50 : List Cond := u_ws RX5 TX5 9
theorem nmX5 : ∀ a, a < 9 → ∀ b, b < 9 → a ≠ b → (TX5 a).2.1 ≠ (TX5 b).2.1 := by decide +kernel
theorem tyX5_ok : ∀ k, k < 9 → parseFieldDescriptor (TX5 k).2.2.1 = some (tyX5 k) := by decide +kernel
abbrev cX5_init : ByteArray := prog_7_method_1_code
def yX5_init : MethodName := ⟨RX5, "<init>", "()V"⟩
abbrev cX5_put : ByteArray := prog_7_method_2_code
def yX5_put : MethodName := ⟨RX5, "put", "(I)V"⟩
abbrev cX5_cut : ByteArray := prog_7_method_3_code
def yX5_cut : MethodName := ⟨RX5, "cut", "(I)V"⟩
abbrev cX5_cutOne : ByteArray := prog_7_method_4_code
def yX5_cutOne : MethodName := ⟨RX5, "cutOne", "(III)I"⟩
abbrev cX5_isDigit : ByteArray := prog_7_method_5_code
def yX5_isDigit : MethodName := ⟨RX5, "isDigit", "(I)Z"⟩
abbrev cX5_isLetter : ByteArray := prog_7_method_6_code
def yX5_isLetter : MethodName := ⟨RX5, "isLetter", "(I)Z"⟩
abbrev cX5_isSign : ByteArray := prog_7_method_7_code
def yX5_isSign : MethodName := ⟨RX5, "isSign", "(I)Z"⟩
abbrev cX5_wordKind : ByteArray := prog_7_method_8_code
def yX5_wordKind : MethodName := ⟨RX5, "wordKind", "(II)I"⟩
abbrev cX5_spells : ByteArray := prog_7_method_9_code
def yX5_spells : MethodName := ⟨RX5, "spells", "(Ljava/lang/String;II)Z"⟩
abbrev cX5_step : ByteArray := prog_7_method_10_code
def yX5_step : MethodName := ⟨RX5, "step", "()V"⟩
def RX6 : String := "FieldPerms"
def TX6 : u_T := fun k => match k with
  | 0 => ("FieldPerms", "field", "LFieldPerms$Field;", true)
  | 1 => ("FieldPerms", "now", "LFieldPerms$State;", true)
  | 2 => ("FieldPerms", "draft", "LFieldPerms$State;", true)
  | 3 => ("FieldPerms", "history", "LFieldPerms$History;", true)
  | 4 => ("FieldPerms", "tape", "LFieldPerms$Tape;", true)
  | 5 => ("FieldPerms", "reader", "LFieldPerms$Reader;", true)
  | 6 => ("FieldPerms", "study", "LFieldPerms$Study;", true)
  | 7 => ("FieldPerms", "refused", "[I", true)
  | _ => ("FieldPerms", "faultPlace", "I", false)
def tyX6 : Nat → FieldType := fun k => match k with
  | 0 => .object "FieldPerms$Field"
  | 1 => .object "FieldPerms$State"
  | 2 => .object "FieldPerms$State"
  | 3 => .object "FieldPerms$History"
  | 4 => .object "FieldPerms$Tape"
  | 5 => .object "FieldPerms$Reader"
  | 6 => .object "FieldPerms$Study"
  | 7 => .array .int
  | _ => .int
abbrev wsX60 : List Cond := u_ws RX6 TX6 9
theorem nmX6 : ∀ a, a < 9 → ∀ b, b < 9 → a ≠ b → (TX6 a).2.1 ≠ (TX6 b).2.1 := by decide +kernel
theorem tyX6_ok : ∀ k, k < 9 → parseFieldDescriptor (TX6 k).2.2.1 = some (tyX6 k) := by decide +kernel
abbrev cX6_init : ByteArray := prog_1_method_1_code
def yX6_init : MethodName := ⟨RX6, "<init>", "()V"⟩
abbrev cX6_feed : ByteArray := prog_1_method_2_code
def yX6_feed : MethodName := ⟨RX6, "feed", "(IIIII)I"⟩
abbrev cX6_text : ByteArray := prog_1_method_3_code
def yX6_text : MethodName := ⟨RX6, "text", "(I)I"⟩
abbrev cX6_fault : ByteArray := prog_1_method_4_code
def yX6_fault : MethodName := ⟨RX6, "fault", "()I"⟩
abbrev cX6_value : ByteArray := prog_1_method_5_code
def yX6_value : MethodName := ⟨RX6, "value", "(III)I"⟩
abbrev cX6_after : ByteArray := prog_1_method_6_code
def yX6_after : MethodName := ⟨RX6, "after", "(II)I"⟩
abbrev cX6_again : ByteArray := prog_1_method_7_code
def yX6_again : MethodName := ⟨RX6, "again", "(II)I"⟩
abbrev cX6_back : ByteArray := prog_1_method_8_code
def yX6_back : MethodName := ⟨RX6, "back", "(I)I"⟩
abbrev cX6_drop : ByteArray := prog_1_method_9_code
def yX6_drop : MethodName := ⟨RX6, "drop", "(I)I"⟩
abbrev cX6_undo : ByteArray := prog_1_method_10_code
def yX6_undo : MethodName := ⟨RX6, "undo", "()I"⟩
abbrev cX6_told : ByteArray := prog_1_method_11_code
def yX6_told : MethodName := ⟨RX6, "told", "(I)I"⟩
abbrev cX6_points : ByteArray := prog_1_method_12_code
def yX6_points : MethodName := ⟨RX6, "points", "(III)I"⟩
abbrev cX6_at : ByteArray := prog_1_method_13_code
def yX6_at : MethodName := ⟨RX6, "at", "(II)I"⟩
abbrev cX6_coefficient : ByteArray := prog_1_method_14_code
def yX6_coefficient : MethodName := ⟨RX6, "coefficient", "(II)I"⟩
abbrev cX6_degree : ByteArray := prog_1_method_15_code
def yX6_degree : MethodName := ⟨RX6, "degree", "(I)I"⟩
abbrev cX6_taken : ByteArray := prog_1_method_16_code
def yX6_taken : MethodName := ⟨RX6, "taken", "(II)I"⟩
abbrev cX6_image : ByteArray := prog_1_method_17_code
def yX6_image : MethodName := ⟨RX6, "image", "(I)I"⟩
abbrev cX6_permutes : ByteArray := prog_1_method_18_code
def yX6_permutes : MethodName := ⟨RX6, "permutes", "(I)I"⟩
abbrev cX6_powers : ByteArray := prog_1_method_19_code
def yX6_powers : MethodName := ⟨RX6, "powers", "(I)I"⟩
abbrev cX6_cycles : ByteArray := prog_1_method_20_code
def yX6_cycles : MethodName := ⟨RX6, "cycles", "(II)I"⟩
abbrev cX6_order : ByteArray := prog_1_method_21_code
def yX6_order : MethodName := ⟨RX6, "order", "(I)I"⟩
abbrev cX6_even : ByteArray := prog_1_method_22_code
def yX6_even : MethodName := ⟨RX6, "even", "(I)I"⟩
abbrev cX6_orbit : ByteArray := prog_1_method_23_code
def yX6_orbit : MethodName := ⟨RX6, "orbit", "(I)I"⟩
abbrev cX6_orbits : ByteArray := prog_1_method_24_code
def yX6_orbits : MethodName := ⟨RX6, "orbits", "()I"⟩
abbrev cX6_spread : ByteArray := prog_1_method_25_code
def yX6_spread : MethodName := ⟨RX6, "spread", "(I)I"⟩
abbrev cX6_monomials : ByteArray := prog_1_method_26_code
def yX6_monomials : MethodName := ⟨RX6, "monomials", "()J"⟩
abbrev cX6_dicksons : ByteArray := prog_1_method_27_code
def yX6_dicksons : MethodName := ⟨RX6, "dicksons", "(I)J"⟩
abbrev cX6_binomials : ByteArray := prog_1_method_28_code
def yX6_binomials : MethodName := ⟨RX6, "binomials", "(I)I"⟩
abbrev cX6_print : ByteArray := prog_1_method_29_code
def yX6_print : MethodName := ⟨RX6, "print", "()J"⟩
abbrev cX6_status : ByteArray := prog_1_method_30_code
def yX6_status : MethodName := ⟨RX6, "status", "(I)I"⟩
abbrev cX6_needPoly : ByteArray := prog_1_method_31_code
def yX6_needPoly : MethodName := ⟨RX6, "needPoly", "(I)V"⟩
abbrev cX6_needPoint : ByteArray := prog_1_method_32_code
def yX6_needPoint : MethodName := ⟨RX6, "needPoint", "(I)V"⟩
abbrev cX6_needNumber : ByteArray := prog_1_method_33_code
def yX6_needNumber : MethodName := ⟨RX6, "needNumber", "(III)V"⟩
abbrev cX6_needRoom : ByteArray := prog_1_method_34_code
def yX6_needRoom : MethodName := ⟨RX6, "needRoom", "()V"⟩
abbrev cX6_needPermuting : ByteArray := prog_1_method_35_code
def yX6_needPermuting : MethodName := ⟨RX6, "needPermuting", "(I)V"⟩
def RX7 : String := "FieldPermsModel"
def TX7 : u_T := fun k => match k with
  | 0 => ("FieldPermsModel", "thrown", "I", false)
  | 1 => ("FieldPermsModel", "refused", "[I", true)
  | 2 => ("FieldPermsModel", "tape", "I", false)
  | 3 => ("FieldPermsModel", "size", "I", false)
  | 4 => ("FieldPermsModel", "at", "I", false)
  | 5 => ("FieldPermsModel", "place", "I", false)
  | 6 => ("FieldPermsModel", "fault", "I", false)
  | 7 => ("FieldPermsModel", "faultAt", "I", false)
  | 8 => ("FieldPermsModel", "fed", "[I", true)
  | 9 => ("FieldPermsModel", "now", "[I", true)
  | 10 => ("FieldPermsModel", "told", "[I", true)
  | 11 => ("FieldPermsModel", "past", "[[I", true)
  | 12 => ("FieldPermsModel", "backs", "I", false)
  | 13 => ("FieldPermsModel", "prime", "I", false)
  | 14 => ("FieldPermsModel", "power", "I", false)
  | 15 => ("FieldPermsModel", "q", "I", false)
  | 16 => ("FieldPermsModel", "modulus", "I", false)
  | 17 => ("FieldPermsModel", "sums", "[[I", true)
  | 18 => ("FieldPermsModel", "products", "[[I", true)
  | 19 => ("FieldPermsModel", "minus", "[I", true)
  | 20 => ("FieldPermsModel", "by", "[I", true)
  | 21 => ("FieldPermsModel", "work", "[I", true)
  | 22 => ("FieldPermsModel", "numberAt", "I", false)
  | 23 => ("FieldPermsModel", "open", "I", false)
  | 24 => ("FieldPermsModel", "image", "[I", true)
  | 25 => ("FieldPermsModel", "square", "[I", true)
  | 26 => ("FieldPermsModel", "aside", "[I", true)
  | _ => ("FieldPermsModel", "with", "[I", true)
def tyX7 : Nat → FieldType := fun k => match k with
  | 0 => .int
  | 1 => .array .int
  | 2 => .int
  | 3 => .int
  | 4 => .int
  | 5 => .int
  | 6 => .int
  | 7 => .int
  | 8 => .array .int
  | 9 => .array .int
  | 10 => .array .int
  | 11 => .array (.array .int)
  | 12 => .int
  | 13 => .int
  | 14 => .int
  | 15 => .int
  | 16 => .int
  | 17 => .array (.array .int)
  | 18 => .array (.array .int)
  | 19 => .array .int
  | 20 => .array .int
  | 21 => .array .int
  | 22 => .int
  | 23 => .int
  | 24 => .array .int
  | 25 => .array .int
  | 26 => .array .int
  | _ => .array .int
abbrev wsX70 : List Cond := u_ws RX7 TX7 28
theorem nmX7 : ∀ a, a < 28 → ∀ b, b < 28 → a ≠ b → (TX7 a).2.1 ≠ (TX7 b).2.1 := by decide +kernel
theorem tyX7_ok : ∀ k, k < 28 → parseFieldDescriptor (TX7 k).2.2.1 = some (tyX7 k) := by decide +kernel
abbrev cX7_init : ByteArray := prog_9_method_1_code
def yX7_init : MethodName := ⟨RX7, "<init>", "()V"⟩
abbrev cX7_thrown : ByteArray := prog_9_method_2_code
def yX7_thrown : MethodName := ⟨RX7, "thrown", "()I"⟩
abbrev cX7_bad : ByteArray := prog_9_method_3_code
def yX7_bad : MethodName := ⟨RX7, "bad", "(ZII)Z"⟩
abbrev cX7_in : ByteArray := prog_9_method_4_code
def yX7_in : MethodName := ⟨RX7, "in", "(JJJ)Z"⟩
abbrev cX7_less : ByteArray := prog_9_method_5_code
def yX7_less : MethodName := ⟨RX7, "less", "(II)I"⟩
abbrev cX7_feed : ByteArray := prog_9_method_6_code
def yX7_feed : MethodName := ⟨RX7, "feed", "(IIIII)I"⟩
abbrev cX7_copies : ByteArray := prog_9_method_7_code
def yX7_copies : MethodName := ⟨RX7, "copies", "([I[I)V"⟩
abbrev cX7_digit : ByteArray := prog_9_method_8_code
def yX7_digit : MethodName := ⟨RX7, "digit", "(III)I"⟩
abbrev cX7_raised : ByteArray := prog_9_method_9_code
def yX7_raised : MethodName := ⟨RX7, "raised", "(II)I"⟩
abbrev cX7_rests : ByteArray := prog_9_method_10_code
def yX7_rests : MethodName := ⟨RX7, "rests", "(III)V"⟩
abbrev cX7_isProduct : ByteArray := prog_9_method_11_code
def yX7_isProduct : MethodName := ⟨RX7, "isProduct", "(I)Z"⟩
abbrev cX7_numberOf : ByteArray := prog_9_method_12_code
def yX7_numberOf : MethodName := ⟨RX7, "numberOf", "()I"⟩
abbrev cX7_summed : ByteArray := prog_9_method_13_code
def yX7_summed : MethodName := ⟨RX7, "summed", "(II)I"⟩
abbrev cX7_multiplied : ByteArray := prog_9_method_14_code
def yX7_multiplied : MethodName := ⟨RX7, "multiplied", "(II)I"⟩
abbrev cX7_lays : ByteArray := prog_9_method_15_code
def yX7_lays : MethodName := ⟨RX7, "lays", "([I)V"⟩
abbrev cX7_raisedPoint : ByteArray := prog_9_method_16_code
def yX7_raisedPoint : MethodName := ⟨RX7, "raisedPoint", "(II)I"⟩
abbrev cX7_apart : ByteArray := prog_9_method_17_code
def yX7_apart : MethodName := ⟨RX7, "apart", "(II)I"⟩
abbrev cX7_dickson : ByteArray := prog_9_method_18_code
def yX7_dickson : MethodName := ⟨RX7, "dickson", "(III)I"⟩
abbrev cX7_byteAt : ByteArray := prog_9_method_19_code
def yX7_byteAt : MethodName := ⟨RX7, "byteAt", "(I)I"⟩
abbrev cX7_here : ByteArray := prog_9_method_20_code
def yX7_here : MethodName := ⟨RX7, "here", "()I"⟩
abbrev cX7_fine : ByteArray := prog_9_method_21_code
def yX7_fine : MethodName := ⟨RX7, "fine", "()Z"⟩
abbrev cX7_wrong : ByteArray := prog_9_method_22_code
def yX7_wrong : MethodName := ⟨RX7, "wrong", "(II)V"⟩
abbrev cX7_isSmall : ByteArray := prog_9_method_23_code
def yX7_isSmall : MethodName := ⟨RX7, "isSmall", "(I)Z"⟩
abbrev cX7_isDigit : ByteArray := prog_9_method_24_code
def yX7_isDigit : MethodName := ⟨RX7, "isDigit", "(I)Z"⟩
abbrev cX7_takes : ByteArray := prog_9_method_25_code
def yX7_takes : MethodName := ⟨RX7, "takes", "(Ljava/lang/String;)Z"⟩
abbrev cX7_must : ByteArray := prog_9_method_26_code
def yX7_must : MethodName := ⟨RX7, "must", "(I)V"⟩
abbrev cX7_number : ByteArray := prog_9_method_27_code
def yX7_number : MethodName := ⟨RX7, "number", "(II)I"⟩
abbrev cX7_opens : ByteArray := prog_9_method_28_code
def yX7_opens : MethodName := ⟨RX7, "opens", "()V"⟩
abbrev cX7_closes : ByteArray := prog_9_method_29_code
def yX7_closes : MethodName := ⟨RX7, "closes", "()V"⟩
abbrev cX7_row : ByteArray := prog_9_method_30_code
def yX7_row : MethodName := ⟨RX7, "row", "(I)[I"⟩
abbrev cX7_part : ByteArray := prog_9_method_31_code
def yX7_part : MethodName := ⟨RX7, "part", "()[I"⟩
abbrev cX7_unit : ByteArray := prog_9_method_32_code
def yX7_unit : MethodName := ⟨RX7, "unit", "()[I"⟩
abbrev cX7_product : ByteArray := prog_9_method_33_code
def yX7_product : MethodName := ⟨RX7, "product", "()[I"⟩
abbrev cX7_sum : ByteArray := prog_9_method_34_code
def yX7_sum : MethodName := ⟨RX7, "sum", "()[I"⟩
abbrev cX7_readsPoly : ByteArray := prog_9_method_35_code
def yX7_readsPoly : MethodName := ⟨RX7, "readsPoly", "(I)V"⟩
abbrev cX7_isPrime : ByteArray := prog_9_method_36_code
def yX7_isPrime : MethodName := ⟨RX7, "isPrime", "(I)Z"⟩
abbrev cX7_readsField : ByteArray := prog_9_method_37_code
def yX7_readsField : MethodName := ⟨RX7, "readsField", "()V"⟩
abbrev cX7_text : ByteArray := prog_9_method_38_code
def yX7_text : MethodName := ⟨RX7, "text", "(I)I"⟩
abbrev cX7_fault : ByteArray := prog_9_method_39_code
def yX7_fault : MethodName := ⟨RX7, "fault", "()I"⟩
abbrev cX7_remembers : ByteArray := prog_9_method_40_code
def yX7_remembers : MethodName := ⟨RX7, "remembers", "()V"⟩
abbrev cX7_undo : ByteArray := prog_9_method_41_code
def yX7_undo : MethodName := ⟨RX7, "undo", "()I"⟩
abbrev cX7_begins : ByteArray := prog_9_method_42_code
def yX7_begins : MethodName := ⟨RX7, "begins", "()V"⟩
abbrev cX7_isPoly : ByteArray := prog_9_method_43_code
def yX7_isPoly : MethodName := ⟨RX7, "isPoly", "(I)Z"⟩
abbrev cX7_isPoint : ByteArray := prog_9_method_44_code
def yX7_isPoint : MethodName := ⟨RX7, "isPoint", "(I)Z"⟩
abbrev cX7_of : ByteArray := prog_9_method_45_code
def yX7_of : MethodName := ⟨RX7, "of", "(II)I"⟩
abbrev cX7_takesValues : ByteArray := prog_9_method_46_code
def yX7_takesValues : MethodName := ⟨RX7, "takesValues", "(I)V"⟩
abbrev cX7_comes : ByteArray := prog_9_method_47_code
def yX7_comes : MethodName := ⟨RX7, "comes", "()I"⟩
abbrev cX7_isFull : ByteArray := prog_9_method_48_code
def yX7_isFull : MethodName := ⟨RX7, "isFull", "()Z"⟩
abbrev cX7_value : ByteArray := prog_9_method_49_code
def yX7_value : MethodName := ⟨RX7, "value", "(III)I"⟩
abbrev cX7_after : ByteArray := prog_9_method_50_code
def yX7_after : MethodName := ⟨RX7, "after", "(II)I"⟩
abbrev cX7_putsBehind : ByteArray := prog_9_method_51_code
def yX7_putsBehind : MethodName := ⟨RX7, "putsBehind", "([I[I)V"⟩
abbrev cX7_again : ByteArray := prog_9_method_52_code
def yX7_again : MethodName := ⟨RX7, "again", "(II)I"⟩
abbrev cX7_imageOf : ByteArray := prog_9_method_53_code
def yX7_imageOf : MethodName := ⟨RX7, "imageOf", "(I)I"⟩
abbrev cX7_takenBy : ByteArray := prog_9_method_54_code
def yX7_takenBy : MethodName := ⟨RX7, "takenBy", "(II)I"⟩
abbrev cX7_isPermuting : ByteArray := prog_9_method_55_code
def yX7_isPermuting : MethodName := ⟨RX7, "isPermuting", "(I)Z"⟩
abbrev cX7_back : ByteArray := prog_9_method_56_code
def yX7_back : MethodName := ⟨RX7, "back", "(I)I"⟩
abbrev cX7_drop : ByteArray := prog_9_method_57_code
def yX7_drop : MethodName := ⟨RX7, "drop", "(I)I"⟩
abbrev cX7_told : ByteArray := prog_9_method_58_code
def yX7_told : MethodName := ⟨RX7, "told", "(I)I"⟩
abbrev cX7_points : ByteArray := prog_9_method_59_code
def yX7_points : MethodName := ⟨RX7, "points", "(III)I"⟩
abbrev cX7_at : ByteArray := prog_9_method_60_code
def yX7_at : MethodName := ⟨RX7, "at", "(II)I"⟩
abbrev cX7_coefficientOf : ByteArray := prog_9_method_61_code
def yX7_coefficientOf : MethodName := ⟨RX7, "coefficientOf", "(I)I"⟩
abbrev cX7_coefficient : ByteArray := prog_9_method_62_code
def yX7_coefficient : MethodName := ⟨RX7, "coefficient", "(II)I"⟩
abbrev cX7_degree : ByteArray := prog_9_method_63_code
def yX7_degree : MethodName := ⟨RX7, "degree", "(I)I"⟩
abbrev cX7_taken : ByteArray := prog_9_method_64_code
def yX7_taken : MethodName := ⟨RX7, "taken", "(II)I"⟩
abbrev cX7_image : ByteArray := prog_9_method_65_code
def yX7_image : MethodName := ⟨RX7, "image", "(I)I"⟩
abbrev cX7_permutes : ByteArray := prog_9_method_66_code
def yX7_permutes : MethodName := ⟨RX7, "permutes", "(I)I"⟩
abbrev cX7_powers : ByteArray := prog_9_method_67_code
def yX7_powers : MethodName := ⟨RX7, "powers", "(I)I"⟩
abbrev cX7_cycleOf : ByteArray := prog_9_method_68_code
def yX7_cycleOf : MethodName := ⟨RX7, "cycleOf", "(II)I"⟩
abbrev cX7_badPerm : ByteArray := prog_9_method_69_code
def yX7_badPerm : MethodName := ⟨RX7, "badPerm", "(IZI)Z"⟩
abbrev cX7_cyclesOf : ByteArray := prog_9_method_70_code
def yX7_cyclesOf : MethodName := ⟨RX7, "cyclesOf", "(II)I"⟩
abbrev cX7_cycles : ByteArray := prog_9_method_71_code
def yX7_cycles : MethodName := ⟨RX7, "cycles", "(II)I"⟩
abbrev cX7_common : ByteArray := prog_9_method_72_code
def yX7_common : MethodName := ⟨RX7, "common", "(II)I"⟩
abbrev cX7_order : ByteArray := prog_9_method_73_code
def yX7_order : MethodName := ⟨RX7, "order", "(I)I"⟩
abbrev cX7_even : ByteArray := prog_9_method_74_code
def yX7_even : MethodName := ⟨RX7, "even", "(I)I"⟩
abbrev cX7_laysOrbits : ByteArray := prog_9_method_75_code
def yX7_laysOrbits : MethodName := ⟨RX7, "laysOrbits", "()V"⟩
abbrev cX7_orbit : ByteArray := prog_9_method_76_code
def yX7_orbit : MethodName := ⟨RX7, "orbit", "(I)I"⟩
abbrev cX7_orbits : ByteArray := prog_9_method_77_code
def yX7_orbits : MethodName := ⟨RX7, "orbits", "()I"⟩
abbrev cX7_spread : ByteArray := prog_9_method_78_code
def yX7_spread : MethodName := ⟨RX7, "spread", "(I)I"⟩
abbrev cX7_areAll : ByteArray := prog_9_method_79_code
def yX7_areAll : MethodName := ⟨RX7, "areAll", "()Z"⟩
abbrev cX7_monomials : ByteArray := prog_9_method_80_code
def yX7_monomials : MethodName := ⟨RX7, "monomials", "()J"⟩
abbrev cX7_dicksons : ByteArray := prog_9_method_81_code
def yX7_dicksons : MethodName := ⟨RX7, "dicksons", "(I)J"⟩
abbrev cX7_binomials : ByteArray := prog_9_method_82_code
def yX7_binomials : MethodName := ⟨RX7, "binomials", "(I)I"⟩
abbrev cX7_print : ByteArray := prog_9_method_83_code
def yX7_print : MethodName := ⟨RX7, "print", "()J"⟩
abbrev cX7_status : ByteArray := prog_9_method_84_code
def yX7_status : MethodName := ⟨RX7, "status", "(I)I"⟩
def RJx145de : String := "java/io/Serializable"
def TJx145de : u_T := fun k => match k with
  | _ => ("", "", "", false)
def tyJx145de : Nat → FieldType := fun k => match k with
  | _ => .int
abbrev wsJx145de0 : List Cond := u_ws RJx145de TJx145de 0
theorem nmJx145de : ∀ a, a < 0 → ∀ b, b < 0 → a ≠ b → (TJx145de a).2.1 ≠ (TJx145de b).2.1 := by decide +kernel
theorem tyJx145de_ok : ∀ k, k < 0 → parseFieldDescriptor (TJx145de k).2.2.1 = some (tyJx145de k) := by decide +kernel
def RJx9f9b0 : String := "java/lang/CharSequence"
def TJx9f9b0 : u_T := fun k => match k with
  | _ => ("", "", "", false)
def tyJx9f9b0 : Nat → FieldType := fun k => match k with
  | _ => .int
abbrev wsJx9f9b00 : List Cond := u_ws RJx9f9b0 TJx9f9b0 0
theorem nmJx9f9b0 : ∀ a, a < 0 → ∀ b, b < 0 → a ≠ b → (TJx9f9b0 a).2.1 ≠ (TJx9f9b0 b).2.1 := by decide +kernel
theorem tyJx9f9b0_ok : ∀ k, k < 0 → parseFieldDescriptor (TJx9f9b0 k).2.2.1 = some (tyJx9f9b0 k) := by decide +kernel
def RJxb160c : String := "java/lang/Comparable"
def TJxb160c : u_T := fun k => match k with
  | _ => ("", "", "", false)
def tyJxb160c : Nat → FieldType := fun k => match k with
  | _ => .int
abbrev wsJxb160c0 : List Cond := u_ws RJxb160c TJxb160c 0
theorem nmJxb160c : ∀ a, a < 0 → ∀ b, b < 0 → a ≠ b → (TJxb160c a).2.1 ≠ (TJxb160c b).2.1 := by decide +kernel
theorem tyJxb160c_ok : ∀ k, k < 0 → parseFieldDescriptor (TJxb160c k).2.2.1 = some (tyJxb160c k) := by decide +kernel
def RJ13 : String := "java/lang/Long"
def TJ13 : u_T := fun k => match k with
  | _ => ("", "", "", false)
def tyJ13 : Nat → FieldType := fun k => match k with
  | _ => .int
abbrev wsJ130 : List Cond := u_ws RJ13 TJ13 0
theorem nmJ13 : ∀ a, a < 0 → ∀ b, b < 0 → a ≠ b → (TJ13 a).2.1 ≠ (TJ13 b).2.1 := by decide +kernel
theorem tyJ13_ok : ∀ k, k < 0 → parseFieldDescriptor (TJ13 k).2.2.1 = some (tyJ13 k) := by decide +kernel
abbrev cJ13_bitCount_95d88 : ByteArray := prog_16_method_50_code
def yJ13_bitCount_95d88 : MethodName := ⟨RJ13, "bitCount", "(J)I"⟩
def RJ9 : String := "java/lang/Math"
def TJ9 : u_T := fun k => match k with
  | _ => ("", "", "", false)
def tyJ9 : Nat → FieldType := fun k => match k with
  | _ => .int
abbrev wsJ90 : List Cond := u_ws RJ9 TJ9 0
theorem nmJ9 : ∀ a, a < 0 → ∀ b, b < 0 → a ≠ b → (TJ9 a).2.1 ≠ (TJ9 b).2.1 := by decide +kernel
theorem tyJ9_ok : ∀ k, k < 0 → parseFieldDescriptor (TJ9 k).2.2.1 = some (tyJ9 k) := by decide +kernel
abbrev cJ9_max_7cf53 : ByteArray := prog_17_method_65_code
def yJ9_max_7cf53 : MethodName := ⟨RJ9, "max", "(II)I"⟩
abbrev cJ9_min_7cf53 : ByteArray := prog_17_method_69_code
def yJ9_min_7cf53 : MethodName := ⟨RJ9, "min", "(II)I"⟩
def RJ0 : String := "java/lang/String"
def TJ0 : u_T := fun k => match k with
  | _ => ("", "", "", false)
def tyJ0 : Nat → FieldType := fun k => match k with
  | _ => .int
abbrev wsJ00 : List Cond := u_ws RJ0 TJ0 0
theorem nmJ0 : ∀ a, a < 0 → ∀ b, b < 0 → a ≠ b → (TJ0 a).2.1 ≠ (TJ0 b).2.1 := by decide +kernel
theorem tyJ0_ok : ∀ k, k < 0 → parseFieldDescriptor (TJ0 k).2.2.1 = some (tyJ0 k) := by decide +kernel
abbrev cJ0_length_8abf5 : ByteArray := prog_19_method_54_code
def yJ0_length_8abf5 : MethodName := ⟨RJ0, "length", "()I"⟩
abbrev cJ0_charAt_5068e : ByteArray := prog_19_method_56_code
def yJ0_charAt_5068e : MethodName := ⟨RJ0, "charAt", "(I)C"⟩
abbrev cJ0_coder_7d493 : ByteArray := prog_19_method_152_code
def yJ0_coder_7d493 : MethodName := ⟨RJ0, "coder", "()B"⟩
abbrev cJ0_isLatin1_aae02 : ByteArray := prog_19_method_154_code
def yJ0_isLatin1_aae02 : MethodName := ⟨RJ0, "isLatin1", "()Z"⟩
abbrev cJ0_checkIndex_df160 : ByteArray := prog_19_method_155_code
def yJ0_checkIndex_df160 : MethodName := ⟨RJ0, "checkIndex", "(II)V"⟩
def RJ1 : String := "java/lang/StringLatin1"
def TJ1 : u_T := fun k => match k with
  | _ => ("", "", "", false)
def tyJ1 : Nat → FieldType := fun k => match k with
  | _ => .int
abbrev wsJ10 : List Cond := u_ws RJ1 TJ1 0
theorem nmJ1 : ∀ a, a < 0 → ∀ b, b < 0 → a ≠ b → (TJ1 a).2.1 ≠ (TJ1 b).2.1 := by decide +kernel
theorem tyJ1_ok : ∀ k, k < 0 → parseFieldDescriptor (TJ1 k).2.2.1 = some (tyJ1 k) := by decide +kernel
abbrev cJ1_charAt_3b067 : ByteArray := prog_20_method_2_code
def yJ1_charAt_3b067 : MethodName := ⟨RJ1, "charAt", "([BI)C"⟩
def RJ2 : String := "java/lang/StringUTF16"
def TJ2 : u_T := fun k => match k with
  | _ => ("", "", "", false)
def tyJ2 : Nat → FieldType := fun k => match k with
  | _ => .int
abbrev wsJ20 : List Cond := u_ws RJ2 TJ2 0
theorem nmJ2 : ∀ a, a < 0 → ∀ b, b < 0 → a ≠ b → (TJ2 a).2.1 ≠ (TJ2 b).2.1 := by decide +kernel
theorem tyJ2_ok : ∀ k, k < 0 → parseFieldDescriptor (TJ2 k).2.2.1 = some (tyJ2 k) := by decide +kernel
abbrev cJ2_getChar_3b067 : ByteArray := prog_21_method_5_code
def yJ2_getChar_3b067 : MethodName := ⟨RJ2, "getChar", "([BI)C"⟩
abbrev cJ2_length_9d52b : ByteArray := prog_21_method_6_code
def yJ2_length_9d52b : MethodName := ⟨RJ2, "length", "([B)I"⟩
abbrev cJ2_charAt_3b067 : ByteArray := prog_21_method_83_code
def yJ2_charAt_3b067 : MethodName := ⟨RJ2, "charAt", "([BI)C"⟩
abbrev cJ2_checkIndex_2214a : ByteArray := prog_21_method_91_code
def yJ2_checkIndex_2214a : MethodName := ⟨RJ2, "checkIndex", "(I[B)V"⟩
def RJ10 : String := "java/lang/System"
def TJ10 : u_T := fun k => match k with
  | _ => ("", "", "", false)
def tyJ10 : Nat → FieldType := fun k => match k with
  | _ => .int
abbrev wsJ100 : List Cond := u_ws RJ10 TJ10 0
theorem nmJ10 : ∀ a, a < 0 → ∀ b, b < 0 → a ≠ b → (TJ10 a).2.1 ≠ (TJ10 b).2.1 := by decide +kernel
theorem tyJ10_ok : ∀ k, k < 0 → parseFieldDescriptor (TJ10 k).2.2.1 = some (tyJ10 k) := by decide +kernel
def RJxfd54e : String := "java/lang/constant/Constable"
def TJxfd54e : u_T := fun k => match k with
  | _ => ("", "", "", false)
def tyJxfd54e : Nat → FieldType := fun k => match k with
  | _ => .int
abbrev wsJxfd54e0 : List Cond := u_ws RJxfd54e TJxfd54e 0
theorem nmJxfd54e : ∀ a, a < 0 → ∀ b, b < 0 → a ≠ b → (TJxfd54e a).2.1 ≠ (TJxfd54e b).2.1 := by decide +kernel
theorem tyJxfd54e_ok : ∀ k, k < 0 → parseFieldDescriptor (TJxfd54e k).2.2.1 = some (tyJxfd54e k) := by decide +kernel
def RJx3cf43 : String := "java/lang/constant/ConstantDesc"
def TJx3cf43 : u_T := fun k => match k with
  | _ => ("", "", "", false)
def tyJx3cf43 : Nat → FieldType := fun k => match k with
  | _ => .int
abbrev wsJx3cf430 : List Cond := u_ws RJx3cf43 TJx3cf43 0
theorem nmJx3cf43 : ∀ a, a < 0 → ∀ b, b < 0 → a ≠ b → (TJx3cf43 a).2.1 ≠ (TJx3cf43 b).2.1 := by decide +kernel
theorem tyJx3cf43_ok : ∀ k, k < 0 → parseFieldDescriptor (TJx3cf43 k).2.2.1 = some (tyJx3cf43 k) := by decide +kernel
def RJ3 : String := "jdk/internal/util/Preconditions"
def TJ3 : u_T := fun k => match k with
  | _ => ("", "", "", false)
def tyJ3 : Nat → FieldType := fun k => match k with
  | _ => .int
abbrev wsJ30 : List Cond := u_ws RJ3 TJ3 0
theorem nmJ3 : ∀ a, a < 0 → ∀ b, b < 0 → a ≠ b → (TJ3 a).2.1 ≠ (TJ3 b).2.1 := by decide +kernel
theorem tyJ3_ok : ∀ k, k < 0 → parseFieldDescriptor (TJ3 k).2.2.1 = some (tyJ3 k) := by decide +kernel
abbrev cJ3_checkIndex_8e157 : ByteArray := prog_27_method_11_code
def yJ3_checkIndex_8e157 : MethodName := ⟨RJ3, "checkIndex", "(IILjava/util/function/BiFunction;)I"⟩
def RL : String := "FieldPermsLaw"
abbrev cL_text : ByteArray := method_3_code
def yL_text : MethodName := ⟨RL, "text", "(LFieldPerms;I[J)I"⟩
abbrev cL_value : ByteArray := method_4_code
def yL_value : MethodName := ⟨RL, "value", "(LFieldPerms;III[J)I"⟩
abbrev cL_after : ByteArray := method_5_code
def yL_after : MethodName := ⟨RL, "after", "(LFieldPerms;II[J)I"⟩
abbrev cL_again : ByteArray := method_6_code
def yL_again : MethodName := ⟨RL, "again", "(LFieldPerms;II[J)I"⟩
abbrev cL_back : ByteArray := method_7_code
def yL_back : MethodName := ⟨RL, "back", "(LFieldPerms;I[J)I"⟩
abbrev cL_drop : ByteArray := method_8_code
def yL_drop : MethodName := ⟨RL, "drop", "(LFieldPerms;I[J)I"⟩
abbrev cL_told : ByteArray := method_9_code
def yL_told : MethodName := ⟨RL, "told", "(LFieldPerms;I[J)I"⟩
abbrev cL_points : ByteArray := method_10_code
def yL_points : MethodName := ⟨RL, "points", "(LFieldPerms;III[J)I"⟩
abbrev cL_at : ByteArray := method_11_code
def yL_at : MethodName := ⟨RL, "at", "(LFieldPerms;II[J)I"⟩
abbrev cL_coefficient : ByteArray := method_12_code
def yL_coefficient : MethodName := ⟨RL, "coefficient", "(LFieldPerms;II[J)I"⟩
abbrev cL_degree : ByteArray := method_13_code
def yL_degree : MethodName := ⟨RL, "degree", "(LFieldPerms;I[J)I"⟩
abbrev cL_taken : ByteArray := method_14_code
def yL_taken : MethodName := ⟨RL, "taken", "(LFieldPerms;II[J)I"⟩
abbrev cL_image : ByteArray := method_15_code
def yL_image : MethodName := ⟨RL, "image", "(LFieldPerms;I[J)I"⟩
abbrev cL_permutes : ByteArray := method_16_code
def yL_permutes : MethodName := ⟨RL, "permutes", "(LFieldPerms;I[J)I"⟩
abbrev cL_powers : ByteArray := method_17_code
def yL_powers : MethodName := ⟨RL, "powers", "(LFieldPerms;I[J)I"⟩
abbrev cL_cycles : ByteArray := method_18_code
def yL_cycles : MethodName := ⟨RL, "cycles", "(LFieldPerms;II[J)I"⟩
abbrev cL_order : ByteArray := method_19_code
def yL_order : MethodName := ⟨RL, "order", "(LFieldPerms;I[J)I"⟩
abbrev cL_even : ByteArray := method_20_code
def yL_even : MethodName := ⟨RL, "even", "(LFieldPerms;I[J)I"⟩
abbrev cL_orbit : ByteArray := method_21_code
def yL_orbit : MethodName := ⟨RL, "orbit", "(LFieldPerms;I[J)I"⟩
abbrev cL_spread : ByteArray := method_22_code
def yL_spread : MethodName := ⟨RL, "spread", "(LFieldPerms;I[J)I"⟩
abbrev cL_dicksons : ByteArray := method_23_code
def yL_dicksons : MethodName := ⟨RL, "dicksons", "(LFieldPerms;I[J)I"⟩
abbrev cL_binomials : ByteArray := method_24_code
def yL_binomials : MethodName := ⟨RL, "binomials", "(LFieldPerms;I[J)I"⟩
abbrev cL_law : ByteArray := code
def yL_law : MethodName := ⟨RL, "law", "([I)Z"⟩
end
section
theorem dX0_init_0 : decode cX0_init 0 = .ok (.aload_n 0, 1) := by decide +kernel
theorem dX0_init_1 : decode cX0_init 1 = .ok (.invokespecial 3, 3) := by decide +kernel
theorem dX0_init_4 : decode cX0_init 4 = .ok (.aload_n 0, 1) := by decide +kernel
theorem dX0_init_5 : decode cX0_init 5 = .ok (.sipush 4096, 3) := by decide +kernel
theorem dX0_init_8 : decode cX0_init 8 = .ok (.newarray .int, 2) := by decide +kernel
theorem dX0_init_10 : decode cX0_init 10 = .ok (.putfield 9, 3) := by decide +kernel
theorem dX0_init_13 : decode cX0_init 13 = .ok (.aload_n 0, 1) := by decide +kernel
theorem dX0_init_14 : decode cX0_init 14 = .ok (.sipush 4096, 3) := by decide +kernel
theorem dX0_init_17 : decode cX0_init 17 = .ok (.newarray .int, 2) := by decide +kernel
theorem dX0_init_19 : decode cX0_init 19 = .ok (.putfield 15, 3) := by decide +kernel
theorem dX0_init_22 : decode cX0_init 22 = .ok (.aload_n 0, 1) := by decide +kernel
theorem dX0_init_23 : decode cX0_init 23 = .ok (.bipush 64, 2) := by decide +kernel
theorem dX0_init_25 : decode cX0_init 25 = .ok (.newarray .int, 2) := by decide +kernel
theorem dX0_init_27 : decode cX0_init 27 = .ok (.putfield 18, 3) := by decide +kernel
theorem dX0_init_30 : decode cX0_init 30 = .ok (.aload_n 0, 1) := by decide +kernel
theorem dX0_init_31 : decode cX0_init 31 = .ok (.bipush 64, 2) := by decide +kernel
theorem dX0_init_33 : decode cX0_init 33 = .ok (.newarray .int, 2) := by decide +kernel
theorem dX0_init_35 : decode cX0_init 35 = .ok (.putfield 21, 3) := by decide +kernel
theorem dX0_init_38 : decode cX0_init 38 = .ok (.aload_n 0, 1) := by decide +kernel
theorem dX0_init_39 : decode cX0_init 39 = .ok (.bipush 64, 2) := by decide +kernel
theorem dX0_init_41 : decode cX0_init 41 = .ok (.newarray .int, 2) := by decide +kernel
theorem dX0_init_43 : decode cX0_init 43 = .ok (.putfield 24, 3) := by decide +kernel
theorem dX0_init_46 : decode cX0_init 46 = .ok (.aload_n 0, 1) := by decide +kernel
theorem dX0_init_47 : decode cX0_init 47 = .ok (.iconst 2, 1) := by decide +kernel
theorem dX0_init_48 : decode cX0_init 48 = .ok (.iconst 1, 1) := by decide +kernel
theorem dX0_init_49 : decode cX0_init 49 = .ok (.invokevirtual 27, 3) := by decide +kernel
theorem dX0_init_52 : decode cX0_init 52 = .ok (.return_, 1) := by decide +kernel
theorem dX0_tune_0 : decode cX0_tune 0 = .ok (.iload_n 1, 1) := by decide +kernel
theorem dX0_tune_1 : decode cX0_tune 1 = .ok (.aload_n 0, 1) := by decide +kernel
theorem dX0_tune_2 : decode cX0_tune 2 = .ok (.getfield 31, 3) := by decide +kernel
theorem dX0_tune_5 : decode cX0_tune 5 = .ok (.if_icmp .ne 12, 3) := by decide +kernel
theorem dX0_tune_8 : decode cX0_tune 8 = .ok (.iload_n 2, 1) := by decide +kernel
theorem dX0_tune_9 : decode cX0_tune 9 = .ok (.aload_n 0, 1) := by decide +kernel
theorem dX0_tune_10 : decode cX0_tune 10 = .ok (.getfield 35, 3) := by decide +kernel
theorem dX0_tune_13 : decode cX0_tune 13 = .ok (.if_icmp .ne 4, 3) := by decide +kernel
theorem dX0_tune_16 : decode cX0_tune 16 = .ok (.return_, 1) := by decide +kernel
theorem dX0_tune_17 : decode cX0_tune 17 = .ok (.iload_n 1, 1) := by decide +kernel
theorem dX0_tune_18 : decode cX0_tune 18 = .ok (.iload_n 2, 1) := by decide +kernel
theorem dX0_tune_19 : decode cX0_tune 19 = .ok (.invokestatic 38, 3) := by decide +kernel
theorem dX0_tune_22 : decode cX0_tune 22 = .ok (.istore_n 3, 1) := by decide +kernel
theorem dX0_tune_23 : decode cX0_tune 23 = .ok (.iload_n 1, 1) := by decide +kernel
theorem dX0_tune_24 : decode cX0_tune 24 = .ok (.iconst 2, 1) := by decide +kernel
theorem dX0_tune_25 : decode cX0_tune 25 = .ok (.if_icmp .lt 14, 3) := by decide +kernel
theorem dX0_tune_28 : decode cX0_tune 28 = .ok (.iload_n 2, 1) := by decide +kernel
theorem dX0_tune_29 : decode cX0_tune 29 = .ok (.iconst 1, 1) := by decide +kernel
theorem dX0_tune_30 : decode cX0_tune 30 = .ok (.if_icmp .lt 9, 3) := by decide +kernel
theorem dX0_tune_33 : decode cX0_tune 33 = .ok (.iload_n 3, 1) := by decide +kernel
theorem dX0_tune_34 : decode cX0_tune 34 = .ok (.bipush 64, 2) := by decide +kernel
theorem dX0_tune_36 : decode cX0_tune 36 = .ok (.if_icmp .le 4, 3) := by decide +kernel
theorem dX0_tune_39 : decode cX0_tune 39 = .ok (.return_, 1) := by decide +kernel
theorem dX0_tune_40 : decode cX0_tune 40 = .ok (.aload_n 0, 1) := by decide +kernel
theorem dX0_tune_41 : decode cX0_tune 41 = .ok (.iload_n 1, 1) := by decide +kernel
theorem dX0_tune_42 : decode cX0_tune 42 = .ok (.putfield 31, 3) := by decide +kernel
theorem dX0_tune_45 : decode cX0_tune 45 = .ok (.aload_n 0, 1) := by decide +kernel
theorem dX0_tune_46 : decode cX0_tune 46 = .ok (.iload_n 2, 1) := by decide +kernel
theorem dX0_tune_47 : decode cX0_tune 47 = .ok (.putfield 35, 3) := by decide +kernel
theorem dX0_tune_50 : decode cX0_tune 50 = .ok (.aload_n 0, 1) := by decide +kernel
theorem dX0_tune_51 : decode cX0_tune 51 = .ok (.iload_n 3, 1) := by decide +kernel
theorem dX0_tune_52 : decode cX0_tune 52 = .ok (.putfield 42, 3) := by decide +kernel
theorem dX0_tune_55 : decode cX0_tune 55 = .ok (.aload_n 0, 1) := by decide +kernel
theorem dX0_tune_56 : decode cX0_tune 56 = .ok (.iload_n 3, 1) := by decide +kernel
theorem dX0_tune_57 : decode cX0_tune 57 = .ok (.invokestatic 45, 3) := by decide +kernel
theorem dX0_tune_60 : decode cX0_tune 60 = .ok (.putfield 49, 3) := by decide +kernel
theorem dX0_tune_63 : decode cX0_tune 63 = .ok (.aload_n 0, 1) := by decide +kernel
theorem dX0_tune_64 : decode cX0_tune 64 = .ok (.iload_n 1, 1) := by decide +kernel
theorem dX0_tune_65 : decode cX0_tune 65 = .ok (.iload_n 3, 1) := by decide +kernel
theorem dX0_tune_66 : decode cX0_tune 66 = .ok (.invokevirtual 52, 3) := by decide +kernel
theorem dX0_tune_69 : decode cX0_tune 69 = .ok (.aload_n 0, 1) := by decide +kernel
theorem dX0_tune_70 : decode cX0_tune 70 = .ok (.iload_n 1, 1) := by decide +kernel
theorem dX0_tune_71 : decode cX0_tune 71 = .ok (.iload_n 3, 1) := by decide +kernel
theorem dX0_tune_72 : decode cX0_tune 72 = .ok (.invokevirtual 55, 3) := by decide +kernel
theorem dX0_tune_75 : decode cX0_tune 75 = .ok (.aload_n 0, 1) := by decide +kernel
theorem dX0_tune_76 : decode cX0_tune 76 = .ok (.iload_n 1, 1) := by decide +kernel
theorem dX0_tune_77 : decode cX0_tune 77 = .ok (.iload_n 3, 1) := by decide +kernel
theorem dX0_tune_78 : decode cX0_tune 78 = .ok (.invokevirtual 58, 3) := by decide +kernel
theorem dX0_tune_81 : decode cX0_tune 81 = .ok (.return_, 1) := by decide +kernel
theorem dX0_sizeOf_0 : decode cX0_sizeOf 0 = .ok (.iconst 1, 1) := by decide +kernel
theorem dX0_sizeOf_1 : decode cX0_sizeOf 1 = .ok (.istore_n 2, 1) := by decide +kernel
theorem dX0_sizeOf_2 : decode cX0_sizeOf 2 = .ok (.iconst 0, 1) := by decide +kernel
theorem dX0_sizeOf_3 : decode cX0_sizeOf 3 = .ok (.istore_n 3, 1) := by decide +kernel
theorem dX0_sizeOf_4 : decode cX0_sizeOf 4 = .ok (.iload_n 3, 1) := by decide +kernel
theorem dX0_sizeOf_5 : decode cX0_sizeOf 5 = .ok (.iload_n 1, 1) := by decide +kernel
theorem dX0_sizeOf_6 : decode cX0_sizeOf 6 = .ok (.if_icmp .ge 19, 3) := by decide +kernel
theorem dX0_sizeOf_9 : decode cX0_sizeOf 9 = .ok (.iload_n 2, 1) := by decide +kernel
theorem dX0_sizeOf_10 : decode cX0_sizeOf 10 = .ok (.bipush 64, 2) := by decide +kernel
theorem dX0_sizeOf_12 : decode cX0_sizeOf 12 = .ok (.if_icmp .gt 13, 3) := by decide +kernel
theorem dX0_sizeOf_15 : decode cX0_sizeOf 15 = .ok (.iload_n 2, 1) := by decide +kernel
theorem dX0_sizeOf_16 : decode cX0_sizeOf 16 = .ok (.iload_n 0, 1) := by decide +kernel
theorem dX0_sizeOf_17 : decode cX0_sizeOf 17 = .ok (.imul, 1) := by decide +kernel
theorem dX0_sizeOf_18 : decode cX0_sizeOf 18 = .ok (.istore_n 2, 1) := by decide +kernel
theorem dX0_sizeOf_19 : decode cX0_sizeOf 19 = .ok (.iinc 3 1, 3) := by decide +kernel
theorem dX0_sizeOf_22 : decode cX0_sizeOf 22 = .ok (.goto (-18), 3) := by decide +kernel
theorem dX0_sizeOf_25 : decode cX0_sizeOf 25 = .ok (.iload_n 2, 1) := by decide +kernel
theorem dX0_sizeOf_26 : decode cX0_sizeOf 26 = .ok (.ireturn, 1) := by decide +kernel
theorem dX0_leastModulus_0 : decode cX0_leastModulus 0 = .ok (.iload_n 0, 1) := by decide +kernel
theorem dX0_leastModulus_1 : decode cX0_leastModulus 1 = .ok (.lookupswitch 94 #[(4, 83), (8, 83), (9, 87), (16, 83), (25, 92), (27, 89), (32, 85), (49, 87), (64, 83)], 83) := by decide +kernel
theorem dX0_leastModulus_84 : decode cX0_leastModulus 84 = .ok (.iconst 3, 1) := by decide +kernel
theorem dX0_leastModulus_85 : decode cX0_leastModulus 85 = .ok (.ireturn, 1) := by decide +kernel
theorem dX0_leastModulus_86 : decode cX0_leastModulus 86 = .ok (.iconst 5, 1) := by decide +kernel
theorem dX0_leastModulus_87 : decode cX0_leastModulus 87 = .ok (.ireturn, 1) := by decide +kernel
theorem dX0_leastModulus_88 : decode cX0_leastModulus 88 = .ok (.iconst 1, 1) := by decide +kernel
theorem dX0_leastModulus_89 : decode cX0_leastModulus 89 = .ok (.ireturn, 1) := by decide +kernel
theorem dX0_leastModulus_90 : decode cX0_leastModulus 90 = .ok (.bipush 7, 2) := by decide +kernel
theorem dX0_leastModulus_92 : decode cX0_leastModulus 92 = .ok (.ireturn, 1) := by decide +kernel
theorem dX0_leastModulus_93 : decode cX0_leastModulus 93 = .ok (.iconst 2, 1) := by decide +kernel
theorem dX0_leastModulus_94 : decode cX0_leastModulus 94 = .ok (.ireturn, 1) := by decide +kernel
theorem dX0_leastModulus_95 : decode cX0_leastModulus 95 = .ok (.iconst 0, 1) := by decide +kernel
theorem dX0_leastModulus_96 : decode cX0_leastModulus 96 = .ok (.ireturn, 1) := by decide +kernel
theorem dX0_fillSums_0 : decode cX0_fillSums 0 = .ok (.iload_n 1, 1) := by decide +kernel
theorem dX0_fillSums_1 : decode cX0_fillSums 1 = .ok (.iconst 2, 1) := by decide +kernel
theorem dX0_fillSums_2 : decode cX0_fillSums 2 = .ok (.if_icmp .ge 4, 3) := by decide +kernel
theorem dX0_fillSums_5 : decode cX0_fillSums 5 = .ok (.return_, 1) := by decide +kernel
theorem dX0_fillSums_6 : decode cX0_fillSums 6 = .ok (.iconst 0, 1) := by decide +kernel
theorem dX0_fillSums_7 : decode cX0_fillSums 7 = .ok (.istore_n 3, 1) := by decide +kernel
theorem dX0_fillSums_8 : decode cX0_fillSums 8 = .ok (.iload_n 3, 1) := by decide +kernel
theorem dX0_fillSums_9 : decode cX0_fillSums 9 = .ok (.iload_n 2, 1) := by decide +kernel
theorem dX0_fillSums_10 : decode cX0_fillSums 10 = .ok (.if_icmp .ge 84, 3) := by decide +kernel
theorem dX0_fillSums_13 : decode cX0_fillSums 13 = .ok (.aload_n 0, 1) := by decide +kernel
theorem dX0_fillSums_14 : decode cX0_fillSums 14 = .ok (.getfield 18, 3) := by decide +kernel
theorem dX0_fillSums_17 : decode cX0_fillSums 17 = .ok (.iload_n 3, 1) := by decide +kernel
theorem dX0_fillSums_18 : decode cX0_fillSums 18 = .ok (.aload_n 0, 1) := by decide +kernel
theorem dX0_fillSums_19 : decode cX0_fillSums 19 = .ok (.getfield 18, 3) := by decide +kernel
theorem dX0_fillSums_22 : decode cX0_fillSums 22 = .ok (.iload_n 3, 1) := by decide +kernel
theorem dX0_fillSums_23 : decode cX0_fillSums 23 = .ok (.iload_n 1, 1) := by decide +kernel
theorem dX0_fillSums_24 : decode cX0_fillSums 24 = .ok (.idiv, 1) := by decide +kernel
theorem dX0_fillSums_25 : decode cX0_fillSums 25 = .ok (.iaload, 1) := by decide +kernel
theorem dX0_fillSums_26 : decode cX0_fillSums 26 = .ok (.iload_n 1, 1) := by decide +kernel
theorem dX0_fillSums_27 : decode cX0_fillSums 27 = .ok (.imul, 1) := by decide +kernel
theorem dX0_fillSums_28 : decode cX0_fillSums 28 = .ok (.iload_n 1, 1) := by decide +kernel
theorem dX0_fillSums_29 : decode cX0_fillSums 29 = .ok (.iload_n 3, 1) := by decide +kernel
theorem dX0_fillSums_30 : decode cX0_fillSums 30 = .ok (.iload_n 1, 1) := by decide +kernel
theorem dX0_fillSums_31 : decode cX0_fillSums 31 = .ok (.irem, 1) := by decide +kernel
theorem dX0_fillSums_32 : decode cX0_fillSums 32 = .ok (.isub, 1) := by decide +kernel
theorem dX0_fillSums_33 : decode cX0_fillSums 33 = .ok (.iload_n 1, 1) := by decide +kernel
theorem dX0_fillSums_34 : decode cX0_fillSums 34 = .ok (.irem, 1) := by decide +kernel
theorem dX0_fillSums_35 : decode cX0_fillSums 35 = .ok (.iadd, 1) := by decide +kernel
theorem dX0_fillSums_36 : decode cX0_fillSums 36 = .ok (.iastore, 1) := by decide +kernel
theorem dX0_fillSums_37 : decode cX0_fillSums 37 = .ok (.iconst 0, 1) := by decide +kernel
theorem dX0_fillSums_38 : decode cX0_fillSums 38 = .ok (.istore 4, 2) := by decide +kernel
theorem dX0_fillSums_40 : decode cX0_fillSums 40 = .ok (.iload 4, 2) := by decide +kernel
theorem dX0_fillSums_42 : decode cX0_fillSums 42 = .ok (.iload_n 2, 1) := by decide +kernel
theorem dX0_fillSums_43 : decode cX0_fillSums 43 = .ok (.if_icmp .ge 45, 3) := by decide +kernel
theorem dX0_fillSums_46 : decode cX0_fillSums 46 = .ok (.aload_n 0, 1) := by decide +kernel
theorem dX0_fillSums_47 : decode cX0_fillSums 47 = .ok (.getfield 9, 3) := by decide +kernel
theorem dX0_fillSums_50 : decode cX0_fillSums 50 = .ok (.iload_n 3, 1) := by decide +kernel
theorem dX0_fillSums_51 : decode cX0_fillSums 51 = .ok (.bipush 64, 2) := by decide +kernel
theorem dX0_fillSums_53 : decode cX0_fillSums 53 = .ok (.imul, 1) := by decide +kernel
theorem dX0_fillSums_54 : decode cX0_fillSums 54 = .ok (.iload 4, 2) := by decide +kernel
theorem dX0_fillSums_56 : decode cX0_fillSums 56 = .ok (.iadd, 1) := by decide +kernel
theorem dX0_fillSums_57 : decode cX0_fillSums 57 = .ok (.aload_n 0, 1) := by decide +kernel
theorem dX0_fillSums_58 : decode cX0_fillSums 58 = .ok (.iload_n 3, 1) := by decide +kernel
theorem dX0_fillSums_59 : decode cX0_fillSums 59 = .ok (.iload_n 1, 1) := by decide +kernel
theorem dX0_fillSums_60 : decode cX0_fillSums 60 = .ok (.idiv, 1) := by decide +kernel
theorem dX0_fillSums_61 : decode cX0_fillSums 61 = .ok (.iload 4, 2) := by decide +kernel
theorem dX0_fillSums_63 : decode cX0_fillSums 63 = .ok (.iload_n 1, 1) := by decide +kernel
theorem dX0_fillSums_64 : decode cX0_fillSums 64 = .ok (.idiv, 1) := by decide +kernel
theorem dX0_fillSums_65 : decode cX0_fillSums 65 = .ok (.invokevirtual 61, 3) := by decide +kernel
theorem dX0_fillSums_68 : decode cX0_fillSums 68 = .ok (.iload_n 1, 1) := by decide +kernel
theorem dX0_fillSums_69 : decode cX0_fillSums 69 = .ok (.imul, 1) := by decide +kernel
theorem dX0_fillSums_70 : decode cX0_fillSums 70 = .ok (.iload_n 3, 1) := by decide +kernel
theorem dX0_fillSums_71 : decode cX0_fillSums 71 = .ok (.iload_n 1, 1) := by decide +kernel
theorem dX0_fillSums_72 : decode cX0_fillSums 72 = .ok (.irem, 1) := by decide +kernel
theorem dX0_fillSums_73 : decode cX0_fillSums 73 = .ok (.iload 4, 2) := by decide +kernel
theorem dX0_fillSums_75 : decode cX0_fillSums 75 = .ok (.iload_n 1, 1) := by decide +kernel
theorem dX0_fillSums_76 : decode cX0_fillSums 76 = .ok (.irem, 1) := by decide +kernel
theorem dX0_fillSums_77 : decode cX0_fillSums 77 = .ok (.iadd, 1) := by decide +kernel
theorem dX0_fillSums_78 : decode cX0_fillSums 78 = .ok (.iload_n 1, 1) := by decide +kernel
theorem dX0_fillSums_79 : decode cX0_fillSums 79 = .ok (.irem, 1) := by decide +kernel
theorem dX0_fillSums_80 : decode cX0_fillSums 80 = .ok (.iadd, 1) := by decide +kernel
theorem dX0_fillSums_81 : decode cX0_fillSums 81 = .ok (.iastore, 1) := by decide +kernel
theorem dX0_fillSums_82 : decode cX0_fillSums 82 = .ok (.iinc 4 1, 3) := by decide +kernel
theorem dX0_fillSums_85 : decode cX0_fillSums 85 = .ok (.goto (-45), 3) := by decide +kernel
theorem dX0_fillSums_88 : decode cX0_fillSums 88 = .ok (.iinc 3 1, 3) := by decide +kernel
theorem dX0_fillSums_91 : decode cX0_fillSums 91 = .ok (.goto (-83), 3) := by decide +kernel
theorem dX0_fillSums_94 : decode cX0_fillSums 94 = .ok (.return_, 1) := by decide +kernel
theorem dX0_fillRisen_0 : decode cX0_fillRisen 0 = .ok (.iload_n 1, 1) := by decide +kernel
theorem dX0_fillRisen_1 : decode cX0_fillRisen 1 = .ok (.iconst 2, 1) := by decide +kernel
theorem dX0_fillRisen_2 : decode cX0_fillRisen 2 = .ok (.if_icmp .ge 4, 3) := by decide +kernel
theorem dX0_fillRisen_5 : decode cX0_fillRisen 5 = .ok (.return_, 1) := by decide +kernel
theorem dX0_fillRisen_6 : decode cX0_fillRisen 6 = .ok (.iload_n 2, 1) := by decide +kernel
theorem dX0_fillRisen_7 : decode cX0_fillRisen 7 = .ok (.iload_n 1, 1) := by decide +kernel
theorem dX0_fillRisen_8 : decode cX0_fillRisen 8 = .ok (.idiv, 1) := by decide +kernel
theorem dX0_fillRisen_9 : decode cX0_fillRisen 9 = .ok (.istore_n 3, 1) := by decide +kernel
theorem dX0_fillRisen_10 : decode cX0_fillRisen 10 = .ok (.iconst 0, 1) := by decide +kernel
theorem dX0_fillRisen_11 : decode cX0_fillRisen 11 = .ok (.istore 4, 2) := by decide +kernel
theorem dX0_fillRisen_13 : decode cX0_fillRisen 13 = .ok (.iload 4, 2) := by decide +kernel
theorem dX0_fillRisen_15 : decode cX0_fillRisen 15 = .ok (.iload_n 2, 1) := by decide +kernel
theorem dX0_fillRisen_16 : decode cX0_fillRisen 16 = .ok (.if_icmp .ge 51, 3) := by decide +kernel
theorem dX0_fillRisen_19 : decode cX0_fillRisen 19 = .ok (.aload_n 0, 1) := by decide +kernel
theorem dX0_fillRisen_20 : decode cX0_fillRisen 20 = .ok (.getfield 24, 3) := by decide +kernel
theorem dX0_fillRisen_23 : decode cX0_fillRisen 23 = .ok (.iload 4, 2) := by decide +kernel
theorem dX0_fillRisen_25 : decode cX0_fillRisen 25 = .ok (.iload 4, 2) := by decide +kernel
theorem dX0_fillRisen_27 : decode cX0_fillRisen 27 = .ok (.iload_n 3, 1) := by decide +kernel
theorem dX0_fillRisen_28 : decode cX0_fillRisen 28 = .ok (.if_icmp .ge 10, 3) := by decide +kernel
theorem dX0_fillRisen_31 : decode cX0_fillRisen 31 = .ok (.iload 4, 2) := by decide +kernel
theorem dX0_fillRisen_33 : decode cX0_fillRisen 33 = .ok (.iload_n 1, 1) := by decide +kernel
theorem dX0_fillRisen_34 : decode cX0_fillRisen 34 = .ok (.imul, 1) := by decide +kernel
theorem dX0_fillRisen_35 : decode cX0_fillRisen 35 = .ok (.goto 25, 3) := by decide +kernel
theorem dX0_fillRisen_38 : decode cX0_fillRisen 38 = .ok (.aload_n 0, 1) := by decide +kernel
theorem dX0_fillRisen_39 : decode cX0_fillRisen 39 = .ok (.aload_n 0, 1) := by decide +kernel
theorem dX0_fillRisen_40 : decode cX0_fillRisen 40 = .ok (.getfield 24, 3) := by decide +kernel
theorem dX0_fillRisen_43 : decode cX0_fillRisen 43 = .ok (.iload 4, 2) := by decide +kernel
theorem dX0_fillRisen_45 : decode cX0_fillRisen 45 = .ok (.iload_n 3, 1) := by decide +kernel
theorem dX0_fillRisen_46 : decode cX0_fillRisen 46 = .ok (.isub, 1) := by decide +kernel
theorem dX0_fillRisen_47 : decode cX0_fillRisen 47 = .ok (.iaload, 1) := by decide +kernel
theorem dX0_fillRisen_48 : decode cX0_fillRisen 48 = .ok (.aload_n 0, 1) := by decide +kernel
theorem dX0_fillRisen_49 : decode cX0_fillRisen 49 = .ok (.getfield 18, 3) := by decide +kernel
theorem dX0_fillRisen_52 : decode cX0_fillRisen 52 = .ok (.aload_n 0, 1) := by decide +kernel
theorem dX0_fillRisen_53 : decode cX0_fillRisen 53 = .ok (.getfield 49, 3) := by decide +kernel
theorem dX0_fillRisen_56 : decode cX0_fillRisen 56 = .ok (.iaload, 1) := by decide +kernel
theorem dX0_fillRisen_57 : decode cX0_fillRisen 57 = .ok (.invokevirtual 61, 3) := by decide +kernel
theorem dX0_fillRisen_60 : decode cX0_fillRisen 60 = .ok (.iastore, 1) := by decide +kernel
theorem dX0_fillRisen_61 : decode cX0_fillRisen 61 = .ok (.iinc 4 1, 3) := by decide +kernel
theorem dX0_fillRisen_64 : decode cX0_fillRisen 64 = .ok (.goto (-51), 3) := by decide +kernel
theorem dX0_fillRisen_67 : decode cX0_fillRisen 67 = .ok (.return_, 1) := by decide +kernel
theorem dX0_fillProducts_0 : decode cX0_fillProducts 0 = .ok (.iload_n 1, 1) := by decide +kernel
theorem dX0_fillProducts_1 : decode cX0_fillProducts 1 = .ok (.iconst 2, 1) := by decide +kernel
theorem dX0_fillProducts_2 : decode cX0_fillProducts 2 = .ok (.if_icmp .ge 4, 3) := by decide +kernel
theorem dX0_fillProducts_5 : decode cX0_fillProducts 5 = .ok (.return_, 1) := by decide +kernel
theorem dX0_fillProducts_6 : decode cX0_fillProducts 6 = .ok (.iconst 0, 1) := by decide +kernel
theorem dX0_fillProducts_7 : decode cX0_fillProducts 7 = .ok (.istore_n 3, 1) := by decide +kernel
theorem dX0_fillProducts_8 : decode cX0_fillProducts 8 = .ok (.iload_n 3, 1) := by decide +kernel
theorem dX0_fillProducts_9 : decode cX0_fillProducts 9 = .ok (.iload_n 2, 1) := by decide +kernel
theorem dX0_fillProducts_10 : decode cX0_fillProducts 10 = .ok (.if_icmp .ge 114, 3) := by decide +kernel
theorem dX0_fillProducts_13 : decode cX0_fillProducts 13 = .ok (.aload_n 0, 1) := by decide +kernel
theorem dX0_fillProducts_14 : decode cX0_fillProducts 14 = .ok (.getfield 15, 3) := by decide +kernel
theorem dX0_fillProducts_17 : decode cX0_fillProducts 17 = .ok (.iload_n 3, 1) := by decide +kernel
theorem dX0_fillProducts_18 : decode cX0_fillProducts 18 = .ok (.bipush 64, 2) := by decide +kernel
theorem dX0_fillProducts_20 : decode cX0_fillProducts 20 = .ok (.imul, 1) := by decide +kernel
theorem dX0_fillProducts_21 : decode cX0_fillProducts 21 = .ok (.iconst 0, 1) := by decide +kernel
theorem dX0_fillProducts_22 : decode cX0_fillProducts 22 = .ok (.iastore, 1) := by decide +kernel
theorem dX0_fillProducts_23 : decode cX0_fillProducts 23 = .ok (.iconst 1, 1) := by decide +kernel
theorem dX0_fillProducts_24 : decode cX0_fillProducts 24 = .ok (.istore 4, 2) := by decide +kernel
theorem dX0_fillProducts_26 : decode cX0_fillProducts 26 = .ok (.iload 4, 2) := by decide +kernel
theorem dX0_fillProducts_28 : decode cX0_fillProducts 28 = .ok (.iload_n 2, 1) := by decide +kernel
theorem dX0_fillProducts_29 : decode cX0_fillProducts 29 = .ok (.if_icmp .ge 89, 3) := by decide +kernel
theorem dX0_fillProducts_32 : decode cX0_fillProducts 32 = .ok (.iload 4, 2) := by decide +kernel
theorem dX0_fillProducts_34 : decode cX0_fillProducts 34 = .ok (.iload_n 1, 1) := by decide +kernel
theorem dX0_fillProducts_35 : decode cX0_fillProducts 35 = .ok (.if_icmp .ge 20, 3) := by decide +kernel
theorem dX0_fillProducts_38 : decode cX0_fillProducts 38 = .ok (.aload_n 0, 1) := by decide +kernel
theorem dX0_fillProducts_39 : decode cX0_fillProducts 39 = .ok (.aload_n 0, 1) := by decide +kernel
theorem dX0_fillProducts_40 : decode cX0_fillProducts 40 = .ok (.iload_n 3, 1) := by decide +kernel
theorem dX0_fillProducts_41 : decode cX0_fillProducts 41 = .ok (.iload 4, 2) := by decide +kernel
theorem dX0_fillProducts_43 : decode cX0_fillProducts 43 = .ok (.iconst 1, 1) := by decide +kernel
theorem dX0_fillProducts_44 : decode cX0_fillProducts 44 = .ok (.isub, 1) := by decide +kernel
theorem dX0_fillProducts_45 : decode cX0_fillProducts 45 = .ok (.invokevirtual 64, 3) := by decide +kernel
theorem dX0_fillProducts_48 : decode cX0_fillProducts 48 = .ok (.iload_n 3, 1) := by decide +kernel
theorem dX0_fillProducts_49 : decode cX0_fillProducts 49 = .ok (.invokevirtual 61, 3) := by decide +kernel
theorem dX0_fillProducts_52 : decode cX0_fillProducts 52 = .ok (.goto 30, 3) := by decide +kernel
theorem dX0_fillProducts_55 : decode cX0_fillProducts 55 = .ok (.aload_n 0, 1) := by decide +kernel
theorem dX0_fillProducts_56 : decode cX0_fillProducts 56 = .ok (.aload_n 0, 1) := by decide +kernel
theorem dX0_fillProducts_57 : decode cX0_fillProducts 57 = .ok (.getfield 24, 3) := by decide +kernel
theorem dX0_fillProducts_60 : decode cX0_fillProducts 60 = .ok (.aload_n 0, 1) := by decide +kernel
theorem dX0_fillProducts_61 : decode cX0_fillProducts 61 = .ok (.iload_n 3, 1) := by decide +kernel
theorem dX0_fillProducts_62 : decode cX0_fillProducts 62 = .ok (.iload 4, 2) := by decide +kernel
theorem dX0_fillProducts_64 : decode cX0_fillProducts 64 = .ok (.iload_n 1, 1) := by decide +kernel
theorem dX0_fillProducts_65 : decode cX0_fillProducts 65 = .ok (.idiv, 1) := by decide +kernel
theorem dX0_fillProducts_66 : decode cX0_fillProducts 66 = .ok (.invokevirtual 64, 3) := by decide +kernel
theorem dX0_fillProducts_69 : decode cX0_fillProducts 69 = .ok (.iaload, 1) := by decide +kernel
theorem dX0_fillProducts_70 : decode cX0_fillProducts 70 = .ok (.aload_n 0, 1) := by decide +kernel
theorem dX0_fillProducts_71 : decode cX0_fillProducts 71 = .ok (.iload_n 3, 1) := by decide +kernel
theorem dX0_fillProducts_72 : decode cX0_fillProducts 72 = .ok (.iload 4, 2) := by decide +kernel
theorem dX0_fillProducts_74 : decode cX0_fillProducts 74 = .ok (.iload_n 1, 1) := by decide +kernel
theorem dX0_fillProducts_75 : decode cX0_fillProducts 75 = .ok (.irem, 1) := by decide +kernel
theorem dX0_fillProducts_76 : decode cX0_fillProducts 76 = .ok (.invokevirtual 64, 3) := by decide +kernel
theorem dX0_fillProducts_79 : decode cX0_fillProducts 79 = .ok (.invokevirtual 61, 3) := by decide +kernel
theorem dX0_fillProducts_82 : decode cX0_fillProducts 82 = .ok (.istore 5, 2) := by decide +kernel
theorem dX0_fillProducts_84 : decode cX0_fillProducts 84 = .ok (.aload_n 0, 1) := by decide +kernel
theorem dX0_fillProducts_85 : decode cX0_fillProducts 85 = .ok (.getfield 15, 3) := by decide +kernel
theorem dX0_fillProducts_88 : decode cX0_fillProducts 88 = .ok (.iload_n 3, 1) := by decide +kernel
theorem dX0_fillProducts_89 : decode cX0_fillProducts 89 = .ok (.bipush 64, 2) := by decide +kernel
theorem dX0_fillProducts_91 : decode cX0_fillProducts 91 = .ok (.imul, 1) := by decide +kernel
theorem dX0_fillProducts_92 : decode cX0_fillProducts 92 = .ok (.iload 4, 2) := by decide +kernel
theorem dX0_fillProducts_94 : decode cX0_fillProducts 94 = .ok (.iadd, 1) := by decide +kernel
theorem dX0_fillProducts_95 : decode cX0_fillProducts 95 = .ok (.iload 5, 2) := by decide +kernel
theorem dX0_fillProducts_97 : decode cX0_fillProducts 97 = .ok (.iastore, 1) := by decide +kernel
theorem dX0_fillProducts_98 : decode cX0_fillProducts 98 = .ok (.iload 5, 2) := by decide +kernel
theorem dX0_fillProducts_100 : decode cX0_fillProducts 100 = .ok (.iconst 1, 1) := by decide +kernel
theorem dX0_fillProducts_101 : decode cX0_fillProducts 101 = .ok (.if_icmp .ne 11, 3) := by decide +kernel
theorem dX0_fillProducts_104 : decode cX0_fillProducts 104 = .ok (.aload_n 0, 1) := by decide +kernel
theorem dX0_fillProducts_105 : decode cX0_fillProducts 105 = .ok (.getfield 21, 3) := by decide +kernel
theorem dX0_fillProducts_108 : decode cX0_fillProducts 108 = .ok (.iload_n 3, 1) := by decide +kernel
theorem dX0_fillProducts_109 : decode cX0_fillProducts 109 = .ok (.iload 4, 2) := by decide +kernel
theorem dX0_fillProducts_111 : decode cX0_fillProducts 111 = .ok (.iastore, 1) := by decide +kernel
theorem dX0_fillProducts_112 : decode cX0_fillProducts 112 = .ok (.iinc 4 1, 3) := by decide +kernel
theorem dX0_fillProducts_115 : decode cX0_fillProducts 115 = .ok (.goto (-89), 3) := by decide +kernel
theorem dX0_fillProducts_118 : decode cX0_fillProducts 118 = .ok (.iinc 3 1, 3) := by decide +kernel
theorem dX0_fillProducts_121 : decode cX0_fillProducts 121 = .ok (.goto (-113), 3) := by decide +kernel
theorem dX0_fillProducts_124 : decode cX0_fillProducts 124 = .ok (.return_, 1) := by decide +kernel
theorem dX0_sum_0 : decode cX0_sum 0 = .ok (.aload_n 0, 1) := by decide +kernel
theorem dX0_sum_1 : decode cX0_sum 1 = .ok (.getfield 9, 3) := by decide +kernel
theorem dX0_sum_4 : decode cX0_sum 4 = .ok (.iload_n 1, 1) := by decide +kernel
theorem dX0_sum_5 : decode cX0_sum 5 = .ok (.bipush 64, 2) := by decide +kernel
theorem dX0_sum_7 : decode cX0_sum 7 = .ok (.imul, 1) := by decide +kernel
theorem dX0_sum_8 : decode cX0_sum 8 = .ok (.iload_n 2, 1) := by decide +kernel
theorem dX0_sum_9 : decode cX0_sum 9 = .ok (.iadd, 1) := by decide +kernel
theorem dX0_sum_10 : decode cX0_sum 10 = .ok (.iaload, 1) := by decide +kernel
theorem dX0_sum_11 : decode cX0_sum 11 = .ok (.ireturn, 1) := by decide +kernel
theorem dX0_difference_0 : decode cX0_difference 0 = .ok (.aload_n 0, 1) := by decide +kernel
theorem dX0_difference_1 : decode cX0_difference 1 = .ok (.getfield 9, 3) := by decide +kernel
theorem dX0_difference_4 : decode cX0_difference 4 = .ok (.iload_n 1, 1) := by decide +kernel
theorem dX0_difference_5 : decode cX0_difference 5 = .ok (.bipush 64, 2) := by decide +kernel
theorem dX0_difference_7 : decode cX0_difference 7 = .ok (.imul, 1) := by decide +kernel
theorem dX0_difference_8 : decode cX0_difference 8 = .ok (.aload_n 0, 1) := by decide +kernel
theorem dX0_difference_9 : decode cX0_difference 9 = .ok (.getfield 18, 3) := by decide +kernel
theorem dX0_difference_12 : decode cX0_difference 12 = .ok (.iload_n 2, 1) := by decide +kernel
theorem dX0_difference_13 : decode cX0_difference 13 = .ok (.iaload, 1) := by decide +kernel
theorem dX0_difference_14 : decode cX0_difference 14 = .ok (.iadd, 1) := by decide +kernel
theorem dX0_difference_15 : decode cX0_difference 15 = .ok (.iaload, 1) := by decide +kernel
theorem dX0_difference_16 : decode cX0_difference 16 = .ok (.ireturn, 1) := by decide +kernel
theorem dX0_product_0 : decode cX0_product 0 = .ok (.aload_n 0, 1) := by decide +kernel
theorem dX0_product_1 : decode cX0_product 1 = .ok (.getfield 15, 3) := by decide +kernel
theorem dX0_product_4 : decode cX0_product 4 = .ok (.iload_n 1, 1) := by decide +kernel
theorem dX0_product_5 : decode cX0_product 5 = .ok (.bipush 64, 2) := by decide +kernel
theorem dX0_product_7 : decode cX0_product 7 = .ok (.imul, 1) := by decide +kernel
theorem dX0_product_8 : decode cX0_product 8 = .ok (.iload_n 2, 1) := by decide +kernel
theorem dX0_product_9 : decode cX0_product 9 = .ok (.iadd, 1) := by decide +kernel
theorem dX0_product_10 : decode cX0_product 10 = .ok (.iaload, 1) := by decide +kernel
theorem dX0_product_11 : decode cX0_product 11 = .ok (.ireturn, 1) := by decide +kernel
theorem dX0_raised_0 : decode cX0_raised 0 = .ok (.iconst 1, 1) := by decide +kernel
theorem dX0_raised_1 : decode cX0_raised 1 = .ok (.istore_n 3, 1) := by decide +kernel
theorem dX0_raised_2 : decode cX0_raised 2 = .ok (.iload_n 1, 1) := by decide +kernel
theorem dX0_raised_3 : decode cX0_raised 3 = .ok (.istore 4, 2) := by decide +kernel
theorem dX0_raised_5 : decode cX0_raised 5 = .ok (.iload_n 2, 1) := by decide +kernel
theorem dX0_raised_6 : decode cX0_raised 6 = .ok (.istore 5, 2) := by decide +kernel
theorem dX0_raised_8 : decode cX0_raised 8 = .ok (.iload 5, 2) := by decide +kernel
theorem dX0_raised_10 : decode cX0_raised 10 = .ok (.ifCond .le 38, 3) := by decide +kernel
theorem dX0_raised_13 : decode cX0_raised 13 = .ok (.iload 5, 2) := by decide +kernel
theorem dX0_raised_15 : decode cX0_raised 15 = .ok (.iconst 1, 1) := by decide +kernel
theorem dX0_raised_16 : decode cX0_raised 16 = .ok (.iand, 1) := by decide +kernel
theorem dX0_raised_17 : decode cX0_raised 17 = .ok (.iconst 1, 1) := by decide +kernel
theorem dX0_raised_18 : decode cX0_raised 18 = .ok (.if_icmp .ne 11, 3) := by decide +kernel
theorem dX0_raised_21 : decode cX0_raised 21 = .ok (.aload_n 0, 1) := by decide +kernel
theorem dX0_raised_22 : decode cX0_raised 22 = .ok (.iload_n 3, 1) := by decide +kernel
theorem dX0_raised_23 : decode cX0_raised 23 = .ok (.iload 4, 2) := by decide +kernel
theorem dX0_raised_25 : decode cX0_raised 25 = .ok (.invokevirtual 64, 3) := by decide +kernel
theorem dX0_raised_28 : decode cX0_raised 28 = .ok (.istore_n 3, 1) := by decide +kernel
theorem dX0_raised_29 : decode cX0_raised 29 = .ok (.aload_n 0, 1) := by decide +kernel
theorem dX0_raised_30 : decode cX0_raised 30 = .ok (.iload 4, 2) := by decide +kernel
theorem dX0_raised_32 : decode cX0_raised 32 = .ok (.iload 4, 2) := by decide +kernel
theorem dX0_raised_34 : decode cX0_raised 34 = .ok (.invokevirtual 64, 3) := by decide +kernel
theorem dX0_raised_37 : decode cX0_raised 37 = .ok (.istore 4, 2) := by decide +kernel
theorem dX0_raised_39 : decode cX0_raised 39 = .ok (.iload 5, 2) := by decide +kernel
theorem dX0_raised_41 : decode cX0_raised 41 = .ok (.iconst 1, 1) := by decide +kernel
theorem dX0_raised_42 : decode cX0_raised 42 = .ok (.ishr, 1) := by decide +kernel
theorem dX0_raised_43 : decode cX0_raised 43 = .ok (.istore 5, 2) := by decide +kernel
theorem dX0_raised_45 : decode cX0_raised 45 = .ok (.goto (-37), 3) := by decide +kernel
theorem dX0_raised_48 : decode cX0_raised 48 = .ok (.iload_n 3, 1) := by decide +kernel
theorem dX0_raised_49 : decode cX0_raised 49 = .ok (.ireturn, 1) := by decide +kernel
theorem dX0_dicksonAt_0 : decode cX0_dicksonAt 0 = .ok (.aload_n 0, 1) := by decide +kernel
theorem dX0_dicksonAt_1 : decode cX0_dicksonAt 1 = .ok (.iconst 1, 1) := by decide +kernel
theorem dX0_dicksonAt_2 : decode cX0_dicksonAt 2 = .ok (.iconst 1, 1) := by decide +kernel
theorem dX0_dicksonAt_3 : decode cX0_dicksonAt 3 = .ok (.invokevirtual 61, 3) := by decide +kernel
theorem dX0_dicksonAt_6 : decode cX0_dicksonAt 6 = .ok (.istore 4, 2) := by decide +kernel
theorem dX0_dicksonAt_8 : decode cX0_dicksonAt 8 = .ok (.iload_n 3, 1) := by decide +kernel
theorem dX0_dicksonAt_9 : decode cX0_dicksonAt 9 = .ok (.istore 5, 2) := by decide +kernel
theorem dX0_dicksonAt_11 : decode cX0_dicksonAt 11 = .ok (.iconst 1, 1) := by decide +kernel
theorem dX0_dicksonAt_12 : decode cX0_dicksonAt 12 = .ok (.istore 6, 2) := by decide +kernel
theorem dX0_dicksonAt_14 : decode cX0_dicksonAt 14 = .ok (.bipush 13, 2) := by decide +kernel
theorem dX0_dicksonAt_16 : decode cX0_dicksonAt 16 = .ok (.istore 7, 2) := by decide +kernel
theorem dX0_dicksonAt_18 : decode cX0_dicksonAt 18 = .ok (.iload 7, 2) := by decide +kernel
theorem dX0_dicksonAt_20 : decode cX0_dicksonAt 20 = .ok (.ifCond .lt 126, 3) := by decide +kernel
theorem dX0_dicksonAt_23 : decode cX0_dicksonAt 23 = .ok (.aload_n 0, 1) := by decide +kernel
theorem dX0_dicksonAt_24 : decode cX0_dicksonAt 24 = .ok (.aload_n 0, 1) := by decide +kernel
theorem dX0_dicksonAt_25 : decode cX0_dicksonAt 25 = .ok (.iload 4, 2) := by decide +kernel
theorem dX0_dicksonAt_27 : decode cX0_dicksonAt 27 = .ok (.iload 5, 2) := by decide +kernel
theorem dX0_dicksonAt_29 : decode cX0_dicksonAt 29 = .ok (.invokevirtual 64, 3) := by decide +kernel
theorem dX0_dicksonAt_32 : decode cX0_dicksonAt 32 = .ok (.aload_n 0, 1) := by decide +kernel
theorem dX0_dicksonAt_33 : decode cX0_dicksonAt 33 = .ok (.iload 6, 2) := by decide +kernel
theorem dX0_dicksonAt_35 : decode cX0_dicksonAt 35 = .ok (.iload_n 3, 1) := by decide +kernel
theorem dX0_dicksonAt_36 : decode cX0_dicksonAt 36 = .ok (.invokevirtual 64, 3) := by decide +kernel
theorem dX0_dicksonAt_39 : decode cX0_dicksonAt 39 = .ok (.invokevirtual 67, 3) := by decide +kernel
theorem dX0_dicksonAt_42 : decode cX0_dicksonAt 42 = .ok (.istore 8, 2) := by decide +kernel
theorem dX0_dicksonAt_44 : decode cX0_dicksonAt 44 = .ok (.aload_n 0, 1) := by decide +kernel
theorem dX0_dicksonAt_45 : decode cX0_dicksonAt 45 = .ok (.iload 6, 2) := by decide +kernel
theorem dX0_dicksonAt_47 : decode cX0_dicksonAt 47 = .ok (.iload 6, 2) := by decide +kernel
theorem dX0_dicksonAt_49 : decode cX0_dicksonAt 49 = .ok (.invokevirtual 64, 3) := by decide +kernel
theorem dX0_dicksonAt_52 : decode cX0_dicksonAt 52 = .ok (.istore 9, 2) := by decide +kernel
theorem dX0_dicksonAt_54 : decode cX0_dicksonAt 54 = .ok (.iload_n 1, 1) := by decide +kernel
theorem dX0_dicksonAt_55 : decode cX0_dicksonAt 55 = .ok (.iload 7, 2) := by decide +kernel
theorem dX0_dicksonAt_57 : decode cX0_dicksonAt 57 = .ok (.ishr, 1) := by decide +kernel
theorem dX0_dicksonAt_58 : decode cX0_dicksonAt 58 = .ok (.iconst 1, 1) := by decide +kernel
theorem dX0_dicksonAt_59 : decode cX0_dicksonAt 59 = .ok (.iand, 1) := by decide +kernel
theorem dX0_dicksonAt_60 : decode cX0_dicksonAt 60 = .ok (.ifCond .ne 36, 3) := by decide +kernel
theorem dX0_dicksonAt_63 : decode cX0_dicksonAt 63 = .ok (.aload_n 0, 1) := by decide +kernel
theorem dX0_dicksonAt_64 : decode cX0_dicksonAt 64 = .ok (.aload_n 0, 1) := by decide +kernel
theorem dX0_dicksonAt_65 : decode cX0_dicksonAt 65 = .ok (.iload 4, 2) := by decide +kernel
theorem dX0_dicksonAt_67 : decode cX0_dicksonAt 67 = .ok (.iload 4, 2) := by decide +kernel
theorem dX0_dicksonAt_69 : decode cX0_dicksonAt 69 = .ok (.invokevirtual 64, 3) := by decide +kernel
theorem dX0_dicksonAt_72 : decode cX0_dicksonAt 72 = .ok (.aload_n 0, 1) := by decide +kernel
theorem dX0_dicksonAt_73 : decode cX0_dicksonAt 73 = .ok (.iload 6, 2) := by decide +kernel
theorem dX0_dicksonAt_75 : decode cX0_dicksonAt 75 = .ok (.iload 6, 2) := by decide +kernel
theorem dX0_dicksonAt_77 : decode cX0_dicksonAt 77 = .ok (.invokevirtual 61, 3) := by decide +kernel
theorem dX0_dicksonAt_80 : decode cX0_dicksonAt 80 = .ok (.invokevirtual 67, 3) := by decide +kernel
theorem dX0_dicksonAt_83 : decode cX0_dicksonAt 83 = .ok (.istore 4, 2) := by decide +kernel
theorem dX0_dicksonAt_85 : decode cX0_dicksonAt 85 = .ok (.iload 8, 2) := by decide +kernel
theorem dX0_dicksonAt_87 : decode cX0_dicksonAt 87 = .ok (.istore 5, 2) := by decide +kernel
theorem dX0_dicksonAt_89 : decode cX0_dicksonAt 89 = .ok (.iload 9, 2) := by decide +kernel
theorem dX0_dicksonAt_91 : decode cX0_dicksonAt 91 = .ok (.istore 6, 2) := by decide +kernel
theorem dX0_dicksonAt_93 : decode cX0_dicksonAt 93 = .ok (.goto 47, 3) := by decide +kernel
theorem dX0_dicksonAt_96 : decode cX0_dicksonAt 96 = .ok (.aload_n 0, 1) := by decide +kernel
theorem dX0_dicksonAt_97 : decode cX0_dicksonAt 97 = .ok (.iload 6, 2) := by decide +kernel
theorem dX0_dicksonAt_99 : decode cX0_dicksonAt 99 = .ok (.iload_n 2, 1) := by decide +kernel
theorem dX0_dicksonAt_100 : decode cX0_dicksonAt 100 = .ok (.invokevirtual 64, 3) := by decide +kernel
theorem dX0_dicksonAt_103 : decode cX0_dicksonAt 103 = .ok (.istore 10, 2) := by decide +kernel
theorem dX0_dicksonAt_105 : decode cX0_dicksonAt 105 = .ok (.iload 8, 2) := by decide +kernel
theorem dX0_dicksonAt_107 : decode cX0_dicksonAt 107 = .ok (.istore 4, 2) := by decide +kernel
theorem dX0_dicksonAt_109 : decode cX0_dicksonAt 109 = .ok (.aload_n 0, 1) := by decide +kernel
theorem dX0_dicksonAt_110 : decode cX0_dicksonAt 110 = .ok (.aload_n 0, 1) := by decide +kernel
theorem dX0_dicksonAt_111 : decode cX0_dicksonAt 111 = .ok (.iload 5, 2) := by decide +kernel
theorem dX0_dicksonAt_113 : decode cX0_dicksonAt 113 = .ok (.iload 5, 2) := by decide +kernel
theorem dX0_dicksonAt_115 : decode cX0_dicksonAt 115 = .ok (.invokevirtual 64, 3) := by decide +kernel
theorem dX0_dicksonAt_118 : decode cX0_dicksonAt 118 = .ok (.aload_n 0, 1) := by decide +kernel
theorem dX0_dicksonAt_119 : decode cX0_dicksonAt 119 = .ok (.iload 10, 2) := by decide +kernel
theorem dX0_dicksonAt_121 : decode cX0_dicksonAt 121 = .ok (.iload 10, 2) := by decide +kernel
theorem dX0_dicksonAt_123 : decode cX0_dicksonAt 123 = .ok (.invokevirtual 61, 3) := by decide +kernel
theorem dX0_dicksonAt_126 : decode cX0_dicksonAt 126 = .ok (.invokevirtual 67, 3) := by decide +kernel
theorem dX0_dicksonAt_129 : decode cX0_dicksonAt 129 = .ok (.istore 5, 2) := by decide +kernel
theorem dX0_dicksonAt_131 : decode cX0_dicksonAt 131 = .ok (.aload_n 0, 1) := by decide +kernel
theorem dX0_dicksonAt_132 : decode cX0_dicksonAt 132 = .ok (.iload 9, 2) := by decide +kernel
theorem dX0_dicksonAt_134 : decode cX0_dicksonAt 134 = .ok (.iload_n 2, 1) := by decide +kernel
theorem dX0_dicksonAt_135 : decode cX0_dicksonAt 135 = .ok (.invokevirtual 64, 3) := by decide +kernel
theorem dX0_dicksonAt_138 : decode cX0_dicksonAt 138 = .ok (.istore 6, 2) := by decide +kernel
theorem dX0_dicksonAt_140 : decode cX0_dicksonAt 140 = .ok (.iinc 7 (-1), 3) := by decide +kernel
theorem dX0_dicksonAt_143 : decode cX0_dicksonAt 143 = .ok (.goto (-125), 3) := by decide +kernel
theorem dX0_dicksonAt_146 : decode cX0_dicksonAt 146 = .ok (.iload 4, 2) := by decide +kernel
theorem dX0_dicksonAt_148 : decode cX0_dicksonAt 148 = .ok (.ireturn, 1) := by decide +kernel
theorem dX1_init_0 : decode cX1_init 0 = .ok (.aload_n 0, 1) := by decide +kernel
theorem dX1_init_1 : decode cX1_init 1 = .ok (.invokespecial 3, 3) := by decide +kernel
theorem dX1_init_4 : decode cX1_init 4 = .ok (.aload_n 0, 1) := by decide +kernel
theorem dX1_init_5 : decode cX1_init 5 = .ok (.bipush 8, 2) := by decide +kernel
theorem dX1_init_7 : decode cX1_init 7 = .ok (.anewarray 9, 3) := by decide +kernel
theorem dX1_init_10 : decode cX1_init 10 = .ok (.putfield 11, 3) := by decide +kernel
theorem dX1_init_13 : decode cX1_init 13 = .ok (.iconst 0, 1) := by decide +kernel
theorem dX1_init_14 : decode cX1_init 14 = .ok (.istore_n 1, 1) := by decide +kernel
theorem dX1_init_15 : decode cX1_init 15 = .ok (.iload_n 1, 1) := by decide +kernel
theorem dX1_init_16 : decode cX1_init 16 = .ok (.bipush 8, 2) := by decide +kernel
theorem dX1_init_18 : decode cX1_init 18 = .ok (.if_icmp .ge 22, 3) := by decide +kernel
theorem dX1_init_21 : decode cX1_init 21 = .ok (.aload_n 0, 1) := by decide +kernel
theorem dX1_init_22 : decode cX1_init 22 = .ok (.getfield 11, 3) := by decide +kernel
theorem dX1_init_25 : decode cX1_init 25 = .ok (.iload_n 1, 1) := by decide +kernel
theorem dX1_init_26 : decode cX1_init 26 = .ok (.new 9, 3) := by decide +kernel
theorem dX1_init_29 : decode cX1_init 29 = .ok (.dup, 1) := by decide +kernel
theorem dX1_init_30 : decode cX1_init 30 = .ok (.invokespecial 17, 3) := by decide +kernel
theorem dX1_init_33 : decode cX1_init 33 = .ok (.aastore, 1) := by decide +kernel
theorem dX1_init_34 : decode cX1_init 34 = .ok (.iinc 1 1, 3) := by decide +kernel
theorem dX1_init_37 : decode cX1_init 37 = .ok (.goto (-22), 3) := by decide +kernel
theorem dX1_init_40 : decode cX1_init 40 = .ok (.return_, 1) := by decide +kernel
theorem dX1_keep_0 : decode cX1_keep 0 = .ok (.aload_n 0, 1) := by decide +kernel
theorem dX1_keep_1 : decode cX1_keep 1 = .ok (.getfield 11, 3) := by decide +kernel
theorem dX1_keep_4 : decode cX1_keep 4 = .ok (.aload_n 0, 1) := by decide +kernel
theorem dX1_keep_5 : decode cX1_keep 5 = .ok (.getfield 18, 3) := by decide +kernel
theorem dX1_keep_8 : decode cX1_keep 8 = .ok (.aaload, 1) := by decide +kernel
theorem dX1_keep_9 : decode cX1_keep 9 = .ok (.aload_n 1, 1) := by decide +kernel
theorem dX1_keep_10 : decode cX1_keep 10 = .ok (.invokevirtual 22, 3) := by decide +kernel
theorem dX1_keep_13 : decode cX1_keep 13 = .ok (.aload_n 0, 1) := by decide +kernel
theorem dX1_keep_14 : decode cX1_keep 14 = .ok (.aload_n 0, 1) := by decide +kernel
theorem dX1_keep_15 : decode cX1_keep 15 = .ok (.getfield 18, 3) := by decide +kernel
theorem dX1_keep_18 : decode cX1_keep 18 = .ok (.iconst 1, 1) := by decide +kernel
theorem dX1_keep_19 : decode cX1_keep 19 = .ok (.iadd, 1) := by decide +kernel
theorem dX1_keep_20 : decode cX1_keep 20 = .ok (.bipush 8, 2) := by decide +kernel
theorem dX1_keep_22 : decode cX1_keep 22 = .ok (.if_icmp .ge 12, 3) := by decide +kernel
theorem dX1_keep_25 : decode cX1_keep 25 = .ok (.aload_n 0, 1) := by decide +kernel
theorem dX1_keep_26 : decode cX1_keep 26 = .ok (.getfield 18, 3) := by decide +kernel
theorem dX1_keep_29 : decode cX1_keep 29 = .ok (.iconst 1, 1) := by decide +kernel
theorem dX1_keep_30 : decode cX1_keep 30 = .ok (.iadd, 1) := by decide +kernel
theorem dX1_keep_31 : decode cX1_keep 31 = .ok (.goto 4, 3) := by decide +kernel
theorem dX1_keep_34 : decode cX1_keep 34 = .ok (.iconst 0, 1) := by decide +kernel
theorem dX1_keep_35 : decode cX1_keep 35 = .ok (.putfield 18, 3) := by decide +kernel
theorem dX1_keep_38 : decode cX1_keep 38 = .ok (.aload_n 0, 1) := by decide +kernel
theorem dX1_keep_39 : decode cX1_keep 39 = .ok (.aload_n 0, 1) := by decide +kernel
theorem dX1_keep_40 : decode cX1_keep 40 = .ok (.getfield 26, 3) := by decide +kernel
theorem dX1_keep_43 : decode cX1_keep 43 = .ok (.bipush 8, 2) := by decide +kernel
theorem dX1_keep_45 : decode cX1_keep 45 = .ok (.if_icmp .ge 12, 3) := by decide +kernel
theorem dX1_keep_48 : decode cX1_keep 48 = .ok (.aload_n 0, 1) := by decide +kernel
theorem dX1_keep_49 : decode cX1_keep 49 = .ok (.getfield 26, 3) := by decide +kernel
theorem dX1_keep_52 : decode cX1_keep 52 = .ok (.iconst 1, 1) := by decide +kernel
theorem dX1_keep_53 : decode cX1_keep 53 = .ok (.iadd, 1) := by decide +kernel
theorem dX1_keep_54 : decode cX1_keep 54 = .ok (.goto 5, 3) := by decide +kernel
theorem dX1_keep_57 : decode cX1_keep 57 = .ok (.bipush 8, 2) := by decide +kernel
theorem dX1_keep_59 : decode cX1_keep 59 = .ok (.putfield 26, 3) := by decide +kernel
theorem dX1_keep_62 : decode cX1_keep 62 = .ok (.return_, 1) := by decide +kernel
theorem dX1_takeLast_0 : decode cX1_takeLast 0 = .ok (.aload_n 0, 1) := by decide +kernel
theorem dX1_takeLast_1 : decode cX1_takeLast 1 = .ok (.getfield 26, 3) := by decide +kernel
theorem dX1_takeLast_4 : decode cX1_takeLast 4 = .ok (.ifCond .ne 5, 3) := by decide +kernel
theorem dX1_takeLast_7 : decode cX1_takeLast 7 = .ok (.aconst_null, 1) := by decide +kernel
theorem dX1_takeLast_8 : decode cX1_takeLast 8 = .ok (.areturn, 1) := by decide +kernel
theorem dX1_takeLast_9 : decode cX1_takeLast 9 = .ok (.aload_n 0, 1) := by decide +kernel
theorem dX1_takeLast_10 : decode cX1_takeLast 10 = .ok (.dup, 1) := by decide +kernel
theorem dX1_takeLast_11 : decode cX1_takeLast 11 = .ok (.getfield 26, 3) := by decide +kernel
theorem dX1_takeLast_14 : decode cX1_takeLast 14 = .ok (.iconst 1, 1) := by decide +kernel
theorem dX1_takeLast_15 : decode cX1_takeLast 15 = .ok (.isub, 1) := by decide +kernel
theorem dX1_takeLast_16 : decode cX1_takeLast 16 = .ok (.putfield 26, 3) := by decide +kernel
theorem dX1_takeLast_19 : decode cX1_takeLast 19 = .ok (.aload_n 0, 1) := by decide +kernel
theorem dX1_takeLast_20 : decode cX1_takeLast 20 = .ok (.aload_n 0, 1) := by decide +kernel
theorem dX1_takeLast_21 : decode cX1_takeLast 21 = .ok (.getfield 18, 3) := by decide +kernel
theorem dX1_takeLast_24 : decode cX1_takeLast 24 = .ok (.ifCond .le 12, 3) := by decide +kernel
theorem dX1_takeLast_27 : decode cX1_takeLast 27 = .ok (.aload_n 0, 1) := by decide +kernel
theorem dX1_takeLast_28 : decode cX1_takeLast 28 = .ok (.getfield 18, 3) := by decide +kernel
theorem dX1_takeLast_31 : decode cX1_takeLast 31 = .ok (.iconst 1, 1) := by decide +kernel
theorem dX1_takeLast_32 : decode cX1_takeLast 32 = .ok (.isub, 1) := by decide +kernel
theorem dX1_takeLast_33 : decode cX1_takeLast 33 = .ok (.goto 5, 3) := by decide +kernel
theorem dX1_takeLast_36 : decode cX1_takeLast 36 = .ok (.bipush 7, 2) := by decide +kernel
theorem dX1_takeLast_38 : decode cX1_takeLast 38 = .ok (.putfield 18, 3) := by decide +kernel
theorem dX1_takeLast_41 : decode cX1_takeLast 41 = .ok (.aload_n 0, 1) := by decide +kernel
theorem dX1_takeLast_42 : decode cX1_takeLast 42 = .ok (.getfield 11, 3) := by decide +kernel
theorem dX1_takeLast_45 : decode cX1_takeLast 45 = .ok (.aload_n 0, 1) := by decide +kernel
theorem dX1_takeLast_46 : decode cX1_takeLast 46 = .ok (.getfield 18, 3) := by decide +kernel
theorem dX1_takeLast_49 : decode cX1_takeLast 49 = .ok (.aaload, 1) := by decide +kernel
theorem dX1_takeLast_50 : decode cX1_takeLast 50 = .ok (.areturn, 1) := by decide +kernel
theorem dX2_init_0 : decode cX2_init 0 = .ok (.aload_n 0, 1) := by decide +kernel
theorem dX2_init_1 : decode cX2_init 1 = .ok (.invokespecial 3, 3) := by decide +kernel
theorem dX2_init_4 : decode cX2_init 4 = .ok (.aload_n 0, 1) := by decide +kernel
theorem dX2_init_5 : decode cX2_init 5 = .ok (.aload_n 1, 1) := by decide +kernel
theorem dX2_init_6 : decode cX2_init 6 = .ok (.putfield 9, 3) := by decide +kernel
theorem dX2_init_9 : decode cX2_init 9 = .ok (.aload_n 0, 1) := by decide +kernel
theorem dX2_init_10 : decode cX2_init 10 = .ok (.aload_n 2, 1) := by decide +kernel
theorem dX2_init_11 : decode cX2_init 11 = .ok (.putfield 15, 3) := by decide +kernel
theorem dX2_init_14 : decode cX2_init 14 = .ok (.aload_n 0, 1) := by decide +kernel
theorem dX2_init_15 : decode cX2_init 15 = .ok (.aload_n 3, 1) := by decide +kernel
theorem dX2_init_16 : decode cX2_init 16 = .ok (.putfield 19, 3) := by decide +kernel
theorem dX2_init_19 : decode cX2_init 19 = .ok (.aload_n 0, 1) := by decide +kernel
theorem dX2_init_20 : decode cX2_init 20 = .ok (.iconst 5, 1) := by decide +kernel
theorem dX2_init_21 : decode cX2_init 21 = .ok (.bipush 64, 2) := by decide +kernel
theorem dX2_init_23 : decode cX2_init 23 = .ok (.multianewarray 23 2, 4) := by decide +kernel
theorem dX2_init_27 : decode cX2_init 27 = .ok (.putfield 25, 3) := by decide +kernel
theorem dX2_init_30 : decode cX2_init 30 = .ok (.aload_n 0, 1) := by decide +kernel
theorem dX2_init_31 : decode cX2_init 31 = .ok (.iconst 5, 1) := by decide +kernel
theorem dX2_init_32 : decode cX2_init 32 = .ok (.bipush 64, 2) := by decide +kernel
theorem dX2_init_34 : decode cX2_init 34 = .ok (.multianewarray 23 2, 4) := by decide +kernel
theorem dX2_init_38 : decode cX2_init 38 = .ok (.putfield 28, 3) := by decide +kernel
theorem dX2_init_41 : decode cX2_init 41 = .ok (.aload_n 0, 1) := by decide +kernel
theorem dX2_init_42 : decode cX2_init 42 = .ok (.iconst 5, 1) := by decide +kernel
theorem dX2_init_43 : decode cX2_init 43 = .ok (.bipush 64, 2) := by decide +kernel
theorem dX2_init_45 : decode cX2_init 45 = .ok (.multianewarray 23 2, 4) := by decide +kernel
theorem dX2_init_49 : decode cX2_init 49 = .ok (.putfield 31, 3) := by decide +kernel
theorem dX2_init_52 : decode cX2_init 52 = .ok (.return_, 1) := by decide +kernel
theorem dX2_read_0 : decode cX2_read 0 = .ok (.aload_n 0, 1) := by decide +kernel
theorem dX2_read_1 : decode cX2_read 1 = .ok (.iconst 0, 1) := by decide +kernel
theorem dX2_read_2 : decode cX2_read 2 = .ok (.putfield 34, 3) := by decide +kernel
theorem dX2_read_5 : decode cX2_read 5 = .ok (.aload_n 0, 1) := by decide +kernel
theorem dX2_read_6 : decode cX2_read 6 = .ok (.iconst (-1), 1) := by decide +kernel
theorem dX2_read_7 : decode cX2_read 7 = .ok (.putfield 38, 3) := by decide +kernel
theorem dX2_read_10 : decode cX2_read 10 = .ok (.aload_n 0, 1) := by decide +kernel
theorem dX2_read_11 : decode cX2_read 11 = .ok (.getfield 19, 3) := by decide +kernel
theorem dX2_read_14 : decode cX2_read 14 = .ok (.iconst 0, 1) := by decide +kernel
theorem dX2_read_15 : decode cX2_read 15 = .ok (.putfield 41, 3) := by decide +kernel
theorem dX2_read_18 : decode cX2_read 18 = .ok (.aload_n 0, 1) := by decide +kernel
theorem dX2_read_19 : decode cX2_read 19 = .ok (.invokevirtual 46, 3) := by decide +kernel
theorem dX2_read_22 : decode cX2_read 22 = .ok (.ifCond .ne 5, 3) := by decide +kernel
theorem dX2_read_25 : decode cX2_read 25 = .ok (.iconst 0, 1) := by decide +kernel
theorem dX2_read_26 : decode cX2_read 26 = .ok (.ireturn, 1) := by decide +kernel
theorem dX2_read_27 : decode cX2_read 27 = .ok (.iconst 0, 1) := by decide +kernel
theorem dX2_read_28 : decode cX2_read 28 = .ok (.istore_n 1, 1) := by decide +kernel
theorem dX2_read_29 : decode cX2_read 29 = .ok (.iload_n 1, 1) := by decide +kernel
theorem dX2_read_30 : decode cX2_read 30 = .ok (.bipush 6, 2) := by decide +kernel
theorem dX2_read_32 : decode cX2_read 32 = .ok (.if_icmp .gt 121, 3) := by decide +kernel
theorem dX2_read_35 : decode cX2_read 35 = .ok (.aload_n 0, 1) := by decide +kernel
theorem dX2_read_36 : decode cX2_read 36 = .ok (.getfield 9, 3) := by decide +kernel
theorem dX2_read_39 : decode cX2_read 39 = .ok (.getfield 50, 3) := by decide +kernel
theorem dX2_read_42 : decode cX2_read 42 = .ok (.ifCond .eq 111, 3) := by decide +kernel
theorem dX2_read_45 : decode cX2_read 45 = .ok (.aload_n 0, 1) := by decide +kernel
theorem dX2_read_46 : decode cX2_read 46 = .ok (.getfield 9, 3) := by decide +kernel
theorem dX2_read_49 : decode cX2_read 49 = .ok (.getfield 50, 3) := by decide +kernel
theorem dX2_read_52 : decode cX2_read 52 = .ok (.iconst 3, 1) := by decide +kernel
theorem dX2_read_53 : decode cX2_read 53 = .ok (.if_icmp .eq 9, 3) := by decide +kernel
theorem dX2_read_56 : decode cX2_read 56 = .ok (.aload_n 0, 1) := by decide +kernel
theorem dX2_read_57 : decode cX2_read 57 = .ok (.iconst 1, 1) := by decide +kernel
theorem dX2_read_58 : decode cX2_read 58 = .ok (.invokevirtual 55, 3) := by decide +kernel
theorem dX2_read_61 : decode cX2_read 61 = .ok (.ireturn, 1) := by decide +kernel
theorem dX2_read_62 : decode cX2_read 62 = .ok (.aload_n 0, 1) := by decide +kernel
theorem dX2_read_63 : decode cX2_read 63 = .ok (.getfield 19, 3) := by decide +kernel
theorem dX2_read_66 : decode cX2_read 66 = .ok (.getfield 41, 3) := by decide +kernel
theorem dX2_read_69 : decode cX2_read 69 = .ok (.bipush 6, 2) := by decide +kernel
theorem dX2_read_71 : decode cX2_read 71 = .ok (.if_icmp .lt 9, 3) := by decide +kernel
theorem dX2_read_74 : decode cX2_read 74 = .ok (.aload_n 0, 1) := by decide +kernel
theorem dX2_read_75 : decode cX2_read 75 = .ok (.iconst 3, 1) := by decide +kernel
theorem dX2_read_76 : decode cX2_read 76 = .ok (.invokevirtual 55, 3) := by decide +kernel
theorem dX2_read_79 : decode cX2_read 79 = .ok (.ireturn, 1) := by decide +kernel
theorem dX2_read_80 : decode cX2_read 80 = .ok (.aload_n 0, 1) := by decide +kernel
theorem dX2_read_81 : decode cX2_read 81 = .ok (.getfield 9, 3) := by decide +kernel
theorem dX2_read_84 : decode cX2_read 84 = .ok (.invokevirtual 59, 3) := by decide +kernel
theorem dX2_read_87 : decode cX2_read 87 = .ok (.aload_n 0, 1) := by decide +kernel
theorem dX2_read_88 : decode cX2_read 88 = .ok (.iconst 0, 1) := by decide +kernel
theorem dX2_read_89 : decode cX2_read 89 = .ok (.invokevirtual 62, 3) := by decide +kernel
theorem dX2_read_92 : decode cX2_read 92 = .ok (.ifCond .eq 12, 3) := by decide +kernel
theorem dX2_read_95 : decode cX2_read 95 = .ok (.aload_n 0, 1) := by decide +kernel
theorem dX2_read_96 : decode cX2_read 96 = .ok (.bipush 59, 2) := by decide +kernel
theorem dX2_read_98 : decode cX2_read 98 = .ok (.invokevirtual 65, 3) := by decide +kernel
theorem dX2_read_101 : decode cX2_read 101 = .ok (.ifCond .ne 5, 3) := by decide +kernel
theorem dX2_read_104 : decode cX2_read 104 = .ok (.iconst 0, 1) := by decide +kernel
theorem dX2_read_105 : decode cX2_read 105 = .ok (.ireturn, 1) := by decide +kernel
theorem dX2_read_106 : decode cX2_read 106 = .ok (.aload_n 0, 1) := by decide +kernel
theorem dX2_read_107 : decode cX2_read 107 = .ok (.getfield 25, 3) := by decide +kernel
theorem dX2_read_110 : decode cX2_read 110 = .ok (.iconst 0, 1) := by decide +kernel
theorem dX2_read_111 : decode cX2_read 111 = .ok (.aaload, 1) := by decide +kernel
theorem dX2_read_112 : decode cX2_read 112 = .ok (.iconst 0, 1) := by decide +kernel
theorem dX2_read_113 : decode cX2_read 113 = .ok (.aload_n 0, 1) := by decide +kernel
theorem dX2_read_114 : decode cX2_read 114 = .ok (.getfield 19, 3) := by decide +kernel
theorem dX2_read_117 : decode cX2_read 117 = .ok (.getfield 68, 3) := by decide +kernel
theorem dX2_read_120 : decode cX2_read 120 = .ok (.aload_n 0, 1) := by decide +kernel
theorem dX2_read_121 : decode cX2_read 121 = .ok (.getfield 19, 3) := by decide +kernel
theorem dX2_read_124 : decode cX2_read 124 = .ok (.getfield 41, 3) := by decide +kernel
theorem dX2_read_127 : decode cX2_read 127 = .ok (.aaload, 1) := by decide +kernel
theorem dX2_read_128 : decode cX2_read 128 = .ok (.iconst 0, 1) := by decide +kernel
theorem dX2_read_129 : decode cX2_read 129 = .ok (.bipush 64, 2) := by decide +kernel
theorem dX2_read_131 : decode cX2_read 131 = .ok (.invokestatic 71, 3) := by decide +kernel
theorem dX2_read_134 : decode cX2_read 134 = .ok (.aload_n 0, 1) := by decide +kernel
theorem dX2_read_135 : decode cX2_read 135 = .ok (.getfield 19, 3) := by decide +kernel
theorem dX2_read_138 : decode cX2_read 138 = .ok (.dup, 1) := by decide +kernel
theorem dX2_read_139 : decode cX2_read 139 = .ok (.getfield 41, 3) := by decide +kernel
theorem dX2_read_142 : decode cX2_read 142 = .ok (.iconst 1, 1) := by decide +kernel
theorem dX2_read_143 : decode cX2_read 143 = .ok (.iadd, 1) := by decide +kernel
theorem dX2_read_144 : decode cX2_read 144 = .ok (.putfield 41, 3) := by decide +kernel
theorem dX2_read_147 : decode cX2_read 147 = .ok (.iinc 1 1, 3) := by decide +kernel
theorem dX2_read_150 : decode cX2_read 150 = .ok (.goto (-121), 3) := by decide +kernel
theorem dX2_read_153 : decode cX2_read 153 = .ok (.iconst 1, 1) := by decide +kernel
theorem dX2_read_154 : decode cX2_read 154 = .ok (.ireturn, 1) := by decide +kernel
theorem dX2_refuse_0 : decode cX2_refuse 0 = .ok (.aload_n 0, 1) := by decide +kernel
theorem dX2_refuse_1 : decode cX2_refuse 1 = .ok (.iload_n 1, 1) := by decide +kernel
theorem dX2_refuse_2 : decode cX2_refuse 2 = .ok (.putfield 34, 3) := by decide +kernel
theorem dX2_refuse_5 : decode cX2_refuse 5 = .ok (.aload_n 0, 1) := by decide +kernel
theorem dX2_refuse_6 : decode cX2_refuse 6 = .ok (.aload_n 0, 1) := by decide +kernel
theorem dX2_refuse_7 : decode cX2_refuse 7 = .ok (.getfield 9, 3) := by decide +kernel
theorem dX2_refuse_10 : decode cX2_refuse 10 = .ok (.getfield 77, 3) := by decide +kernel
theorem dX2_refuse_13 : decode cX2_refuse 13 = .ok (.putfield 38, 3) := by decide +kernel
theorem dX2_refuse_16 : decode cX2_refuse 16 = .ok (.iconst 0, 1) := by decide +kernel
theorem dX2_refuse_17 : decode cX2_refuse 17 = .ok (.ireturn, 1) := by decide +kernel
theorem dX2_takeSign_0 : decode cX2_takeSign 0 = .ok (.aload_n 0, 1) := by decide +kernel
theorem dX2_takeSign_1 : decode cX2_takeSign 1 = .ok (.getfield 9, 3) := by decide +kernel
theorem dX2_takeSign_4 : decode cX2_takeSign 4 = .ok (.getfield 50, 3) := by decide +kernel
theorem dX2_takeSign_7 : decode cX2_takeSign 7 = .ok (.iload_n 1, 1) := by decide +kernel
theorem dX2_takeSign_8 : decode cX2_takeSign 8 = .ok (.if_icmp .eq 9, 3) := by decide +kernel
theorem dX2_takeSign_11 : decode cX2_takeSign 11 = .ok (.aload_n 0, 1) := by decide +kernel
theorem dX2_takeSign_12 : decode cX2_takeSign 12 = .ok (.iconst 1, 1) := by decide +kernel
theorem dX2_takeSign_13 : decode cX2_takeSign 13 = .ok (.invokevirtual 55, 3) := by decide +kernel
theorem dX2_takeSign_16 : decode cX2_takeSign 16 = .ok (.ireturn, 1) := by decide +kernel
theorem dX2_takeSign_17 : decode cX2_takeSign 17 = .ok (.aload_n 0, 1) := by decide +kernel
theorem dX2_takeSign_18 : decode cX2_takeSign 18 = .ok (.getfield 9, 3) := by decide +kernel
theorem dX2_takeSign_21 : decode cX2_takeSign 21 = .ok (.invokevirtual 59, 3) := by decide +kernel
theorem dX2_takeSign_24 : decode cX2_takeSign 24 = .ok (.iconst 1, 1) := by decide +kernel
theorem dX2_takeSign_25 : decode cX2_takeSign 25 = .ok (.ireturn, 1) := by decide +kernel
theorem dX2_seeNumber_0 : decode cX2_seeNumber 0 = .ok (.aload_n 0, 1) := by decide +kernel
theorem dX2_seeNumber_1 : decode cX2_seeNumber 1 = .ok (.getfield 9, 3) := by decide +kernel
theorem dX2_seeNumber_4 : decode cX2_seeNumber 4 = .ok (.getfield 50, 3) := by decide +kernel
theorem dX2_seeNumber_7 : decode cX2_seeNumber 7 = .ok (.iconst 1, 1) := by decide +kernel
theorem dX2_seeNumber_8 : decode cX2_seeNumber 8 = .ok (.if_icmp .eq 9, 3) := by decide +kernel
theorem dX2_seeNumber_11 : decode cX2_seeNumber 11 = .ok (.aload_n 0, 1) := by decide +kernel
theorem dX2_seeNumber_12 : decode cX2_seeNumber 12 = .ok (.iconst 1, 1) := by decide +kernel
theorem dX2_seeNumber_13 : decode cX2_seeNumber 13 = .ok (.invokevirtual 55, 3) := by decide +kernel
theorem dX2_seeNumber_16 : decode cX2_seeNumber 16 = .ok (.ireturn, 1) := by decide +kernel
theorem dX2_seeNumber_17 : decode cX2_seeNumber 17 = .ok (.aload_n 0, 1) := by decide +kernel
theorem dX2_seeNumber_18 : decode cX2_seeNumber 18 = .ok (.getfield 9, 3) := by decide +kernel
theorem dX2_seeNumber_21 : decode cX2_seeNumber 21 = .ok (.getfield 80, 3) := by decide +kernel
theorem dX2_seeNumber_24 : decode cX2_seeNumber 24 = .ok (.iload_n 1, 1) := by decide +kernel
theorem dX2_seeNumber_25 : decode cX2_seeNumber 25 = .ok (.if_icmp .le 11, 3) := by decide +kernel
theorem dX2_seeNumber_28 : decode cX2_seeNumber 28 = .ok (.aload_n 0, 1) := by decide +kernel
theorem dX2_seeNumber_29 : decode cX2_seeNumber 29 = .ok (.iconst 2, 1) := by decide +kernel
theorem dX2_seeNumber_30 : decode cX2_seeNumber 30 = .ok (.invokevirtual 55, 3) := by decide +kernel
theorem dX2_seeNumber_33 : decode cX2_seeNumber 33 = .ok (.ifCond .eq 7, 3) := by decide +kernel
theorem dX2_seeNumber_36 : decode cX2_seeNumber 36 = .ok (.iconst 1, 1) := by decide +kernel
theorem dX2_seeNumber_37 : decode cX2_seeNumber 37 = .ok (.goto 4, 3) := by decide +kernel
theorem dX2_seeNumber_40 : decode cX2_seeNumber 40 = .ok (.iconst 0, 1) := by decide +kernel
theorem dX2_seeNumber_41 : decode cX2_seeNumber 41 = .ok (.ireturn, 1) := by decide +kernel
theorem dX2_readField_0 : decode cX2_readField 0 = .ok (.aload_n 0, 1) := by decide +kernel
theorem dX2_readField_1 : decode cX2_readField 1 = .ok (.getfield 9, 3) := by decide +kernel
theorem dX2_readField_4 : decode cX2_readField 4 = .ok (.getfield 50, 3) := by decide +kernel
theorem dX2_readField_7 : decode cX2_readField 7 = .ok (.iconst 2, 1) := by decide +kernel
theorem dX2_readField_8 : decode cX2_readField 8 = .ok (.if_icmp .eq 9, 3) := by decide +kernel
theorem dX2_readField_11 : decode cX2_readField 11 = .ok (.aload_n 0, 1) := by decide +kernel
theorem dX2_readField_12 : decode cX2_readField 12 = .ok (.iconst 1, 1) := by decide +kernel
theorem dX2_readField_13 : decode cX2_readField 13 = .ok (.invokevirtual 55, 3) := by decide +kernel
theorem dX2_readField_16 : decode cX2_readField 16 = .ok (.ireturn, 1) := by decide +kernel
theorem dX2_readField_17 : decode cX2_readField 17 = .ok (.aload_n 0, 1) := by decide +kernel
theorem dX2_readField_18 : decode cX2_readField 18 = .ok (.getfield 9, 3) := by decide +kernel
theorem dX2_readField_21 : decode cX2_readField 21 = .ok (.invokevirtual 59, 3) := by decide +kernel
theorem dX2_readField_24 : decode cX2_readField 24 = .ok (.aload_n 0, 1) := by decide +kernel
theorem dX2_readField_25 : decode cX2_readField 25 = .ok (.bipush 64, 2) := by decide +kernel
theorem dX2_readField_27 : decode cX2_readField 27 = .ok (.invokevirtual 83, 3) := by decide +kernel
theorem dX2_readField_30 : decode cX2_readField 30 = .ok (.ifCond .ne 5, 3) := by decide +kernel
theorem dX2_readField_33 : decode cX2_readField 33 = .ok (.iconst 0, 1) := by decide +kernel
theorem dX2_readField_34 : decode cX2_readField 34 = .ok (.ireturn, 1) := by decide +kernel
theorem dX2_readField_35 : decode cX2_readField 35 = .ok (.aload_n 0, 1) := by decide +kernel
theorem dX2_readField_36 : decode cX2_readField 36 = .ok (.getfield 9, 3) := by decide +kernel
theorem dX2_readField_39 : decode cX2_readField 39 = .ok (.getfield 80, 3) := by decide +kernel
theorem dX2_readField_42 : decode cX2_readField 42 = .ok (.istore_n 1, 1) := by decide +kernel
theorem dX2_readField_43 : decode cX2_readField 43 = .ok (.iload_n 1, 1) := by decide +kernel
theorem dX2_readField_44 : decode cX2_readField 44 = .ok (.invokestatic 86, 3) := by decide +kernel
theorem dX2_readField_47 : decode cX2_readField 47 = .ok (.ifCond .ne 9, 3) := by decide +kernel
theorem dX2_readField_50 : decode cX2_readField 50 = .ok (.aload_n 0, 1) := by decide +kernel
theorem dX2_readField_51 : decode cX2_readField 51 = .ok (.iconst 2, 1) := by decide +kernel
theorem dX2_readField_52 : decode cX2_readField 52 = .ok (.invokevirtual 55, 3) := by decide +kernel
theorem dX2_readField_55 : decode cX2_readField 55 = .ok (.ireturn, 1) := by decide +kernel
theorem dX2_readField_56 : decode cX2_readField 56 = .ok (.aload_n 0, 1) := by decide +kernel
theorem dX2_readField_57 : decode cX2_readField 57 = .ok (.getfield 9, 3) := by decide +kernel
theorem dX2_readField_60 : decode cX2_readField 60 = .ok (.invokevirtual 59, 3) := by decide +kernel
theorem dX2_readField_63 : decode cX2_readField 63 = .ok (.aload_n 0, 1) := by decide +kernel
theorem dX2_readField_64 : decode cX2_readField 64 = .ok (.bipush 64, 2) := by decide +kernel
theorem dX2_readField_66 : decode cX2_readField 66 = .ok (.invokevirtual 83, 3) := by decide +kernel
theorem dX2_readField_69 : decode cX2_readField 69 = .ok (.ifCond .ne 5, 3) := by decide +kernel
theorem dX2_readField_72 : decode cX2_readField 72 = .ok (.iconst 0, 1) := by decide +kernel
theorem dX2_readField_73 : decode cX2_readField 73 = .ok (.ireturn, 1) := by decide +kernel
theorem dX2_readField_74 : decode cX2_readField 74 = .ok (.aload_n 0, 1) := by decide +kernel
theorem dX2_readField_75 : decode cX2_readField 75 = .ok (.getfield 9, 3) := by decide +kernel
theorem dX2_readField_78 : decode cX2_readField 78 = .ok (.getfield 80, 3) := by decide +kernel
theorem dX2_readField_81 : decode cX2_readField 81 = .ok (.istore_n 2, 1) := by decide +kernel
theorem dX2_readField_82 : decode cX2_readField 82 = .ok (.iload_n 2, 1) := by decide +kernel
theorem dX2_readField_83 : decode cX2_readField 83 = .ok (.ifCond .eq 13, 3) := by decide +kernel
theorem dX2_readField_86 : decode cX2_readField 86 = .ok (.iload_n 1, 1) := by decide +kernel
theorem dX2_readField_87 : decode cX2_readField 87 = .ok (.iload_n 2, 1) := by decide +kernel
theorem dX2_readField_88 : decode cX2_readField 88 = .ok (.invokestatic 89, 3) := by decide +kernel
theorem dX2_readField_91 : decode cX2_readField 91 = .ok (.bipush 64, 2) := by decide +kernel
theorem dX2_readField_93 : decode cX2_readField 93 = .ok (.if_icmp .le 9, 3) := by decide +kernel
theorem dX2_readField_96 : decode cX2_readField 96 = .ok (.aload_n 0, 1) := by decide +kernel
theorem dX2_readField_97 : decode cX2_readField 97 = .ok (.iconst 2, 1) := by decide +kernel
theorem dX2_readField_98 : decode cX2_readField 98 = .ok (.invokevirtual 55, 3) := by decide +kernel
theorem dX2_readField_101 : decode cX2_readField 101 = .ok (.ireturn, 1) := by decide +kernel
theorem dX2_readField_102 : decode cX2_readField 102 = .ok (.aload_n 0, 1) := by decide +kernel
theorem dX2_readField_103 : decode cX2_readField 103 = .ok (.getfield 9, 3) := by decide +kernel
theorem dX2_readField_106 : decode cX2_readField 106 = .ok (.invokevirtual 59, 3) := by decide +kernel
theorem dX2_readField_109 : decode cX2_readField 109 = .ok (.aload_n 0, 1) := by decide +kernel
theorem dX2_readField_110 : decode cX2_readField 110 = .ok (.getfield 19, 3) := by decide +kernel
theorem dX2_readField_113 : decode cX2_readField 113 = .ok (.iload_n 1, 1) := by decide +kernel
theorem dX2_readField_114 : decode cX2_readField 114 = .ok (.putfield 95, 3) := by decide +kernel
theorem dX2_readField_117 : decode cX2_readField 117 = .ok (.aload_n 0, 1) := by decide +kernel
theorem dX2_readField_118 : decode cX2_readField 118 = .ok (.getfield 19, 3) := by decide +kernel
theorem dX2_readField_121 : decode cX2_readField 121 = .ok (.iload_n 2, 1) := by decide +kernel
theorem dX2_readField_122 : decode cX2_readField 122 = .ok (.putfield 98, 3) := by decide +kernel
theorem dX2_readField_125 : decode cX2_readField 125 = .ok (.aload_n 0, 1) := by decide +kernel
theorem dX2_readField_126 : decode cX2_readField 126 = .ok (.getfield 15, 3) := by decide +kernel
theorem dX2_readField_129 : decode cX2_readField 129 = .ok (.iload_n 1, 1) := by decide +kernel
theorem dX2_readField_130 : decode cX2_readField 130 = .ok (.iload_n 2, 1) := by decide +kernel
theorem dX2_readField_131 : decode cX2_readField 131 = .ok (.invokevirtual 101, 3) := by decide +kernel
theorem dX2_readField_134 : decode cX2_readField 134 = .ok (.aload_n 0, 1) := by decide +kernel
theorem dX2_readField_135 : decode cX2_readField 135 = .ok (.bipush 59, 2) := by decide +kernel
theorem dX2_readField_137 : decode cX2_readField 137 = .ok (.invokevirtual 65, 3) := by decide +kernel
theorem dX2_readField_140 : decode cX2_readField 140 = .ok (.ireturn, 1) := by decide +kernel
theorem dX2_isPrime_0 : decode cX2_isPrime 0 = .ok (.iconst 2, 1) := by decide +kernel
theorem dX2_isPrime_1 : decode cX2_isPrime 1 = .ok (.istore_n 1, 1) := by decide +kernel
theorem dX2_isPrime_2 : decode cX2_isPrime 2 = .ok (.iload_n 1, 1) := by decide +kernel
theorem dX2_isPrime_3 : decode cX2_isPrime 3 = .ok (.iload_n 0, 1) := by decide +kernel
theorem dX2_isPrime_4 : decode cX2_isPrime 4 = .ok (.if_icmp .ge 17, 3) := by decide +kernel
theorem dX2_isPrime_7 : decode cX2_isPrime 7 = .ok (.iload_n 0, 1) := by decide +kernel
theorem dX2_isPrime_8 : decode cX2_isPrime 8 = .ok (.iload_n 1, 1) := by decide +kernel
theorem dX2_isPrime_9 : decode cX2_isPrime 9 = .ok (.irem, 1) := by decide +kernel
theorem dX2_isPrime_10 : decode cX2_isPrime 10 = .ok (.ifCond .ne 5, 3) := by decide +kernel
theorem dX2_isPrime_13 : decode cX2_isPrime 13 = .ok (.iconst 0, 1) := by decide +kernel
theorem dX2_isPrime_14 : decode cX2_isPrime 14 = .ok (.ireturn, 1) := by decide +kernel
theorem dX2_isPrime_15 : decode cX2_isPrime 15 = .ok (.iinc 1 1, 3) := by decide +kernel
theorem dX2_isPrime_18 : decode cX2_isPrime 18 = .ok (.goto (-16), 3) := by decide +kernel
theorem dX2_isPrime_21 : decode cX2_isPrime 21 = .ok (.iload_n 0, 1) := by decide +kernel
theorem dX2_isPrime_22 : decode cX2_isPrime 22 = .ok (.iconst 2, 1) := by decide +kernel
theorem dX2_isPrime_23 : decode cX2_isPrime 23 = .ok (.if_icmp .lt 7, 3) := by decide +kernel
theorem dX2_isPrime_26 : decode cX2_isPrime 26 = .ok (.iconst 1, 1) := by decide +kernel
theorem dX2_isPrime_27 : decode cX2_isPrime 27 = .ok (.goto 4, 3) := by decide +kernel
theorem dX2_isPrime_30 : decode cX2_isPrime 30 = .ok (.iconst 0, 1) := by decide +kernel
theorem dX2_isPrime_31 : decode cX2_isPrime 31 = .ok (.ireturn, 1) := by decide +kernel
theorem dX2_readSum_0 : decode cX2_readSum 0 = .ok (.aload_n 0, 1) := by decide +kernel
theorem dX2_readSum_1 : decode cX2_readSum 1 = .ok (.iload_n 1, 1) := by decide +kernel
theorem dX2_readSum_2 : decode cX2_readSum 2 = .ok (.invokevirtual 105, 3) := by decide +kernel
theorem dX2_readSum_5 : decode cX2_readSum 5 = .ok (.ifCond .ne 5, 3) := by decide +kernel
theorem dX2_readSum_8 : decode cX2_readSum 8 = .ok (.iconst 0, 1) := by decide +kernel
theorem dX2_readSum_9 : decode cX2_readSum 9 = .ok (.ireturn, 1) := by decide +kernel
theorem dX2_readSum_10 : decode cX2_readSum 10 = .ok (.aload_n 0, 1) := by decide +kernel
theorem dX2_readSum_11 : decode cX2_readSum 11 = .ok (.getfield 25, 3) := by decide +kernel
theorem dX2_readSum_14 : decode cX2_readSum 14 = .ok (.iload_n 1, 1) := by decide +kernel
theorem dX2_readSum_15 : decode cX2_readSum 15 = .ok (.aaload, 1) := by decide +kernel
theorem dX2_readSum_16 : decode cX2_readSum 16 = .ok (.astore_n 2, 1) := by decide +kernel
theorem dX2_readSum_17 : decode cX2_readSum 17 = .ok (.aload_n 0, 1) := by decide +kernel
theorem dX2_readSum_18 : decode cX2_readSum 18 = .ok (.getfield 28, 3) := by decide +kernel
theorem dX2_readSum_21 : decode cX2_readSum 21 = .ok (.iload_n 1, 1) := by decide +kernel
theorem dX2_readSum_22 : decode cX2_readSum 22 = .ok (.aaload, 1) := by decide +kernel
theorem dX2_readSum_23 : decode cX2_readSum 23 = .ok (.astore_n 3, 1) := by decide +kernel
theorem dX2_readSum_24 : decode cX2_readSum 24 = .ok (.aload_n 3, 1) := by decide +kernel
theorem dX2_readSum_25 : decode cX2_readSum 25 = .ok (.iconst 0, 1) := by decide +kernel
theorem dX2_readSum_26 : decode cX2_readSum 26 = .ok (.aload_n 2, 1) := by decide +kernel
theorem dX2_readSum_27 : decode cX2_readSum 27 = .ok (.iconst 0, 1) := by decide +kernel
theorem dX2_readSum_28 : decode cX2_readSum 28 = .ok (.bipush 64, 2) := by decide +kernel
theorem dX2_readSum_30 : decode cX2_readSum 30 = .ok (.invokestatic 71, 3) := by decide +kernel
theorem dX2_readSum_33 : decode cX2_readSum 33 = .ok (.iconst 0, 1) := by decide +kernel
theorem dX2_readSum_34 : decode cX2_readSum 34 = .ok (.istore 4, 2) := by decide +kernel
theorem dX2_readSum_36 : decode cX2_readSum 36 = .ok (.iload 4, 2) := by decide +kernel
theorem dX2_readSum_38 : decode cX2_readSum 38 = .ok (.sipush 300, 3) := by decide +kernel
theorem dX2_readSum_41 : decode cX2_readSum 41 = .ok (.if_icmp .ge 116, 3) := by decide +kernel
theorem dX2_readSum_44 : decode cX2_readSum 44 = .ok (.aload_n 0, 1) := by decide +kernel
theorem dX2_readSum_45 : decode cX2_readSum 45 = .ok (.getfield 9, 3) := by decide +kernel
theorem dX2_readSum_48 : decode cX2_readSum 48 = .ok (.getfield 50, 3) := by decide +kernel
theorem dX2_readSum_51 : decode cX2_readSum 51 = .ok (.istore 5, 2) := by decide +kernel
theorem dX2_readSum_53 : decode cX2_readSum 53 = .ok (.iload 5, 2) := by decide +kernel
theorem dX2_readSum_55 : decode cX2_readSum 55 = .ok (.bipush 43, 2) := by decide +kernel
theorem dX2_readSum_57 : decode cX2_readSum 57 = .ok (.if_icmp .eq 12, 3) := by decide +kernel
theorem dX2_readSum_60 : decode cX2_readSum 60 = .ok (.iload 5, 2) := by decide +kernel
theorem dX2_readSum_62 : decode cX2_readSum 62 = .ok (.bipush 45, 2) := by decide +kernel
theorem dX2_readSum_64 : decode cX2_readSum 64 = .ok (.if_icmp .eq 5, 3) := by decide +kernel
theorem dX2_readSum_67 : decode cX2_readSum 67 = .ok (.iconst 1, 1) := by decide +kernel
theorem dX2_readSum_68 : decode cX2_readSum 68 = .ok (.ireturn, 1) := by decide +kernel
theorem dX2_readSum_69 : decode cX2_readSum 69 = .ok (.aload_n 0, 1) := by decide +kernel
theorem dX2_readSum_70 : decode cX2_readSum 70 = .ok (.getfield 9, 3) := by decide +kernel
theorem dX2_readSum_73 : decode cX2_readSum 73 = .ok (.invokevirtual 59, 3) := by decide +kernel
theorem dX2_readSum_76 : decode cX2_readSum 76 = .ok (.aload_n 0, 1) := by decide +kernel
theorem dX2_readSum_77 : decode cX2_readSum 77 = .ok (.iload_n 1, 1) := by decide +kernel
theorem dX2_readSum_78 : decode cX2_readSum 78 = .ok (.invokevirtual 105, 3) := by decide +kernel
theorem dX2_readSum_81 : decode cX2_readSum 81 = .ok (.ifCond .ne 5, 3) := by decide +kernel
theorem dX2_readSum_84 : decode cX2_readSum 84 = .ok (.iconst 0, 1) := by decide +kernel
theorem dX2_readSum_85 : decode cX2_readSum 85 = .ok (.ireturn, 1) := by decide +kernel
theorem dX2_readSum_86 : decode cX2_readSum 86 = .ok (.iconst 0, 1) := by decide +kernel
theorem dX2_readSum_87 : decode cX2_readSum 87 = .ok (.istore 6, 2) := by decide +kernel
theorem dX2_readSum_89 : decode cX2_readSum 89 = .ok (.iload 6, 2) := by decide +kernel
theorem dX2_readSum_91 : decode cX2_readSum 91 = .ok (.aload_n 0, 1) := by decide +kernel
theorem dX2_readSum_92 : decode cX2_readSum 92 = .ok (.getfield 15, 3) := by decide +kernel
theorem dX2_readSum_95 : decode cX2_readSum 95 = .ok (.getfield 108, 3) := by decide +kernel
theorem dX2_readSum_98 : decode cX2_readSum 98 = .ok (.if_icmp .ge 53, 3) := by decide +kernel
theorem dX2_readSum_101 : decode cX2_readSum 101 = .ok (.aload_n 2, 1) := by decide +kernel
theorem dX2_readSum_102 : decode cX2_readSum 102 = .ok (.iload 6, 2) := by decide +kernel
theorem dX2_readSum_104 : decode cX2_readSum 104 = .ok (.iload 5, 2) := by decide +kernel
theorem dX2_readSum_106 : decode cX2_readSum 106 = .ok (.bipush 43, 2) := by decide +kernel
theorem dX2_readSum_108 : decode cX2_readSum 108 = .ok (.if_icmp .ne 21, 3) := by decide +kernel
theorem dX2_readSum_111 : decode cX2_readSum 111 = .ok (.aload_n 0, 1) := by decide +kernel
theorem dX2_readSum_112 : decode cX2_readSum 112 = .ok (.getfield 15, 3) := by decide +kernel
theorem dX2_readSum_115 : decode cX2_readSum 115 = .ok (.aload_n 2, 1) := by decide +kernel
theorem dX2_readSum_116 : decode cX2_readSum 116 = .ok (.iload 6, 2) := by decide +kernel
theorem dX2_readSum_118 : decode cX2_readSum 118 = .ok (.iaload, 1) := by decide +kernel
theorem dX2_readSum_119 : decode cX2_readSum 119 = .ok (.aload_n 3, 1) := by decide +kernel
theorem dX2_readSum_120 : decode cX2_readSum 120 = .ok (.iload 6, 2) := by decide +kernel
theorem dX2_readSum_122 : decode cX2_readSum 122 = .ok (.iaload, 1) := by decide +kernel
theorem dX2_readSum_123 : decode cX2_readSum 123 = .ok (.invokevirtual 111, 3) := by decide +kernel
theorem dX2_readSum_126 : decode cX2_readSum 126 = .ok (.goto 18, 3) := by decide +kernel
theorem dX2_readSum_129 : decode cX2_readSum 129 = .ok (.aload_n 0, 1) := by decide +kernel
theorem dX2_readSum_130 : decode cX2_readSum 130 = .ok (.getfield 15, 3) := by decide +kernel
theorem dX2_readSum_133 : decode cX2_readSum 133 = .ok (.aload_n 2, 1) := by decide +kernel
theorem dX2_readSum_134 : decode cX2_readSum 134 = .ok (.iload 6, 2) := by decide +kernel
theorem dX2_readSum_136 : decode cX2_readSum 136 = .ok (.iaload, 1) := by decide +kernel
theorem dX2_readSum_137 : decode cX2_readSum 137 = .ok (.aload_n 3, 1) := by decide +kernel
theorem dX2_readSum_138 : decode cX2_readSum 138 = .ok (.iload 6, 2) := by decide +kernel
theorem dX2_readSum_140 : decode cX2_readSum 140 = .ok (.iaload, 1) := by decide +kernel
theorem dX2_readSum_141 : decode cX2_readSum 141 = .ok (.invokevirtual 114, 3) := by decide +kernel
theorem dX2_readSum_144 : decode cX2_readSum 144 = .ok (.iastore, 1) := by decide +kernel
theorem dX2_readSum_145 : decode cX2_readSum 145 = .ok (.iinc 6 1, 3) := by decide +kernel
theorem dX2_readSum_148 : decode cX2_readSum 148 = .ok (.goto (-59), 3) := by decide +kernel
theorem dX2_readSum_151 : decode cX2_readSum 151 = .ok (.iinc 4 1, 3) := by decide +kernel
theorem dX2_readSum_154 : decode cX2_readSum 154 = .ok (.goto (-118), 3) := by decide +kernel
theorem dX2_readSum_157 : decode cX2_readSum 157 = .ok (.iconst 1, 1) := by decide +kernel
theorem dX2_readSum_158 : decode cX2_readSum 158 = .ok (.ireturn, 1) := by decide +kernel
theorem dX2_readProduct_0 : decode cX2_readProduct 0 = .ok (.aload_n 0, 1) := by decide +kernel
theorem dX2_readProduct_1 : decode cX2_readProduct 1 = .ok (.iload_n 1, 1) := by decide +kernel
theorem dX2_readProduct_2 : decode cX2_readProduct 2 = .ok (.invokevirtual 117, 3) := by decide +kernel
theorem dX2_readProduct_5 : decode cX2_readProduct 5 = .ok (.ifCond .ne 5, 3) := by decide +kernel
theorem dX2_readProduct_8 : decode cX2_readProduct 8 = .ok (.iconst 0, 1) := by decide +kernel
theorem dX2_readProduct_9 : decode cX2_readProduct 9 = .ok (.ireturn, 1) := by decide +kernel
theorem dX2_readProduct_10 : decode cX2_readProduct 10 = .ok (.aload_n 0, 1) := by decide +kernel
theorem dX2_readProduct_11 : decode cX2_readProduct 11 = .ok (.getfield 28, 3) := by decide +kernel
theorem dX2_readProduct_14 : decode cX2_readProduct 14 = .ok (.iload_n 1, 1) := by decide +kernel
theorem dX2_readProduct_15 : decode cX2_readProduct 15 = .ok (.aaload, 1) := by decide +kernel
theorem dX2_readProduct_16 : decode cX2_readProduct 16 = .ok (.astore_n 2, 1) := by decide +kernel
theorem dX2_readProduct_17 : decode cX2_readProduct 17 = .ok (.aload_n 0, 1) := by decide +kernel
theorem dX2_readProduct_18 : decode cX2_readProduct 18 = .ok (.getfield 31, 3) := by decide +kernel
theorem dX2_readProduct_21 : decode cX2_readProduct 21 = .ok (.iload_n 1, 1) := by decide +kernel
theorem dX2_readProduct_22 : decode cX2_readProduct 22 = .ok (.aaload, 1) := by decide +kernel
theorem dX2_readProduct_23 : decode cX2_readProduct 23 = .ok (.astore_n 3, 1) := by decide +kernel
theorem dX2_readProduct_24 : decode cX2_readProduct 24 = .ok (.aload_n 3, 1) := by decide +kernel
theorem dX2_readProduct_25 : decode cX2_readProduct 25 = .ok (.iconst 0, 1) := by decide +kernel
theorem dX2_readProduct_26 : decode cX2_readProduct 26 = .ok (.aload_n 2, 1) := by decide +kernel
theorem dX2_readProduct_27 : decode cX2_readProduct 27 = .ok (.iconst 0, 1) := by decide +kernel
theorem dX2_readProduct_28 : decode cX2_readProduct 28 = .ok (.bipush 64, 2) := by decide +kernel
theorem dX2_readProduct_30 : decode cX2_readProduct 30 = .ok (.invokestatic 71, 3) := by decide +kernel
theorem dX2_readProduct_33 : decode cX2_readProduct 33 = .ok (.iconst 0, 1) := by decide +kernel
theorem dX2_readProduct_34 : decode cX2_readProduct 34 = .ok (.istore 4, 2) := by decide +kernel
theorem dX2_readProduct_36 : decode cX2_readProduct 36 = .ok (.iload 4, 2) := by decide +kernel
theorem dX2_readProduct_38 : decode cX2_readProduct 38 = .ok (.sipush 300, 3) := by decide +kernel
theorem dX2_readProduct_41 : decode cX2_readProduct 41 = .ok (.if_icmp .ge 78, 3) := by decide +kernel
theorem dX2_readProduct_44 : decode cX2_readProduct 44 = .ok (.aload_n 0, 1) := by decide +kernel
theorem dX2_readProduct_45 : decode cX2_readProduct 45 = .ok (.getfield 9, 3) := by decide +kernel
theorem dX2_readProduct_48 : decode cX2_readProduct 48 = .ok (.getfield 50, 3) := by decide +kernel
theorem dX2_readProduct_51 : decode cX2_readProduct 51 = .ok (.bipush 42, 2) := by decide +kernel
theorem dX2_readProduct_53 : decode cX2_readProduct 53 = .ok (.if_icmp .ne 66, 3) := by decide +kernel
theorem dX2_readProduct_56 : decode cX2_readProduct 56 = .ok (.aload_n 0, 1) := by decide +kernel
theorem dX2_readProduct_57 : decode cX2_readProduct 57 = .ok (.getfield 9, 3) := by decide +kernel
theorem dX2_readProduct_60 : decode cX2_readProduct 60 = .ok (.invokevirtual 59, 3) := by decide +kernel
theorem dX2_readProduct_63 : decode cX2_readProduct 63 = .ok (.aload_n 0, 1) := by decide +kernel
theorem dX2_readProduct_64 : decode cX2_readProduct 64 = .ok (.iload_n 1, 1) := by decide +kernel
theorem dX2_readProduct_65 : decode cX2_readProduct 65 = .ok (.invokevirtual 117, 3) := by decide +kernel
theorem dX2_readProduct_68 : decode cX2_readProduct 68 = .ok (.ifCond .ne 5, 3) := by decide +kernel
theorem dX2_readProduct_71 : decode cX2_readProduct 71 = .ok (.iconst 0, 1) := by decide +kernel
theorem dX2_readProduct_72 : decode cX2_readProduct 72 = .ok (.ireturn, 1) := by decide +kernel
theorem dX2_readProduct_73 : decode cX2_readProduct 73 = .ok (.iconst 0, 1) := by decide +kernel
theorem dX2_readProduct_74 : decode cX2_readProduct 74 = .ok (.istore 5, 2) := by decide +kernel
theorem dX2_readProduct_76 : decode cX2_readProduct 76 = .ok (.iload 5, 2) := by decide +kernel
theorem dX2_readProduct_78 : decode cX2_readProduct 78 = .ok (.aload_n 0, 1) := by decide +kernel
theorem dX2_readProduct_79 : decode cX2_readProduct 79 = .ok (.getfield 15, 3) := by decide +kernel
theorem dX2_readProduct_82 : decode cX2_readProduct 82 = .ok (.getfield 108, 3) := by decide +kernel
theorem dX2_readProduct_85 : decode cX2_readProduct 85 = .ok (.if_icmp .ge 28, 3) := by decide +kernel
theorem dX2_readProduct_88 : decode cX2_readProduct 88 = .ok (.aload_n 2, 1) := by decide +kernel
theorem dX2_readProduct_89 : decode cX2_readProduct 89 = .ok (.iload 5, 2) := by decide +kernel
theorem dX2_readProduct_91 : decode cX2_readProduct 91 = .ok (.aload_n 0, 1) := by decide +kernel
theorem dX2_readProduct_92 : decode cX2_readProduct 92 = .ok (.getfield 15, 3) := by decide +kernel
theorem dX2_readProduct_95 : decode cX2_readProduct 95 = .ok (.aload_n 2, 1) := by decide +kernel
theorem dX2_readProduct_96 : decode cX2_readProduct 96 = .ok (.iload 5, 2) := by decide +kernel
theorem dX2_readProduct_98 : decode cX2_readProduct 98 = .ok (.iaload, 1) := by decide +kernel
theorem dX2_readProduct_99 : decode cX2_readProduct 99 = .ok (.aload_n 3, 1) := by decide +kernel
theorem dX2_readProduct_100 : decode cX2_readProduct 100 = .ok (.iload 5, 2) := by decide +kernel
theorem dX2_readProduct_102 : decode cX2_readProduct 102 = .ok (.iaload, 1) := by decide +kernel
theorem dX2_readProduct_103 : decode cX2_readProduct 103 = .ok (.invokevirtual 120, 3) := by decide +kernel
theorem dX2_readProduct_106 : decode cX2_readProduct 106 = .ok (.iastore, 1) := by decide +kernel
theorem dX2_readProduct_107 : decode cX2_readProduct 107 = .ok (.iinc 5 1, 3) := by decide +kernel
theorem dX2_readProduct_110 : decode cX2_readProduct 110 = .ok (.goto (-34), 3) := by decide +kernel
theorem dX2_readProduct_113 : decode cX2_readProduct 113 = .ok (.iinc 4 1, 3) := by decide +kernel
theorem dX2_readProduct_116 : decode cX2_readProduct 116 = .ok (.goto (-80), 3) := by decide +kernel
theorem dX2_readProduct_119 : decode cX2_readProduct 119 = .ok (.iconst 1, 1) := by decide +kernel
theorem dX2_readProduct_120 : decode cX2_readProduct 120 = .ok (.ireturn, 1) := by decide +kernel
theorem dX2_readUnit_0 : decode cX2_readUnit 0 = .ok (.aload_n 0, 1) := by decide +kernel
theorem dX2_readUnit_1 : decode cX2_readUnit 1 = .ok (.getfield 9, 3) := by decide +kernel
theorem dX2_readUnit_4 : decode cX2_readUnit 4 = .ok (.getfield 50, 3) := by decide +kernel
theorem dX2_readUnit_7 : decode cX2_readUnit 7 = .ok (.lookupswitch 109 #[(1, 49), (4, 63), (5, 86), (6, 95), (40, 77)], 49) := by decide +kernel
theorem dX2_readUnit_56 : decode cX2_readUnit 56 = .ok (.aload_n 0, 1) := by decide +kernel
theorem dX2_readUnit_57 : decode cX2_readUnit 57 = .ok (.aload_n 0, 1) := by decide +kernel
theorem dX2_readUnit_58 : decode cX2_readUnit 58 = .ok (.getfield 31, 3) := by decide +kernel
theorem dX2_readUnit_61 : decode cX2_readUnit 61 = .ok (.iload_n 1, 1) := by decide +kernel
theorem dX2_readUnit_62 : decode cX2_readUnit 62 = .ok (.aaload, 1) := by decide +kernel
theorem dX2_readUnit_63 : decode cX2_readUnit 63 = .ok (.invokevirtual 123, 3) := by decide +kernel
theorem dX2_readUnit_66 : decode cX2_readUnit 66 = .ok (.istore_n 2, 1) := by decide +kernel
theorem dX2_readUnit_67 : decode cX2_readUnit 67 = .ok (.goto 55, 3) := by decide +kernel
theorem dX2_readUnit_70 : decode cX2_readUnit 70 = .ok (.aload_n 0, 1) := by decide +kernel
theorem dX2_readUnit_71 : decode cX2_readUnit 71 = .ok (.aload_n 0, 1) := by decide +kernel
theorem dX2_readUnit_72 : decode cX2_readUnit 72 = .ok (.getfield 31, 3) := by decide +kernel
theorem dX2_readUnit_75 : decode cX2_readUnit 75 = .ok (.iload_n 1, 1) := by decide +kernel
theorem dX2_readUnit_76 : decode cX2_readUnit 76 = .ok (.aaload, 1) := by decide +kernel
theorem dX2_readUnit_77 : decode cX2_readUnit 77 = .ok (.invokevirtual 127, 3) := by decide +kernel
theorem dX2_readUnit_80 : decode cX2_readUnit 80 = .ok (.istore_n 2, 1) := by decide +kernel
theorem dX2_readUnit_81 : decode cX2_readUnit 81 = .ok (.goto 41, 3) := by decide +kernel
theorem dX2_readUnit_84 : decode cX2_readUnit 84 = .ok (.aload_n 0, 1) := by decide +kernel
theorem dX2_readUnit_85 : decode cX2_readUnit 85 = .ok (.iload_n 1, 1) := by decide +kernel
theorem dX2_readUnit_86 : decode cX2_readUnit 86 = .ok (.invokevirtual 130, 3) := by decide +kernel
theorem dX2_readUnit_89 : decode cX2_readUnit 89 = .ok (.istore_n 2, 1) := by decide +kernel
theorem dX2_readUnit_90 : decode cX2_readUnit 90 = .ok (.goto 32, 3) := by decide +kernel
theorem dX2_readUnit_93 : decode cX2_readUnit 93 = .ok (.aload_n 0, 1) := by decide +kernel
theorem dX2_readUnit_94 : decode cX2_readUnit 94 = .ok (.iload_n 1, 1) := by decide +kernel
theorem dX2_readUnit_95 : decode cX2_readUnit 95 = .ok (.invokevirtual 133, 3) := by decide +kernel
theorem dX2_readUnit_98 : decode cX2_readUnit 98 = .ok (.istore_n 2, 1) := by decide +kernel
theorem dX2_readUnit_99 : decode cX2_readUnit 99 = .ok (.goto 23, 3) := by decide +kernel
theorem dX2_readUnit_102 : decode cX2_readUnit 102 = .ok (.aload_n 0, 1) := by decide +kernel
theorem dX2_readUnit_103 : decode cX2_readUnit 103 = .ok (.aload_n 0, 1) := by decide +kernel
theorem dX2_readUnit_104 : decode cX2_readUnit 104 = .ok (.getfield 31, 3) := by decide +kernel
theorem dX2_readUnit_107 : decode cX2_readUnit 107 = .ok (.iload_n 1, 1) := by decide +kernel
theorem dX2_readUnit_108 : decode cX2_readUnit 108 = .ok (.aaload, 1) := by decide +kernel
theorem dX2_readUnit_109 : decode cX2_readUnit 109 = .ok (.invokevirtual 136, 3) := by decide +kernel
theorem dX2_readUnit_112 : decode cX2_readUnit 112 = .ok (.istore_n 2, 1) := by decide +kernel
theorem dX2_readUnit_113 : decode cX2_readUnit 113 = .ok (.goto 9, 3) := by decide +kernel
theorem dX2_readUnit_116 : decode cX2_readUnit 116 = .ok (.aload_n 0, 1) := by decide +kernel
theorem dX2_readUnit_117 : decode cX2_readUnit 117 = .ok (.iconst 1, 1) := by decide +kernel
theorem dX2_readUnit_118 : decode cX2_readUnit 118 = .ok (.invokevirtual 55, 3) := by decide +kernel
theorem dX2_readUnit_121 : decode cX2_readUnit 121 = .ok (.istore_n 2, 1) := by decide +kernel
theorem dX2_readUnit_122 : decode cX2_readUnit 122 = .ok (.iload_n 2, 1) := by decide +kernel
theorem dX2_readUnit_123 : decode cX2_readUnit 123 = .ok (.ifCond .eq 32, 3) := by decide +kernel
theorem dX2_readUnit_126 : decode cX2_readUnit 126 = .ok (.aload_n 0, 1) := by decide +kernel
theorem dX2_readUnit_127 : decode cX2_readUnit 127 = .ok (.getfield 9, 3) := by decide +kernel
theorem dX2_readUnit_130 : decode cX2_readUnit 130 = .ok (.getfield 50, 3) := by decide +kernel
theorem dX2_readUnit_133 : decode cX2_readUnit 133 = .ok (.bipush 94, 2) := by decide +kernel
theorem dX2_readUnit_135 : decode cX2_readUnit 135 = .ok (.if_icmp .ne 16, 3) := by decide +kernel
theorem dX2_readUnit_138 : decode cX2_readUnit 138 = .ok (.aload_n 0, 1) := by decide +kernel
theorem dX2_readUnit_139 : decode cX2_readUnit 139 = .ok (.aload_n 0, 1) := by decide +kernel
theorem dX2_readUnit_140 : decode cX2_readUnit 140 = .ok (.getfield 31, 3) := by decide +kernel
theorem dX2_readUnit_143 : decode cX2_readUnit 143 = .ok (.iload_n 1, 1) := by decide +kernel
theorem dX2_readUnit_144 : decode cX2_readUnit 144 = .ok (.aaload, 1) := by decide +kernel
theorem dX2_readUnit_145 : decode cX2_readUnit 145 = .ok (.invokevirtual 139, 3) := by decide +kernel
theorem dX2_readUnit_148 : decode cX2_readUnit 148 = .ok (.ifCond .eq 7, 3) := by decide +kernel
theorem dX2_readUnit_151 : decode cX2_readUnit 151 = .ok (.iconst 1, 1) := by decide +kernel
theorem dX2_readUnit_152 : decode cX2_readUnit 152 = .ok (.goto 4, 3) := by decide +kernel
theorem dX2_readUnit_155 : decode cX2_readUnit 155 = .ok (.iconst 0, 1) := by decide +kernel
theorem dX2_readUnit_156 : decode cX2_readUnit 156 = .ok (.ireturn, 1) := by decide +kernel
theorem dX2_readPoint_0 : decode cX2_readPoint 0 = .ok (.aload_n 0, 1) := by decide +kernel
theorem dX2_readPoint_1 : decode cX2_readPoint 1 = .ok (.aload_n 0, 1) := by decide +kernel
theorem dX2_readPoint_2 : decode cX2_readPoint 2 = .ok (.getfield 15, 3) := by decide +kernel
theorem dX2_readPoint_5 : decode cX2_readPoint 5 = .ok (.getfield 108, 3) := by decide +kernel
theorem dX2_readPoint_8 : decode cX2_readPoint 8 = .ok (.iconst 1, 1) := by decide +kernel
theorem dX2_readPoint_9 : decode cX2_readPoint 9 = .ok (.isub, 1) := by decide +kernel
theorem dX2_readPoint_10 : decode cX2_readPoint 10 = .ok (.invokevirtual 83, 3) := by decide +kernel
theorem dX2_readPoint_13 : decode cX2_readPoint 13 = .ok (.ifCond .ne 5, 3) := by decide +kernel
theorem dX2_readPoint_16 : decode cX2_readPoint 16 = .ok (.iconst 0, 1) := by decide +kernel
theorem dX2_readPoint_17 : decode cX2_readPoint 17 = .ok (.ireturn, 1) := by decide +kernel
theorem dX2_readPoint_18 : decode cX2_readPoint 18 = .ok (.iconst 0, 1) := by decide +kernel
theorem dX2_readPoint_19 : decode cX2_readPoint 19 = .ok (.istore_n 2, 1) := by decide +kernel
theorem dX2_readPoint_20 : decode cX2_readPoint 20 = .ok (.iload_n 2, 1) := by decide +kernel
theorem dX2_readPoint_21 : decode cX2_readPoint 21 = .ok (.aload_n 0, 1) := by decide +kernel
theorem dX2_readPoint_22 : decode cX2_readPoint 22 = .ok (.getfield 15, 3) := by decide +kernel
theorem dX2_readPoint_25 : decode cX2_readPoint 25 = .ok (.getfield 108, 3) := by decide +kernel
theorem dX2_readPoint_28 : decode cX2_readPoint 28 = .ok (.if_icmp .ge 19, 3) := by decide +kernel
theorem dX2_readPoint_31 : decode cX2_readPoint 31 = .ok (.aload_n 1, 1) := by decide +kernel
theorem dX2_readPoint_32 : decode cX2_readPoint 32 = .ok (.iload_n 2, 1) := by decide +kernel
theorem dX2_readPoint_33 : decode cX2_readPoint 33 = .ok (.aload_n 0, 1) := by decide +kernel
theorem dX2_readPoint_34 : decode cX2_readPoint 34 = .ok (.getfield 9, 3) := by decide +kernel
theorem dX2_readPoint_37 : decode cX2_readPoint 37 = .ok (.getfield 80, 3) := by decide +kernel
theorem dX2_readPoint_40 : decode cX2_readPoint 40 = .ok (.iastore, 1) := by decide +kernel
theorem dX2_readPoint_41 : decode cX2_readPoint 41 = .ok (.iinc 2 1, 3) := by decide +kernel
theorem dX2_readPoint_44 : decode cX2_readPoint 44 = .ok (.goto (-24), 3) := by decide +kernel
theorem dX2_readPoint_47 : decode cX2_readPoint 47 = .ok (.aload_n 0, 1) := by decide +kernel
theorem dX2_readPoint_48 : decode cX2_readPoint 48 = .ok (.getfield 9, 3) := by decide +kernel
theorem dX2_readPoint_51 : decode cX2_readPoint 51 = .ok (.invokevirtual 59, 3) := by decide +kernel
theorem dX2_readPoint_54 : decode cX2_readPoint 54 = .ok (.iconst 1, 1) := by decide +kernel
theorem dX2_readPoint_55 : decode cX2_readPoint 55 = .ok (.ireturn, 1) := by decide +kernel
theorem dX2_readX_0 : decode cX2_readX 0 = .ok (.iconst 0, 1) := by decide +kernel
theorem dX2_readX_1 : decode cX2_readX 1 = .ok (.istore_n 2, 1) := by decide +kernel
theorem dX2_readX_2 : decode cX2_readX 2 = .ok (.iload_n 2, 1) := by decide +kernel
theorem dX2_readX_3 : decode cX2_readX 3 = .ok (.aload_n 0, 1) := by decide +kernel
theorem dX2_readX_4 : decode cX2_readX 4 = .ok (.getfield 15, 3) := by decide +kernel
theorem dX2_readX_7 : decode cX2_readX 7 = .ok (.getfield 108, 3) := by decide +kernel
theorem dX2_readX_10 : decode cX2_readX 10 = .ok (.if_icmp .ge 13, 3) := by decide +kernel
theorem dX2_readX_13 : decode cX2_readX 13 = .ok (.aload_n 1, 1) := by decide +kernel
theorem dX2_readX_14 : decode cX2_readX 14 = .ok (.iload_n 2, 1) := by decide +kernel
theorem dX2_readX_15 : decode cX2_readX 15 = .ok (.iload_n 2, 1) := by decide +kernel
theorem dX2_readX_16 : decode cX2_readX 16 = .ok (.iastore, 1) := by decide +kernel
theorem dX2_readX_17 : decode cX2_readX 17 = .ok (.iinc 2 1, 3) := by decide +kernel
theorem dX2_readX_20 : decode cX2_readX 20 = .ok (.goto (-18), 3) := by decide +kernel
theorem dX2_readX_23 : decode cX2_readX 23 = .ok (.aload_n 0, 1) := by decide +kernel
theorem dX2_readX_24 : decode cX2_readX 24 = .ok (.getfield 9, 3) := by decide +kernel
theorem dX2_readX_27 : decode cX2_readX 27 = .ok (.invokevirtual 59, 3) := by decide +kernel
theorem dX2_readX_30 : decode cX2_readX 30 = .ok (.iconst 1, 1) := by decide +kernel
theorem dX2_readX_31 : decode cX2_readX 31 = .ok (.ireturn, 1) := by decide +kernel
theorem dX2_readBracket_0 : decode cX2_readBracket 0 = .ok (.aload_n 0, 1) := by decide +kernel
theorem dX2_readBracket_1 : decode cX2_readBracket 1 = .ok (.getfield 9, 3) := by decide +kernel
theorem dX2_readBracket_4 : decode cX2_readBracket 4 = .ok (.getfield 50, 3) := by decide +kernel
theorem dX2_readBracket_7 : decode cX2_readBracket 7 = .ok (.bipush 40, 2) := by decide +kernel
theorem dX2_readBracket_9 : decode cX2_readBracket 9 = .ok (.if_icmp .eq 9, 3) := by decide +kernel
theorem dX2_readBracket_12 : decode cX2_readBracket 12 = .ok (.aload_n 0, 1) := by decide +kernel
theorem dX2_readBracket_13 : decode cX2_readBracket 13 = .ok (.iconst 1, 1) := by decide +kernel
theorem dX2_readBracket_14 : decode cX2_readBracket 14 = .ok (.invokevirtual 55, 3) := by decide +kernel
theorem dX2_readBracket_17 : decode cX2_readBracket 17 = .ok (.ireturn, 1) := by decide +kernel
theorem dX2_readBracket_18 : decode cX2_readBracket 18 = .ok (.iload_n 1, 1) := by decide +kernel
theorem dX2_readBracket_19 : decode cX2_readBracket 19 = .ok (.iconst 4, 1) := by decide +kernel
theorem dX2_readBracket_20 : decode cX2_readBracket 20 = .ok (.if_icmp .lt 9, 3) := by decide +kernel
theorem dX2_readBracket_23 : decode cX2_readBracket 23 = .ok (.aload_n 0, 1) := by decide +kernel
theorem dX2_readBracket_24 : decode cX2_readBracket 24 = .ok (.iconst 4, 1) := by decide +kernel
theorem dX2_readBracket_25 : decode cX2_readBracket 25 = .ok (.invokevirtual 55, 3) := by decide +kernel
theorem dX2_readBracket_28 : decode cX2_readBracket 28 = .ok (.ireturn, 1) := by decide +kernel
theorem dX2_readBracket_29 : decode cX2_readBracket 29 = .ok (.aload_n 0, 1) := by decide +kernel
theorem dX2_readBracket_30 : decode cX2_readBracket 30 = .ok (.getfield 9, 3) := by decide +kernel
theorem dX2_readBracket_33 : decode cX2_readBracket 33 = .ok (.invokevirtual 59, 3) := by decide +kernel
theorem dX2_readBracket_36 : decode cX2_readBracket 36 = .ok (.aload_n 0, 1) := by decide +kernel
theorem dX2_readBracket_37 : decode cX2_readBracket 37 = .ok (.iload_n 1, 1) := by decide +kernel
theorem dX2_readBracket_38 : decode cX2_readBracket 38 = .ok (.iconst 1, 1) := by decide +kernel
theorem dX2_readBracket_39 : decode cX2_readBracket 39 = .ok (.iadd, 1) := by decide +kernel
theorem dX2_readBracket_40 : decode cX2_readBracket 40 = .ok (.invokevirtual 62, 3) := by decide +kernel
theorem dX2_readBracket_43 : decode cX2_readBracket 43 = .ok (.ifCond .ne 5, 3) := by decide +kernel
theorem dX2_readBracket_46 : decode cX2_readBracket 46 = .ok (.iconst 0, 1) := by decide +kernel
theorem dX2_readBracket_47 : decode cX2_readBracket 47 = .ok (.ireturn, 1) := by decide +kernel
theorem dX2_readBracket_48 : decode cX2_readBracket 48 = .ok (.aload_n 0, 1) := by decide +kernel
theorem dX2_readBracket_49 : decode cX2_readBracket 49 = .ok (.getfield 9, 3) := by decide +kernel
theorem dX2_readBracket_52 : decode cX2_readBracket 52 = .ok (.getfield 50, 3) := by decide +kernel
theorem dX2_readBracket_55 : decode cX2_readBracket 55 = .ok (.bipush 41, 2) := by decide +kernel
theorem dX2_readBracket_57 : decode cX2_readBracket 57 = .ok (.if_icmp .eq 9, 3) := by decide +kernel
theorem dX2_readBracket_60 : decode cX2_readBracket 60 = .ok (.aload_n 0, 1) := by decide +kernel
theorem dX2_readBracket_61 : decode cX2_readBracket 61 = .ok (.iconst 1, 1) := by decide +kernel
theorem dX2_readBracket_62 : decode cX2_readBracket 62 = .ok (.invokevirtual 55, 3) := by decide +kernel
theorem dX2_readBracket_65 : decode cX2_readBracket 65 = .ok (.ireturn, 1) := by decide +kernel
theorem dX2_readBracket_66 : decode cX2_readBracket 66 = .ok (.aload_n 0, 1) := by decide +kernel
theorem dX2_readBracket_67 : decode cX2_readBracket 67 = .ok (.getfield 9, 3) := by decide +kernel
theorem dX2_readBracket_70 : decode cX2_readBracket 70 = .ok (.invokevirtual 59, 3) := by decide +kernel
theorem dX2_readBracket_73 : decode cX2_readBracket 73 = .ok (.aload_n 0, 1) := by decide +kernel
theorem dX2_readBracket_74 : decode cX2_readBracket 74 = .ok (.getfield 25, 3) := by decide +kernel
theorem dX2_readBracket_77 : decode cX2_readBracket 77 = .ok (.iload_n 1, 1) := by decide +kernel
theorem dX2_readBracket_78 : decode cX2_readBracket 78 = .ok (.iconst 1, 1) := by decide +kernel
theorem dX2_readBracket_79 : decode cX2_readBracket 79 = .ok (.iadd, 1) := by decide +kernel
theorem dX2_readBracket_80 : decode cX2_readBracket 80 = .ok (.aaload, 1) := by decide +kernel
theorem dX2_readBracket_81 : decode cX2_readBracket 81 = .ok (.iconst 0, 1) := by decide +kernel
theorem dX2_readBracket_82 : decode cX2_readBracket 82 = .ok (.aload_n 0, 1) := by decide +kernel
theorem dX2_readBracket_83 : decode cX2_readBracket 83 = .ok (.getfield 31, 3) := by decide +kernel
theorem dX2_readBracket_86 : decode cX2_readBracket 86 = .ok (.iload_n 1, 1) := by decide +kernel
theorem dX2_readBracket_87 : decode cX2_readBracket 87 = .ok (.aaload, 1) := by decide +kernel
theorem dX2_readBracket_88 : decode cX2_readBracket 88 = .ok (.iconst 0, 1) := by decide +kernel
theorem dX2_readBracket_89 : decode cX2_readBracket 89 = .ok (.bipush 64, 2) := by decide +kernel
theorem dX2_readBracket_91 : decode cX2_readBracket 91 = .ok (.invokestatic 71, 3) := by decide +kernel
theorem dX2_readBracket_94 : decode cX2_readBracket 94 = .ok (.iconst 1, 1) := by decide +kernel
theorem dX2_readBracket_95 : decode cX2_readBracket 95 = .ok (.ireturn, 1) := by decide +kernel
theorem dX2_readInner_0 : decode cX2_readInner 0 = .ok (.aload_n 0, 1) := by decide +kernel
theorem dX2_readInner_1 : decode cX2_readInner 1 = .ok (.getfield 9, 3) := by decide +kernel
theorem dX2_readInner_4 : decode cX2_readInner 4 = .ok (.invokevirtual 59, 3) := by decide +kernel
theorem dX2_readInner_7 : decode cX2_readInner 7 = .ok (.aload_n 0, 1) := by decide +kernel
theorem dX2_readInner_8 : decode cX2_readInner 8 = .ok (.aload_n 0, 1) := by decide +kernel
theorem dX2_readInner_9 : decode cX2_readInner 9 = .ok (.getfield 19, 3) := by decide +kernel
theorem dX2_readInner_12 : decode cX2_readInner 12 = .ok (.getfield 41, 3) := by decide +kernel
theorem dX2_readInner_15 : decode cX2_readInner 15 = .ok (.iconst 1, 1) := by decide +kernel
theorem dX2_readInner_16 : decode cX2_readInner 16 = .ok (.isub, 1) := by decide +kernel
theorem dX2_readInner_17 : decode cX2_readInner 17 = .ok (.invokevirtual 83, 3) := by decide +kernel
theorem dX2_readInner_20 : decode cX2_readInner 20 = .ok (.ifCond .ne 5, 3) := by decide +kernel
theorem dX2_readInner_23 : decode cX2_readInner 23 = .ok (.iconst 0, 1) := by decide +kernel
theorem dX2_readInner_24 : decode cX2_readInner 24 = .ok (.ireturn, 1) := by decide +kernel
theorem dX2_readInner_25 : decode cX2_readInner 25 = .ok (.aload_n 0, 1) := by decide +kernel
theorem dX2_readInner_26 : decode cX2_readInner 26 = .ok (.getfield 19, 3) := by decide +kernel
theorem dX2_readInner_29 : decode cX2_readInner 29 = .ok (.getfield 68, 3) := by decide +kernel
theorem dX2_readInner_32 : decode cX2_readInner 32 = .ok (.aload_n 0, 1) := by decide +kernel
theorem dX2_readInner_33 : decode cX2_readInner 33 = .ok (.getfield 9, 3) := by decide +kernel
theorem dX2_readInner_36 : decode cX2_readInner 36 = .ok (.getfield 80, 3) := by decide +kernel
theorem dX2_readInner_39 : decode cX2_readInner 39 = .ok (.aaload, 1) := by decide +kernel
theorem dX2_readInner_40 : decode cX2_readInner 40 = .ok (.astore_n 2, 1) := by decide +kernel
theorem dX2_readInner_41 : decode cX2_readInner 41 = .ok (.aload_n 0, 1) := by decide +kernel
theorem dX2_readInner_42 : decode cX2_readInner 42 = .ok (.getfield 9, 3) := by decide +kernel
theorem dX2_readInner_45 : decode cX2_readInner 45 = .ok (.invokevirtual 59, 3) := by decide +kernel
theorem dX2_readInner_48 : decode cX2_readInner 48 = .ok (.aload_n 0, 1) := by decide +kernel
theorem dX2_readInner_49 : decode cX2_readInner 49 = .ok (.iload_n 1, 1) := by decide +kernel
theorem dX2_readInner_50 : decode cX2_readInner 50 = .ok (.invokevirtual 130, 3) := by decide +kernel
theorem dX2_readInner_53 : decode cX2_readInner 53 = .ok (.ifCond .ne 5, 3) := by decide +kernel
theorem dX2_readInner_56 : decode cX2_readInner 56 = .ok (.iconst 0, 1) := by decide +kernel
theorem dX2_readInner_57 : decode cX2_readInner 57 = .ok (.ireturn, 1) := by decide +kernel
theorem dX2_readInner_58 : decode cX2_readInner 58 = .ok (.aload_n 0, 1) := by decide +kernel
theorem dX2_readInner_59 : decode cX2_readInner 59 = .ok (.getfield 31, 3) := by decide +kernel
theorem dX2_readInner_62 : decode cX2_readInner 62 = .ok (.iload_n 1, 1) := by decide +kernel
theorem dX2_readInner_63 : decode cX2_readInner 63 = .ok (.aaload, 1) := by decide +kernel
theorem dX2_readInner_64 : decode cX2_readInner 64 = .ok (.astore_n 3, 1) := by decide +kernel
theorem dX2_readInner_65 : decode cX2_readInner 65 = .ok (.iconst 0, 1) := by decide +kernel
theorem dX2_readInner_66 : decode cX2_readInner 66 = .ok (.istore 4, 2) := by decide +kernel
theorem dX2_readInner_68 : decode cX2_readInner 68 = .ok (.iload 4, 2) := by decide +kernel
theorem dX2_readInner_70 : decode cX2_readInner 70 = .ok (.aload_n 0, 1) := by decide +kernel
theorem dX2_readInner_71 : decode cX2_readInner 71 = .ok (.getfield 15, 3) := by decide +kernel
theorem dX2_readInner_74 : decode cX2_readInner 74 = .ok (.getfield 108, 3) := by decide +kernel
theorem dX2_readInner_77 : decode cX2_readInner 77 = .ok (.if_icmp .ge 19, 3) := by decide +kernel
theorem dX2_readInner_80 : decode cX2_readInner 80 = .ok (.aload_n 3, 1) := by decide +kernel
theorem dX2_readInner_81 : decode cX2_readInner 81 = .ok (.iload 4, 2) := by decide +kernel
theorem dX2_readInner_83 : decode cX2_readInner 83 = .ok (.aload_n 2, 1) := by decide +kernel
theorem dX2_readInner_84 : decode cX2_readInner 84 = .ok (.aload_n 3, 1) := by decide +kernel
theorem dX2_readInner_85 : decode cX2_readInner 85 = .ok (.iload 4, 2) := by decide +kernel
theorem dX2_readInner_87 : decode cX2_readInner 87 = .ok (.iaload, 1) := by decide +kernel
theorem dX2_readInner_88 : decode cX2_readInner 88 = .ok (.iaload, 1) := by decide +kernel
theorem dX2_readInner_89 : decode cX2_readInner 89 = .ok (.iastore, 1) := by decide +kernel
theorem dX2_readInner_90 : decode cX2_readInner 90 = .ok (.iinc 4 1, 3) := by decide +kernel
theorem dX2_readInner_93 : decode cX2_readInner 93 = .ok (.goto (-25), 3) := by decide +kernel
theorem dX2_readInner_96 : decode cX2_readInner 96 = .ok (.iconst 1, 1) := by decide +kernel
theorem dX2_readInner_97 : decode cX2_readInner 97 = .ok (.ireturn, 1) := by decide +kernel
theorem dX2_readDickson_0 : decode cX2_readDickson 0 = .ok (.aload_n 0, 1) := by decide +kernel
theorem dX2_readDickson_1 : decode cX2_readDickson 1 = .ok (.getfield 9, 3) := by decide +kernel
theorem dX2_readDickson_4 : decode cX2_readDickson 4 = .ok (.invokevirtual 59, 3) := by decide +kernel
theorem dX2_readDickson_7 : decode cX2_readDickson 7 = .ok (.aload_n 0, 1) := by decide +kernel
theorem dX2_readDickson_8 : decode cX2_readDickson 8 = .ok (.sipush 9999, 3) := by decide +kernel
theorem dX2_readDickson_11 : decode cX2_readDickson 11 = .ok (.invokevirtual 83, 3) := by decide +kernel
theorem dX2_readDickson_14 : decode cX2_readDickson 14 = .ok (.ifCond .ne 5, 3) := by decide +kernel
theorem dX2_readDickson_17 : decode cX2_readDickson 17 = .ok (.iconst 0, 1) := by decide +kernel
theorem dX2_readDickson_18 : decode cX2_readDickson 18 = .ok (.ireturn, 1) := by decide +kernel
theorem dX2_readDickson_19 : decode cX2_readDickson 19 = .ok (.aload_n 0, 1) := by decide +kernel
theorem dX2_readDickson_20 : decode cX2_readDickson 20 = .ok (.getfield 9, 3) := by decide +kernel
theorem dX2_readDickson_23 : decode cX2_readDickson 23 = .ok (.getfield 80, 3) := by decide +kernel
theorem dX2_readDickson_26 : decode cX2_readDickson 26 = .ok (.istore_n 2, 1) := by decide +kernel
theorem dX2_readDickson_27 : decode cX2_readDickson 27 = .ok (.aload_n 0, 1) := by decide +kernel
theorem dX2_readDickson_28 : decode cX2_readDickson 28 = .ok (.getfield 9, 3) := by decide +kernel
theorem dX2_readDickson_31 : decode cX2_readDickson 31 = .ok (.invokevirtual 59, 3) := by decide +kernel
theorem dX2_readDickson_34 : decode cX2_readDickson 34 = .ok (.aload_n 0, 1) := by decide +kernel
theorem dX2_readDickson_35 : decode cX2_readDickson 35 = .ok (.aload_n 0, 1) := by decide +kernel
theorem dX2_readDickson_36 : decode cX2_readDickson 36 = .ok (.getfield 15, 3) := by decide +kernel
theorem dX2_readDickson_39 : decode cX2_readDickson 39 = .ok (.getfield 108, 3) := by decide +kernel
theorem dX2_readDickson_42 : decode cX2_readDickson 42 = .ok (.iconst 1, 1) := by decide +kernel
theorem dX2_readDickson_43 : decode cX2_readDickson 43 = .ok (.isub, 1) := by decide +kernel
theorem dX2_readDickson_44 : decode cX2_readDickson 44 = .ok (.invokevirtual 83, 3) := by decide +kernel
theorem dX2_readDickson_47 : decode cX2_readDickson 47 = .ok (.ifCond .ne 5, 3) := by decide +kernel
theorem dX2_readDickson_50 : decode cX2_readDickson 50 = .ok (.iconst 0, 1) := by decide +kernel
theorem dX2_readDickson_51 : decode cX2_readDickson 51 = .ok (.ireturn, 1) := by decide +kernel
theorem dX2_readDickson_52 : decode cX2_readDickson 52 = .ok (.iconst 0, 1) := by decide +kernel
theorem dX2_readDickson_53 : decode cX2_readDickson 53 = .ok (.istore_n 3, 1) := by decide +kernel
theorem dX2_readDickson_54 : decode cX2_readDickson 54 = .ok (.iload_n 3, 1) := by decide +kernel
theorem dX2_readDickson_55 : decode cX2_readDickson 55 = .ok (.aload_n 0, 1) := by decide +kernel
theorem dX2_readDickson_56 : decode cX2_readDickson 56 = .ok (.getfield 15, 3) := by decide +kernel
theorem dX2_readDickson_59 : decode cX2_readDickson 59 = .ok (.getfield 108, 3) := by decide +kernel
theorem dX2_readDickson_62 : decode cX2_readDickson 62 = .ok (.if_icmp .ge 28, 3) := by decide +kernel
theorem dX2_readDickson_65 : decode cX2_readDickson 65 = .ok (.aload_n 1, 1) := by decide +kernel
theorem dX2_readDickson_66 : decode cX2_readDickson 66 = .ok (.iload_n 3, 1) := by decide +kernel
theorem dX2_readDickson_67 : decode cX2_readDickson 67 = .ok (.aload_n 0, 1) := by decide +kernel
theorem dX2_readDickson_68 : decode cX2_readDickson 68 = .ok (.getfield 15, 3) := by decide +kernel
theorem dX2_readDickson_71 : decode cX2_readDickson 71 = .ok (.iload_n 2, 1) := by decide +kernel
theorem dX2_readDickson_72 : decode cX2_readDickson 72 = .ok (.aload_n 0, 1) := by decide +kernel
theorem dX2_readDickson_73 : decode cX2_readDickson 73 = .ok (.getfield 9, 3) := by decide +kernel
theorem dX2_readDickson_76 : decode cX2_readDickson 76 = .ok (.getfield 80, 3) := by decide +kernel
theorem dX2_readDickson_79 : decode cX2_readDickson 79 = .ok (.iload_n 3, 1) := by decide +kernel
theorem dX2_readDickson_80 : decode cX2_readDickson 80 = .ok (.invokevirtual 142, 3) := by decide +kernel
theorem dX2_readDickson_83 : decode cX2_readDickson 83 = .ok (.iastore, 1) := by decide +kernel
theorem dX2_readDickson_84 : decode cX2_readDickson 84 = .ok (.iinc 3 1, 3) := by decide +kernel
theorem dX2_readDickson_87 : decode cX2_readDickson 87 = .ok (.goto (-33), 3) := by decide +kernel
theorem dX2_readDickson_90 : decode cX2_readDickson 90 = .ok (.aload_n 0, 1) := by decide +kernel
theorem dX2_readDickson_91 : decode cX2_readDickson 91 = .ok (.getfield 9, 3) := by decide +kernel
theorem dX2_readDickson_94 : decode cX2_readDickson 94 = .ok (.invokevirtual 59, 3) := by decide +kernel
theorem dX2_readDickson_97 : decode cX2_readDickson 97 = .ok (.iconst 1, 1) := by decide +kernel
theorem dX2_readDickson_98 : decode cX2_readDickson 98 = .ok (.ireturn, 1) := by decide +kernel
theorem dX2_readPower_0 : decode cX2_readPower 0 = .ok (.aload_n 0, 1) := by decide +kernel
theorem dX2_readPower_1 : decode cX2_readPower 1 = .ok (.getfield 9, 3) := by decide +kernel
theorem dX2_readPower_4 : decode cX2_readPower 4 = .ok (.invokevirtual 59, 3) := by decide +kernel
theorem dX2_readPower_7 : decode cX2_readPower 7 = .ok (.aload_n 0, 1) := by decide +kernel
theorem dX2_readPower_8 : decode cX2_readPower 8 = .ok (.sipush 9999, 3) := by decide +kernel
theorem dX2_readPower_11 : decode cX2_readPower 11 = .ok (.invokevirtual 83, 3) := by decide +kernel
theorem dX2_readPower_14 : decode cX2_readPower 14 = .ok (.ifCond .ne 5, 3) := by decide +kernel
theorem dX2_readPower_17 : decode cX2_readPower 17 = .ok (.iconst 0, 1) := by decide +kernel
theorem dX2_readPower_18 : decode cX2_readPower 18 = .ok (.ireturn, 1) := by decide +kernel
theorem dX2_readPower_19 : decode cX2_readPower 19 = .ok (.iconst 0, 1) := by decide +kernel
theorem dX2_readPower_20 : decode cX2_readPower 20 = .ok (.istore_n 2, 1) := by decide +kernel
theorem dX2_readPower_21 : decode cX2_readPower 21 = .ok (.iload_n 2, 1) := by decide +kernel
theorem dX2_readPower_22 : decode cX2_readPower 22 = .ok (.aload_n 0, 1) := by decide +kernel
theorem dX2_readPower_23 : decode cX2_readPower 23 = .ok (.getfield 15, 3) := by decide +kernel
theorem dX2_readPower_26 : decode cX2_readPower 26 = .ok (.getfield 108, 3) := by decide +kernel
theorem dX2_readPower_29 : decode cX2_readPower 29 = .ok (.if_icmp .ge 29, 3) := by decide +kernel
theorem dX2_readPower_32 : decode cX2_readPower 32 = .ok (.aload_n 1, 1) := by decide +kernel
theorem dX2_readPower_33 : decode cX2_readPower 33 = .ok (.iload_n 2, 1) := by decide +kernel
theorem dX2_readPower_34 : decode cX2_readPower 34 = .ok (.aload_n 0, 1) := by decide +kernel
theorem dX2_readPower_35 : decode cX2_readPower 35 = .ok (.getfield 15, 3) := by decide +kernel
theorem dX2_readPower_38 : decode cX2_readPower 38 = .ok (.aload_n 1, 1) := by decide +kernel
theorem dX2_readPower_39 : decode cX2_readPower 39 = .ok (.iload_n 2, 1) := by decide +kernel
theorem dX2_readPower_40 : decode cX2_readPower 40 = .ok (.iaload, 1) := by decide +kernel
theorem dX2_readPower_41 : decode cX2_readPower 41 = .ok (.aload_n 0, 1) := by decide +kernel
theorem dX2_readPower_42 : decode cX2_readPower 42 = .ok (.getfield 9, 3) := by decide +kernel
theorem dX2_readPower_45 : decode cX2_readPower 45 = .ok (.getfield 80, 3) := by decide +kernel
theorem dX2_readPower_48 : decode cX2_readPower 48 = .ok (.invokevirtual 146, 3) := by decide +kernel
theorem dX2_readPower_51 : decode cX2_readPower 51 = .ok (.iastore, 1) := by decide +kernel
theorem dX2_readPower_52 : decode cX2_readPower 52 = .ok (.iinc 2 1, 3) := by decide +kernel
theorem dX2_readPower_55 : decode cX2_readPower 55 = .ok (.goto (-34), 3) := by decide +kernel
theorem dX2_readPower_58 : decode cX2_readPower 58 = .ok (.aload_n 0, 1) := by decide +kernel
theorem dX2_readPower_59 : decode cX2_readPower 59 = .ok (.getfield 9, 3) := by decide +kernel
theorem dX2_readPower_62 : decode cX2_readPower 62 = .ok (.invokevirtual 59, 3) := by decide +kernel
theorem dX2_readPower_65 : decode cX2_readPower 65 = .ok (.iconst 1, 1) := by decide +kernel
theorem dX2_readPower_66 : decode cX2_readPower 66 = .ok (.ireturn, 1) := by decide +kernel
theorem dX3_init_0 : decode cX3_init 0 = .ok (.aload_n 0, 1) := by decide +kernel
theorem dX3_init_1 : decode cX3_init 1 = .ok (.invokespecial 3, 3) := by decide +kernel
theorem dX3_init_4 : decode cX3_init 4 = .ok (.aload_n 0, 1) := by decide +kernel
theorem dX3_init_5 : decode cX3_init 5 = .ok (.iconst 2, 1) := by decide +kernel
theorem dX3_init_6 : decode cX3_init 6 = .ok (.putfield 9, 3) := by decide +kernel
theorem dX3_init_9 : decode cX3_init 9 = .ok (.aload_n 0, 1) := by decide +kernel
theorem dX3_init_10 : decode cX3_init 10 = .ok (.iconst 1, 1) := by decide +kernel
theorem dX3_init_11 : decode cX3_init 11 = .ok (.putfield 15, 3) := by decide +kernel
theorem dX3_init_14 : decode cX3_init 14 = .ok (.aload_n 0, 1) := by decide +kernel
theorem dX3_init_15 : decode cX3_init 15 = .ok (.bipush 6, 2) := by decide +kernel
theorem dX3_init_17 : decode cX3_init 17 = .ok (.bipush 64, 2) := by decide +kernel
theorem dX3_init_19 : decode cX3_init 19 = .ok (.multianewarray 18 2, 4) := by decide +kernel
theorem dX3_init_23 : decode cX3_init 23 = .ok (.putfield 20, 3) := by decide +kernel
theorem dX3_init_26 : decode cX3_init 26 = .ok (.return_, 1) := by decide +kernel
theorem dX3_become_0 : decode cX3_become 0 = .ok (.aload_n 0, 1) := by decide +kernel
theorem dX3_become_1 : decode cX3_become 1 = .ok (.aload_n 1, 1) := by decide +kernel
theorem dX3_become_2 : decode cX3_become 2 = .ok (.getfield 9, 3) := by decide +kernel
theorem dX3_become_5 : decode cX3_become 5 = .ok (.putfield 9, 3) := by decide +kernel
theorem dX3_become_8 : decode cX3_become 8 = .ok (.aload_n 0, 1) := by decide +kernel
theorem dX3_become_9 : decode cX3_become 9 = .ok (.aload_n 1, 1) := by decide +kernel
theorem dX3_become_10 : decode cX3_become 10 = .ok (.getfield 15, 3) := by decide +kernel
theorem dX3_become_13 : decode cX3_become 13 = .ok (.putfield 15, 3) := by decide +kernel
theorem dX3_become_16 : decode cX3_become 16 = .ok (.aload_n 0, 1) := by decide +kernel
theorem dX3_become_17 : decode cX3_become 17 = .ok (.aload_n 1, 1) := by decide +kernel
theorem dX3_become_18 : decode cX3_become 18 = .ok (.getfield 23, 3) := by decide +kernel
theorem dX3_become_21 : decode cX3_become 21 = .ok (.putfield 23, 3) := by decide +kernel
theorem dX3_become_24 : decode cX3_become 24 = .ok (.iconst 0, 1) := by decide +kernel
theorem dX3_become_25 : decode cX3_become 25 = .ok (.istore_n 2, 1) := by decide +kernel
theorem dX3_become_26 : decode cX3_become 26 = .ok (.iload_n 2, 1) := by decide +kernel
theorem dX3_become_27 : decode cX3_become 27 = .ok (.aload_n 1, 1) := by decide +kernel
theorem dX3_become_28 : decode cX3_become 28 = .ok (.getfield 23, 3) := by decide +kernel
theorem dX3_become_31 : decode cX3_become 31 = .ok (.if_icmp .ge 28, 3) := by decide +kernel
theorem dX3_become_34 : decode cX3_become 34 = .ok (.aload_n 1, 1) := by decide +kernel
theorem dX3_become_35 : decode cX3_become 35 = .ok (.getfield 20, 3) := by decide +kernel
theorem dX3_become_38 : decode cX3_become 38 = .ok (.iload_n 2, 1) := by decide +kernel
theorem dX3_become_39 : decode cX3_become 39 = .ok (.aaload, 1) := by decide +kernel
theorem dX3_become_40 : decode cX3_become 40 = .ok (.iconst 0, 1) := by decide +kernel
theorem dX3_become_41 : decode cX3_become 41 = .ok (.aload_n 0, 1) := by decide +kernel
theorem dX3_become_42 : decode cX3_become 42 = .ok (.getfield 20, 3) := by decide +kernel
theorem dX3_become_45 : decode cX3_become 45 = .ok (.iload_n 2, 1) := by decide +kernel
theorem dX3_become_46 : decode cX3_become 46 = .ok (.aaload, 1) := by decide +kernel
theorem dX3_become_47 : decode cX3_become 47 = .ok (.iconst 0, 1) := by decide +kernel
theorem dX3_become_48 : decode cX3_become 48 = .ok (.bipush 64, 2) := by decide +kernel
theorem dX3_become_50 : decode cX3_become 50 = .ok (.invokestatic 26, 3) := by decide +kernel
theorem dX3_become_53 : decode cX3_become 53 = .ok (.iinc 2 1, 3) := by decide +kernel
theorem dX3_become_56 : decode cX3_become 56 = .ok (.goto (-30), 3) := by decide +kernel
theorem dX3_become_59 : decode cX3_become 59 = .ok (.return_, 1) := by decide +kernel
theorem dX3_remove_0 : decode cX3_remove 0 = .ok (.iload_n 1, 1) := by decide +kernel
theorem dX3_remove_1 : decode cX3_remove 1 = .ok (.iconst 1, 1) := by decide +kernel
theorem dX3_remove_2 : decode cX3_remove 2 = .ok (.iadd, 1) := by decide +kernel
theorem dX3_remove_3 : decode cX3_remove 3 = .ok (.istore_n 2, 1) := by decide +kernel
theorem dX3_remove_4 : decode cX3_remove 4 = .ok (.iload_n 2, 1) := by decide +kernel
theorem dX3_remove_5 : decode cX3_remove 5 = .ok (.aload_n 0, 1) := by decide +kernel
theorem dX3_remove_6 : decode cX3_remove 6 = .ok (.getfield 23, 3) := by decide +kernel
theorem dX3_remove_9 : decode cX3_remove 9 = .ok (.if_icmp .ge 30, 3) := by decide +kernel
theorem dX3_remove_12 : decode cX3_remove 12 = .ok (.aload_n 0, 1) := by decide +kernel
theorem dX3_remove_13 : decode cX3_remove 13 = .ok (.getfield 20, 3) := by decide +kernel
theorem dX3_remove_16 : decode cX3_remove 16 = .ok (.iload_n 2, 1) := by decide +kernel
theorem dX3_remove_17 : decode cX3_remove 17 = .ok (.aaload, 1) := by decide +kernel
theorem dX3_remove_18 : decode cX3_remove 18 = .ok (.iconst 0, 1) := by decide +kernel
theorem dX3_remove_19 : decode cX3_remove 19 = .ok (.aload_n 0, 1) := by decide +kernel
theorem dX3_remove_20 : decode cX3_remove 20 = .ok (.getfield 20, 3) := by decide +kernel
theorem dX3_remove_23 : decode cX3_remove 23 = .ok (.iload_n 2, 1) := by decide +kernel
theorem dX3_remove_24 : decode cX3_remove 24 = .ok (.iconst 1, 1) := by decide +kernel
theorem dX3_remove_25 : decode cX3_remove 25 = .ok (.isub, 1) := by decide +kernel
theorem dX3_remove_26 : decode cX3_remove 26 = .ok (.aaload, 1) := by decide +kernel
theorem dX3_remove_27 : decode cX3_remove 27 = .ok (.iconst 0, 1) := by decide +kernel
theorem dX3_remove_28 : decode cX3_remove 28 = .ok (.bipush 64, 2) := by decide +kernel
theorem dX3_remove_30 : decode cX3_remove 30 = .ok (.invokestatic 26, 3) := by decide +kernel
theorem dX3_remove_33 : decode cX3_remove 33 = .ok (.iinc 2 1, 3) := by decide +kernel
theorem dX3_remove_36 : decode cX3_remove 36 = .ok (.goto (-32), 3) := by decide +kernel
theorem dX3_remove_39 : decode cX3_remove 39 = .ok (.aload_n 0, 1) := by decide +kernel
theorem dX3_remove_40 : decode cX3_remove 40 = .ok (.dup, 1) := by decide +kernel
theorem dX3_remove_41 : decode cX3_remove 41 = .ok (.getfield 23, 3) := by decide +kernel
theorem dX3_remove_44 : decode cX3_remove 44 = .ok (.iconst 1, 1) := by decide +kernel
theorem dX3_remove_45 : decode cX3_remove 45 = .ok (.isub, 1) := by decide +kernel
theorem dX3_remove_46 : decode cX3_remove 46 = .ok (.putfield 23, 3) := by decide +kernel
theorem dX3_remove_49 : decode cX3_remove 49 = .ok (.return_, 1) := by decide +kernel
theorem dX5_init_0 : decode cX5_init 0 = .ok (.aload_n 0, 1) := by decide +kernel
theorem dX5_init_1 : decode cX5_init 1 = .ok (.invokespecial 3, 3) := by decide +kernel
theorem dX5_init_4 : decode cX5_init 4 = .ok (.aload_n 0, 1) := by decide +kernel
theorem dX5_init_5 : decode cX5_init 5 = .ok (.sipush 300, 3) := by decide +kernel
theorem dX5_init_8 : decode cX5_init 8 = .ok (.newarray .int, 2) := by decide +kernel
theorem dX5_init_10 : decode cX5_init 10 = .ok (.putfield 9, 3) := by decide +kernel
theorem dX5_init_13 : decode cX5_init 13 = .ok (.aload_n 0, 1) := by decide +kernel
theorem dX5_init_14 : decode cX5_init 14 = .ok (.sipush 301, 3) := by decide +kernel
theorem dX5_init_17 : decode cX5_init 17 = .ok (.newarray .int, 2) := by decide +kernel
theorem dX5_init_19 : decode cX5_init 19 = .ok (.putfield 15, 3) := by decide +kernel
theorem dX5_init_22 : decode cX5_init 22 = .ok (.aload_n 0, 1) := by decide +kernel
theorem dX5_init_23 : decode cX5_init 23 = .ok (.sipush 301, 3) := by decide +kernel
theorem dX5_init_26 : decode cX5_init 26 = .ok (.newarray .int, 2) := by decide +kernel
theorem dX5_init_28 : decode cX5_init 28 = .ok (.putfield 18, 3) := by decide +kernel
theorem dX5_init_31 : decode cX5_init 31 = .ok (.aload_n 0, 1) := by decide +kernel
theorem dX5_init_32 : decode cX5_init 32 = .ok (.sipush 301, 3) := by decide +kernel
theorem dX5_init_35 : decode cX5_init 35 = .ok (.newarray .int, 2) := by decide +kernel
theorem dX5_init_37 : decode cX5_init 37 = .ok (.putfield 21, 3) := by decide +kernel
theorem dX5_init_40 : decode cX5_init 40 = .ok (.return_, 1) := by decide +kernel
theorem dX5_put_0 : decode cX5_put 0 = .ok (.bipush 24, 2) := by decide +kernel
theorem dX5_put_2 : decode cX5_put 2 = .ok (.istore_n 2, 1) := by decide +kernel
theorem dX5_put_3 : decode cX5_put 3 = .ok (.iload_n 2, 1) := by decide +kernel
theorem dX5_put_4 : decode cX5_put 4 = .ok (.ifCond .lt 45, 3) := by decide +kernel
theorem dX5_put_7 : decode cX5_put 7 = .ok (.aload_n 0, 1) := by decide +kernel
theorem dX5_put_8 : decode cX5_put 8 = .ok (.getfield 24, 3) := by decide +kernel
theorem dX5_put_11 : decode cX5_put 11 = .ok (.sipush 300, 3) := by decide +kernel
theorem dX5_put_14 : decode cX5_put 14 = .ok (.if_icmp .ge 35, 3) := by decide +kernel
theorem dX5_put_17 : decode cX5_put 17 = .ok (.aload_n 0, 1) := by decide +kernel
theorem dX5_put_18 : decode cX5_put 18 = .ok (.getfield 9, 3) := by decide +kernel
theorem dX5_put_21 : decode cX5_put 21 = .ok (.aload_n 0, 1) := by decide +kernel
theorem dX5_put_22 : decode cX5_put 22 = .ok (.getfield 24, 3) := by decide +kernel
theorem dX5_put_25 : decode cX5_put 25 = .ok (.iload_n 1, 1) := by decide +kernel
theorem dX5_put_26 : decode cX5_put 26 = .ok (.iload_n 2, 1) := by decide +kernel
theorem dX5_put_27 : decode cX5_put 27 = .ok (.iushr, 1) := by decide +kernel
theorem dX5_put_28 : decode cX5_put 28 = .ok (.sipush 255, 3) := by decide +kernel
theorem dX5_put_31 : decode cX5_put 31 = .ok (.iand, 1) := by decide +kernel
theorem dX5_put_32 : decode cX5_put 32 = .ok (.iastore, 1) := by decide +kernel
theorem dX5_put_33 : decode cX5_put 33 = .ok (.aload_n 0, 1) := by decide +kernel
theorem dX5_put_34 : decode cX5_put 34 = .ok (.dup, 1) := by decide +kernel
theorem dX5_put_35 : decode cX5_put 35 = .ok (.getfield 24, 3) := by decide +kernel
theorem dX5_put_38 : decode cX5_put 38 = .ok (.iconst 1, 1) := by decide +kernel
theorem dX5_put_39 : decode cX5_put 39 = .ok (.iadd, 1) := by decide +kernel
theorem dX5_put_40 : decode cX5_put 40 = .ok (.putfield 24, 3) := by decide +kernel
theorem dX5_put_43 : decode cX5_put 43 = .ok (.iinc 2 (-8), 3) := by decide +kernel
theorem dX5_put_46 : decode cX5_put 46 = .ok (.goto (-43), 3) := by decide +kernel
theorem dX5_put_49 : decode cX5_put 49 = .ok (.return_, 1) := by decide +kernel
theorem dX5_cut_0 : decode cX5_cut 0 = .ok (.iconst 0, 1) := by decide +kernel
theorem dX5_cut_1 : decode cX5_cut 1 = .ok (.istore_n 2, 1) := by decide +kernel
theorem dX5_cut_2 : decode cX5_cut 2 = .ok (.iconst 0, 1) := by decide +kernel
theorem dX5_cut_3 : decode cX5_cut 3 = .ok (.istore_n 3, 1) := by decide +kernel
theorem dX5_cut_4 : decode cX5_cut 4 = .ok (.iconst 0, 1) := by decide +kernel
theorem dX5_cut_5 : decode cX5_cut 5 = .ok (.istore 4, 2) := by decide +kernel
theorem dX5_cut_7 : decode cX5_cut 7 = .ok (.iload 4, 2) := by decide +kernel
theorem dX5_cut_9 : decode cX5_cut 9 = .ok (.sipush 300, 3) := by decide +kernel
theorem dX5_cut_12 : decode cX5_cut 12 = .ok (.if_icmp .ge 49, 3) := by decide +kernel
theorem dX5_cut_15 : decode cX5_cut 15 = .ok (.iload_n 3, 1) := by decide +kernel
theorem dX5_cut_16 : decode cX5_cut 16 = .ok (.iload_n 1, 1) := by decide +kernel
theorem dX5_cut_17 : decode cX5_cut 17 = .ok (.if_icmp .ge 44, 3) := by decide +kernel
theorem dX5_cut_20 : decode cX5_cut 20 = .ok (.aload_n 0, 1) := by decide +kernel
theorem dX5_cut_21 : decode cX5_cut 21 = .ok (.getfield 9, 3) := by decide +kernel
theorem dX5_cut_24 : decode cX5_cut 24 = .ok (.iload_n 3, 1) := by decide +kernel
theorem dX5_cut_25 : decode cX5_cut 25 = .ok (.iaload, 1) := by decide +kernel
theorem dX5_cut_26 : decode cX5_cut 26 = .ok (.bipush 32, 2) := by decide +kernel
theorem dX5_cut_28 : decode cX5_cut 28 = .ok (.if_icmp .ne 9, 3) := by decide +kernel
theorem dX5_cut_31 : decode cX5_cut 31 = .ok (.iinc 3 1, 3) := by decide +kernel
theorem dX5_cut_34 : decode cX5_cut 34 = .ok (.goto 21, 3) := by decide +kernel
theorem dX5_cut_37 : decode cX5_cut 37 = .ok (.aload_n 0, 1) := by decide +kernel
theorem dX5_cut_38 : decode cX5_cut 38 = .ok (.getfield 18, 3) := by decide +kernel
theorem dX5_cut_41 : decode cX5_cut 41 = .ok (.iload_n 2, 1) := by decide +kernel
theorem dX5_cut_42 : decode cX5_cut 42 = .ok (.iload_n 3, 1) := by decide +kernel
theorem dX5_cut_43 : decode cX5_cut 43 = .ok (.iastore, 1) := by decide +kernel
theorem dX5_cut_44 : decode cX5_cut 44 = .ok (.aload_n 0, 1) := by decide +kernel
theorem dX5_cut_45 : decode cX5_cut 45 = .ok (.iload_n 2, 1) := by decide +kernel
theorem dX5_cut_46 : decode cX5_cut 46 = .ok (.iload_n 3, 1) := by decide +kernel
theorem dX5_cut_47 : decode cX5_cut 47 = .ok (.iload_n 1, 1) := by decide +kernel
theorem dX5_cut_48 : decode cX5_cut 48 = .ok (.invokevirtual 28, 3) := by decide +kernel
theorem dX5_cut_51 : decode cX5_cut 51 = .ok (.istore_n 3, 1) := by decide +kernel
theorem dX5_cut_52 : decode cX5_cut 52 = .ok (.iinc 2 1, 3) := by decide +kernel
theorem dX5_cut_55 : decode cX5_cut 55 = .ok (.iinc 4 1, 3) := by decide +kernel
theorem dX5_cut_58 : decode cX5_cut 58 = .ok (.goto (-51), 3) := by decide +kernel
theorem dX5_cut_61 : decode cX5_cut 61 = .ok (.aload_n 0, 1) := by decide +kernel
theorem dX5_cut_62 : decode cX5_cut 62 = .ok (.getfield 15, 3) := by decide +kernel
theorem dX5_cut_65 : decode cX5_cut 65 = .ok (.iload_n 2, 1) := by decide +kernel
theorem dX5_cut_66 : decode cX5_cut 66 = .ok (.iconst 0, 1) := by decide +kernel
theorem dX5_cut_67 : decode cX5_cut 67 = .ok (.iastore, 1) := by decide +kernel
theorem dX5_cut_68 : decode cX5_cut 68 = .ok (.aload_n 0, 1) := by decide +kernel
theorem dX5_cut_69 : decode cX5_cut 69 = .ok (.getfield 18, 3) := by decide +kernel
theorem dX5_cut_72 : decode cX5_cut 72 = .ok (.iload_n 2, 1) := by decide +kernel
theorem dX5_cut_73 : decode cX5_cut 73 = .ok (.iload_n 1, 1) := by decide +kernel
theorem dX5_cut_74 : decode cX5_cut 74 = .ok (.iastore, 1) := by decide +kernel
theorem dX5_cut_75 : decode cX5_cut 75 = .ok (.aload_n 0, 1) := by decide +kernel
theorem dX5_cut_76 : decode cX5_cut 76 = .ok (.iconst (-1), 1) := by decide +kernel
theorem dX5_cut_77 : decode cX5_cut 77 = .ok (.putfield 32, 3) := by decide +kernel
theorem dX5_cut_80 : decode cX5_cut 80 = .ok (.aload_n 0, 1) := by decide +kernel
theorem dX5_cut_81 : decode cX5_cut 81 = .ok (.bipush 7, 2) := by decide +kernel
theorem dX5_cut_83 : decode cX5_cut 83 = .ok (.putfield 35, 3) := by decide +kernel
theorem dX5_cut_86 : decode cX5_cut 86 = .ok (.aload_n 0, 1) := by decide +kernel
theorem dX5_cut_87 : decode cX5_cut 87 = .ok (.invokevirtual 38, 3) := by decide +kernel
theorem dX5_cut_90 : decode cX5_cut 90 = .ok (.return_, 1) := by decide +kernel
theorem dX5_cutOne_0 : decode cX5_cutOne 0 = .ok (.aload_n 0, 1) := by decide +kernel
theorem dX5_cutOne_1 : decode cX5_cutOne 1 = .ok (.getfield 9, 3) := by decide +kernel
theorem dX5_cutOne_4 : decode cX5_cutOne 4 = .ok (.iload_n 2, 1) := by decide +kernel
theorem dX5_cutOne_5 : decode cX5_cutOne 5 = .ok (.iaload, 1) := by decide +kernel
theorem dX5_cutOne_6 : decode cX5_cutOne 6 = .ok (.istore 4, 2) := by decide +kernel
theorem dX5_cutOne_8 : decode cX5_cutOne 8 = .ok (.iload_n 2, 1) := by decide +kernel
theorem dX5_cutOne_9 : decode cX5_cutOne 9 = .ok (.iconst 1, 1) := by decide +kernel
theorem dX5_cutOne_10 : decode cX5_cutOne 10 = .ok (.iadd, 1) := by decide +kernel
theorem dX5_cutOne_11 : decode cX5_cutOne 11 = .ok (.istore 5, 2) := by decide +kernel
theorem dX5_cutOne_13 : decode cX5_cutOne 13 = .ok (.iload 4, 2) := by decide +kernel
theorem dX5_cutOne_15 : decode cX5_cutOne 15 = .ok (.invokestatic 41, 3) := by decide +kernel
theorem dX5_cutOne_18 : decode cX5_cutOne 18 = .ok (.ifCond .eq 76, 3) := by decide +kernel
theorem dX5_cutOne_21 : decode cX5_cutOne 21 = .ok (.iload 4, 2) := by decide +kernel
theorem dX5_cutOne_23 : decode cX5_cutOne 23 = .ok (.bipush 48, 2) := by decide +kernel
theorem dX5_cutOne_25 : decode cX5_cutOne 25 = .ok (.isub, 1) := by decide +kernel
theorem dX5_cutOne_26 : decode cX5_cutOne 26 = .ok (.istore 6, 2) := by decide +kernel
theorem dX5_cutOne_28 : decode cX5_cutOne 28 = .ok (.iload 5, 2) := by decide +kernel
theorem dX5_cutOne_30 : decode cX5_cutOne 30 = .ok (.iload_n 3, 1) := by decide +kernel
theorem dX5_cutOne_31 : decode cX5_cutOne 31 = .ok (.if_icmp .ge 45, 3) := by decide +kernel
theorem dX5_cutOne_34 : decode cX5_cutOne 34 = .ok (.aload_n 0, 1) := by decide +kernel
theorem dX5_cutOne_35 : decode cX5_cutOne 35 = .ok (.getfield 9, 3) := by decide +kernel
theorem dX5_cutOne_38 : decode cX5_cutOne 38 = .ok (.iload 5, 2) := by decide +kernel
theorem dX5_cutOne_40 : decode cX5_cutOne 40 = .ok (.iaload, 1) := by decide +kernel
theorem dX5_cutOne_41 : decode cX5_cutOne 41 = .ok (.invokestatic 41, 3) := by decide +kernel
theorem dX5_cutOne_44 : decode cX5_cutOne 44 = .ok (.ifCond .eq 32, 3) := by decide +kernel
theorem dX5_cutOne_47 : decode cX5_cutOne 47 = .ok (.bipush 10, 2) := by decide +kernel
theorem dX5_cutOne_49 : decode cX5_cutOne 49 = .ok (.iload 6, 2) := by decide +kernel
theorem dX5_cutOne_51 : decode cX5_cutOne 51 = .ok (.imul, 1) := by decide +kernel
theorem dX5_cutOne_52 : decode cX5_cutOne 52 = .ok (.aload_n 0, 1) := by decide +kernel
theorem dX5_cutOne_53 : decode cX5_cutOne 53 = .ok (.getfield 9, 3) := by decide +kernel
theorem dX5_cutOne_56 : decode cX5_cutOne 56 = .ok (.iload 5, 2) := by decide +kernel
theorem dX5_cutOne_58 : decode cX5_cutOne 58 = .ok (.iaload, 1) := by decide +kernel
theorem dX5_cutOne_59 : decode cX5_cutOne 59 = .ok (.iadd, 1) := by decide +kernel
theorem dX5_cutOne_60 : decode cX5_cutOne 60 = .ok (.bipush 48, 2) := by decide +kernel
theorem dX5_cutOne_62 : decode cX5_cutOne 62 = .ok (.isub, 1) := by decide +kernel
theorem dX5_cutOne_63 : decode cX5_cutOne 63 = .ok (.ldc 45, 2) := by decide +kernel
theorem dX5_cutOne_65 : decode cX5_cutOne 65 = .ok (.invokestatic 46, 3) := by decide +kernel
theorem dX5_cutOne_68 : decode cX5_cutOne 68 = .ok (.istore 6, 2) := by decide +kernel
theorem dX5_cutOne_70 : decode cX5_cutOne 70 = .ok (.iinc 5 1, 3) := by decide +kernel
theorem dX5_cutOne_73 : decode cX5_cutOne 73 = .ok (.goto (-45), 3) := by decide +kernel
theorem dX5_cutOne_76 : decode cX5_cutOne 76 = .ok (.aload_n 0, 1) := by decide +kernel
theorem dX5_cutOne_77 : decode cX5_cutOne 77 = .ok (.getfield 15, 3) := by decide +kernel
theorem dX5_cutOne_80 : decode cX5_cutOne 80 = .ok (.iload_n 1, 1) := by decide +kernel
theorem dX5_cutOne_81 : decode cX5_cutOne 81 = .ok (.iconst 1, 1) := by decide +kernel
theorem dX5_cutOne_82 : decode cX5_cutOne 82 = .ok (.iastore, 1) := by decide +kernel
theorem dX5_cutOne_83 : decode cX5_cutOne 83 = .ok (.aload_n 0, 1) := by decide +kernel
theorem dX5_cutOne_84 : decode cX5_cutOne 84 = .ok (.getfield 21, 3) := by decide +kernel
theorem dX5_cutOne_87 : decode cX5_cutOne 87 = .ok (.iload_n 1, 1) := by decide +kernel
theorem dX5_cutOne_88 : decode cX5_cutOne 88 = .ok (.iload 6, 2) := by decide +kernel
theorem dX5_cutOne_90 : decode cX5_cutOne 90 = .ok (.iastore, 1) := by decide +kernel
theorem dX5_cutOne_91 : decode cX5_cutOne 91 = .ok (.goto 73, 3) := by decide +kernel
theorem dX5_cutOne_94 : decode cX5_cutOne 94 = .ok (.iload 4, 2) := by decide +kernel
theorem dX5_cutOne_96 : decode cX5_cutOne 96 = .ok (.invokestatic 52, 3) := by decide +kernel
theorem dX5_cutOne_99 : decode cX5_cutOne 99 = .ok (.ifCond .eq 44, 3) := by decide +kernel
theorem dX5_cutOne_102 : decode cX5_cutOne 102 = .ok (.iload 5, 2) := by decide +kernel
theorem dX5_cutOne_104 : decode cX5_cutOne 104 = .ok (.iload_n 3, 1) := by decide +kernel
theorem dX5_cutOne_105 : decode cX5_cutOne 105 = .ok (.if_icmp .ge 22, 3) := by decide +kernel
theorem dX5_cutOne_108 : decode cX5_cutOne 108 = .ok (.aload_n 0, 1) := by decide +kernel
theorem dX5_cutOne_109 : decode cX5_cutOne 109 = .ok (.getfield 9, 3) := by decide +kernel
theorem dX5_cutOne_112 : decode cX5_cutOne 112 = .ok (.iload 5, 2) := by decide +kernel
theorem dX5_cutOne_114 : decode cX5_cutOne 114 = .ok (.iaload, 1) := by decide +kernel
theorem dX5_cutOne_115 : decode cX5_cutOne 115 = .ok (.invokestatic 52, 3) := by decide +kernel
theorem dX5_cutOne_118 : decode cX5_cutOne 118 = .ok (.ifCond .eq 9, 3) := by decide +kernel
theorem dX5_cutOne_121 : decode cX5_cutOne 121 = .ok (.iinc 5 1, 3) := by decide +kernel
theorem dX5_cutOne_124 : decode cX5_cutOne 124 = .ok (.goto (-22), 3) := by decide +kernel
theorem dX5_cutOne_127 : decode cX5_cutOne 127 = .ok (.aload_n 0, 1) := by decide +kernel
theorem dX5_cutOne_128 : decode cX5_cutOne 128 = .ok (.getfield 15, 3) := by decide +kernel
theorem dX5_cutOne_131 : decode cX5_cutOne 131 = .ok (.iload_n 1, 1) := by decide +kernel
theorem dX5_cutOne_132 : decode cX5_cutOne 132 = .ok (.aload_n 0, 1) := by decide +kernel
theorem dX5_cutOne_133 : decode cX5_cutOne 133 = .ok (.iload_n 2, 1) := by decide +kernel
theorem dX5_cutOne_134 : decode cX5_cutOne 134 = .ok (.iload 5, 2) := by decide +kernel
theorem dX5_cutOne_136 : decode cX5_cutOne 136 = .ok (.invokevirtual 55, 3) := by decide +kernel
theorem dX5_cutOne_139 : decode cX5_cutOne 139 = .ok (.iastore, 1) := by decide +kernel
theorem dX5_cutOne_140 : decode cX5_cutOne 140 = .ok (.goto 24, 3) := by decide +kernel
theorem dX5_cutOne_143 : decode cX5_cutOne 143 = .ok (.aload_n 0, 1) := by decide +kernel
theorem dX5_cutOne_144 : decode cX5_cutOne 144 = .ok (.getfield 15, 3) := by decide +kernel
theorem dX5_cutOne_147 : decode cX5_cutOne 147 = .ok (.iload_n 1, 1) := by decide +kernel
theorem dX5_cutOne_148 : decode cX5_cutOne 148 = .ok (.iload 4, 2) := by decide +kernel
theorem dX5_cutOne_150 : decode cX5_cutOne 150 = .ok (.invokestatic 58, 3) := by decide +kernel
theorem dX5_cutOne_153 : decode cX5_cutOne 153 = .ok (.ifCond .eq 8, 3) := by decide +kernel
theorem dX5_cutOne_156 : decode cX5_cutOne 156 = .ok (.iload 4, 2) := by decide +kernel
theorem dX5_cutOne_158 : decode cX5_cutOne 158 = .ok (.goto 5, 3) := by decide +kernel
theorem dX5_cutOne_161 : decode cX5_cutOne 161 = .ok (.bipush 7, 2) := by decide +kernel
theorem dX5_cutOne_163 : decode cX5_cutOne 163 = .ok (.iastore, 1) := by decide +kernel
theorem dX5_cutOne_164 : decode cX5_cutOne 164 = .ok (.iload 5, 2) := by decide +kernel
theorem dX5_cutOne_166 : decode cX5_cutOne 166 = .ok (.ireturn, 1) := by decide +kernel
theorem dX5_isDigit_0 : decode cX5_isDigit 0 = .ok (.iload_n 0, 1) := by decide +kernel
theorem dX5_isDigit_1 : decode cX5_isDigit 1 = .ok (.bipush 48, 2) := by decide +kernel
theorem dX5_isDigit_3 : decode cX5_isDigit 3 = .ok (.if_icmp .lt 13, 3) := by decide +kernel
theorem dX5_isDigit_6 : decode cX5_isDigit 6 = .ok (.iload_n 0, 1) := by decide +kernel
theorem dX5_isDigit_7 : decode cX5_isDigit 7 = .ok (.bipush 57, 2) := by decide +kernel
theorem dX5_isDigit_9 : decode cX5_isDigit 9 = .ok (.if_icmp .gt 7, 3) := by decide +kernel
theorem dX5_isDigit_12 : decode cX5_isDigit 12 = .ok (.iconst 1, 1) := by decide +kernel
theorem dX5_isDigit_13 : decode cX5_isDigit 13 = .ok (.goto 4, 3) := by decide +kernel
theorem dX5_isDigit_16 : decode cX5_isDigit 16 = .ok (.iconst 0, 1) := by decide +kernel
theorem dX5_isDigit_17 : decode cX5_isDigit 17 = .ok (.ireturn, 1) := by decide +kernel
theorem dX5_isLetter_0 : decode cX5_isLetter 0 = .ok (.iload_n 0, 1) := by decide +kernel
theorem dX5_isLetter_1 : decode cX5_isLetter 1 = .ok (.bipush 97, 2) := by decide +kernel
theorem dX5_isLetter_3 : decode cX5_isLetter 3 = .ok (.if_icmp .lt 13, 3) := by decide +kernel
theorem dX5_isLetter_6 : decode cX5_isLetter 6 = .ok (.iload_n 0, 1) := by decide +kernel
theorem dX5_isLetter_7 : decode cX5_isLetter 7 = .ok (.bipush 122, 2) := by decide +kernel
theorem dX5_isLetter_9 : decode cX5_isLetter 9 = .ok (.if_icmp .gt 7, 3) := by decide +kernel
theorem dX5_isLetter_12 : decode cX5_isLetter 12 = .ok (.iconst 1, 1) := by decide +kernel
theorem dX5_isLetter_13 : decode cX5_isLetter 13 = .ok (.goto 4, 3) := by decide +kernel
theorem dX5_isLetter_16 : decode cX5_isLetter 16 = .ok (.iconst 0, 1) := by decide +kernel
theorem dX5_isLetter_17 : decode cX5_isLetter 17 = .ok (.ireturn, 1) := by decide +kernel
theorem dX5_isSign_0 : decode cX5_isSign 0 = .ok (.iload_n 0, 1) := by decide +kernel
theorem dX5_isSign_1 : decode cX5_isSign 1 = .ok (.bipush 40, 2) := by decide +kernel
theorem dX5_isSign_3 : decode cX5_isSign 3 = .ok (.if_icmp .lt 9, 3) := by decide +kernel
theorem dX5_isSign_6 : decode cX5_isSign 6 = .ok (.iload_n 0, 1) := by decide +kernel
theorem dX5_isSign_7 : decode cX5_isSign 7 = .ok (.bipush 43, 2) := by decide +kernel
theorem dX5_isSign_9 : decode cX5_isSign 9 = .ok (.if_icmp .le 21, 3) := by decide +kernel
theorem dX5_isSign_12 : decode cX5_isSign 12 = .ok (.iload_n 0, 1) := by decide +kernel
theorem dX5_isSign_13 : decode cX5_isSign 13 = .ok (.bipush 45, 2) := by decide +kernel
theorem dX5_isSign_15 : decode cX5_isSign 15 = .ok (.if_icmp .eq 15, 3) := by decide +kernel
theorem dX5_isSign_18 : decode cX5_isSign 18 = .ok (.iload_n 0, 1) := by decide +kernel
theorem dX5_isSign_19 : decode cX5_isSign 19 = .ok (.bipush 59, 2) := by decide +kernel
theorem dX5_isSign_21 : decode cX5_isSign 21 = .ok (.if_icmp .eq 9, 3) := by decide +kernel
theorem dX5_isSign_24 : decode cX5_isSign 24 = .ok (.iload_n 0, 1) := by decide +kernel
theorem dX5_isSign_25 : decode cX5_isSign 25 = .ok (.bipush 94, 2) := by decide +kernel
theorem dX5_isSign_27 : decode cX5_isSign 27 = .ok (.if_icmp .ne 7, 3) := by decide +kernel
theorem dX5_isSign_30 : decode cX5_isSign 30 = .ok (.iconst 1, 1) := by decide +kernel
theorem dX5_isSign_31 : decode cX5_isSign 31 = .ok (.goto 4, 3) := by decide +kernel
theorem dX5_isSign_34 : decode cX5_isSign 34 = .ok (.iconst 0, 1) := by decide +kernel
theorem dX5_isSign_35 : decode cX5_isSign 35 = .ok (.ireturn, 1) := by decide +kernel
theorem dX5_wordKind_0 : decode cX5_wordKind 0 = .ok (.aload_n 0, 1) := by decide +kernel
theorem dX5_wordKind_1 : decode cX5_wordKind 1 = .ok (.ldc 61, 2) := by decide +kernel
theorem dX5_wordKind_3 : decode cX5_wordKind 3 = .ok (.iload_n 1, 1) := by decide +kernel
theorem dX5_wordKind_4 : decode cX5_wordKind 4 = .ok (.iload_n 2, 1) := by decide +kernel
theorem dX5_wordKind_5 : decode cX5_wordKind 5 = .ok (.invokevirtual 63, 3) := by decide +kernel
theorem dX5_wordKind_8 : decode cX5_wordKind 8 = .ok (.ifCond .eq 5, 3) := by decide +kernel
theorem dX5_wordKind_11 : decode cX5_wordKind 11 = .ok (.iconst 4, 1) := by decide +kernel
theorem dX5_wordKind_12 : decode cX5_wordKind 12 = .ok (.ireturn, 1) := by decide +kernel
theorem dX5_wordKind_13 : decode cX5_wordKind 13 = .ok (.aload_n 0, 1) := by decide +kernel
theorem dX5_wordKind_14 : decode cX5_wordKind 14 = .ok (.ldc 67, 2) := by decide +kernel
theorem dX5_wordKind_16 : decode cX5_wordKind 16 = .ok (.iload_n 1, 1) := by decide +kernel
theorem dX5_wordKind_17 : decode cX5_wordKind 17 = .ok (.iload_n 2, 1) := by decide +kernel
theorem dX5_wordKind_18 : decode cX5_wordKind 18 = .ok (.invokevirtual 63, 3) := by decide +kernel
theorem dX5_wordKind_21 : decode cX5_wordKind 21 = .ok (.ifCond .eq 5, 3) := by decide +kernel
theorem dX5_wordKind_24 : decode cX5_wordKind 24 = .ok (.iconst 5, 1) := by decide +kernel
theorem dX5_wordKind_25 : decode cX5_wordKind 25 = .ok (.ireturn, 1) := by decide +kernel
theorem dX5_wordKind_26 : decode cX5_wordKind 26 = .ok (.aload_n 0, 1) := by decide +kernel
theorem dX5_wordKind_27 : decode cX5_wordKind 27 = .ok (.ldc 69, 2) := by decide +kernel
theorem dX5_wordKind_29 : decode cX5_wordKind 29 = .ok (.iload_n 1, 1) := by decide +kernel
theorem dX5_wordKind_30 : decode cX5_wordKind 30 = .ok (.iload_n 2, 1) := by decide +kernel
theorem dX5_wordKind_31 : decode cX5_wordKind 31 = .ok (.invokevirtual 63, 3) := by decide +kernel
theorem dX5_wordKind_34 : decode cX5_wordKind 34 = .ok (.ifCond .eq 5, 3) := by decide +kernel
theorem dX5_wordKind_37 : decode cX5_wordKind 37 = .ok (.iconst 3, 1) := by decide +kernel
theorem dX5_wordKind_38 : decode cX5_wordKind 38 = .ok (.ireturn, 1) := by decide +kernel
theorem dX5_wordKind_39 : decode cX5_wordKind 39 = .ok (.aload_n 0, 1) := by decide +kernel
theorem dX5_wordKind_40 : decode cX5_wordKind 40 = .ok (.ldc 71, 2) := by decide +kernel
theorem dX5_wordKind_42 : decode cX5_wordKind 42 = .ok (.iload_n 1, 1) := by decide +kernel
theorem dX5_wordKind_43 : decode cX5_wordKind 43 = .ok (.iload_n 2, 1) := by decide +kernel
theorem dX5_wordKind_44 : decode cX5_wordKind 44 = .ok (.invokevirtual 63, 3) := by decide +kernel
theorem dX5_wordKind_47 : decode cX5_wordKind 47 = .ok (.ifCond .eq 5, 3) := by decide +kernel
theorem dX5_wordKind_50 : decode cX5_wordKind 50 = .ok (.iconst 2, 1) := by decide +kernel
theorem dX5_wordKind_51 : decode cX5_wordKind 51 = .ok (.ireturn, 1) := by decide +kernel
theorem dX5_wordKind_52 : decode cX5_wordKind 52 = .ok (.aload_n 0, 1) := by decide +kernel
theorem dX5_wordKind_53 : decode cX5_wordKind 53 = .ok (.ldc 73, 2) := by decide +kernel
theorem dX5_wordKind_55 : decode cX5_wordKind 55 = .ok (.iload_n 1, 1) := by decide +kernel
theorem dX5_wordKind_56 : decode cX5_wordKind 56 = .ok (.iload_n 2, 1) := by decide +kernel
theorem dX5_wordKind_57 : decode cX5_wordKind 57 = .ok (.invokevirtual 63, 3) := by decide +kernel
theorem dX5_wordKind_60 : decode cX5_wordKind 60 = .ok (.ifCond .eq 8, 3) := by decide +kernel
theorem dX5_wordKind_63 : decode cX5_wordKind 63 = .ok (.bipush 6, 2) := by decide +kernel
theorem dX5_wordKind_65 : decode cX5_wordKind 65 = .ok (.goto 5, 3) := by decide +kernel
theorem dX5_wordKind_68 : decode cX5_wordKind 68 = .ok (.bipush 7, 2) := by decide +kernel
theorem dX5_wordKind_70 : decode cX5_wordKind 70 = .ok (.ireturn, 1) := by decide +kernel
theorem dX5_spells_0 : decode cX5_spells 0 = .ok (.aload_n 1, 1) := by decide +kernel
theorem dX5_spells_1 : decode cX5_spells 1 = .ok (.invokevirtual 75, 3) := by decide +kernel
theorem dX5_spells_4 : decode cX5_spells 4 = .ok (.iload_n 3, 1) := by decide +kernel
theorem dX5_spells_5 : decode cX5_spells 5 = .ok (.iload_n 2, 1) := by decide +kernel
theorem dX5_spells_6 : decode cX5_spells 6 = .ok (.isub, 1) := by decide +kernel
theorem dX5_spells_7 : decode cX5_spells 7 = .ok (.if_icmp .eq 5, 3) := by decide +kernel
theorem dX5_spells_10 : decode cX5_spells 10 = .ok (.iconst 0, 1) := by decide +kernel
theorem dX5_spells_11 : decode cX5_spells 11 = .ok (.ireturn, 1) := by decide +kernel
theorem dX5_spells_12 : decode cX5_spells 12 = .ok (.iconst 0, 1) := by decide +kernel
theorem dX5_spells_13 : decode cX5_spells 13 = .ok (.istore 4, 2) := by decide +kernel
theorem dX5_spells_15 : decode cX5_spells 15 = .ok (.iload 4, 2) := by decide +kernel
theorem dX5_spells_17 : decode cX5_spells 17 = .ok (.aload_n 1, 1) := by decide +kernel
theorem dX5_spells_18 : decode cX5_spells 18 = .ok (.invokevirtual 75, 3) := by decide +kernel
theorem dX5_spells_21 : decode cX5_spells 21 = .ok (.if_icmp .ge 29, 3) := by decide +kernel
theorem dX5_spells_24 : decode cX5_spells 24 = .ok (.aload_n 1, 1) := by decide +kernel
theorem dX5_spells_25 : decode cX5_spells 25 = .ok (.iload 4, 2) := by decide +kernel
theorem dX5_spells_27 : decode cX5_spells 27 = .ok (.invokevirtual 81, 3) := by decide +kernel
theorem dX5_spells_30 : decode cX5_spells 30 = .ok (.aload_n 0, 1) := by decide +kernel
theorem dX5_spells_31 : decode cX5_spells 31 = .ok (.getfield 9, 3) := by decide +kernel
theorem dX5_spells_34 : decode cX5_spells 34 = .ok (.iload_n 2, 1) := by decide +kernel
theorem dX5_spells_35 : decode cX5_spells 35 = .ok (.iload 4, 2) := by decide +kernel
theorem dX5_spells_37 : decode cX5_spells 37 = .ok (.iadd, 1) := by decide +kernel
theorem dX5_spells_38 : decode cX5_spells 38 = .ok (.iaload, 1) := by decide +kernel
theorem dX5_spells_39 : decode cX5_spells 39 = .ok (.if_icmp .eq 5, 3) := by decide +kernel
theorem dX5_spells_42 : decode cX5_spells 42 = .ok (.iconst 0, 1) := by decide +kernel
theorem dX5_spells_43 : decode cX5_spells 43 = .ok (.ireturn, 1) := by decide +kernel
theorem dX5_spells_44 : decode cX5_spells 44 = .ok (.iinc 4 1, 3) := by decide +kernel
theorem dX5_spells_47 : decode cX5_spells 47 = .ok (.goto (-32), 3) := by decide +kernel
theorem dX5_spells_50 : decode cX5_spells 50 = .ok (.iconst 1, 1) := by decide +kernel
theorem dX5_spells_51 : decode cX5_spells 51 = .ok (.ireturn, 1) := by decide +kernel
theorem dX5_step_0 : decode cX5_step 0 = .ok (.aload_n 0, 1) := by decide +kernel
theorem dX5_step_1 : decode cX5_step 1 = .ok (.getfield 35, 3) := by decide +kernel
theorem dX5_step_4 : decode cX5_step 4 = .ok (.ifCond .eq 52, 3) := by decide +kernel
theorem dX5_step_7 : decode cX5_step 7 = .ok (.aload_n 0, 1) := by decide +kernel
theorem dX5_step_8 : decode cX5_step 8 = .ok (.dup, 1) := by decide +kernel
theorem dX5_step_9 : decode cX5_step 9 = .ok (.getfield 32, 3) := by decide +kernel
theorem dX5_step_12 : decode cX5_step 12 = .ok (.iconst 1, 1) := by decide +kernel
theorem dX5_step_13 : decode cX5_step 13 = .ok (.iadd, 1) := by decide +kernel
theorem dX5_step_14 : decode cX5_step 14 = .ok (.putfield 32, 3) := by decide +kernel
theorem dX5_step_17 : decode cX5_step 17 = .ok (.aload_n 0, 1) := by decide +kernel
theorem dX5_step_18 : decode cX5_step 18 = .ok (.aload_n 0, 1) := by decide +kernel
theorem dX5_step_19 : decode cX5_step 19 = .ok (.getfield 15, 3) := by decide +kernel
theorem dX5_step_22 : decode cX5_step 22 = .ok (.aload_n 0, 1) := by decide +kernel
theorem dX5_step_23 : decode cX5_step 23 = .ok (.getfield 32, 3) := by decide +kernel
theorem dX5_step_26 : decode cX5_step 26 = .ok (.iaload, 1) := by decide +kernel
theorem dX5_step_27 : decode cX5_step 27 = .ok (.putfield 35, 3) := by decide +kernel
theorem dX5_step_30 : decode cX5_step 30 = .ok (.aload_n 0, 1) := by decide +kernel
theorem dX5_step_31 : decode cX5_step 31 = .ok (.aload_n 0, 1) := by decide +kernel
theorem dX5_step_32 : decode cX5_step 32 = .ok (.getfield 18, 3) := by decide +kernel
theorem dX5_step_35 : decode cX5_step 35 = .ok (.aload_n 0, 1) := by decide +kernel
theorem dX5_step_36 : decode cX5_step 36 = .ok (.getfield 32, 3) := by decide +kernel
theorem dX5_step_39 : decode cX5_step 39 = .ok (.iaload, 1) := by decide +kernel
theorem dX5_step_40 : decode cX5_step 40 = .ok (.putfield 85, 3) := by decide +kernel
theorem dX5_step_43 : decode cX5_step 43 = .ok (.aload_n 0, 1) := by decide +kernel
theorem dX5_step_44 : decode cX5_step 44 = .ok (.aload_n 0, 1) := by decide +kernel
theorem dX5_step_45 : decode cX5_step 45 = .ok (.getfield 21, 3) := by decide +kernel
theorem dX5_step_48 : decode cX5_step 48 = .ok (.aload_n 0, 1) := by decide +kernel
theorem dX5_step_49 : decode cX5_step 49 = .ok (.getfield 32, 3) := by decide +kernel
theorem dX5_step_52 : decode cX5_step 52 = .ok (.iaload, 1) := by decide +kernel
theorem dX5_step_53 : decode cX5_step 53 = .ok (.putfield 88, 3) := by decide +kernel
theorem dX5_step_56 : decode cX5_step 56 = .ok (.return_, 1) := by decide +kernel
end
section
theorem dX4_init_0 : decode cX4_init 0 = .ok (.aload_n 0, 1) := by decide +kernel
theorem dX4_init_1 : decode cX4_init 1 = .ok (.invokespecial 3, 3) := by decide +kernel
theorem dX4_init_4 : decode cX4_init 4 = .ok (.aload_n 0, 1) := by decide +kernel
theorem dX4_init_5 : decode cX4_init 5 = .ok (.aload_n 1, 1) := by decide +kernel
theorem dX4_init_6 : decode cX4_init 6 = .ok (.putfield 9, 3) := by decide +kernel
theorem dX4_init_9 : decode cX4_init 9 = .ok (.aload_n 0, 1) := by decide +kernel
theorem dX4_init_10 : decode cX4_init 10 = .ok (.bipush 65, 2) := by decide +kernel
theorem dX4_init_12 : decode cX4_init 12 = .ok (.newarray .int, 2) := by decide +kernel
theorem dX4_init_14 : decode cX4_init 14 = .ok (.putfield 15, 3) := by decide +kernel
theorem dX4_init_17 : decode cX4_init 17 = .ok (.aload_n 0, 1) := by decide +kernel
theorem dX4_init_18 : decode cX4_init 18 = .ok (.bipush 64, 2) := by decide +kernel
theorem dX4_init_20 : decode cX4_init 20 = .ok (.newarray .int, 2) := by decide +kernel
theorem dX4_init_22 : decode cX4_init 22 = .ok (.putfield 19, 3) := by decide +kernel
theorem dX4_init_25 : decode cX4_init 25 = .ok (.aload_n 0, 1) := by decide +kernel
theorem dX4_init_26 : decode cX4_init 26 = .ok (.bipush 64, 2) := by decide +kernel
theorem dX4_init_28 : decode cX4_init 28 = .ok (.newarray .int, 2) := by decide +kernel
theorem dX4_init_30 : decode cX4_init 30 = .ok (.putfield 22, 3) := by decide +kernel
theorem dX4_init_33 : decode cX4_init 33 = .ok (.aload_n 0, 1) := by decide +kernel
theorem dX4_init_34 : decode cX4_init 34 = .ok (.bipush 64, 2) := by decide +kernel
theorem dX4_init_36 : decode cX4_init 36 = .ok (.newarray .int, 2) := by decide +kernel
theorem dX4_init_38 : decode cX4_init 38 = .ok (.putfield 25, 3) := by decide +kernel
theorem dX4_init_41 : decode cX4_init 41 = .ok (.return_, 1) := by decide +kernel
theorem dX4_join_0 : decode cX4_join 0 = .ok (.iconst 0, 1) := by decide +kernel
theorem dX4_join_1 : decode cX4_join 1 = .ok (.istore 4, 2) := by decide +kernel
theorem dX4_join_3 : decode cX4_join 3 = .ok (.iload 4, 2) := by decide +kernel
theorem dX4_join_5 : decode cX4_join 5 = .ok (.aload_n 0, 1) := by decide +kernel
theorem dX4_join_6 : decode cX4_join 6 = .ok (.getfield 9, 3) := by decide +kernel
theorem dX4_join_9 : decode cX4_join 9 = .ok (.getfield 28, 3) := by decide +kernel
theorem dX4_join_12 : decode cX4_join 12 = .ok (.if_icmp .ge 19, 3) := by decide +kernel
theorem dX4_join_15 : decode cX4_join 15 = .ok (.aload_n 3, 1) := by decide +kernel
theorem dX4_join_16 : decode cX4_join 16 = .ok (.iload 4, 2) := by decide +kernel
theorem dX4_join_18 : decode cX4_join 18 = .ok (.aload_n 1, 1) := by decide +kernel
theorem dX4_join_19 : decode cX4_join 19 = .ok (.aload_n 2, 1) := by decide +kernel
theorem dX4_join_20 : decode cX4_join 20 = .ok (.iload 4, 2) := by decide +kernel
theorem dX4_join_22 : decode cX4_join 22 = .ok (.iaload, 1) := by decide +kernel
theorem dX4_join_23 : decode cX4_join 23 = .ok (.iaload, 1) := by decide +kernel
theorem dX4_join_24 : decode cX4_join 24 = .ok (.iastore, 1) := by decide +kernel
theorem dX4_join_25 : decode cX4_join 25 = .ok (.iinc 4 1, 3) := by decide +kernel
theorem dX4_join_28 : decode cX4_join 28 = .ok (.goto (-25), 3) := by decide +kernel
theorem dX4_join_31 : decode cX4_join 31 = .ok (.return_, 1) := by decide +kernel
theorem dX4_repeat_0 : decode cX4_repeat 0 = .ok (.aload_n 0, 1) := by decide +kernel
theorem dX4_repeat_1 : decode cX4_repeat 1 = .ok (.getfield 22, 3) := by decide +kernel
theorem dX4_repeat_4 : decode cX4_repeat 4 = .ok (.astore 4, 2) := by decide +kernel
theorem dX4_repeat_6 : decode cX4_repeat 6 = .ok (.aload_n 0, 1) := by decide +kernel
theorem dX4_repeat_7 : decode cX4_repeat 7 = .ok (.getfield 25, 3) := by decide +kernel
theorem dX4_repeat_10 : decode cX4_repeat 10 = .ok (.astore 5, 2) := by decide +kernel
theorem dX4_repeat_12 : decode cX4_repeat 12 = .ok (.iconst 0, 1) := by decide +kernel
theorem dX4_repeat_13 : decode cX4_repeat 13 = .ok (.istore 6, 2) := by decide +kernel
theorem dX4_repeat_15 : decode cX4_repeat 15 = .ok (.iload 6, 2) := by decide +kernel
theorem dX4_repeat_17 : decode cX4_repeat 17 = .ok (.aload_n 0, 1) := by decide +kernel
theorem dX4_repeat_18 : decode cX4_repeat 18 = .ok (.getfield 9, 3) := by decide +kernel
theorem dX4_repeat_21 : decode cX4_repeat 21 = .ok (.getfield 28, 3) := by decide +kernel
theorem dX4_repeat_24 : decode cX4_repeat 24 = .ok (.if_icmp .ge 24, 3) := by decide +kernel
theorem dX4_repeat_27 : decode cX4_repeat 27 = .ok (.aload_n 3, 1) := by decide +kernel
theorem dX4_repeat_28 : decode cX4_repeat 28 = .ok (.iload 6, 2) := by decide +kernel
theorem dX4_repeat_30 : decode cX4_repeat 30 = .ok (.iload 6, 2) := by decide +kernel
theorem dX4_repeat_32 : decode cX4_repeat 32 = .ok (.iastore, 1) := by decide +kernel
theorem dX4_repeat_33 : decode cX4_repeat 33 = .ok (.aload 4, 2) := by decide +kernel
theorem dX4_repeat_35 : decode cX4_repeat 35 = .ok (.iload 6, 2) := by decide +kernel
theorem dX4_repeat_37 : decode cX4_repeat 37 = .ok (.aload_n 1, 1) := by decide +kernel
theorem dX4_repeat_38 : decode cX4_repeat 38 = .ok (.iload 6, 2) := by decide +kernel
theorem dX4_repeat_40 : decode cX4_repeat 40 = .ok (.iaload, 1) := by decide +kernel
theorem dX4_repeat_41 : decode cX4_repeat 41 = .ok (.iastore, 1) := by decide +kernel
theorem dX4_repeat_42 : decode cX4_repeat 42 = .ok (.iinc 6 1, 3) := by decide +kernel
theorem dX4_repeat_45 : decode cX4_repeat 45 = .ok (.goto (-30), 3) := by decide +kernel
theorem dX4_repeat_48 : decode cX4_repeat 48 = .ok (.iload_n 2, 1) := by decide +kernel
theorem dX4_repeat_49 : decode cX4_repeat 49 = .ok (.istore 6, 2) := by decide +kernel
theorem dX4_repeat_51 : decode cX4_repeat 51 = .ok (.iload 6, 2) := by decide +kernel
theorem dX4_repeat_53 : decode cX4_repeat 53 = .ok (.ifCond .le 50, 3) := by decide +kernel
theorem dX4_repeat_56 : decode cX4_repeat 56 = .ok (.iload 6, 2) := by decide +kernel
theorem dX4_repeat_58 : decode cX4_repeat 58 = .ok (.iconst 1, 1) := by decide +kernel
theorem dX4_repeat_59 : decode cX4_repeat 59 = .ok (.iand, 1) := by decide +kernel
theorem dX4_repeat_60 : decode cX4_repeat 60 = .ok (.iconst 1, 1) := by decide +kernel
theorem dX4_repeat_61 : decode cX4_repeat 61 = .ok (.if_icmp .ne 11, 3) := by decide +kernel
theorem dX4_repeat_64 : decode cX4_repeat 64 = .ok (.aload_n 0, 1) := by decide +kernel
theorem dX4_repeat_65 : decode cX4_repeat 65 = .ok (.aload 4, 2) := by decide +kernel
theorem dX4_repeat_67 : decode cX4_repeat 67 = .ok (.aload_n 3, 1) := by decide +kernel
theorem dX4_repeat_68 : decode cX4_repeat 68 = .ok (.aload_n 3, 1) := by decide +kernel
theorem dX4_repeat_69 : decode cX4_repeat 69 = .ok (.invokevirtual 34, 3) := by decide +kernel
theorem dX4_repeat_72 : decode cX4_repeat 72 = .ok (.aload_n 0, 1) := by decide +kernel
theorem dX4_repeat_73 : decode cX4_repeat 73 = .ok (.aload 4, 2) := by decide +kernel
theorem dX4_repeat_75 : decode cX4_repeat 75 = .ok (.aload 4, 2) := by decide +kernel
theorem dX4_repeat_77 : decode cX4_repeat 77 = .ok (.aload 5, 2) := by decide +kernel
theorem dX4_repeat_79 : decode cX4_repeat 79 = .ok (.invokevirtual 34, 3) := by decide +kernel
theorem dX4_repeat_82 : decode cX4_repeat 82 = .ok (.aload 5, 2) := by decide +kernel
theorem dX4_repeat_84 : decode cX4_repeat 84 = .ok (.astore 7, 2) := by decide +kernel
theorem dX4_repeat_86 : decode cX4_repeat 86 = .ok (.aload 4, 2) := by decide +kernel
theorem dX4_repeat_88 : decode cX4_repeat 88 = .ok (.astore 5, 2) := by decide +kernel
theorem dX4_repeat_90 : decode cX4_repeat 90 = .ok (.aload 7, 2) := by decide +kernel
theorem dX4_repeat_92 : decode cX4_repeat 92 = .ok (.astore 4, 2) := by decide +kernel
theorem dX4_repeat_94 : decode cX4_repeat 94 = .ok (.iload 6, 2) := by decide +kernel
theorem dX4_repeat_96 : decode cX4_repeat 96 = .ok (.iconst 1, 1) := by decide +kernel
theorem dX4_repeat_97 : decode cX4_repeat 97 = .ok (.ishr, 1) := by decide +kernel
theorem dX4_repeat_98 : decode cX4_repeat 98 = .ok (.istore 6, 2) := by decide +kernel
theorem dX4_repeat_100 : decode cX4_repeat 100 = .ok (.goto (-49), 3) := by decide +kernel
theorem dX4_repeat_103 : decode cX4_repeat 103 = .ok (.return_, 1) := by decide +kernel
theorem dX4_invert_0 : decode cX4_invert 0 = .ok (.iconst 0, 1) := by decide +kernel
theorem dX4_invert_1 : decode cX4_invert 1 = .ok (.istore_n 3, 1) := by decide +kernel
theorem dX4_invert_2 : decode cX4_invert 2 = .ok (.iload_n 3, 1) := by decide +kernel
theorem dX4_invert_3 : decode cX4_invert 3 = .ok (.aload_n 0, 1) := by decide +kernel
theorem dX4_invert_4 : decode cX4_invert 4 = .ok (.getfield 9, 3) := by decide +kernel
theorem dX4_invert_7 : decode cX4_invert 7 = .ok (.getfield 28, 3) := by decide +kernel
theorem dX4_invert_10 : decode cX4_invert 10 = .ok (.if_icmp .ge 15, 3) := by decide +kernel
theorem dX4_invert_13 : decode cX4_invert 13 = .ok (.aload_n 2, 1) := by decide +kernel
theorem dX4_invert_14 : decode cX4_invert 14 = .ok (.aload_n 1, 1) := by decide +kernel
theorem dX4_invert_15 : decode cX4_invert 15 = .ok (.iload_n 3, 1) := by decide +kernel
theorem dX4_invert_16 : decode cX4_invert 16 = .ok (.iaload, 1) := by decide +kernel
theorem dX4_invert_17 : decode cX4_invert 17 = .ok (.iload_n 3, 1) := by decide +kernel
theorem dX4_invert_18 : decode cX4_invert 18 = .ok (.iastore, 1) := by decide +kernel
theorem dX4_invert_19 : decode cX4_invert 19 = .ok (.iinc 3 1, 3) := by decide +kernel
theorem dX4_invert_22 : decode cX4_invert 22 = .ok (.goto (-20), 3) := by decide +kernel
theorem dX4_invert_25 : decode cX4_invert 25 = .ok (.return_, 1) := by decide +kernel
theorem dX4_coefficientOf_0 : decode cX4_coefficientOf 0 = .ok (.iload_n 2, 1) := by decide +kernel
theorem dX4_coefficientOf_1 : decode cX4_coefficientOf 1 = .ok (.ifCond .ne 7, 3) := by decide +kernel
theorem dX4_coefficientOf_4 : decode cX4_coefficientOf 4 = .ok (.aload_n 1, 1) := by decide +kernel
theorem dX4_coefficientOf_5 : decode cX4_coefficientOf 5 = .ok (.iconst 0, 1) := by decide +kernel
theorem dX4_coefficientOf_6 : decode cX4_coefficientOf 6 = .ok (.iaload, 1) := by decide +kernel
theorem dX4_coefficientOf_7 : decode cX4_coefficientOf 7 = .ok (.ireturn, 1) := by decide +kernel
theorem dX4_coefficientOf_8 : decode cX4_coefficientOf 8 = .ok (.iconst 0, 1) := by decide +kernel
theorem dX4_coefficientOf_9 : decode cX4_coefficientOf 9 = .ok (.istore_n 3, 1) := by decide +kernel
theorem dX4_coefficientOf_10 : decode cX4_coefficientOf 10 = .ok (.iconst 0, 1) := by decide +kernel
theorem dX4_coefficientOf_11 : decode cX4_coefficientOf 11 = .ok (.istore 4, 2) := by decide +kernel
theorem dX4_coefficientOf_13 : decode cX4_coefficientOf 13 = .ok (.iload 4, 2) := by decide +kernel
theorem dX4_coefficientOf_15 : decode cX4_coefficientOf 15 = .ok (.aload_n 0, 1) := by decide +kernel
theorem dX4_coefficientOf_16 : decode cX4_coefficientOf 16 = .ok (.getfield 9, 3) := by decide +kernel
theorem dX4_coefficientOf_19 : decode cX4_coefficientOf 19 = .ok (.getfield 28, 3) := by decide +kernel
theorem dX4_coefficientOf_22 : decode cX4_coefficientOf 22 = .ok (.if_icmp .ge 49, 3) := by decide +kernel
theorem dX4_coefficientOf_25 : decode cX4_coefficientOf 25 = .ok (.aload_n 0, 1) := by decide +kernel
theorem dX4_coefficientOf_26 : decode cX4_coefficientOf 26 = .ok (.getfield 9, 3) := by decide +kernel
theorem dX4_coefficientOf_29 : decode cX4_coefficientOf 29 = .ok (.iload_n 3, 1) := by decide +kernel
theorem dX4_coefficientOf_30 : decode cX4_coefficientOf 30 = .ok (.aload_n 0, 1) := by decide +kernel
theorem dX4_coefficientOf_31 : decode cX4_coefficientOf 31 = .ok (.getfield 9, 3) := by decide +kernel
theorem dX4_coefficientOf_34 : decode cX4_coefficientOf 34 = .ok (.aload_n 1, 1) := by decide +kernel
theorem dX4_coefficientOf_35 : decode cX4_coefficientOf 35 = .ok (.iload 4, 2) := by decide +kernel
theorem dX4_coefficientOf_37 : decode cX4_coefficientOf 37 = .ok (.iaload, 1) := by decide +kernel
theorem dX4_coefficientOf_38 : decode cX4_coefficientOf 38 = .ok (.aload_n 0, 1) := by decide +kernel
theorem dX4_coefficientOf_39 : decode cX4_coefficientOf 39 = .ok (.getfield 9, 3) := by decide +kernel
theorem dX4_coefficientOf_42 : decode cX4_coefficientOf 42 = .ok (.iload 4, 2) := by decide +kernel
theorem dX4_coefficientOf_44 : decode cX4_coefficientOf 44 = .ok (.aload_n 0, 1) := by decide +kernel
theorem dX4_coefficientOf_45 : decode cX4_coefficientOf 45 = .ok (.getfield 9, 3) := by decide +kernel
theorem dX4_coefficientOf_48 : decode cX4_coefficientOf 48 = .ok (.getfield 28, 3) := by decide +kernel
theorem dX4_coefficientOf_51 : decode cX4_coefficientOf 51 = .ok (.iconst 1, 1) := by decide +kernel
theorem dX4_coefficientOf_52 : decode cX4_coefficientOf 52 = .ok (.isub, 1) := by decide +kernel
theorem dX4_coefficientOf_53 : decode cX4_coefficientOf 53 = .ok (.iload_n 2, 1) := by decide +kernel
theorem dX4_coefficientOf_54 : decode cX4_coefficientOf 54 = .ok (.isub, 1) := by decide +kernel
theorem dX4_coefficientOf_55 : decode cX4_coefficientOf 55 = .ok (.invokevirtual 38, 3) := by decide +kernel
theorem dX4_coefficientOf_58 : decode cX4_coefficientOf 58 = .ok (.invokevirtual 42, 3) := by decide +kernel
theorem dX4_coefficientOf_61 : decode cX4_coefficientOf 61 = .ok (.invokevirtual 45, 3) := by decide +kernel
theorem dX4_coefficientOf_64 : decode cX4_coefficientOf 64 = .ok (.istore_n 3, 1) := by decide +kernel
theorem dX4_coefficientOf_65 : decode cX4_coefficientOf 65 = .ok (.iinc 4 1, 3) := by decide +kernel
theorem dX4_coefficientOf_68 : decode cX4_coefficientOf 68 = .ok (.goto (-55), 3) := by decide +kernel
theorem dX4_coefficientOf_71 : decode cX4_coefficientOf 71 = .ok (.aload_n 0, 1) := by decide +kernel
theorem dX4_coefficientOf_72 : decode cX4_coefficientOf 72 = .ok (.getfield 9, 3) := by decide +kernel
theorem dX4_coefficientOf_75 : decode cX4_coefficientOf 75 = .ok (.getfield 48, 3) := by decide +kernel
theorem dX4_coefficientOf_78 : decode cX4_coefficientOf 78 = .ok (.iload_n 3, 1) := by decide +kernel
theorem dX4_coefficientOf_79 : decode cX4_coefficientOf 79 = .ok (.iaload, 1) := by decide +kernel
theorem dX4_coefficientOf_80 : decode cX4_coefficientOf 80 = .ok (.ireturn, 1) := by decide +kernel
theorem dX4_degreeOf_0 : decode cX4_degreeOf 0 = .ok (.aload_n 0, 1) := by decide +kernel
theorem dX4_degreeOf_1 : decode cX4_degreeOf 1 = .ok (.getfield 22, 3) := by decide +kernel
theorem dX4_degreeOf_4 : decode cX4_degreeOf 4 = .ok (.astore_n 2, 1) := by decide +kernel
theorem dX4_degreeOf_5 : decode cX4_degreeOf 5 = .ok (.iconst 0, 1) := by decide +kernel
theorem dX4_degreeOf_6 : decode cX4_degreeOf 6 = .ok (.istore_n 3, 1) := by decide +kernel
theorem dX4_degreeOf_7 : decode cX4_degreeOf 7 = .ok (.iload_n 3, 1) := by decide +kernel
theorem dX4_degreeOf_8 : decode cX4_degreeOf 8 = .ok (.aload_n 0, 1) := by decide +kernel
theorem dX4_degreeOf_9 : decode cX4_degreeOf 9 = .ok (.getfield 9, 3) := by decide +kernel
theorem dX4_degreeOf_12 : decode cX4_degreeOf 12 = .ok (.getfield 28, 3) := by decide +kernel
theorem dX4_degreeOf_15 : decode cX4_degreeOf 15 = .ok (.if_icmp .ge 13, 3) := by decide +kernel
theorem dX4_degreeOf_18 : decode cX4_degreeOf 18 = .ok (.aload_n 2, 1) := by decide +kernel
theorem dX4_degreeOf_19 : decode cX4_degreeOf 19 = .ok (.iload_n 3, 1) := by decide +kernel
theorem dX4_degreeOf_20 : decode cX4_degreeOf 20 = .ok (.iconst 1, 1) := by decide +kernel
theorem dX4_degreeOf_21 : decode cX4_degreeOf 21 = .ok (.iastore, 1) := by decide +kernel
theorem dX4_degreeOf_22 : decode cX4_degreeOf 22 = .ok (.iinc 3 1, 3) := by decide +kernel
theorem dX4_degreeOf_25 : decode cX4_degreeOf 25 = .ok (.goto (-18), 3) := by decide +kernel
theorem dX4_degreeOf_28 : decode cX4_degreeOf 28 = .ok (.aload_n 0, 1) := by decide +kernel
theorem dX4_degreeOf_29 : decode cX4_degreeOf 29 = .ok (.getfield 9, 3) := by decide +kernel
theorem dX4_degreeOf_32 : decode cX4_degreeOf 32 = .ok (.getfield 28, 3) := by decide +kernel
theorem dX4_degreeOf_35 : decode cX4_degreeOf 35 = .ok (.iconst 1, 1) := by decide +kernel
theorem dX4_degreeOf_36 : decode cX4_degreeOf 36 = .ok (.isub, 1) := by decide +kernel
theorem dX4_degreeOf_37 : decode cX4_degreeOf 37 = .ok (.istore_n 3, 1) := by decide +kernel
theorem dX4_degreeOf_38 : decode cX4_degreeOf 38 = .ok (.iload_n 3, 1) := by decide +kernel
theorem dX4_degreeOf_39 : decode cX4_degreeOf 39 = .ok (.ifCond .le 83, 3) := by decide +kernel
theorem dX4_degreeOf_42 : decode cX4_degreeOf 42 = .ok (.iconst 0, 1) := by decide +kernel
theorem dX4_degreeOf_43 : decode cX4_degreeOf 43 = .ok (.istore 4, 2) := by decide +kernel
theorem dX4_degreeOf_45 : decode cX4_degreeOf 45 = .ok (.iconst 0, 1) := by decide +kernel
theorem dX4_degreeOf_46 : decode cX4_degreeOf 46 = .ok (.istore 5, 2) := by decide +kernel
theorem dX4_degreeOf_48 : decode cX4_degreeOf 48 = .ok (.iload 5, 2) := by decide +kernel
theorem dX4_degreeOf_50 : decode cX4_degreeOf 50 = .ok (.aload_n 0, 1) := by decide +kernel
theorem dX4_degreeOf_51 : decode cX4_degreeOf 51 = .ok (.getfield 9, 3) := by decide +kernel
theorem dX4_degreeOf_54 : decode cX4_degreeOf 54 = .ok (.getfield 28, 3) := by decide +kernel
theorem dX4_degreeOf_57 : decode cX4_degreeOf 57 = .ok (.if_icmp .ge 52, 3) := by decide +kernel
theorem dX4_degreeOf_60 : decode cX4_degreeOf 60 = .ok (.aload_n 0, 1) := by decide +kernel
theorem dX4_degreeOf_61 : decode cX4_degreeOf 61 = .ok (.getfield 9, 3) := by decide +kernel
theorem dX4_degreeOf_64 : decode cX4_degreeOf 64 = .ok (.iload 4, 2) := by decide +kernel
theorem dX4_degreeOf_66 : decode cX4_degreeOf 66 = .ok (.aload_n 0, 1) := by decide +kernel
theorem dX4_degreeOf_67 : decode cX4_degreeOf 67 = .ok (.getfield 9, 3) := by decide +kernel
theorem dX4_degreeOf_70 : decode cX4_degreeOf 70 = .ok (.aload_n 1, 1) := by decide +kernel
theorem dX4_degreeOf_71 : decode cX4_degreeOf 71 = .ok (.iload 5, 2) := by decide +kernel
theorem dX4_degreeOf_73 : decode cX4_degreeOf 73 = .ok (.iaload, 1) := by decide +kernel
theorem dX4_degreeOf_74 : decode cX4_degreeOf 74 = .ok (.aload_n 2, 1) := by decide +kernel
theorem dX4_degreeOf_75 : decode cX4_degreeOf 75 = .ok (.iload 5, 2) := by decide +kernel
theorem dX4_degreeOf_77 : decode cX4_degreeOf 77 = .ok (.iaload, 1) := by decide +kernel
theorem dX4_degreeOf_78 : decode cX4_degreeOf 78 = .ok (.invokevirtual 42, 3) := by decide +kernel
theorem dX4_degreeOf_81 : decode cX4_degreeOf 81 = .ok (.invokevirtual 45, 3) := by decide +kernel
theorem dX4_degreeOf_84 : decode cX4_degreeOf 84 = .ok (.istore 4, 2) := by decide +kernel
theorem dX4_degreeOf_86 : decode cX4_degreeOf 86 = .ok (.aload_n 2, 1) := by decide +kernel
theorem dX4_degreeOf_87 : decode cX4_degreeOf 87 = .ok (.iload 5, 2) := by decide +kernel
theorem dX4_degreeOf_89 : decode cX4_degreeOf 89 = .ok (.aload_n 0, 1) := by decide +kernel
theorem dX4_degreeOf_90 : decode cX4_degreeOf 90 = .ok (.getfield 9, 3) := by decide +kernel
theorem dX4_degreeOf_93 : decode cX4_degreeOf 93 = .ok (.aload_n 2, 1) := by decide +kernel
theorem dX4_degreeOf_94 : decode cX4_degreeOf 94 = .ok (.iload 5, 2) := by decide +kernel
theorem dX4_degreeOf_96 : decode cX4_degreeOf 96 = .ok (.iaload, 1) := by decide +kernel
theorem dX4_degreeOf_97 : decode cX4_degreeOf 97 = .ok (.iload 5, 2) := by decide +kernel
theorem dX4_degreeOf_99 : decode cX4_degreeOf 99 = .ok (.invokevirtual 42, 3) := by decide +kernel
theorem dX4_degreeOf_102 : decode cX4_degreeOf 102 = .ok (.iastore, 1) := by decide +kernel
theorem dX4_degreeOf_103 : decode cX4_degreeOf 103 = .ok (.iinc 5 1, 3) := by decide +kernel
theorem dX4_degreeOf_106 : decode cX4_degreeOf 106 = .ok (.goto (-58), 3) := by decide +kernel
theorem dX4_degreeOf_109 : decode cX4_degreeOf 109 = .ok (.iload 4, 2) := by decide +kernel
theorem dX4_degreeOf_111 : decode cX4_degreeOf 111 = .ok (.ifCond .eq 5, 3) := by decide +kernel
theorem dX4_degreeOf_114 : decode cX4_degreeOf 114 = .ok (.iload_n 3, 1) := by decide +kernel
theorem dX4_degreeOf_115 : decode cX4_degreeOf 115 = .ok (.ireturn, 1) := by decide +kernel
theorem dX4_degreeOf_116 : decode cX4_degreeOf 116 = .ok (.iinc 3 (-1), 3) := by decide +kernel
theorem dX4_degreeOf_119 : decode cX4_degreeOf 119 = .ok (.goto (-81), 3) := by decide +kernel
theorem dX4_degreeOf_122 : decode cX4_degreeOf 122 = .ok (.aload_n 1, 1) := by decide +kernel
theorem dX4_degreeOf_123 : decode cX4_degreeOf 123 = .ok (.iconst 0, 1) := by decide +kernel
theorem dX4_degreeOf_124 : decode cX4_degreeOf 124 = .ok (.iaload, 1) := by decide +kernel
theorem dX4_degreeOf_125 : decode cX4_degreeOf 125 = .ok (.ifCond .eq 7, 3) := by decide +kernel
theorem dX4_degreeOf_128 : decode cX4_degreeOf 128 = .ok (.iconst 0, 1) := by decide +kernel
theorem dX4_degreeOf_129 : decode cX4_degreeOf 129 = .ok (.goto 4, 3) := by decide +kernel
theorem dX4_degreeOf_132 : decode cX4_degreeOf 132 = .ok (.iconst (-1), 1) := by decide +kernel
theorem dX4_degreeOf_133 : decode cX4_degreeOf 133 = .ok (.ireturn, 1) := by decide +kernel
theorem dX4_countOf_0 : decode cX4_countOf 0 = .ok (.iconst 0, 1) := by decide +kernel
theorem dX4_countOf_1 : decode cX4_countOf 1 = .ok (.istore_n 3, 1) := by decide +kernel
theorem dX4_countOf_2 : decode cX4_countOf 2 = .ok (.iconst 0, 1) := by decide +kernel
theorem dX4_countOf_3 : decode cX4_countOf 3 = .ok (.istore 4, 2) := by decide +kernel
theorem dX4_countOf_5 : decode cX4_countOf 5 = .ok (.iload 4, 2) := by decide +kernel
theorem dX4_countOf_7 : decode cX4_countOf 7 = .ok (.aload_n 0, 1) := by decide +kernel
theorem dX4_countOf_8 : decode cX4_countOf 8 = .ok (.getfield 9, 3) := by decide +kernel
theorem dX4_countOf_11 : decode cX4_countOf 11 = .ok (.getfield 28, 3) := by decide +kernel
theorem dX4_countOf_14 : decode cX4_countOf 14 = .ok (.if_icmp .ge 20, 3) := by decide +kernel
theorem dX4_countOf_17 : decode cX4_countOf 17 = .ok (.aload_n 1, 1) := by decide +kernel
theorem dX4_countOf_18 : decode cX4_countOf 18 = .ok (.iload 4, 2) := by decide +kernel
theorem dX4_countOf_20 : decode cX4_countOf 20 = .ok (.iaload, 1) := by decide +kernel
theorem dX4_countOf_21 : decode cX4_countOf 21 = .ok (.iload_n 2, 1) := by decide +kernel
theorem dX4_countOf_22 : decode cX4_countOf 22 = .ok (.if_icmp .ne 6, 3) := by decide +kernel
theorem dX4_countOf_25 : decode cX4_countOf 25 = .ok (.iinc 3 1, 3) := by decide +kernel
theorem dX4_countOf_28 : decode cX4_countOf 28 = .ok (.iinc 4 1, 3) := by decide +kernel
theorem dX4_countOf_31 : decode cX4_countOf 31 = .ok (.goto (-26), 3) := by decide +kernel
theorem dX4_countOf_34 : decode cX4_countOf 34 = .ok (.iload_n 3, 1) := by decide +kernel
theorem dX4_countOf_35 : decode cX4_countOf 35 = .ok (.ireturn, 1) := by decide +kernel
theorem dX4_imageOf_0 : decode cX4_imageOf 0 = .ok (.lconst 0, 1) := by decide +kernel
theorem dX4_imageOf_1 : decode cX4_imageOf 1 = .ok (.lstore_n 2, 1) := by decide +kernel
theorem dX4_imageOf_2 : decode cX4_imageOf 2 = .ok (.iconst 0, 1) := by decide +kernel
theorem dX4_imageOf_3 : decode cX4_imageOf 3 = .ok (.istore 4, 2) := by decide +kernel
theorem dX4_imageOf_5 : decode cX4_imageOf 5 = .ok (.iload 4, 2) := by decide +kernel
theorem dX4_imageOf_7 : decode cX4_imageOf 7 = .ok (.aload_n 0, 1) := by decide +kernel
theorem dX4_imageOf_8 : decode cX4_imageOf 8 = .ok (.getfield 9, 3) := by decide +kernel
theorem dX4_imageOf_11 : decode cX4_imageOf 11 = .ok (.getfield 28, 3) := by decide +kernel
theorem dX4_imageOf_14 : decode cX4_imageOf 14 = .ok (.if_icmp .ge 18, 3) := by decide +kernel
theorem dX4_imageOf_17 : decode cX4_imageOf 17 = .ok (.lload_n 2, 1) := by decide +kernel
theorem dX4_imageOf_18 : decode cX4_imageOf 18 = .ok (.lconst 1, 1) := by decide +kernel
theorem dX4_imageOf_19 : decode cX4_imageOf 19 = .ok (.aload_n 1, 1) := by decide +kernel
theorem dX4_imageOf_20 : decode cX4_imageOf 20 = .ok (.iload 4, 2) := by decide +kernel
theorem dX4_imageOf_22 : decode cX4_imageOf 22 = .ok (.iaload, 1) := by decide +kernel
theorem dX4_imageOf_23 : decode cX4_imageOf 23 = .ok (.lshl, 1) := by decide +kernel
theorem dX4_imageOf_24 : decode cX4_imageOf 24 = .ok (.lor, 1) := by decide +kernel
theorem dX4_imageOf_25 : decode cX4_imageOf 25 = .ok (.lstore_n 2, 1) := by decide +kernel
theorem dX4_imageOf_26 : decode cX4_imageOf 26 = .ok (.iinc 4 1, 3) := by decide +kernel
theorem dX4_imageOf_29 : decode cX4_imageOf 29 = .ok (.goto (-24), 3) := by decide +kernel
theorem dX4_imageOf_32 : decode cX4_imageOf 32 = .ok (.lload_n 2, 1) := by decide +kernel
theorem dX4_imageOf_33 : decode cX4_imageOf 33 = .ok (.invokestatic 51, 3) := by decide +kernel
theorem dX4_imageOf_36 : decode cX4_imageOf 36 = .ok (.ireturn, 1) := by decide +kernel
theorem dX4_isPermuting_0 : decode cX4_isPermuting 0 = .ok (.aload_n 0, 1) := by decide +kernel
theorem dX4_isPermuting_1 : decode cX4_isPermuting 1 = .ok (.aload_n 1, 1) := by decide +kernel
theorem dX4_isPermuting_2 : decode cX4_isPermuting 2 = .ok (.invokevirtual 57, 3) := by decide +kernel
theorem dX4_isPermuting_5 : decode cX4_isPermuting 5 = .ok (.aload_n 0, 1) := by decide +kernel
theorem dX4_isPermuting_6 : decode cX4_isPermuting 6 = .ok (.getfield 9, 3) := by decide +kernel
theorem dX4_isPermuting_9 : decode cX4_isPermuting 9 = .ok (.getfield 28, 3) := by decide +kernel
theorem dX4_isPermuting_12 : decode cX4_isPermuting 12 = .ok (.if_icmp .ne 7, 3) := by decide +kernel
theorem dX4_isPermuting_15 : decode cX4_isPermuting 15 = .ok (.iconst 1, 1) := by decide +kernel
theorem dX4_isPermuting_16 : decode cX4_isPermuting 16 = .ok (.goto 4, 3) := by decide +kernel
theorem dX4_isPermuting_19 : decode cX4_isPermuting 19 = .ok (.iconst 0, 1) := by decide +kernel
theorem dX4_isPermuting_20 : decode cX4_isPermuting 20 = .ok (.ireturn, 1) := by decide +kernel
theorem dX4_powersOf_0 : decode cX4_powersOf 0 = .ok (.aload_n 0, 1) := by decide +kernel
theorem dX4_powersOf_1 : decode cX4_powersOf 1 = .ok (.aload_n 1, 1) := by decide +kernel
theorem dX4_powersOf_2 : decode cX4_powersOf 2 = .ok (.iconst 0, 1) := by decide +kernel
theorem dX4_powersOf_3 : decode cX4_powersOf 3 = .ok (.invokevirtual 61, 3) := by decide +kernel
theorem dX4_powersOf_6 : decode cX4_powersOf 6 = .ok (.iconst 1, 1) := by decide +kernel
theorem dX4_powersOf_7 : decode cX4_powersOf 7 = .ok (.if_icmp .eq 5, 3) := by decide +kernel
theorem dX4_powersOf_10 : decode cX4_powersOf 10 = .ok (.iconst 0, 1) := by decide +kernel
theorem dX4_powersOf_11 : decode cX4_powersOf 11 = .ok (.ireturn, 1) := by decide +kernel
theorem dX4_powersOf_12 : decode cX4_powersOf 12 = .ok (.aload_n 0, 1) := by decide +kernel
theorem dX4_powersOf_13 : decode cX4_powersOf 13 = .ok (.getfield 22, 3) := by decide +kernel
theorem dX4_powersOf_16 : decode cX4_powersOf 16 = .ok (.astore_n 2, 1) := by decide +kernel
theorem dX4_powersOf_17 : decode cX4_powersOf 17 = .ok (.iconst 0, 1) := by decide +kernel
theorem dX4_powersOf_18 : decode cX4_powersOf 18 = .ok (.istore_n 3, 1) := by decide +kernel
theorem dX4_powersOf_19 : decode cX4_powersOf 19 = .ok (.iload_n 3, 1) := by decide +kernel
theorem dX4_powersOf_20 : decode cX4_powersOf 20 = .ok (.aload_n 0, 1) := by decide +kernel
theorem dX4_powersOf_21 : decode cX4_powersOf 21 = .ok (.getfield 9, 3) := by decide +kernel
theorem dX4_powersOf_24 : decode cX4_powersOf 24 = .ok (.getfield 28, 3) := by decide +kernel
theorem dX4_powersOf_27 : decode cX4_powersOf 27 = .ok (.if_icmp .ge 13, 3) := by decide +kernel
theorem dX4_powersOf_30 : decode cX4_powersOf 30 = .ok (.aload_n 2, 1) := by decide +kernel
theorem dX4_powersOf_31 : decode cX4_powersOf 31 = .ok (.iload_n 3, 1) := by decide +kernel
theorem dX4_powersOf_32 : decode cX4_powersOf 32 = .ok (.iconst 1, 1) := by decide +kernel
theorem dX4_powersOf_33 : decode cX4_powersOf 33 = .ok (.iastore, 1) := by decide +kernel
theorem dX4_powersOf_34 : decode cX4_powersOf 34 = .ok (.iinc 3 1, 3) := by decide +kernel
theorem dX4_powersOf_37 : decode cX4_powersOf 37 = .ok (.goto (-18), 3) := by decide +kernel
theorem dX4_powersOf_40 : decode cX4_powersOf 40 = .ok (.iconst 0, 1) := by decide +kernel
theorem dX4_powersOf_41 : decode cX4_powersOf 41 = .ok (.istore_n 3, 1) := by decide +kernel
theorem dX4_powersOf_42 : decode cX4_powersOf 42 = .ok (.iconst 1, 1) := by decide +kernel
theorem dX4_powersOf_43 : decode cX4_powersOf 43 = .ok (.istore 4, 2) := by decide +kernel
theorem dX4_powersOf_45 : decode cX4_powersOf 45 = .ok (.iload 4, 2) := by decide +kernel
theorem dX4_powersOf_47 : decode cX4_powersOf 47 = .ok (.aload_n 0, 1) := by decide +kernel
theorem dX4_powersOf_48 : decode cX4_powersOf 48 = .ok (.getfield 9, 3) := by decide +kernel
theorem dX4_powersOf_51 : decode cX4_powersOf 51 = .ok (.getfield 28, 3) := by decide +kernel
theorem dX4_powersOf_54 : decode cX4_powersOf 54 = .ok (.iconst 2, 1) := by decide +kernel
theorem dX4_powersOf_55 : decode cX4_powersOf 55 = .ok (.isub, 1) := by decide +kernel
theorem dX4_powersOf_56 : decode cX4_powersOf 56 = .ok (.if_icmp .gt 100, 3) := by decide +kernel
theorem dX4_powersOf_59 : decode cX4_powersOf 59 = .ok (.iconst 0, 1) := by decide +kernel
theorem dX4_powersOf_60 : decode cX4_powersOf 60 = .ok (.istore 5, 2) := by decide +kernel
theorem dX4_powersOf_62 : decode cX4_powersOf 62 = .ok (.iconst 0, 1) := by decide +kernel
theorem dX4_powersOf_63 : decode cX4_powersOf 63 = .ok (.istore 6, 2) := by decide +kernel
theorem dX4_powersOf_65 : decode cX4_powersOf 65 = .ok (.iload 6, 2) := by decide +kernel
theorem dX4_powersOf_67 : decode cX4_powersOf 67 = .ok (.aload_n 0, 1) := by decide +kernel
theorem dX4_powersOf_68 : decode cX4_powersOf 68 = .ok (.getfield 9, 3) := by decide +kernel
theorem dX4_powersOf_71 : decode cX4_powersOf 71 = .ok (.getfield 28, 3) := by decide +kernel
theorem dX4_powersOf_74 : decode cX4_powersOf 74 = .ok (.if_icmp .ge 43, 3) := by decide +kernel
theorem dX4_powersOf_77 : decode cX4_powersOf 77 = .ok (.aload_n 2, 1) := by decide +kernel
theorem dX4_powersOf_78 : decode cX4_powersOf 78 = .ok (.iload 6, 2) := by decide +kernel
theorem dX4_powersOf_80 : decode cX4_powersOf 80 = .ok (.aload_n 0, 1) := by decide +kernel
theorem dX4_powersOf_81 : decode cX4_powersOf 81 = .ok (.getfield 9, 3) := by decide +kernel
theorem dX4_powersOf_84 : decode cX4_powersOf 84 = .ok (.aload_n 2, 1) := by decide +kernel
theorem dX4_powersOf_85 : decode cX4_powersOf 85 = .ok (.iload 6, 2) := by decide +kernel
theorem dX4_powersOf_87 : decode cX4_powersOf 87 = .ok (.iaload, 1) := by decide +kernel
theorem dX4_powersOf_88 : decode cX4_powersOf 88 = .ok (.aload_n 1, 1) := by decide +kernel
theorem dX4_powersOf_89 : decode cX4_powersOf 89 = .ok (.iload 6, 2) := by decide +kernel
theorem dX4_powersOf_91 : decode cX4_powersOf 91 = .ok (.iaload, 1) := by decide +kernel
theorem dX4_powersOf_92 : decode cX4_powersOf 92 = .ok (.invokevirtual 42, 3) := by decide +kernel
theorem dX4_powersOf_95 : decode cX4_powersOf 95 = .ok (.iastore, 1) := by decide +kernel
theorem dX4_powersOf_96 : decode cX4_powersOf 96 = .ok (.aload_n 0, 1) := by decide +kernel
theorem dX4_powersOf_97 : decode cX4_powersOf 97 = .ok (.getfield 9, 3) := by decide +kernel
theorem dX4_powersOf_100 : decode cX4_powersOf 100 = .ok (.iload 5, 2) := by decide +kernel
theorem dX4_powersOf_102 : decode cX4_powersOf 102 = .ok (.aload_n 2, 1) := by decide +kernel
theorem dX4_powersOf_103 : decode cX4_powersOf 103 = .ok (.iload 6, 2) := by decide +kernel
theorem dX4_powersOf_105 : decode cX4_powersOf 105 = .ok (.iaload, 1) := by decide +kernel
theorem dX4_powersOf_106 : decode cX4_powersOf 106 = .ok (.invokevirtual 45, 3) := by decide +kernel
theorem dX4_powersOf_109 : decode cX4_powersOf 109 = .ok (.istore 5, 2) := by decide +kernel
theorem dX4_powersOf_111 : decode cX4_powersOf 111 = .ok (.iinc 6 1, 3) := by decide +kernel
theorem dX4_powersOf_114 : decode cX4_powersOf 114 = .ok (.goto (-49), 3) := by decide +kernel
theorem dX4_powersOf_117 : decode cX4_powersOf 117 = .ok (.iload_n 3, 1) := by decide +kernel
theorem dX4_powersOf_118 : decode cX4_powersOf 118 = .ok (.iconst 1, 1) := by decide +kernel
theorem dX4_powersOf_119 : decode cX4_powersOf 119 = .ok (.iadd, 1) := by decide +kernel
theorem dX4_powersOf_120 : decode cX4_powersOf 120 = .ok (.aload_n 0, 1) := by decide +kernel
theorem dX4_powersOf_121 : decode cX4_powersOf 121 = .ok (.getfield 9, 3) := by decide +kernel
theorem dX4_powersOf_124 : decode cX4_powersOf 124 = .ok (.getfield 65, 3) := by decide +kernel
theorem dX4_powersOf_127 : decode cX4_powersOf 127 = .ok (.if_icmp .ge 9, 3) := by decide +kernel
theorem dX4_powersOf_130 : decode cX4_powersOf 130 = .ok (.iload_n 3, 1) := by decide +kernel
theorem dX4_powersOf_131 : decode cX4_powersOf 131 = .ok (.iconst 1, 1) := by decide +kernel
theorem dX4_powersOf_132 : decode cX4_powersOf 132 = .ok (.iadd, 1) := by decide +kernel
theorem dX4_powersOf_133 : decode cX4_powersOf 133 = .ok (.goto 4, 3) := by decide +kernel
theorem dX4_powersOf_136 : decode cX4_powersOf 136 = .ok (.iconst 0, 1) := by decide +kernel
theorem dX4_powersOf_137 : decode cX4_powersOf 137 = .ok (.istore_n 3, 1) := by decide +kernel
theorem dX4_powersOf_138 : decode cX4_powersOf 138 = .ok (.iload 5, 2) := by decide +kernel
theorem dX4_powersOf_140 : decode cX4_powersOf 140 = .ok (.ifCond .eq 10, 3) := by decide +kernel
theorem dX4_powersOf_143 : decode cX4_powersOf 143 = .ok (.iload_n 3, 1) := by decide +kernel
theorem dX4_powersOf_144 : decode cX4_powersOf 144 = .ok (.ifCond .eq 6, 3) := by decide +kernel
theorem dX4_powersOf_147 : decode cX4_powersOf 147 = .ok (.iload 4, 2) := by decide +kernel
theorem dX4_powersOf_149 : decode cX4_powersOf 149 = .ok (.ireturn, 1) := by decide +kernel
theorem dX4_powersOf_150 : decode cX4_powersOf 150 = .ok (.iinc 4 1, 3) := by decide +kernel
theorem dX4_powersOf_153 : decode cX4_powersOf 153 = .ok (.goto (-108), 3) := by decide +kernel
theorem dX4_powersOf_156 : decode cX4_powersOf 156 = .ok (.iconst (-1), 1) := by decide +kernel
theorem dX4_powersOf_157 : decode cX4_powersOf 157 = .ok (.ireturn, 1) := by decide +kernel
theorem dX4_findCycles_0 : decode cX4_findCycles 0 = .ok (.iconst 0, 1) := by decide +kernel
theorem dX4_findCycles_1 : decode cX4_findCycles 1 = .ok (.istore_n 2, 1) := by decide +kernel
theorem dX4_findCycles_2 : decode cX4_findCycles 2 = .ok (.iload_n 2, 1) := by decide +kernel
theorem dX4_findCycles_3 : decode cX4_findCycles 3 = .ok (.bipush 64, 2) := by decide +kernel
theorem dX4_findCycles_5 : decode cX4_findCycles 5 = .ok (.if_icmp .gt 16, 3) := by decide +kernel
theorem dX4_findCycles_8 : decode cX4_findCycles 8 = .ok (.aload_n 0, 1) := by decide +kernel
theorem dX4_findCycles_9 : decode cX4_findCycles 9 = .ok (.getfield 15, 3) := by decide +kernel
theorem dX4_findCycles_12 : decode cX4_findCycles 12 = .ok (.iload_n 2, 1) := by decide +kernel
theorem dX4_findCycles_13 : decode cX4_findCycles 13 = .ok (.iconst 0, 1) := by decide +kernel
theorem dX4_findCycles_14 : decode cX4_findCycles 14 = .ok (.iastore, 1) := by decide +kernel
theorem dX4_findCycles_15 : decode cX4_findCycles 15 = .ok (.iinc 2 1, 3) := by decide +kernel
theorem dX4_findCycles_18 : decode cX4_findCycles 18 = .ok (.goto (-16), 3) := by decide +kernel
theorem dX4_findCycles_21 : decode cX4_findCycles 21 = .ok (.aload_n 0, 1) := by decide +kernel
theorem dX4_findCycles_22 : decode cX4_findCycles 22 = .ok (.iconst 0, 1) := by decide +kernel
theorem dX4_findCycles_23 : decode cX4_findCycles 23 = .ok (.putfield 68, 3) := by decide +kernel
theorem dX4_findCycles_26 : decode cX4_findCycles 26 = .ok (.lconst 0, 1) := by decide +kernel
theorem dX4_findCycles_27 : decode cX4_findCycles 27 = .ok (.lstore_n 2, 1) := by decide +kernel
theorem dX4_findCycles_28 : decode cX4_findCycles 28 = .ok (.iconst 0, 1) := by decide +kernel
theorem dX4_findCycles_29 : decode cX4_findCycles 29 = .ok (.istore 4, 2) := by decide +kernel
theorem dX4_findCycles_31 : decode cX4_findCycles 31 = .ok (.iload 4, 2) := by decide +kernel
theorem dX4_findCycles_33 : decode cX4_findCycles 33 = .ok (.aload_n 0, 1) := by decide +kernel
theorem dX4_findCycles_34 : decode cX4_findCycles 34 = .ok (.getfield 9, 3) := by decide +kernel
theorem dX4_findCycles_37 : decode cX4_findCycles 37 = .ok (.getfield 28, 3) := by decide +kernel
theorem dX4_findCycles_40 : decode cX4_findCycles 40 = .ok (.if_icmp .ge 84, 3) := by decide +kernel
theorem dX4_findCycles_43 : decode cX4_findCycles 43 = .ok (.iconst 0, 1) := by decide +kernel
theorem dX4_findCycles_44 : decode cX4_findCycles 44 = .ok (.istore 5, 2) := by decide +kernel
theorem dX4_findCycles_46 : decode cX4_findCycles 46 = .ok (.iload 4, 2) := by decide +kernel
theorem dX4_findCycles_48 : decode cX4_findCycles 48 = .ok (.istore 6, 2) := by decide +kernel
theorem dX4_findCycles_50 : decode cX4_findCycles 50 = .ok (.iload 5, 2) := by decide +kernel
theorem dX4_findCycles_52 : decode cX4_findCycles 52 = .ok (.aload_n 0, 1) := by decide +kernel
theorem dX4_findCycles_53 : decode cX4_findCycles 53 = .ok (.getfield 9, 3) := by decide +kernel
theorem dX4_findCycles_56 : decode cX4_findCycles 56 = .ok (.getfield 28, 3) := by decide +kernel
theorem dX4_findCycles_59 : decode cX4_findCycles 59 = .ok (.if_icmp .ge 33, 3) := by decide +kernel
theorem dX4_findCycles_62 : decode cX4_findCycles 62 = .ok (.lload_n 2, 1) := by decide +kernel
theorem dX4_findCycles_63 : decode cX4_findCycles 63 = .ok (.iload 6, 2) := by decide +kernel
theorem dX4_findCycles_65 : decode cX4_findCycles 65 = .ok (.lushr, 1) := by decide +kernel
theorem dX4_findCycles_66 : decode cX4_findCycles 66 = .ok (.lconst 1, 1) := by decide +kernel
theorem dX4_findCycles_67 : decode cX4_findCycles 67 = .ok (.land, 1) := by decide +kernel
theorem dX4_findCycles_68 : decode cX4_findCycles 68 = .ok (.lconst 0, 1) := by decide +kernel
theorem dX4_findCycles_69 : decode cX4_findCycles 69 = .ok (.lcmp, 1) := by decide +kernel
theorem dX4_findCycles_70 : decode cX4_findCycles 70 = .ok (.ifCond .ne 22, 3) := by decide +kernel
theorem dX4_findCycles_73 : decode cX4_findCycles 73 = .ok (.lload_n 2, 1) := by decide +kernel
theorem dX4_findCycles_74 : decode cX4_findCycles 74 = .ok (.lconst 1, 1) := by decide +kernel
theorem dX4_findCycles_75 : decode cX4_findCycles 75 = .ok (.iload 6, 2) := by decide +kernel
theorem dX4_findCycles_77 : decode cX4_findCycles 77 = .ok (.lshl, 1) := by decide +kernel
theorem dX4_findCycles_78 : decode cX4_findCycles 78 = .ok (.lor, 1) := by decide +kernel
theorem dX4_findCycles_79 : decode cX4_findCycles 79 = .ok (.lstore_n 2, 1) := by decide +kernel
theorem dX4_findCycles_80 : decode cX4_findCycles 80 = .ok (.aload_n 1, 1) := by decide +kernel
theorem dX4_findCycles_81 : decode cX4_findCycles 81 = .ok (.iload 6, 2) := by decide +kernel
theorem dX4_findCycles_83 : decode cX4_findCycles 83 = .ok (.iaload, 1) := by decide +kernel
theorem dX4_findCycles_84 : decode cX4_findCycles 84 = .ok (.istore 6, 2) := by decide +kernel
theorem dX4_findCycles_86 : decode cX4_findCycles 86 = .ok (.iinc 5 1, 3) := by decide +kernel
theorem dX4_findCycles_89 : decode cX4_findCycles 89 = .ok (.goto (-39), 3) := by decide +kernel
theorem dX4_findCycles_92 : decode cX4_findCycles 92 = .ok (.iload 5, 2) := by decide +kernel
theorem dX4_findCycles_94 : decode cX4_findCycles 94 = .ok (.ifCond .le 24, 3) := by decide +kernel
theorem dX4_findCycles_97 : decode cX4_findCycles 97 = .ok (.aload_n 0, 1) := by decide +kernel
theorem dX4_findCycles_98 : decode cX4_findCycles 98 = .ok (.getfield 15, 3) := by decide +kernel
theorem dX4_findCycles_101 : decode cX4_findCycles 101 = .ok (.iload 5, 2) := by decide +kernel
theorem dX4_findCycles_103 : decode cX4_findCycles 103 = .ok (.dup2, 1) := by decide +kernel
theorem dX4_findCycles_104 : decode cX4_findCycles 104 = .ok (.iaload, 1) := by decide +kernel
theorem dX4_findCycles_105 : decode cX4_findCycles 105 = .ok (.iconst 1, 1) := by decide +kernel
theorem dX4_findCycles_106 : decode cX4_findCycles 106 = .ok (.iadd, 1) := by decide +kernel
theorem dX4_findCycles_107 : decode cX4_findCycles 107 = .ok (.iastore, 1) := by decide +kernel
theorem dX4_findCycles_108 : decode cX4_findCycles 108 = .ok (.aload_n 0, 1) := by decide +kernel
theorem dX4_findCycles_109 : decode cX4_findCycles 109 = .ok (.dup, 1) := by decide +kernel
theorem dX4_findCycles_110 : decode cX4_findCycles 110 = .ok (.getfield 68, 3) := by decide +kernel
theorem dX4_findCycles_113 : decode cX4_findCycles 113 = .ok (.iconst 1, 1) := by decide +kernel
theorem dX4_findCycles_114 : decode cX4_findCycles 114 = .ok (.iadd, 1) := by decide +kernel
theorem dX4_findCycles_115 : decode cX4_findCycles 115 = .ok (.putfield 68, 3) := by decide +kernel
theorem dX4_findCycles_118 : decode cX4_findCycles 118 = .ok (.iinc 4 1, 3) := by decide +kernel
theorem dX4_findCycles_121 : decode cX4_findCycles 121 = .ok (.goto (-90), 3) := by decide +kernel
theorem dX4_findCycles_124 : decode cX4_findCycles 124 = .ok (.return_, 1) := by decide +kernel
theorem dX4_cycleMultiple_0 : decode cX4_cycleMultiple 0 = .ok (.iconst 1, 1) := by decide +kernel
theorem dX4_cycleMultiple_1 : decode cX4_cycleMultiple 1 = .ok (.istore_n 1, 1) := by decide +kernel
theorem dX4_cycleMultiple_2 : decode cX4_cycleMultiple 2 = .ok (.iconst 2, 1) := by decide +kernel
theorem dX4_cycleMultiple_3 : decode cX4_cycleMultiple 3 = .ok (.istore_n 2, 1) := by decide +kernel
theorem dX4_cycleMultiple_4 : decode cX4_cycleMultiple 4 = .ok (.iload_n 2, 1) := by decide +kernel
theorem dX4_cycleMultiple_5 : decode cX4_cycleMultiple 5 = .ok (.bipush 64, 2) := by decide +kernel
theorem dX4_cycleMultiple_7 : decode cX4_cycleMultiple 7 = .ok (.if_icmp .gt 38, 3) := by decide +kernel
theorem dX4_cycleMultiple_10 : decode cX4_cycleMultiple 10 = .ok (.aload_n 0, 1) := by decide +kernel
theorem dX4_cycleMultiple_11 : decode cX4_cycleMultiple 11 = .ok (.getfield 15, 3) := by decide +kernel
theorem dX4_cycleMultiple_14 : decode cX4_cycleMultiple 14 = .ok (.iload_n 2, 1) := by decide +kernel
theorem dX4_cycleMultiple_15 : decode cX4_cycleMultiple 15 = .ok (.iaload, 1) := by decide +kernel
theorem dX4_cycleMultiple_16 : decode cX4_cycleMultiple 16 = .ok (.ifCond .le 11, 3) := by decide +kernel
theorem dX4_cycleMultiple_19 : decode cX4_cycleMultiple 19 = .ok (.iload_n 1, 1) := by decide +kernel
theorem dX4_cycleMultiple_20 : decode cX4_cycleMultiple 20 = .ok (.iload_n 2, 1) := by decide +kernel
theorem dX4_cycleMultiple_21 : decode cX4_cycleMultiple 21 = .ok (.invokestatic 71, 3) := by decide +kernel
theorem dX4_cycleMultiple_24 : decode cX4_cycleMultiple 24 = .ok (.goto 4, 3) := by decide +kernel
theorem dX4_cycleMultiple_27 : decode cX4_cycleMultiple 27 = .ok (.iconst 0, 1) := by decide +kernel
theorem dX4_cycleMultiple_28 : decode cX4_cycleMultiple 28 = .ok (.istore_n 3, 1) := by decide +kernel
theorem dX4_cycleMultiple_29 : decode cX4_cycleMultiple 29 = .ok (.iload_n 3, 1) := by decide +kernel
theorem dX4_cycleMultiple_30 : decode cX4_cycleMultiple 30 = .ok (.ifCond .le 9, 3) := by decide +kernel
theorem dX4_cycleMultiple_33 : decode cX4_cycleMultiple 33 = .ok (.iload_n 1, 1) := by decide +kernel
theorem dX4_cycleMultiple_34 : decode cX4_cycleMultiple 34 = .ok (.iload_n 3, 1) := by decide +kernel
theorem dX4_cycleMultiple_35 : decode cX4_cycleMultiple 35 = .ok (.idiv, 1) := by decide +kernel
theorem dX4_cycleMultiple_36 : decode cX4_cycleMultiple 36 = .ok (.iload_n 2, 1) := by decide +kernel
theorem dX4_cycleMultiple_37 : decode cX4_cycleMultiple 37 = .ok (.imul, 1) := by decide +kernel
theorem dX4_cycleMultiple_38 : decode cX4_cycleMultiple 38 = .ok (.istore_n 1, 1) := by decide +kernel
theorem dX4_cycleMultiple_39 : decode cX4_cycleMultiple 39 = .ok (.iinc 2 1, 3) := by decide +kernel
theorem dX4_cycleMultiple_42 : decode cX4_cycleMultiple 42 = .ok (.goto (-38), 3) := by decide +kernel
theorem dX4_cycleMultiple_45 : decode cX4_cycleMultiple 45 = .ok (.iload_n 1, 1) := by decide +kernel
theorem dX4_cycleMultiple_46 : decode cX4_cycleMultiple 46 = .ok (.ireturn, 1) := by decide +kernel
theorem dX4_commonDivisor_0 : decode cX4_commonDivisor 0 = .ok (.iload_n 1, 1) := by decide +kernel
theorem dX4_commonDivisor_1 : decode cX4_commonDivisor 1 = .ok (.istore_n 2, 1) := by decide +kernel
theorem dX4_commonDivisor_2 : decode cX4_commonDivisor 2 = .ok (.iload_n 2, 1) := by decide +kernel
theorem dX4_commonDivisor_3 : decode cX4_commonDivisor 3 = .ok (.iconst 1, 1) := by decide +kernel
theorem dX4_commonDivisor_4 : decode cX4_commonDivisor 4 = .ok (.if_icmp .le 23, 3) := by decide +kernel
theorem dX4_commonDivisor_7 : decode cX4_commonDivisor 7 = .ok (.iload_n 1, 1) := by decide +kernel
theorem dX4_commonDivisor_8 : decode cX4_commonDivisor 8 = .ok (.iload_n 2, 1) := by decide +kernel
theorem dX4_commonDivisor_9 : decode cX4_commonDivisor 9 = .ok (.irem, 1) := by decide +kernel
theorem dX4_commonDivisor_10 : decode cX4_commonDivisor 10 = .ok (.ifCond .ne 11, 3) := by decide +kernel
theorem dX4_commonDivisor_13 : decode cX4_commonDivisor 13 = .ok (.iload_n 0, 1) := by decide +kernel
theorem dX4_commonDivisor_14 : decode cX4_commonDivisor 14 = .ok (.iload_n 2, 1) := by decide +kernel
theorem dX4_commonDivisor_15 : decode cX4_commonDivisor 15 = .ok (.irem, 1) := by decide +kernel
theorem dX4_commonDivisor_16 : decode cX4_commonDivisor 16 = .ok (.ifCond .ne 5, 3) := by decide +kernel
theorem dX4_commonDivisor_19 : decode cX4_commonDivisor 19 = .ok (.iload_n 2, 1) := by decide +kernel
theorem dX4_commonDivisor_20 : decode cX4_commonDivisor 20 = .ok (.ireturn, 1) := by decide +kernel
theorem dX4_commonDivisor_21 : decode cX4_commonDivisor 21 = .ok (.iinc 2 (-1), 3) := by decide +kernel
theorem dX4_commonDivisor_24 : decode cX4_commonDivisor 24 = .ok (.goto (-22), 3) := by decide +kernel
theorem dX4_commonDivisor_27 : decode cX4_commonDivisor 27 = .ok (.iconst 1, 1) := by decide +kernel
theorem dX4_commonDivisor_28 : decode cX4_commonDivisor 28 = .ok (.ireturn, 1) := by decide +kernel
theorem dX4_reachFrom_0 : decode cX4_reachFrom 0 = .ok (.lconst 1, 1) := by decide +kernel
theorem dX4_reachFrom_1 : decode cX4_reachFrom 1 = .ok (.iload_n 1, 1) := by decide +kernel
theorem dX4_reachFrom_2 : decode cX4_reachFrom 2 = .ok (.lshl, 1) := by decide +kernel
theorem dX4_reachFrom_3 : decode cX4_reachFrom 3 = .ok (.lstore_n 3, 1) := by decide +kernel
theorem dX4_reachFrom_4 : decode cX4_reachFrom 4 = .ok (.iconst 0, 1) := by decide +kernel
theorem dX4_reachFrom_5 : decode cX4_reachFrom 5 = .ok (.istore 5, 2) := by decide +kernel
theorem dX4_reachFrom_7 : decode cX4_reachFrom 7 = .ok (.iload 5, 2) := by decide +kernel
theorem dX4_reachFrom_9 : decode cX4_reachFrom 9 = .ok (.aload_n 0, 1) := by decide +kernel
theorem dX4_reachFrom_10 : decode cX4_reachFrom 10 = .ok (.getfield 9, 3) := by decide +kernel
theorem dX4_reachFrom_13 : decode cX4_reachFrom 13 = .ok (.getfield 28, 3) := by decide +kernel
theorem dX4_reachFrom_16 : decode cX4_reachFrom 16 = .ok (.if_icmp .ge 68, 3) := by decide +kernel
theorem dX4_reachFrom_19 : decode cX4_reachFrom 19 = .ok (.lload_n 3, 1) := by decide +kernel
theorem dX4_reachFrom_20 : decode cX4_reachFrom 20 = .ok (.lstore 6, 2) := by decide +kernel
theorem dX4_reachFrom_22 : decode cX4_reachFrom 22 = .ok (.iconst 0, 1) := by decide +kernel
theorem dX4_reachFrom_23 : decode cX4_reachFrom 23 = .ok (.istore 8, 2) := by decide +kernel
theorem dX4_reachFrom_25 : decode cX4_reachFrom 25 = .ok (.iload 8, 2) := by decide +kernel
theorem dX4_reachFrom_27 : decode cX4_reachFrom 27 = .ok (.aload_n 2, 1) := by decide +kernel
theorem dX4_reachFrom_28 : decode cX4_reachFrom 28 = .ok (.getfield 74, 3) := by decide +kernel
theorem dX4_reachFrom_31 : decode cX4_reachFrom 31 = .ok (.if_icmp .ge 38, 3) := by decide +kernel
theorem dX4_reachFrom_34 : decode cX4_reachFrom 34 = .ok (.aload_n 0, 1) := by decide +kernel
theorem dX4_reachFrom_35 : decode cX4_reachFrom 35 = .ok (.aload_n 2, 1) := by decide +kernel
theorem dX4_reachFrom_36 : decode cX4_reachFrom 36 = .ok (.getfield 79, 3) := by decide +kernel
theorem dX4_reachFrom_39 : decode cX4_reachFrom 39 = .ok (.iload 8, 2) := by decide +kernel
theorem dX4_reachFrom_41 : decode cX4_reachFrom 41 = .ok (.aaload, 1) := by decide +kernel
theorem dX4_reachFrom_42 : decode cX4_reachFrom 42 = .ok (.invokevirtual 83, 3) := by decide +kernel
theorem dX4_reachFrom_45 : decode cX4_reachFrom 45 = .ok (.ifCond .eq 18, 3) := by decide +kernel
theorem dX4_reachFrom_48 : decode cX4_reachFrom 48 = .ok (.lload_n 3, 1) := by decide +kernel
theorem dX4_reachFrom_49 : decode cX4_reachFrom 49 = .ok (.aload_n 0, 1) := by decide +kernel
theorem dX4_reachFrom_50 : decode cX4_reachFrom 50 = .ok (.aload_n 2, 1) := by decide +kernel
theorem dX4_reachFrom_51 : decode cX4_reachFrom 51 = .ok (.getfield 79, 3) := by decide +kernel
theorem dX4_reachFrom_54 : decode cX4_reachFrom 54 = .ok (.iload 8, 2) := by decide +kernel
theorem dX4_reachFrom_56 : decode cX4_reachFrom 56 = .ok (.aaload, 1) := by decide +kernel
theorem dX4_reachFrom_57 : decode cX4_reachFrom 57 = .ok (.lload_n 3, 1) := by decide +kernel
theorem dX4_reachFrom_58 : decode cX4_reachFrom 58 = .ok (.invokevirtual 87, 3) := by decide +kernel
theorem dX4_reachFrom_61 : decode cX4_reachFrom 61 = .ok (.lor, 1) := by decide +kernel
theorem dX4_reachFrom_62 : decode cX4_reachFrom 62 = .ok (.lstore_n 3, 1) := by decide +kernel
theorem dX4_reachFrom_63 : decode cX4_reachFrom 63 = .ok (.iinc 8 1, 3) := by decide +kernel
theorem dX4_reachFrom_66 : decode cX4_reachFrom 66 = .ok (.goto (-41), 3) := by decide +kernel
theorem dX4_reachFrom_69 : decode cX4_reachFrom 69 = .ok (.lload_n 3, 1) := by decide +kernel
theorem dX4_reachFrom_70 : decode cX4_reachFrom 70 = .ok (.lload 6, 2) := by decide +kernel
theorem dX4_reachFrom_72 : decode cX4_reachFrom 72 = .ok (.lcmp, 1) := by decide +kernel
theorem dX4_reachFrom_73 : decode cX4_reachFrom 73 = .ok (.ifCond .ne 5, 3) := by decide +kernel
theorem dX4_reachFrom_76 : decode cX4_reachFrom 76 = .ok (.lload_n 3, 1) := by decide +kernel
theorem dX4_reachFrom_77 : decode cX4_reachFrom 77 = .ok (.lreturn, 1) := by decide +kernel
theorem dX4_reachFrom_78 : decode cX4_reachFrom 78 = .ok (.iinc 5 1, 3) := by decide +kernel
theorem dX4_reachFrom_81 : decode cX4_reachFrom 81 = .ok (.goto (-74), 3) := by decide +kernel
theorem dX4_reachFrom_84 : decode cX4_reachFrom 84 = .ok (.lload_n 3, 1) := by decide +kernel
theorem dX4_reachFrom_85 : decode cX4_reachFrom 85 = .ok (.lreturn, 1) := by decide +kernel
theorem dX4_imageOfSet_0 : decode cX4_imageOfSet 0 = .ok (.lconst 0, 1) := by decide +kernel
theorem dX4_imageOfSet_1 : decode cX4_imageOfSet 1 = .ok (.lstore 4, 2) := by decide +kernel
theorem dX4_imageOfSet_3 : decode cX4_imageOfSet 3 = .ok (.iconst 0, 1) := by decide +kernel
theorem dX4_imageOfSet_4 : decode cX4_imageOfSet 4 = .ok (.istore 6, 2) := by decide +kernel
theorem dX4_imageOfSet_6 : decode cX4_imageOfSet 6 = .ok (.iload 6, 2) := by decide +kernel
theorem dX4_imageOfSet_8 : decode cX4_imageOfSet 8 = .ok (.aload_n 0, 1) := by decide +kernel
theorem dX4_imageOfSet_9 : decode cX4_imageOfSet 9 = .ok (.getfield 9, 3) := by decide +kernel
theorem dX4_imageOfSet_12 : decode cX4_imageOfSet 12 = .ok (.getfield 28, 3) := by decide +kernel
theorem dX4_imageOfSet_15 : decode cX4_imageOfSet 15 = .ok (.if_icmp .ge 31, 3) := by decide +kernel
theorem dX4_imageOfSet_18 : decode cX4_imageOfSet 18 = .ok (.lload_n 2, 1) := by decide +kernel
theorem dX4_imageOfSet_19 : decode cX4_imageOfSet 19 = .ok (.iload 6, 2) := by decide +kernel
theorem dX4_imageOfSet_21 : decode cX4_imageOfSet 21 = .ok (.lushr, 1) := by decide +kernel
theorem dX4_imageOfSet_22 : decode cX4_imageOfSet 22 = .ok (.lconst 1, 1) := by decide +kernel
theorem dX4_imageOfSet_23 : decode cX4_imageOfSet 23 = .ok (.land, 1) := by decide +kernel
theorem dX4_imageOfSet_24 : decode cX4_imageOfSet 24 = .ok (.lconst 1, 1) := by decide +kernel
theorem dX4_imageOfSet_25 : decode cX4_imageOfSet 25 = .ok (.lcmp, 1) := by decide +kernel
theorem dX4_imageOfSet_26 : decode cX4_imageOfSet 26 = .ok (.ifCond .ne 14, 3) := by decide +kernel
theorem dX4_imageOfSet_29 : decode cX4_imageOfSet 29 = .ok (.lload 4, 2) := by decide +kernel
theorem dX4_imageOfSet_31 : decode cX4_imageOfSet 31 = .ok (.lconst 1, 1) := by decide +kernel
theorem dX4_imageOfSet_32 : decode cX4_imageOfSet 32 = .ok (.aload_n 1, 1) := by decide +kernel
theorem dX4_imageOfSet_33 : decode cX4_imageOfSet 33 = .ok (.iload 6, 2) := by decide +kernel
theorem dX4_imageOfSet_35 : decode cX4_imageOfSet 35 = .ok (.iaload, 1) := by decide +kernel
theorem dX4_imageOfSet_36 : decode cX4_imageOfSet 36 = .ok (.lshl, 1) := by decide +kernel
theorem dX4_imageOfSet_37 : decode cX4_imageOfSet 37 = .ok (.lor, 1) := by decide +kernel
theorem dX4_imageOfSet_38 : decode cX4_imageOfSet 38 = .ok (.lstore 4, 2) := by decide +kernel
theorem dX4_imageOfSet_40 : decode cX4_imageOfSet 40 = .ok (.iinc 6 1, 3) := by decide +kernel
theorem dX4_imageOfSet_43 : decode cX4_imageOfSet 43 = .ok (.goto (-37), 3) := by decide +kernel
theorem dX4_imageOfSet_46 : decode cX4_imageOfSet 46 = .ok (.lload 4, 2) := by decide +kernel
theorem dX4_imageOfSet_48 : decode cX4_imageOfSet 48 = .ok (.lreturn, 1) := by decide +kernel
theorem dX4_spreadOf_0 : decode cX4_spreadOf 0 = .ok (.iconst 0, 1) := by decide +kernel
theorem dX4_spreadOf_1 : decode cX4_spreadOf 1 = .ok (.istore_n 2, 1) := by decide +kernel
theorem dX4_spreadOf_2 : decode cX4_spreadOf 2 = .ok (.iconst 1, 1) := by decide +kernel
theorem dX4_spreadOf_3 : decode cX4_spreadOf 3 = .ok (.istore_n 3, 1) := by decide +kernel
theorem dX4_spreadOf_4 : decode cX4_spreadOf 4 = .ok (.iload_n 3, 1) := by decide +kernel
theorem dX4_spreadOf_5 : decode cX4_spreadOf 5 = .ok (.aload_n 0, 1) := by decide +kernel
theorem dX4_spreadOf_6 : decode cX4_spreadOf 6 = .ok (.getfield 9, 3) := by decide +kernel
theorem dX4_spreadOf_9 : decode cX4_spreadOf 9 = .ok (.getfield 28, 3) := by decide +kernel
theorem dX4_spreadOf_12 : decode cX4_spreadOf 12 = .ok (.if_icmp .ge 107, 3) := by decide +kernel
theorem dX4_spreadOf_15 : decode cX4_spreadOf 15 = .ok (.iconst 0, 1) := by decide +kernel
theorem dX4_spreadOf_16 : decode cX4_spreadOf 16 = .ok (.istore 4, 2) := by decide +kernel
theorem dX4_spreadOf_18 : decode cX4_spreadOf 18 = .ok (.iload 4, 2) := by decide +kernel
theorem dX4_spreadOf_20 : decode cX4_spreadOf 20 = .ok (.aload_n 0, 1) := by decide +kernel
theorem dX4_spreadOf_21 : decode cX4_spreadOf 21 = .ok (.getfield 9, 3) := by decide +kernel
theorem dX4_spreadOf_24 : decode cX4_spreadOf 24 = .ok (.getfield 28, 3) := by decide +kernel
theorem dX4_spreadOf_27 : decode cX4_spreadOf 27 = .ok (.if_icmp .ge 17, 3) := by decide +kernel
theorem dX4_spreadOf_30 : decode cX4_spreadOf 30 = .ok (.aload_n 0, 1) := by decide +kernel
theorem dX4_spreadOf_31 : decode cX4_spreadOf 31 = .ok (.getfield 19, 3) := by decide +kernel
theorem dX4_spreadOf_34 : decode cX4_spreadOf 34 = .ok (.iload 4, 2) := by decide +kernel
theorem dX4_spreadOf_36 : decode cX4_spreadOf 36 = .ok (.iconst 0, 1) := by decide +kernel
theorem dX4_spreadOf_37 : decode cX4_spreadOf 37 = .ok (.iastore, 1) := by decide +kernel
theorem dX4_spreadOf_38 : decode cX4_spreadOf 38 = .ok (.iinc 4 1, 3) := by decide +kernel
theorem dX4_spreadOf_41 : decode cX4_spreadOf 41 = .ok (.goto (-23), 3) := by decide +kernel
theorem dX4_spreadOf_44 : decode cX4_spreadOf 44 = .ok (.iconst 0, 1) := by decide +kernel
theorem dX4_spreadOf_45 : decode cX4_spreadOf 45 = .ok (.istore 4, 2) := by decide +kernel
theorem dX4_spreadOf_47 : decode cX4_spreadOf 47 = .ok (.iload 4, 2) := by decide +kernel
theorem dX4_spreadOf_49 : decode cX4_spreadOf 49 = .ok (.aload_n 0, 1) := by decide +kernel
theorem dX4_spreadOf_50 : decode cX4_spreadOf 50 = .ok (.getfield 9, 3) := by decide +kernel
theorem dX4_spreadOf_53 : decode cX4_spreadOf 53 = .ok (.getfield 28, 3) := by decide +kernel
theorem dX4_spreadOf_56 : decode cX4_spreadOf 56 = .ok (.if_icmp .ge 57, 3) := by decide +kernel
theorem dX4_spreadOf_59 : decode cX4_spreadOf 59 = .ok (.aload_n 0, 1) := by decide +kernel
theorem dX4_spreadOf_60 : decode cX4_spreadOf 60 = .ok (.getfield 9, 3) := by decide +kernel
theorem dX4_spreadOf_63 : decode cX4_spreadOf 63 = .ok (.aload_n 1, 1) := by decide +kernel
theorem dX4_spreadOf_64 : decode cX4_spreadOf 64 = .ok (.aload_n 0, 1) := by decide +kernel
theorem dX4_spreadOf_65 : decode cX4_spreadOf 65 = .ok (.getfield 9, 3) := by decide +kernel
theorem dX4_spreadOf_68 : decode cX4_spreadOf 68 = .ok (.iload 4, 2) := by decide +kernel
theorem dX4_spreadOf_70 : decode cX4_spreadOf 70 = .ok (.iload_n 3, 1) := by decide +kernel
theorem dX4_spreadOf_71 : decode cX4_spreadOf 71 = .ok (.invokevirtual 45, 3) := by decide +kernel
theorem dX4_spreadOf_74 : decode cX4_spreadOf 74 = .ok (.iaload, 1) := by decide +kernel
theorem dX4_spreadOf_75 : decode cX4_spreadOf 75 = .ok (.aload_n 1, 1) := by decide +kernel
theorem dX4_spreadOf_76 : decode cX4_spreadOf 76 = .ok (.iload 4, 2) := by decide +kernel
theorem dX4_spreadOf_78 : decode cX4_spreadOf 78 = .ok (.iaload, 1) := by decide +kernel
theorem dX4_spreadOf_79 : decode cX4_spreadOf 79 = .ok (.invokevirtual 91, 3) := by decide +kernel
theorem dX4_spreadOf_82 : decode cX4_spreadOf 82 = .ok (.istore 5, 2) := by decide +kernel
theorem dX4_spreadOf_84 : decode cX4_spreadOf 84 = .ok (.aload_n 0, 1) := by decide +kernel
theorem dX4_spreadOf_85 : decode cX4_spreadOf 85 = .ok (.getfield 19, 3) := by decide +kernel
theorem dX4_spreadOf_88 : decode cX4_spreadOf 88 = .ok (.iload 5, 2) := by decide +kernel
theorem dX4_spreadOf_90 : decode cX4_spreadOf 90 = .ok (.dup2, 1) := by decide +kernel
theorem dX4_spreadOf_91 : decode cX4_spreadOf 91 = .ok (.iaload, 1) := by decide +kernel
theorem dX4_spreadOf_92 : decode cX4_spreadOf 92 = .ok (.iconst 1, 1) := by decide +kernel
theorem dX4_spreadOf_93 : decode cX4_spreadOf 93 = .ok (.iadd, 1) := by decide +kernel
theorem dX4_spreadOf_94 : decode cX4_spreadOf 94 = .ok (.iastore, 1) := by decide +kernel
theorem dX4_spreadOf_95 : decode cX4_spreadOf 95 = .ok (.iload_n 2, 1) := by decide +kernel
theorem dX4_spreadOf_96 : decode cX4_spreadOf 96 = .ok (.aload_n 0, 1) := by decide +kernel
theorem dX4_spreadOf_97 : decode cX4_spreadOf 97 = .ok (.getfield 19, 3) := by decide +kernel
theorem dX4_spreadOf_100 : decode cX4_spreadOf 100 = .ok (.iload 5, 2) := by decide +kernel
theorem dX4_spreadOf_102 : decode cX4_spreadOf 102 = .ok (.iaload, 1) := by decide +kernel
theorem dX4_spreadOf_103 : decode cX4_spreadOf 103 = .ok (.invokestatic 94, 3) := by decide +kernel
theorem dX4_spreadOf_106 : decode cX4_spreadOf 106 = .ok (.istore_n 2, 1) := by decide +kernel
theorem dX4_spreadOf_107 : decode cX4_spreadOf 107 = .ok (.iinc 4 1, 3) := by decide +kernel
theorem dX4_spreadOf_110 : decode cX4_spreadOf 110 = .ok (.goto (-63), 3) := by decide +kernel
theorem dX4_spreadOf_113 : decode cX4_spreadOf 113 = .ok (.iinc 3 1, 3) := by decide +kernel
theorem dX4_spreadOf_116 : decode cX4_spreadOf 116 = .ok (.goto (-112), 3) := by decide +kernel
theorem dX4_spreadOf_119 : decode cX4_spreadOf 119 = .ok (.iload_n 2, 1) := by decide +kernel
theorem dX4_spreadOf_120 : decode cX4_spreadOf 120 = .ok (.ireturn, 1) := by decide +kernel
theorem dX4_permutingMonomials_0 : decode cX4_permutingMonomials 0 = .ok (.aload_n 0, 1) := by decide +kernel
theorem dX4_permutingMonomials_1 : decode cX4_permutingMonomials 1 = .ok (.getfield 22, 3) := by decide +kernel
theorem dX4_permutingMonomials_4 : decode cX4_permutingMonomials 4 = .ok (.astore_n 1, 1) := by decide +kernel
theorem dX4_permutingMonomials_5 : decode cX4_permutingMonomials 5 = .ok (.iconst 0, 1) := by decide +kernel
theorem dX4_permutingMonomials_6 : decode cX4_permutingMonomials 6 = .ok (.istore_n 2, 1) := by decide +kernel
theorem dX4_permutingMonomials_7 : decode cX4_permutingMonomials 7 = .ok (.iload_n 2, 1) := by decide +kernel
theorem dX4_permutingMonomials_8 : decode cX4_permutingMonomials 8 = .ok (.aload_n 0, 1) := by decide +kernel
theorem dX4_permutingMonomials_9 : decode cX4_permutingMonomials 9 = .ok (.getfield 9, 3) := by decide +kernel
theorem dX4_permutingMonomials_12 : decode cX4_permutingMonomials 12 = .ok (.getfield 28, 3) := by decide +kernel
theorem dX4_permutingMonomials_15 : decode cX4_permutingMonomials 15 = .ok (.if_icmp .ge 13, 3) := by decide +kernel
theorem dX4_permutingMonomials_18 : decode cX4_permutingMonomials 18 = .ok (.aload_n 1, 1) := by decide +kernel
theorem dX4_permutingMonomials_19 : decode cX4_permutingMonomials 19 = .ok (.iload_n 2, 1) := by decide +kernel
theorem dX4_permutingMonomials_20 : decode cX4_permutingMonomials 20 = .ok (.iconst 1, 1) := by decide +kernel
theorem dX4_permutingMonomials_21 : decode cX4_permutingMonomials 21 = .ok (.iastore, 1) := by decide +kernel
theorem dX4_permutingMonomials_22 : decode cX4_permutingMonomials 22 = .ok (.iinc 2 1, 3) := by decide +kernel
theorem dX4_permutingMonomials_25 : decode cX4_permutingMonomials 25 = .ok (.goto (-18), 3) := by decide +kernel
theorem dX4_permutingMonomials_28 : decode cX4_permutingMonomials 28 = .ok (.lconst 0, 1) := by decide +kernel
theorem dX4_permutingMonomials_29 : decode cX4_permutingMonomials 29 = .ok (.lstore_n 2, 1) := by decide +kernel
theorem dX4_permutingMonomials_30 : decode cX4_permutingMonomials 30 = .ok (.iconst 1, 1) := by decide +kernel
theorem dX4_permutingMonomials_31 : decode cX4_permutingMonomials 31 = .ok (.istore 4, 2) := by decide +kernel
theorem dX4_permutingMonomials_33 : decode cX4_permutingMonomials 33 = .ok (.iload 4, 2) := by decide +kernel
theorem dX4_permutingMonomials_35 : decode cX4_permutingMonomials 35 = .ok (.aload_n 0, 1) := by decide +kernel
theorem dX4_permutingMonomials_36 : decode cX4_permutingMonomials 36 = .ok (.getfield 9, 3) := by decide +kernel
theorem dX4_permutingMonomials_39 : decode cX4_permutingMonomials 39 = .ok (.getfield 28, 3) := by decide +kernel
theorem dX4_permutingMonomials_42 : decode cX4_permutingMonomials 42 = .ok (.if_icmp .ge 62, 3) := by decide +kernel
theorem dX4_permutingMonomials_45 : decode cX4_permutingMonomials 45 = .ok (.iconst 0, 1) := by decide +kernel
theorem dX4_permutingMonomials_46 : decode cX4_permutingMonomials 46 = .ok (.istore 5, 2) := by decide +kernel
theorem dX4_permutingMonomials_48 : decode cX4_permutingMonomials 48 = .ok (.iload 5, 2) := by decide +kernel
theorem dX4_permutingMonomials_50 : decode cX4_permutingMonomials 50 = .ok (.aload_n 0, 1) := by decide +kernel
theorem dX4_permutingMonomials_51 : decode cX4_permutingMonomials 51 = .ok (.getfield 9, 3) := by decide +kernel
theorem dX4_permutingMonomials_54 : decode cX4_permutingMonomials 54 = .ok (.getfield 28, 3) := by decide +kernel
theorem dX4_permutingMonomials_57 : decode cX4_permutingMonomials 57 = .ok (.if_icmp .ge 26, 3) := by decide +kernel
theorem dX4_permutingMonomials_60 : decode cX4_permutingMonomials 60 = .ok (.aload_n 1, 1) := by decide +kernel
theorem dX4_permutingMonomials_61 : decode cX4_permutingMonomials 61 = .ok (.iload 5, 2) := by decide +kernel
theorem dX4_permutingMonomials_63 : decode cX4_permutingMonomials 63 = .ok (.aload_n 0, 1) := by decide +kernel
theorem dX4_permutingMonomials_64 : decode cX4_permutingMonomials 64 = .ok (.getfield 9, 3) := by decide +kernel
theorem dX4_permutingMonomials_67 : decode cX4_permutingMonomials 67 = .ok (.aload_n 1, 1) := by decide +kernel
theorem dX4_permutingMonomials_68 : decode cX4_permutingMonomials 68 = .ok (.iload 5, 2) := by decide +kernel
theorem dX4_permutingMonomials_70 : decode cX4_permutingMonomials 70 = .ok (.iaload, 1) := by decide +kernel
theorem dX4_permutingMonomials_71 : decode cX4_permutingMonomials 71 = .ok (.iload 5, 2) := by decide +kernel
theorem dX4_permutingMonomials_73 : decode cX4_permutingMonomials 73 = .ok (.invokevirtual 42, 3) := by decide +kernel
theorem dX4_permutingMonomials_76 : decode cX4_permutingMonomials 76 = .ok (.iastore, 1) := by decide +kernel
theorem dX4_permutingMonomials_77 : decode cX4_permutingMonomials 77 = .ok (.iinc 5 1, 3) := by decide +kernel
theorem dX4_permutingMonomials_80 : decode cX4_permutingMonomials 80 = .ok (.goto (-32), 3) := by decide +kernel
theorem dX4_permutingMonomials_83 : decode cX4_permutingMonomials 83 = .ok (.aload_n 0, 1) := by decide +kernel
theorem dX4_permutingMonomials_84 : decode cX4_permutingMonomials 84 = .ok (.aload_n 1, 1) := by decide +kernel
theorem dX4_permutingMonomials_85 : decode cX4_permutingMonomials 85 = .ok (.invokevirtual 83, 3) := by decide +kernel
theorem dX4_permutingMonomials_88 : decode cX4_permutingMonomials 88 = .ok (.ifCond .eq 10, 3) := by decide +kernel
theorem dX4_permutingMonomials_91 : decode cX4_permutingMonomials 91 = .ok (.lload_n 2, 1) := by decide +kernel
theorem dX4_permutingMonomials_92 : decode cX4_permutingMonomials 92 = .ok (.lconst 1, 1) := by decide +kernel
theorem dX4_permutingMonomials_93 : decode cX4_permutingMonomials 93 = .ok (.iload 4, 2) := by decide +kernel
theorem dX4_permutingMonomials_95 : decode cX4_permutingMonomials 95 = .ok (.lshl, 1) := by decide +kernel
theorem dX4_permutingMonomials_96 : decode cX4_permutingMonomials 96 = .ok (.lor, 1) := by decide +kernel
theorem dX4_permutingMonomials_97 : decode cX4_permutingMonomials 97 = .ok (.lstore_n 2, 1) := by decide +kernel
theorem dX4_permutingMonomials_98 : decode cX4_permutingMonomials 98 = .ok (.iinc 4 1, 3) := by decide +kernel
theorem dX4_permutingMonomials_101 : decode cX4_permutingMonomials 101 = .ok (.goto (-68), 3) := by decide +kernel
theorem dX4_permutingMonomials_104 : decode cX4_permutingMonomials 104 = .ok (.lload_n 2, 1) := by decide +kernel
theorem dX4_permutingMonomials_105 : decode cX4_permutingMonomials 105 = .ok (.lreturn, 1) := by decide +kernel
theorem dX4_permutingDicksons_0 : decode cX4_permutingDicksons 0 = .ok (.aload_n 0, 1) := by decide +kernel
theorem dX4_permutingDicksons_1 : decode cX4_permutingDicksons 1 = .ok (.getfield 22, 3) := by decide +kernel
theorem dX4_permutingDicksons_4 : decode cX4_permutingDicksons 4 = .ok (.astore_n 2, 1) := by decide +kernel
theorem dX4_permutingDicksons_5 : decode cX4_permutingDicksons 5 = .ok (.aload_n 0, 1) := by decide +kernel
theorem dX4_permutingDicksons_6 : decode cX4_permutingDicksons 6 = .ok (.getfield 25, 3) := by decide +kernel
theorem dX4_permutingDicksons_9 : decode cX4_permutingDicksons 9 = .ok (.astore_n 3, 1) := by decide +kernel
theorem dX4_permutingDicksons_10 : decode cX4_permutingDicksons 10 = .ok (.iconst 0, 1) := by decide +kernel
theorem dX4_permutingDicksons_11 : decode cX4_permutingDicksons 11 = .ok (.istore 4, 2) := by decide +kernel
theorem dX4_permutingDicksons_13 : decode cX4_permutingDicksons 13 = .ok (.iload 4, 2) := by decide +kernel
theorem dX4_permutingDicksons_15 : decode cX4_permutingDicksons 15 = .ok (.aload_n 0, 1) := by decide +kernel
theorem dX4_permutingDicksons_16 : decode cX4_permutingDicksons 16 = .ok (.getfield 9, 3) := by decide +kernel
theorem dX4_permutingDicksons_19 : decode cX4_permutingDicksons 19 = .ok (.getfield 28, 3) := by decide +kernel
theorem dX4_permutingDicksons_22 : decode cX4_permutingDicksons 22 = .ok (.if_icmp .ge 28, 3) := by decide +kernel
theorem dX4_permutingDicksons_25 : decode cX4_permutingDicksons 25 = .ok (.aload_n 2, 1) := by decide +kernel
theorem dX4_permutingDicksons_26 : decode cX4_permutingDicksons 26 = .ok (.iload 4, 2) := by decide +kernel
theorem dX4_permutingDicksons_28 : decode cX4_permutingDicksons 28 = .ok (.aload_n 0, 1) := by decide +kernel
theorem dX4_permutingDicksons_29 : decode cX4_permutingDicksons 29 = .ok (.getfield 9, 3) := by decide +kernel
theorem dX4_permutingDicksons_32 : decode cX4_permutingDicksons 32 = .ok (.iconst 1, 1) := by decide +kernel
theorem dX4_permutingDicksons_33 : decode cX4_permutingDicksons 33 = .ok (.iconst 1, 1) := by decide +kernel
theorem dX4_permutingDicksons_34 : decode cX4_permutingDicksons 34 = .ok (.invokevirtual 45, 3) := by decide +kernel
theorem dX4_permutingDicksons_37 : decode cX4_permutingDicksons 37 = .ok (.iastore, 1) := by decide +kernel
theorem dX4_permutingDicksons_38 : decode cX4_permutingDicksons 38 = .ok (.aload_n 3, 1) := by decide +kernel
theorem dX4_permutingDicksons_39 : decode cX4_permutingDicksons 39 = .ok (.iload 4, 2) := by decide +kernel
theorem dX4_permutingDicksons_41 : decode cX4_permutingDicksons 41 = .ok (.iload 4, 2) := by decide +kernel
theorem dX4_permutingDicksons_43 : decode cX4_permutingDicksons 43 = .ok (.iastore, 1) := by decide +kernel
theorem dX4_permutingDicksons_44 : decode cX4_permutingDicksons 44 = .ok (.iinc 4 1, 3) := by decide +kernel
theorem dX4_permutingDicksons_47 : decode cX4_permutingDicksons 47 = .ok (.goto (-34), 3) := by decide +kernel
theorem dX4_permutingDicksons_50 : decode cX4_permutingDicksons 50 = .ok (.lconst 0, 1) := by decide +kernel
theorem dX4_permutingDicksons_51 : decode cX4_permutingDicksons 51 = .ok (.lstore 4, 2) := by decide +kernel
theorem dX4_permutingDicksons_53 : decode cX4_permutingDicksons 53 = .ok (.iconst 1, 1) := by decide +kernel
theorem dX4_permutingDicksons_54 : decode cX4_permutingDicksons 54 = .ok (.istore 6, 2) := by decide +kernel
theorem dX4_permutingDicksons_56 : decode cX4_permutingDicksons 56 = .ok (.iload 6, 2) := by decide +kernel
theorem dX4_permutingDicksons_58 : decode cX4_permutingDicksons 58 = .ok (.bipush 63, 2) := by decide +kernel
theorem dX4_permutingDicksons_60 : decode cX4_permutingDicksons 60 = .ok (.if_icmp .gt 91, 3) := by decide +kernel
theorem dX4_permutingDicksons_63 : decode cX4_permutingDicksons 63 = .ok (.aload_n 0, 1) := by decide +kernel
theorem dX4_permutingDicksons_64 : decode cX4_permutingDicksons 64 = .ok (.aload_n 3, 1) := by decide +kernel
theorem dX4_permutingDicksons_65 : decode cX4_permutingDicksons 65 = .ok (.invokevirtual 83, 3) := by decide +kernel
theorem dX4_permutingDicksons_68 : decode cX4_permutingDicksons 68 = .ok (.ifCond .eq 12, 3) := by decide +kernel
theorem dX4_permutingDicksons_71 : decode cX4_permutingDicksons 71 = .ok (.lload 4, 2) := by decide +kernel
theorem dX4_permutingDicksons_73 : decode cX4_permutingDicksons 73 = .ok (.lconst 1, 1) := by decide +kernel
theorem dX4_permutingDicksons_74 : decode cX4_permutingDicksons 74 = .ok (.iload 6, 2) := by decide +kernel
theorem dX4_permutingDicksons_76 : decode cX4_permutingDicksons 76 = .ok (.lshl, 1) := by decide +kernel
theorem dX4_permutingDicksons_77 : decode cX4_permutingDicksons 77 = .ok (.lor, 1) := by decide +kernel
theorem dX4_permutingDicksons_78 : decode cX4_permutingDicksons 78 = .ok (.lstore 4, 2) := by decide +kernel
theorem dX4_permutingDicksons_80 : decode cX4_permutingDicksons 80 = .ok (.iconst 0, 1) := by decide +kernel
theorem dX4_permutingDicksons_81 : decode cX4_permutingDicksons 81 = .ok (.istore 7, 2) := by decide +kernel
theorem dX4_permutingDicksons_83 : decode cX4_permutingDicksons 83 = .ok (.iload 7, 2) := by decide +kernel
theorem dX4_permutingDicksons_85 : decode cX4_permutingDicksons 85 = .ok (.aload_n 0, 1) := by decide +kernel
theorem dX4_permutingDicksons_86 : decode cX4_permutingDicksons 86 = .ok (.getfield 9, 3) := by decide +kernel
theorem dX4_permutingDicksons_89 : decode cX4_permutingDicksons 89 = .ok (.getfield 28, 3) := by decide +kernel
theorem dX4_permutingDicksons_92 : decode cX4_permutingDicksons 92 = .ok (.if_icmp .ge 45, 3) := by decide +kernel
theorem dX4_permutingDicksons_95 : decode cX4_permutingDicksons 95 = .ok (.aload_n 2, 1) := by decide +kernel
theorem dX4_permutingDicksons_96 : decode cX4_permutingDicksons 96 = .ok (.iload 7, 2) := by decide +kernel
theorem dX4_permutingDicksons_98 : decode cX4_permutingDicksons 98 = .ok (.aload_n 0, 1) := by decide +kernel
theorem dX4_permutingDicksons_99 : decode cX4_permutingDicksons 99 = .ok (.getfield 9, 3) := by decide +kernel
theorem dX4_permutingDicksons_102 : decode cX4_permutingDicksons 102 = .ok (.aload_n 0, 1) := by decide +kernel
theorem dX4_permutingDicksons_103 : decode cX4_permutingDicksons 103 = .ok (.getfield 9, 3) := by decide +kernel
theorem dX4_permutingDicksons_106 : decode cX4_permutingDicksons 106 = .ok (.iload 7, 2) := by decide +kernel
theorem dX4_permutingDicksons_108 : decode cX4_permutingDicksons 108 = .ok (.aload_n 3, 1) := by decide +kernel
theorem dX4_permutingDicksons_109 : decode cX4_permutingDicksons 109 = .ok (.iload 7, 2) := by decide +kernel
theorem dX4_permutingDicksons_111 : decode cX4_permutingDicksons 111 = .ok (.iaload, 1) := by decide +kernel
theorem dX4_permutingDicksons_112 : decode cX4_permutingDicksons 112 = .ok (.invokevirtual 42, 3) := by decide +kernel
theorem dX4_permutingDicksons_115 : decode cX4_permutingDicksons 115 = .ok (.aload_n 0, 1) := by decide +kernel
theorem dX4_permutingDicksons_116 : decode cX4_permutingDicksons 116 = .ok (.getfield 9, 3) := by decide +kernel
theorem dX4_permutingDicksons_119 : decode cX4_permutingDicksons 119 = .ok (.iload_n 1, 1) := by decide +kernel
theorem dX4_permutingDicksons_120 : decode cX4_permutingDicksons 120 = .ok (.aload_n 2, 1) := by decide +kernel
theorem dX4_permutingDicksons_121 : decode cX4_permutingDicksons 121 = .ok (.iload 7, 2) := by decide +kernel
theorem dX4_permutingDicksons_123 : decode cX4_permutingDicksons 123 = .ok (.iaload, 1) := by decide +kernel
theorem dX4_permutingDicksons_124 : decode cX4_permutingDicksons 124 = .ok (.invokevirtual 42, 3) := by decide +kernel
theorem dX4_permutingDicksons_127 : decode cX4_permutingDicksons 127 = .ok (.invokevirtual 91, 3) := by decide +kernel
theorem dX4_permutingDicksons_130 : decode cX4_permutingDicksons 130 = .ok (.iastore, 1) := by decide +kernel
theorem dX4_permutingDicksons_131 : decode cX4_permutingDicksons 131 = .ok (.iinc 7 1, 3) := by decide +kernel
theorem dX4_permutingDicksons_134 : decode cX4_permutingDicksons 134 = .ok (.goto (-51), 3) := by decide +kernel
theorem dX4_permutingDicksons_137 : decode cX4_permutingDicksons 137 = .ok (.aload_n 2, 1) := by decide +kernel
theorem dX4_permutingDicksons_138 : decode cX4_permutingDicksons 138 = .ok (.astore 7, 2) := by decide +kernel
theorem dX4_permutingDicksons_140 : decode cX4_permutingDicksons 140 = .ok (.aload_n 3, 1) := by decide +kernel
theorem dX4_permutingDicksons_141 : decode cX4_permutingDicksons 141 = .ok (.astore_n 2, 1) := by decide +kernel
theorem dX4_permutingDicksons_142 : decode cX4_permutingDicksons 142 = .ok (.aload 7, 2) := by decide +kernel
theorem dX4_permutingDicksons_144 : decode cX4_permutingDicksons 144 = .ok (.astore_n 3, 1) := by decide +kernel
theorem dX4_permutingDicksons_145 : decode cX4_permutingDicksons 145 = .ok (.iinc 6 1, 3) := by decide +kernel
theorem dX4_permutingDicksons_148 : decode cX4_permutingDicksons 148 = .ok (.goto (-92), 3) := by decide +kernel
theorem dX4_permutingDicksons_151 : decode cX4_permutingDicksons 151 = .ok (.lload 4, 2) := by decide +kernel
theorem dX4_permutingDicksons_153 : decode cX4_permutingDicksons 153 = .ok (.lreturn, 1) := by decide +kernel
theorem dX4_permutingBinomials_0 : decode cX4_permutingBinomials 0 = .ok (.aload_n 0, 1) := by decide +kernel
theorem dX4_permutingBinomials_1 : decode cX4_permutingBinomials 1 = .ok (.getfield 22, 3) := by decide +kernel
theorem dX4_permutingBinomials_4 : decode cX4_permutingBinomials 4 = .ok (.astore_n 2, 1) := by decide +kernel
theorem dX4_permutingBinomials_5 : decode cX4_permutingBinomials 5 = .ok (.aload_n 0, 1) := by decide +kernel
theorem dX4_permutingBinomials_6 : decode cX4_permutingBinomials 6 = .ok (.getfield 25, 3) := by decide +kernel
theorem dX4_permutingBinomials_9 : decode cX4_permutingBinomials 9 = .ok (.astore_n 3, 1) := by decide +kernel
theorem dX4_permutingBinomials_10 : decode cX4_permutingBinomials 10 = .ok (.iconst 0, 1) := by decide +kernel
theorem dX4_permutingBinomials_11 : decode cX4_permutingBinomials 11 = .ok (.istore 4, 2) := by decide +kernel
theorem dX4_permutingBinomials_13 : decode cX4_permutingBinomials 13 = .ok (.iload 4, 2) := by decide +kernel
theorem dX4_permutingBinomials_15 : decode cX4_permutingBinomials 15 = .ok (.aload_n 0, 1) := by decide +kernel
theorem dX4_permutingBinomials_16 : decode cX4_permutingBinomials 16 = .ok (.getfield 9, 3) := by decide +kernel
theorem dX4_permutingBinomials_19 : decode cX4_permutingBinomials 19 = .ok (.getfield 28, 3) := by decide +kernel
theorem dX4_permutingBinomials_22 : decode cX4_permutingBinomials 22 = .ok (.if_icmp .ge 23, 3) := by decide +kernel
theorem dX4_permutingBinomials_25 : decode cX4_permutingBinomials 25 = .ok (.aload_n 2, 1) := by decide +kernel
theorem dX4_permutingBinomials_26 : decode cX4_permutingBinomials 26 = .ok (.iload 4, 2) := by decide +kernel
theorem dX4_permutingBinomials_28 : decode cX4_permutingBinomials 28 = .ok (.aload_n 0, 1) := by decide +kernel
theorem dX4_permutingBinomials_29 : decode cX4_permutingBinomials 29 = .ok (.getfield 9, 3) := by decide +kernel
theorem dX4_permutingBinomials_32 : decode cX4_permutingBinomials 32 = .ok (.iload 4, 2) := by decide +kernel
theorem dX4_permutingBinomials_34 : decode cX4_permutingBinomials 34 = .ok (.iload_n 1, 1) := by decide +kernel
theorem dX4_permutingBinomials_35 : decode cX4_permutingBinomials 35 = .ok (.invokevirtual 38, 3) := by decide +kernel
theorem dX4_permutingBinomials_38 : decode cX4_permutingBinomials 38 = .ok (.iastore, 1) := by decide +kernel
theorem dX4_permutingBinomials_39 : decode cX4_permutingBinomials 39 = .ok (.iinc 4 1, 3) := by decide +kernel
theorem dX4_permutingBinomials_42 : decode cX4_permutingBinomials 42 = .ok (.goto (-29), 3) := by decide +kernel
theorem dX4_permutingBinomials_45 : decode cX4_permutingBinomials 45 = .ok (.iconst 0, 1) := by decide +kernel
theorem dX4_permutingBinomials_46 : decode cX4_permutingBinomials 46 = .ok (.istore 4, 2) := by decide +kernel
theorem dX4_permutingBinomials_48 : decode cX4_permutingBinomials 48 = .ok (.iconst 0, 1) := by decide +kernel
theorem dX4_permutingBinomials_49 : decode cX4_permutingBinomials 49 = .ok (.istore 5, 2) := by decide +kernel
theorem dX4_permutingBinomials_51 : decode cX4_permutingBinomials 51 = .ok (.iload 5, 2) := by decide +kernel
theorem dX4_permutingBinomials_53 : decode cX4_permutingBinomials 53 = .ok (.aload_n 0, 1) := by decide +kernel
theorem dX4_permutingBinomials_54 : decode cX4_permutingBinomials 54 = .ok (.getfield 9, 3) := by decide +kernel
theorem dX4_permutingBinomials_57 : decode cX4_permutingBinomials 57 = .ok (.getfield 28, 3) := by decide +kernel
theorem dX4_permutingBinomials_60 : decode cX4_permutingBinomials 60 = .ok (.if_icmp .ge 67, 3) := by decide +kernel
theorem dX4_permutingBinomials_63 : decode cX4_permutingBinomials 63 = .ok (.iconst 0, 1) := by decide +kernel
theorem dX4_permutingBinomials_64 : decode cX4_permutingBinomials 64 = .ok (.istore 6, 2) := by decide +kernel
theorem dX4_permutingBinomials_66 : decode cX4_permutingBinomials 66 = .ok (.iload 6, 2) := by decide +kernel
theorem dX4_permutingBinomials_68 : decode cX4_permutingBinomials 68 = .ok (.aload_n 0, 1) := by decide +kernel
theorem dX4_permutingBinomials_69 : decode cX4_permutingBinomials 69 = .ok (.getfield 9, 3) := by decide +kernel
theorem dX4_permutingBinomials_72 : decode cX4_permutingBinomials 72 = .ok (.getfield 28, 3) := by decide +kernel
theorem dX4_permutingBinomials_75 : decode cX4_permutingBinomials 75 = .ok (.if_icmp .ge 35, 3) := by decide +kernel
theorem dX4_permutingBinomials_78 : decode cX4_permutingBinomials 78 = .ok (.aload_n 3, 1) := by decide +kernel
theorem dX4_permutingBinomials_79 : decode cX4_permutingBinomials 79 = .ok (.iload 6, 2) := by decide +kernel
theorem dX4_permutingBinomials_81 : decode cX4_permutingBinomials 81 = .ok (.aload_n 0, 1) := by decide +kernel
theorem dX4_permutingBinomials_82 : decode cX4_permutingBinomials 82 = .ok (.getfield 9, 3) := by decide +kernel
theorem dX4_permutingBinomials_85 : decode cX4_permutingBinomials 85 = .ok (.aload_n 2, 1) := by decide +kernel
theorem dX4_permutingBinomials_86 : decode cX4_permutingBinomials 86 = .ok (.iload 6, 2) := by decide +kernel
theorem dX4_permutingBinomials_88 : decode cX4_permutingBinomials 88 = .ok (.iaload, 1) := by decide +kernel
theorem dX4_permutingBinomials_89 : decode cX4_permutingBinomials 89 = .ok (.aload_n 0, 1) := by decide +kernel
theorem dX4_permutingBinomials_90 : decode cX4_permutingBinomials 90 = .ok (.getfield 9, 3) := by decide +kernel
theorem dX4_permutingBinomials_93 : decode cX4_permutingBinomials 93 = .ok (.iload 5, 2) := by decide +kernel
theorem dX4_permutingBinomials_95 : decode cX4_permutingBinomials 95 = .ok (.iload 6, 2) := by decide +kernel
theorem dX4_permutingBinomials_97 : decode cX4_permutingBinomials 97 = .ok (.invokevirtual 42, 3) := by decide +kernel
theorem dX4_permutingBinomials_100 : decode cX4_permutingBinomials 100 = .ok (.invokevirtual 45, 3) := by decide +kernel
theorem dX4_permutingBinomials_103 : decode cX4_permutingBinomials 103 = .ok (.iastore, 1) := by decide +kernel
theorem dX4_permutingBinomials_104 : decode cX4_permutingBinomials 104 = .ok (.iinc 6 1, 3) := by decide +kernel
theorem dX4_permutingBinomials_107 : decode cX4_permutingBinomials 107 = .ok (.goto (-41), 3) := by decide +kernel
theorem dX4_permutingBinomials_110 : decode cX4_permutingBinomials 110 = .ok (.aload_n 0, 1) := by decide +kernel
theorem dX4_permutingBinomials_111 : decode cX4_permutingBinomials 111 = .ok (.aload_n 3, 1) := by decide +kernel
theorem dX4_permutingBinomials_112 : decode cX4_permutingBinomials 112 = .ok (.invokevirtual 83, 3) := by decide +kernel
theorem dX4_permutingBinomials_115 : decode cX4_permutingBinomials 115 = .ok (.ifCond .eq 6, 3) := by decide +kernel
theorem dX4_permutingBinomials_118 : decode cX4_permutingBinomials 118 = .ok (.iinc 4 1, 3) := by decide +kernel
theorem dX4_permutingBinomials_121 : decode cX4_permutingBinomials 121 = .ok (.iinc 5 1, 3) := by decide +kernel
theorem dX4_permutingBinomials_124 : decode cX4_permutingBinomials 124 = .ok (.goto (-73), 3) := by decide +kernel
theorem dX4_permutingBinomials_127 : decode cX4_permutingBinomials 127 = .ok (.iload 4, 2) := by decide +kernel
theorem dX4_permutingBinomials_129 : decode cX4_permutingBinomials 129 = .ok (.ireturn, 1) := by decide +kernel
theorem dX6_init_0 : decode cX6_init 0 = .ok (.aload_n 0, 1) := by decide +kernel
theorem dX6_init_1 : decode cX6_init 1 = .ok (.invokespecial 1, 3) := by decide +kernel
theorem dX6_init_4 : decode cX6_init 4 = .ok (.aload_n 0, 1) := by decide +kernel
theorem dX6_init_5 : decode cX6_init 5 = .ok (.new 7, 3) := by decide +kernel
theorem dX6_init_8 : decode cX6_init 8 = .ok (.dup, 1) := by decide +kernel
theorem dX6_init_9 : decode cX6_init 9 = .ok (.invokespecial 9, 3) := by decide +kernel
theorem dX6_init_12 : decode cX6_init 12 = .ok (.putfield 10, 3) := by decide +kernel
theorem dX6_init_15 : decode cX6_init 15 = .ok (.aload_n 0, 1) := by decide +kernel
theorem dX6_init_16 : decode cX6_init 16 = .ok (.new 16, 3) := by decide +kernel
theorem dX6_init_19 : decode cX6_init 19 = .ok (.dup, 1) := by decide +kernel
theorem dX6_init_20 : decode cX6_init 20 = .ok (.invokespecial 18, 3) := by decide +kernel
theorem dX6_init_23 : decode cX6_init 23 = .ok (.putfield 19, 3) := by decide +kernel
theorem dX6_init_26 : decode cX6_init 26 = .ok (.aload_n 0, 1) := by decide +kernel
theorem dX6_init_27 : decode cX6_init 27 = .ok (.new 16, 3) := by decide +kernel
theorem dX6_init_30 : decode cX6_init 30 = .ok (.dup, 1) := by decide +kernel
theorem dX6_init_31 : decode cX6_init 31 = .ok (.invokespecial 18, 3) := by decide +kernel
theorem dX6_init_34 : decode cX6_init 34 = .ok (.putfield 23, 3) := by decide +kernel
theorem dX6_init_37 : decode cX6_init 37 = .ok (.aload_n 0, 1) := by decide +kernel
theorem dX6_init_38 : decode cX6_init 38 = .ok (.new 26, 3) := by decide +kernel
theorem dX6_init_41 : decode cX6_init 41 = .ok (.dup, 1) := by decide +kernel
theorem dX6_init_42 : decode cX6_init 42 = .ok (.invokespecial 28, 3) := by decide +kernel
theorem dX6_init_45 : decode cX6_init 45 = .ok (.putfield 29, 3) := by decide +kernel
theorem dX6_init_48 : decode cX6_init 48 = .ok (.aload_n 0, 1) := by decide +kernel
theorem dX6_init_49 : decode cX6_init 49 = .ok (.new 33, 3) := by decide +kernel
theorem dX6_init_52 : decode cX6_init 52 = .ok (.dup, 1) := by decide +kernel
theorem dX6_init_53 : decode cX6_init 53 = .ok (.invokespecial 35, 3) := by decide +kernel
theorem dX6_init_56 : decode cX6_init 56 = .ok (.putfield 36, 3) := by decide +kernel
theorem dX6_init_59 : decode cX6_init 59 = .ok (.aload_n 0, 1) := by decide +kernel
theorem dX6_init_60 : decode cX6_init 60 = .ok (.new 40, 3) := by decide +kernel
theorem dX6_init_63 : decode cX6_init 63 = .ok (.dup, 1) := by decide +kernel
theorem dX6_init_64 : decode cX6_init 64 = .ok (.aload_n 0, 1) := by decide +kernel
theorem dX6_init_65 : decode cX6_init 65 = .ok (.getfield 36, 3) := by decide +kernel
theorem dX6_init_68 : decode cX6_init 68 = .ok (.aload_n 0, 1) := by decide +kernel
theorem dX6_init_69 : decode cX6_init 69 = .ok (.getfield 10, 3) := by decide +kernel
theorem dX6_init_72 : decode cX6_init 72 = .ok (.aload_n 0, 1) := by decide +kernel
theorem dX6_init_73 : decode cX6_init 73 = .ok (.getfield 23, 3) := by decide +kernel
theorem dX6_init_76 : decode cX6_init 76 = .ok (.invokespecial 42, 3) := by decide +kernel
theorem dX6_init_79 : decode cX6_init 79 = .ok (.putfield 45, 3) := by decide +kernel
theorem dX6_init_82 : decode cX6_init 82 = .ok (.aload_n 0, 1) := by decide +kernel
theorem dX6_init_83 : decode cX6_init 83 = .ok (.new 49, 3) := by decide +kernel
theorem dX6_init_86 : decode cX6_init 86 = .ok (.dup, 1) := by decide +kernel
theorem dX6_init_87 : decode cX6_init 87 = .ok (.aload_n 0, 1) := by decide +kernel
theorem dX6_init_88 : decode cX6_init 88 = .ok (.getfield 10, 3) := by decide +kernel
theorem dX6_init_91 : decode cX6_init 91 = .ok (.invokespecial 51, 3) := by decide +kernel
theorem dX6_init_94 : decode cX6_init 94 = .ok (.putfield 54, 3) := by decide +kernel
theorem dX6_init_97 : decode cX6_init 97 = .ok (.aload_n 0, 1) := by decide +kernel
theorem dX6_init_98 : decode cX6_init 98 = .ok (.iconst 3, 1) := by decide +kernel
theorem dX6_init_99 : decode cX6_init 99 = .ok (.newarray .int, 2) := by decide +kernel
theorem dX6_init_101 : decode cX6_init 101 = .ok (.putfield 58, 3) := by decide +kernel
theorem dX6_init_104 : decode cX6_init 104 = .ok (.aload_n 0, 1) := by decide +kernel
theorem dX6_init_105 : decode cX6_init 105 = .ok (.iconst (-1), 1) := by decide +kernel
theorem dX6_init_106 : decode cX6_init 106 = .ok (.putfield 62, 3) := by decide +kernel
theorem dX6_init_109 : decode cX6_init 109 = .ok (.return_, 1) := by decide +kernel
theorem dX6_feed_0 : decode cX6_feed 0 = .ok (.aload_n 0, 1) := by decide +kernel
theorem dX6_feed_1 : decode cX6_feed 1 = .ok (.getfield 36, 3) := by decide +kernel
theorem dX6_feed_4 : decode cX6_feed 4 = .ok (.getfield 66, 3) := by decide +kernel
theorem dX6_feed_7 : decode cX6_feed 7 = .ok (.bipush 20, 2) := by decide +kernel
theorem dX6_feed_9 : decode cX6_feed 9 = .ok (.iadd, 1) := by decide +kernel
theorem dX6_feed_10 : decode cX6_feed 10 = .ok (.sipush 300, 3) := by decide +kernel
theorem dX6_feed_13 : decode cX6_feed 13 = .ok (.if_icmp .le 5, 3) := by decide +kernel
theorem dX6_feed_16 : decode cX6_feed 16 = .ok (.iconst (-1), 1) := by decide +kernel
theorem dX6_feed_17 : decode cX6_feed 17 = .ok (.ireturn, 1) := by decide +kernel
theorem dX6_feed_18 : decode cX6_feed 18 = .ok (.aload_n 0, 1) := by decide +kernel
theorem dX6_feed_19 : decode cX6_feed 19 = .ok (.getfield 36, 3) := by decide +kernel
theorem dX6_feed_22 : decode cX6_feed 22 = .ok (.iload_n 1, 1) := by decide +kernel
theorem dX6_feed_23 : decode cX6_feed 23 = .ok (.invokevirtual 69, 3) := by decide +kernel
theorem dX6_feed_26 : decode cX6_feed 26 = .ok (.aload_n 0, 1) := by decide +kernel
theorem dX6_feed_27 : decode cX6_feed 27 = .ok (.getfield 36, 3) := by decide +kernel
theorem dX6_feed_30 : decode cX6_feed 30 = .ok (.iload_n 2, 1) := by decide +kernel
theorem dX6_feed_31 : decode cX6_feed 31 = .ok (.invokevirtual 69, 3) := by decide +kernel
theorem dX6_feed_34 : decode cX6_feed 34 = .ok (.aload_n 0, 1) := by decide +kernel
theorem dX6_feed_35 : decode cX6_feed 35 = .ok (.getfield 36, 3) := by decide +kernel
theorem dX6_feed_38 : decode cX6_feed 38 = .ok (.iload_n 3, 1) := by decide +kernel
theorem dX6_feed_39 : decode cX6_feed 39 = .ok (.invokevirtual 69, 3) := by decide +kernel
theorem dX6_feed_42 : decode cX6_feed 42 = .ok (.aload_n 0, 1) := by decide +kernel
theorem dX6_feed_43 : decode cX6_feed 43 = .ok (.getfield 36, 3) := by decide +kernel
theorem dX6_feed_46 : decode cX6_feed 46 = .ok (.iload 4, 2) := by decide +kernel
theorem dX6_feed_48 : decode cX6_feed 48 = .ok (.invokevirtual 69, 3) := by decide +kernel
theorem dX6_feed_51 : decode cX6_feed 51 = .ok (.aload_n 0, 1) := by decide +kernel
theorem dX6_feed_52 : decode cX6_feed 52 = .ok (.getfield 36, 3) := by decide +kernel
theorem dX6_feed_55 : decode cX6_feed 55 = .ok (.iload 5, 2) := by decide +kernel
theorem dX6_feed_57 : decode cX6_feed 57 = .ok (.invokevirtual 69, 3) := by decide +kernel
theorem dX6_feed_60 : decode cX6_feed 60 = .ok (.aload_n 0, 1) := by decide +kernel
theorem dX6_feed_61 : decode cX6_feed 61 = .ok (.getfield 36, 3) := by decide +kernel
theorem dX6_feed_64 : decode cX6_feed 64 = .ok (.getfield 66, 3) := by decide +kernel
theorem dX6_feed_67 : decode cX6_feed 67 = .ok (.ireturn, 1) := by decide +kernel
theorem dX6_text_0 : decode cX6_text 0 = .ok (.aload_n 0, 1) := by decide +kernel
theorem dX6_text_1 : decode cX6_text 1 = .ok (.iload_n 1, 1) := by decide +kernel
theorem dX6_text_2 : decode cX6_text 2 = .ok (.iconst 0, 1) := by decide +kernel
theorem dX6_text_3 : decode cX6_text 3 = .ok (.aload_n 0, 1) := by decide +kernel
theorem dX6_text_4 : decode cX6_text 4 = .ok (.getfield 36, 3) := by decide +kernel
theorem dX6_text_7 : decode cX6_text 7 = .ok (.getfield 66, 3) := by decide +kernel
theorem dX6_text_10 : decode cX6_text 10 = .ok (.invokevirtual 73, 3) := by decide +kernel
theorem dX6_text_13 : decode cX6_text 13 = .ok (.aload_n 0, 1) := by decide +kernel
theorem dX6_text_14 : decode cX6_text 14 = .ok (.getfield 36, 3) := by decide +kernel
theorem dX6_text_17 : decode cX6_text 17 = .ok (.iload_n 1, 1) := by decide +kernel
theorem dX6_text_18 : decode cX6_text 18 = .ok (.invokevirtual 77, 3) := by decide +kernel
theorem dX6_text_21 : decode cX6_text 21 = .ok (.aload_n 0, 1) := by decide +kernel
theorem dX6_text_22 : decode cX6_text 22 = .ok (.getfield 45, 3) := by decide +kernel
theorem dX6_text_25 : decode cX6_text 25 = .ok (.invokevirtual 80, 3) := by decide +kernel
theorem dX6_text_28 : decode cX6_text 28 = .ok (.istore_n 2, 1) := by decide +kernel
theorem dX6_text_29 : decode cX6_text 29 = .ok (.aload_n 0, 1) := by decide +kernel
theorem dX6_text_30 : decode cX6_text 30 = .ok (.getfield 36, 3) := by decide +kernel
theorem dX6_text_33 : decode cX6_text 33 = .ok (.iconst 0, 1) := by decide +kernel
theorem dX6_text_34 : decode cX6_text 34 = .ok (.putfield 66, 3) := by decide +kernel
theorem dX6_text_37 : decode cX6_text 37 = .ok (.aload_n 0, 1) := by decide +kernel
theorem dX6_text_38 : decode cX6_text 38 = .ok (.aload_n 0, 1) := by decide +kernel
theorem dX6_text_39 : decode cX6_text 39 = .ok (.getfield 45, 3) := by decide +kernel
theorem dX6_text_42 : decode cX6_text 42 = .ok (.getfield 84, 3) := by decide +kernel
theorem dX6_text_45 : decode cX6_text 45 = .ok (.putfield 62, 3) := by decide +kernel
theorem dX6_text_48 : decode cX6_text 48 = .ok (.iload_n 2, 1) := by decide +kernel
theorem dX6_text_49 : decode cX6_text 49 = .ok (.ifCond .ne 35, 3) := by decide +kernel
theorem dX6_text_52 : decode cX6_text 52 = .ok (.aload_n 0, 1) := by decide +kernel
theorem dX6_text_53 : decode cX6_text 53 = .ok (.getfield 10, 3) := by decide +kernel
theorem dX6_text_56 : decode cX6_text 56 = .ok (.aload_n 0, 1) := by decide +kernel
theorem dX6_text_57 : decode cX6_text 57 = .ok (.getfield 19, 3) := by decide +kernel
theorem dX6_text_60 : decode cX6_text 60 = .ok (.getfield 85, 3) := by decide +kernel
theorem dX6_text_63 : decode cX6_text 63 = .ok (.aload_n 0, 1) := by decide +kernel
theorem dX6_text_64 : decode cX6_text 64 = .ok (.getfield 19, 3) := by decide +kernel
theorem dX6_text_67 : decode cX6_text 67 = .ok (.getfield 88, 3) := by decide +kernel
theorem dX6_text_70 : decode cX6_text 70 = .ok (.invokevirtual 91, 3) := by decide +kernel
theorem dX6_text_73 : decode cX6_text 73 = .ok (.aload_n 0, 1) := by decide +kernel
theorem dX6_text_74 : decode cX6_text 74 = .ok (.getfield 45, 3) := by decide +kernel
theorem dX6_text_77 : decode cX6_text 77 = .ok (.getfield 95, 3) := by decide +kernel
theorem dX6_text_80 : decode cX6_text 80 = .ok (.bipush 10, 2) := by decide +kernel
theorem dX6_text_82 : decode cX6_text 82 = .ok (.isub, 1) := by decide +kernel
theorem dX6_text_83 : decode cX6_text 83 = .ok (.ireturn, 1) := by decide +kernel
theorem dX6_text_84 : decode cX6_text 84 = .ok (.aload_n 0, 1) := by decide +kernel
theorem dX6_text_85 : decode cX6_text 85 = .ok (.getfield 29, 3) := by decide +kernel
theorem dX6_text_88 : decode cX6_text 88 = .ok (.aload_n 0, 1) := by decide +kernel
theorem dX6_text_89 : decode cX6_text 89 = .ok (.getfield 19, 3) := by decide +kernel
theorem dX6_text_92 : decode cX6_text 92 = .ok (.invokevirtual 98, 3) := by decide +kernel
theorem dX6_text_95 : decode cX6_text 95 = .ok (.aload_n 0, 1) := by decide +kernel
theorem dX6_text_96 : decode cX6_text 96 = .ok (.getfield 19, 3) := by decide +kernel
theorem dX6_text_99 : decode cX6_text 99 = .ok (.aload_n 0, 1) := by decide +kernel
theorem dX6_text_100 : decode cX6_text 100 = .ok (.getfield 23, 3) := by decide +kernel
theorem dX6_text_103 : decode cX6_text 103 = .ok (.invokevirtual 102, 3) := by decide +kernel
theorem dX6_text_106 : decode cX6_text 106 = .ok (.aload_n 0, 1) := by decide +kernel
theorem dX6_text_107 : decode cX6_text 107 = .ok (.getfield 19, 3) := by decide +kernel
theorem dX6_text_110 : decode cX6_text 110 = .ok (.getfield 105, 3) := by decide +kernel
theorem dX6_text_113 : decode cX6_text 113 = .ok (.ireturn, 1) := by decide +kernel
theorem dX6_fault_0 : decode cX6_fault 0 = .ok (.aload_n 0, 1) := by decide +kernel
theorem dX6_fault_1 : decode cX6_fault 1 = .ok (.getfield 62, 3) := by decide +kernel
theorem dX6_fault_4 : decode cX6_fault 4 = .ok (.ireturn, 1) := by decide +kernel
theorem dX6_value_0 : decode cX6_value 0 = .ok (.aload_n 0, 1) := by decide +kernel
theorem dX6_value_1 : decode cX6_value 1 = .ok (.iload_n 1, 1) := by decide +kernel
theorem dX6_value_2 : decode cX6_value 2 = .ok (.invokevirtual 108, 3) := by decide +kernel
theorem dX6_value_5 : decode cX6_value 5 = .ok (.aload_n 0, 1) := by decide +kernel
theorem dX6_value_6 : decode cX6_value 6 = .ok (.iload_n 2, 1) := by decide +kernel
theorem dX6_value_7 : decode cX6_value 7 = .ok (.invokevirtual 111, 3) := by decide +kernel
theorem dX6_value_10 : decode cX6_value 10 = .ok (.aload_n 0, 1) := by decide +kernel
theorem dX6_value_11 : decode cX6_value 11 = .ok (.iload_n 3, 1) := by decide +kernel
theorem dX6_value_12 : decode cX6_value 12 = .ok (.invokevirtual 111, 3) := by decide +kernel
theorem dX6_value_15 : decode cX6_value 15 = .ok (.aload_n 0, 1) := by decide +kernel
theorem dX6_value_16 : decode cX6_value 16 = .ok (.getfield 29, 3) := by decide +kernel
theorem dX6_value_19 : decode cX6_value 19 = .ok (.aload_n 0, 1) := by decide +kernel
theorem dX6_value_20 : decode cX6_value 20 = .ok (.getfield 19, 3) := by decide +kernel
theorem dX6_value_23 : decode cX6_value 23 = .ok (.invokevirtual 98, 3) := by decide +kernel
theorem dX6_value_26 : decode cX6_value 26 = .ok (.aload_n 0, 1) := by decide +kernel
theorem dX6_value_27 : decode cX6_value 27 = .ok (.getfield 19, 3) := by decide +kernel
theorem dX6_value_30 : decode cX6_value 30 = .ok (.getfield 114, 3) := by decide +kernel
theorem dX6_value_33 : decode cX6_value 33 = .ok (.iload_n 1, 1) := by decide +kernel
theorem dX6_value_34 : decode cX6_value 34 = .ok (.aaload, 1) := by decide +kernel
theorem dX6_value_35 : decode cX6_value 35 = .ok (.iload_n 2, 1) := by decide +kernel
theorem dX6_value_36 : decode cX6_value 36 = .ok (.iaload, 1) := by decide +kernel
theorem dX6_value_37 : decode cX6_value 37 = .ok (.istore 4, 2) := by decide +kernel
theorem dX6_value_39 : decode cX6_value 39 = .ok (.aload_n 0, 1) := by decide +kernel
theorem dX6_value_40 : decode cX6_value 40 = .ok (.getfield 19, 3) := by decide +kernel
theorem dX6_value_43 : decode cX6_value 43 = .ok (.getfield 114, 3) := by decide +kernel
theorem dX6_value_46 : decode cX6_value 46 = .ok (.iload_n 1, 1) := by decide +kernel
theorem dX6_value_47 : decode cX6_value 47 = .ok (.aaload, 1) := by decide +kernel
theorem dX6_value_48 : decode cX6_value 48 = .ok (.iload_n 2, 1) := by decide +kernel
theorem dX6_value_49 : decode cX6_value 49 = .ok (.iload_n 3, 1) := by decide +kernel
theorem dX6_value_50 : decode cX6_value 50 = .ok (.iastore, 1) := by decide +kernel
theorem dX6_value_51 : decode cX6_value 51 = .ok (.iload 4, 2) := by decide +kernel
theorem dX6_value_53 : decode cX6_value 53 = .ok (.ireturn, 1) := by decide +kernel
theorem dX6_after_0 : decode cX6_after 0 = .ok (.aload_n 0, 1) := by decide +kernel
theorem dX6_after_1 : decode cX6_after 1 = .ok (.iload_n 1, 1) := by decide +kernel
theorem dX6_after_2 : decode cX6_after 2 = .ok (.invokevirtual 108, 3) := by decide +kernel
theorem dX6_after_5 : decode cX6_after 5 = .ok (.aload_n 0, 1) := by decide +kernel
theorem dX6_after_6 : decode cX6_after 6 = .ok (.iload_n 2, 1) := by decide +kernel
theorem dX6_after_7 : decode cX6_after 7 = .ok (.invokevirtual 108, 3) := by decide +kernel
theorem dX6_after_10 : decode cX6_after 10 = .ok (.aload_n 0, 1) := by decide +kernel
theorem dX6_after_11 : decode cX6_after 11 = .ok (.invokevirtual 118, 3) := by decide +kernel
theorem dX6_after_14 : decode cX6_after 14 = .ok (.aload_n 0, 1) := by decide +kernel
theorem dX6_after_15 : decode cX6_after 15 = .ok (.getfield 29, 3) := by decide +kernel
theorem dX6_after_18 : decode cX6_after 18 = .ok (.aload_n 0, 1) := by decide +kernel
theorem dX6_after_19 : decode cX6_after 19 = .ok (.getfield 19, 3) := by decide +kernel
theorem dX6_after_22 : decode cX6_after 22 = .ok (.invokevirtual 98, 3) := by decide +kernel
theorem dX6_after_25 : decode cX6_after 25 = .ok (.aload_n 0, 1) := by decide +kernel
theorem dX6_after_26 : decode cX6_after 26 = .ok (.getfield 54, 3) := by decide +kernel
theorem dX6_after_29 : decode cX6_after 29 = .ok (.aload_n 0, 1) := by decide +kernel
theorem dX6_after_30 : decode cX6_after 30 = .ok (.getfield 19, 3) := by decide +kernel
theorem dX6_after_33 : decode cX6_after 33 = .ok (.getfield 114, 3) := by decide +kernel
theorem dX6_after_36 : decode cX6_after 36 = .ok (.iload_n 1, 1) := by decide +kernel
theorem dX6_after_37 : decode cX6_after 37 = .ok (.aaload, 1) := by decide +kernel
theorem dX6_after_38 : decode cX6_after 38 = .ok (.aload_n 0, 1) := by decide +kernel
theorem dX6_after_39 : decode cX6_after 39 = .ok (.getfield 19, 3) := by decide +kernel
theorem dX6_after_42 : decode cX6_after 42 = .ok (.getfield 114, 3) := by decide +kernel
theorem dX6_after_45 : decode cX6_after 45 = .ok (.iload_n 2, 1) := by decide +kernel
theorem dX6_after_46 : decode cX6_after 46 = .ok (.aaload, 1) := by decide +kernel
theorem dX6_after_47 : decode cX6_after 47 = .ok (.aload_n 0, 1) := by decide +kernel
theorem dX6_after_48 : decode cX6_after 48 = .ok (.getfield 19, 3) := by decide +kernel
theorem dX6_after_51 : decode cX6_after 51 = .ok (.getfield 114, 3) := by decide +kernel
theorem dX6_after_54 : decode cX6_after 54 = .ok (.aload_n 0, 1) := by decide +kernel
theorem dX6_after_55 : decode cX6_after 55 = .ok (.getfield 19, 3) := by decide +kernel
theorem dX6_after_58 : decode cX6_after 58 = .ok (.getfield 105, 3) := by decide +kernel
theorem dX6_after_61 : decode cX6_after 61 = .ok (.aaload, 1) := by decide +kernel
theorem dX6_after_62 : decode cX6_after 62 = .ok (.invokevirtual 121, 3) := by decide +kernel
theorem dX6_after_65 : decode cX6_after 65 = .ok (.aload_n 0, 1) := by decide +kernel
theorem dX6_after_66 : decode cX6_after 66 = .ok (.getfield 19, 3) := by decide +kernel
theorem dX6_after_69 : decode cX6_after 69 = .ok (.dup, 1) := by decide +kernel
theorem dX6_after_70 : decode cX6_after 70 = .ok (.getfield 105, 3) := by decide +kernel
theorem dX6_after_73 : decode cX6_after 73 = .ok (.iconst 1, 1) := by decide +kernel
theorem dX6_after_74 : decode cX6_after 74 = .ok (.iadd, 1) := by decide +kernel
theorem dX6_after_75 : decode cX6_after 75 = .ok (.putfield 105, 3) := by decide +kernel
theorem dX6_after_78 : decode cX6_after 78 = .ok (.aload_n 0, 1) := by decide +kernel
theorem dX6_after_79 : decode cX6_after 79 = .ok (.getfield 19, 3) := by decide +kernel
theorem dX6_after_82 : decode cX6_after 82 = .ok (.getfield 105, 3) := by decide +kernel
theorem dX6_after_85 : decode cX6_after 85 = .ok (.iconst 1, 1) := by decide +kernel
theorem dX6_after_86 : decode cX6_after 86 = .ok (.isub, 1) := by decide +kernel
theorem dX6_after_87 : decode cX6_after 87 = .ok (.ireturn, 1) := by decide +kernel
theorem dX6_again_0 : decode cX6_again 0 = .ok (.aload_n 0, 1) := by decide +kernel
theorem dX6_again_1 : decode cX6_again 1 = .ok (.iload_n 1, 1) := by decide +kernel
theorem dX6_again_2 : decode cX6_again 2 = .ok (.invokevirtual 108, 3) := by decide +kernel
theorem dX6_again_5 : decode cX6_again 5 = .ok (.aload_n 0, 1) := by decide +kernel
theorem dX6_again_6 : decode cX6_again 6 = .ok (.iload_n 2, 1) := by decide +kernel
theorem dX6_again_7 : decode cX6_again 7 = .ok (.iconst 0, 1) := by decide +kernel
theorem dX6_again_8 : decode cX6_again 8 = .ok (.ldc 125, 2) := by decide +kernel
theorem dX6_again_10 : decode cX6_again 10 = .ok (.invokevirtual 73, 3) := by decide +kernel
theorem dX6_again_13 : decode cX6_again 13 = .ok (.aload_n 0, 1) := by decide +kernel
theorem dX6_again_14 : decode cX6_again 14 = .ok (.invokevirtual 118, 3) := by decide +kernel
theorem dX6_again_17 : decode cX6_again 17 = .ok (.aload_n 0, 1) := by decide +kernel
theorem dX6_again_18 : decode cX6_again 18 = .ok (.getfield 29, 3) := by decide +kernel
theorem dX6_again_21 : decode cX6_again 21 = .ok (.aload_n 0, 1) := by decide +kernel
theorem dX6_again_22 : decode cX6_again 22 = .ok (.getfield 19, 3) := by decide +kernel
theorem dX6_again_25 : decode cX6_again 25 = .ok (.invokevirtual 98, 3) := by decide +kernel
theorem dX6_again_28 : decode cX6_again 28 = .ok (.aload_n 0, 1) := by decide +kernel
theorem dX6_again_29 : decode cX6_again 29 = .ok (.getfield 54, 3) := by decide +kernel
theorem dX6_again_32 : decode cX6_again 32 = .ok (.aload_n 0, 1) := by decide +kernel
theorem dX6_again_33 : decode cX6_again 33 = .ok (.getfield 19, 3) := by decide +kernel
theorem dX6_again_36 : decode cX6_again 36 = .ok (.getfield 114, 3) := by decide +kernel
theorem dX6_again_39 : decode cX6_again 39 = .ok (.iload_n 1, 1) := by decide +kernel
theorem dX6_again_40 : decode cX6_again 40 = .ok (.aaload, 1) := by decide +kernel
theorem dX6_again_41 : decode cX6_again 41 = .ok (.iload_n 2, 1) := by decide +kernel
theorem dX6_again_42 : decode cX6_again 42 = .ok (.aload_n 0, 1) := by decide +kernel
theorem dX6_again_43 : decode cX6_again 43 = .ok (.getfield 19, 3) := by decide +kernel
theorem dX6_again_46 : decode cX6_again 46 = .ok (.getfield 114, 3) := by decide +kernel
theorem dX6_again_49 : decode cX6_again 49 = .ok (.aload_n 0, 1) := by decide +kernel
theorem dX6_again_50 : decode cX6_again 50 = .ok (.getfield 19, 3) := by decide +kernel
theorem dX6_again_53 : decode cX6_again 53 = .ok (.getfield 105, 3) := by decide +kernel
theorem dX6_again_56 : decode cX6_again 56 = .ok (.aaload, 1) := by decide +kernel
theorem dX6_again_57 : decode cX6_again 57 = .ok (.invokevirtual 126, 3) := by decide +kernel
theorem dX6_again_60 : decode cX6_again 60 = .ok (.aload_n 0, 1) := by decide +kernel
theorem dX6_again_61 : decode cX6_again 61 = .ok (.getfield 19, 3) := by decide +kernel
theorem dX6_again_64 : decode cX6_again 64 = .ok (.dup, 1) := by decide +kernel
theorem dX6_again_65 : decode cX6_again 65 = .ok (.getfield 105, 3) := by decide +kernel
theorem dX6_again_68 : decode cX6_again 68 = .ok (.iconst 1, 1) := by decide +kernel
theorem dX6_again_69 : decode cX6_again 69 = .ok (.iadd, 1) := by decide +kernel
theorem dX6_again_70 : decode cX6_again 70 = .ok (.putfield 105, 3) := by decide +kernel
theorem dX6_again_73 : decode cX6_again 73 = .ok (.aload_n 0, 1) := by decide +kernel
theorem dX6_again_74 : decode cX6_again 74 = .ok (.getfield 19, 3) := by decide +kernel
theorem dX6_again_77 : decode cX6_again 77 = .ok (.getfield 105, 3) := by decide +kernel
theorem dX6_again_80 : decode cX6_again 80 = .ok (.iconst 1, 1) := by decide +kernel
theorem dX6_again_81 : decode cX6_again 81 = .ok (.isub, 1) := by decide +kernel
theorem dX6_again_82 : decode cX6_again 82 = .ok (.ireturn, 1) := by decide +kernel
theorem dX6_back_0 : decode cX6_back 0 = .ok (.aload_n 0, 1) := by decide +kernel
theorem dX6_back_1 : decode cX6_back 1 = .ok (.iload_n 1, 1) := by decide +kernel
theorem dX6_back_2 : decode cX6_back 2 = .ok (.invokevirtual 108, 3) := by decide +kernel
theorem dX6_back_5 : decode cX6_back 5 = .ok (.aload_n 0, 1) := by decide +kernel
theorem dX6_back_6 : decode cX6_back 6 = .ok (.invokevirtual 118, 3) := by decide +kernel
theorem dX6_back_9 : decode cX6_back 9 = .ok (.aload_n 0, 1) := by decide +kernel
theorem dX6_back_10 : decode cX6_back 10 = .ok (.iload_n 1, 1) := by decide +kernel
theorem dX6_back_11 : decode cX6_back 11 = .ok (.invokevirtual 130, 3) := by decide +kernel
theorem dX6_back_14 : decode cX6_back 14 = .ok (.aload_n 0, 1) := by decide +kernel
theorem dX6_back_15 : decode cX6_back 15 = .ok (.getfield 29, 3) := by decide +kernel
theorem dX6_back_18 : decode cX6_back 18 = .ok (.aload_n 0, 1) := by decide +kernel
theorem dX6_back_19 : decode cX6_back 19 = .ok (.getfield 19, 3) := by decide +kernel
theorem dX6_back_22 : decode cX6_back 22 = .ok (.invokevirtual 98, 3) := by decide +kernel
theorem dX6_back_25 : decode cX6_back 25 = .ok (.aload_n 0, 1) := by decide +kernel
theorem dX6_back_26 : decode cX6_back 26 = .ok (.getfield 54, 3) := by decide +kernel
theorem dX6_back_29 : decode cX6_back 29 = .ok (.aload_n 0, 1) := by decide +kernel
theorem dX6_back_30 : decode cX6_back 30 = .ok (.getfield 19, 3) := by decide +kernel
theorem dX6_back_33 : decode cX6_back 33 = .ok (.getfield 114, 3) := by decide +kernel
theorem dX6_back_36 : decode cX6_back 36 = .ok (.iload_n 1, 1) := by decide +kernel
theorem dX6_back_37 : decode cX6_back 37 = .ok (.aaload, 1) := by decide +kernel
theorem dX6_back_38 : decode cX6_back 38 = .ok (.aload_n 0, 1) := by decide +kernel
theorem dX6_back_39 : decode cX6_back 39 = .ok (.getfield 19, 3) := by decide +kernel
theorem dX6_back_42 : decode cX6_back 42 = .ok (.getfield 114, 3) := by decide +kernel
theorem dX6_back_45 : decode cX6_back 45 = .ok (.aload_n 0, 1) := by decide +kernel
theorem dX6_back_46 : decode cX6_back 46 = .ok (.getfield 19, 3) := by decide +kernel
theorem dX6_back_49 : decode cX6_back 49 = .ok (.getfield 105, 3) := by decide +kernel
theorem dX6_back_52 : decode cX6_back 52 = .ok (.aaload, 1) := by decide +kernel
theorem dX6_back_53 : decode cX6_back 53 = .ok (.invokevirtual 133, 3) := by decide +kernel
theorem dX6_back_56 : decode cX6_back 56 = .ok (.aload_n 0, 1) := by decide +kernel
theorem dX6_back_57 : decode cX6_back 57 = .ok (.getfield 19, 3) := by decide +kernel
theorem dX6_back_60 : decode cX6_back 60 = .ok (.dup, 1) := by decide +kernel
theorem dX6_back_61 : decode cX6_back 61 = .ok (.getfield 105, 3) := by decide +kernel
theorem dX6_back_64 : decode cX6_back 64 = .ok (.iconst 1, 1) := by decide +kernel
theorem dX6_back_65 : decode cX6_back 65 = .ok (.iadd, 1) := by decide +kernel
theorem dX6_back_66 : decode cX6_back 66 = .ok (.putfield 105, 3) := by decide +kernel
theorem dX6_back_69 : decode cX6_back 69 = .ok (.aload_n 0, 1) := by decide +kernel
theorem dX6_back_70 : decode cX6_back 70 = .ok (.getfield 19, 3) := by decide +kernel
theorem dX6_back_73 : decode cX6_back 73 = .ok (.getfield 105, 3) := by decide +kernel
theorem dX6_back_76 : decode cX6_back 76 = .ok (.iconst 1, 1) := by decide +kernel
theorem dX6_back_77 : decode cX6_back 77 = .ok (.isub, 1) := by decide +kernel
theorem dX6_back_78 : decode cX6_back 78 = .ok (.ireturn, 1) := by decide +kernel
theorem dX6_drop_0 : decode cX6_drop 0 = .ok (.aload_n 0, 1) := by decide +kernel
theorem dX6_drop_1 : decode cX6_drop 1 = .ok (.iload_n 1, 1) := by decide +kernel
theorem dX6_drop_2 : decode cX6_drop 2 = .ok (.invokevirtual 108, 3) := by decide +kernel
theorem dX6_drop_5 : decode cX6_drop 5 = .ok (.aload_n 0, 1) := by decide +kernel
theorem dX6_drop_6 : decode cX6_drop 6 = .ok (.getfield 29, 3) := by decide +kernel
theorem dX6_drop_9 : decode cX6_drop 9 = .ok (.aload_n 0, 1) := by decide +kernel
theorem dX6_drop_10 : decode cX6_drop 10 = .ok (.getfield 19, 3) := by decide +kernel
theorem dX6_drop_13 : decode cX6_drop 13 = .ok (.invokevirtual 98, 3) := by decide +kernel
theorem dX6_drop_16 : decode cX6_drop 16 = .ok (.aload_n 0, 1) := by decide +kernel
theorem dX6_drop_17 : decode cX6_drop 17 = .ok (.getfield 19, 3) := by decide +kernel
theorem dX6_drop_20 : decode cX6_drop 20 = .ok (.iload_n 1, 1) := by decide +kernel
theorem dX6_drop_21 : decode cX6_drop 21 = .ok (.invokevirtual 137, 3) := by decide +kernel
theorem dX6_drop_24 : decode cX6_drop 24 = .ok (.aload_n 0, 1) := by decide +kernel
theorem dX6_drop_25 : decode cX6_drop 25 = .ok (.getfield 19, 3) := by decide +kernel
theorem dX6_drop_28 : decode cX6_drop 28 = .ok (.getfield 105, 3) := by decide +kernel
theorem dX6_drop_31 : decode cX6_drop 31 = .ok (.ireturn, 1) := by decide +kernel
theorem dX6_undo_0 : decode cX6_undo 0 = .ok (.aload_n 0, 1) := by decide +kernel
theorem dX6_undo_1 : decode cX6_undo 1 = .ok (.getfield 29, 3) := by decide +kernel
theorem dX6_undo_4 : decode cX6_undo 4 = .ok (.invokevirtual 140, 3) := by decide +kernel
theorem dX6_undo_7 : decode cX6_undo 7 = .ok (.astore_n 1, 1) := by decide +kernel
theorem dX6_undo_8 : decode cX6_undo 8 = .ok (.aload_n 1, 1) := by decide +kernel
theorem dX6_undo_9 : decode cX6_undo 9 = .ok (.ifnonnull 5, 3) := by decide +kernel
theorem dX6_undo_12 : decode cX6_undo 12 = .ok (.iconst (-1), 1) := by decide +kernel
theorem dX6_undo_13 : decode cX6_undo 13 = .ok (.ireturn, 1) := by decide +kernel
theorem dX6_undo_14 : decode cX6_undo 14 = .ok (.aload_n 0, 1) := by decide +kernel
theorem dX6_undo_15 : decode cX6_undo 15 = .ok (.getfield 19, 3) := by decide +kernel
theorem dX6_undo_18 : decode cX6_undo 18 = .ok (.aload_n 1, 1) := by decide +kernel
theorem dX6_undo_19 : decode cX6_undo 19 = .ok (.invokevirtual 102, 3) := by decide +kernel
theorem dX6_undo_22 : decode cX6_undo 22 = .ok (.aload_n 0, 1) := by decide +kernel
theorem dX6_undo_23 : decode cX6_undo 23 = .ok (.getfield 10, 3) := by decide +kernel
theorem dX6_undo_26 : decode cX6_undo 26 = .ok (.aload_n 0, 1) := by decide +kernel
theorem dX6_undo_27 : decode cX6_undo 27 = .ok (.getfield 19, 3) := by decide +kernel
theorem dX6_undo_30 : decode cX6_undo 30 = .ok (.getfield 85, 3) := by decide +kernel
theorem dX6_undo_33 : decode cX6_undo 33 = .ok (.aload_n 0, 1) := by decide +kernel
theorem dX6_undo_34 : decode cX6_undo 34 = .ok (.getfield 19, 3) := by decide +kernel
theorem dX6_undo_37 : decode cX6_undo 37 = .ok (.getfield 88, 3) := by decide +kernel
theorem dX6_undo_40 : decode cX6_undo 40 = .ok (.invokevirtual 91, 3) := by decide +kernel
theorem dX6_undo_43 : decode cX6_undo 43 = .ok (.aload_n 0, 1) := by decide +kernel
theorem dX6_undo_44 : decode cX6_undo 44 = .ok (.getfield 29, 3) := by decide +kernel
theorem dX6_undo_47 : decode cX6_undo 47 = .ok (.getfield 144, 3) := by decide +kernel
theorem dX6_undo_50 : decode cX6_undo 50 = .ok (.ireturn, 1) := by decide +kernel
theorem dX6_told_0 : decode cX6_told 0 = .ok (.aload_n 0, 1) := by decide +kernel
theorem dX6_told_1 : decode cX6_told 1 = .ok (.iload_n 1, 1) := by decide +kernel
theorem dX6_told_2 : decode cX6_told 2 = .ok (.iconst 0, 1) := by decide +kernel
theorem dX6_told_3 : decode cX6_told 3 = .ok (.bipush 6, 2) := by decide +kernel
theorem dX6_told_5 : decode cX6_told 5 = .ok (.invokevirtual 73, 3) := by decide +kernel
theorem dX6_told_8 : decode cX6_told 8 = .ok (.iload_n 1, 1) := by decide +kernel
theorem dX6_told_9 : decode cX6_told 9 = .ok (.tableswitch 87 0 5 #[39, 47, 55, 63, 71, 79], 39) := by decide +kernel
theorem dX6_told_48 : decode cX6_told 48 = .ok (.aload_n 0, 1) := by decide +kernel
theorem dX6_told_49 : decode cX6_told 49 = .ok (.getfield 10, 3) := by decide +kernel
theorem dX6_told_52 : decode cX6_told 52 = .ok (.getfield 147, 3) := by decide +kernel
theorem dX6_told_55 : decode cX6_told 55 = .ok (.ireturn, 1) := by decide +kernel
theorem dX6_told_56 : decode cX6_told 56 = .ok (.aload_n 0, 1) := by decide +kernel
theorem dX6_told_57 : decode cX6_told 57 = .ok (.getfield 10, 3) := by decide +kernel
theorem dX6_told_60 : decode cX6_told 60 = .ok (.getfield 148, 3) := by decide +kernel
theorem dX6_told_63 : decode cX6_told 63 = .ok (.ireturn, 1) := by decide +kernel
theorem dX6_told_64 : decode cX6_told 64 = .ok (.aload_n 0, 1) := by decide +kernel
theorem dX6_told_65 : decode cX6_told 65 = .ok (.getfield 10, 3) := by decide +kernel
theorem dX6_told_68 : decode cX6_told 68 = .ok (.getfield 149, 3) := by decide +kernel
theorem dX6_told_71 : decode cX6_told 71 = .ok (.ireturn, 1) := by decide +kernel
theorem dX6_told_72 : decode cX6_told 72 = .ok (.aload_n 0, 1) := by decide +kernel
theorem dX6_told_73 : decode cX6_told 73 = .ok (.getfield 10, 3) := by decide +kernel
theorem dX6_told_76 : decode cX6_told 76 = .ok (.getfield 150, 3) := by decide +kernel
theorem dX6_told_79 : decode cX6_told 79 = .ok (.ireturn, 1) := by decide +kernel
theorem dX6_told_80 : decode cX6_told 80 = .ok (.aload_n 0, 1) := by decide +kernel
theorem dX6_told_81 : decode cX6_told 81 = .ok (.getfield 19, 3) := by decide +kernel
theorem dX6_told_84 : decode cX6_told 84 = .ok (.getfield 105, 3) := by decide +kernel
theorem dX6_told_87 : decode cX6_told 87 = .ok (.ireturn, 1) := by decide +kernel
theorem dX6_told_88 : decode cX6_told 88 = .ok (.aload_n 0, 1) := by decide +kernel
theorem dX6_told_89 : decode cX6_told 89 = .ok (.getfield 36, 3) := by decide +kernel
theorem dX6_told_92 : decode cX6_told 92 = .ok (.getfield 66, 3) := by decide +kernel
theorem dX6_told_95 : decode cX6_told 95 = .ok (.ireturn, 1) := by decide +kernel
theorem dX6_told_96 : decode cX6_told 96 = .ok (.aload_n 0, 1) := by decide +kernel
theorem dX6_told_97 : decode cX6_told 97 = .ok (.getfield 29, 3) := by decide +kernel
theorem dX6_told_100 : decode cX6_told 100 = .ok (.getfield 144, 3) := by decide +kernel
theorem dX6_told_103 : decode cX6_told 103 = .ok (.ireturn, 1) := by decide +kernel
theorem dX6_points_0 : decode cX6_points 0 = .ok (.aload_n 0, 1) := by decide +kernel
theorem dX6_points_1 : decode cX6_points 1 = .ok (.iload_n 1, 1) := by decide +kernel
theorem dX6_points_2 : decode cX6_points 2 = .ok (.invokevirtual 111, 3) := by decide +kernel
theorem dX6_points_5 : decode cX6_points 5 = .ok (.aload_n 0, 1) := by decide +kernel
theorem dX6_points_6 : decode cX6_points 6 = .ok (.iload_n 2, 1) := by decide +kernel
theorem dX6_points_7 : decode cX6_points 7 = .ok (.invokevirtual 111, 3) := by decide +kernel
theorem dX6_points_10 : decode cX6_points 10 = .ok (.aload_n 0, 1) := by decide +kernel
theorem dX6_points_11 : decode cX6_points 11 = .ok (.iload_n 3, 1) := by decide +kernel
theorem dX6_points_12 : decode cX6_points 12 = .ok (.iconst 0, 1) := by decide +kernel
theorem dX6_points_13 : decode cX6_points 13 = .ok (.iconst 3, 1) := by decide +kernel
theorem dX6_points_14 : decode cX6_points 14 = .ok (.invokevirtual 73, 3) := by decide +kernel
theorem dX6_points_17 : decode cX6_points 17 = .ok (.iload_n 3, 1) := by decide +kernel
theorem dX6_points_18 : decode cX6_points 18 = .ok (.tableswitch 56 0 2 #[26, 36, 46], 26) := by decide +kernel
theorem dX6_points_44 : decode cX6_points 44 = .ok (.aload_n 0, 1) := by decide +kernel
theorem dX6_points_45 : decode cX6_points 45 = .ok (.getfield 10, 3) := by decide +kernel
theorem dX6_points_48 : decode cX6_points 48 = .ok (.iload_n 1, 1) := by decide +kernel
theorem dX6_points_49 : decode cX6_points 49 = .ok (.iload_n 2, 1) := by decide +kernel
theorem dX6_points_50 : decode cX6_points 50 = .ok (.invokevirtual 153, 3) := by decide +kernel
theorem dX6_points_53 : decode cX6_points 53 = .ok (.ireturn, 1) := by decide +kernel
theorem dX6_points_54 : decode cX6_points 54 = .ok (.aload_n 0, 1) := by decide +kernel
theorem dX6_points_55 : decode cX6_points 55 = .ok (.getfield 10, 3) := by decide +kernel
theorem dX6_points_58 : decode cX6_points 58 = .ok (.iload_n 1, 1) := by decide +kernel
theorem dX6_points_59 : decode cX6_points 59 = .ok (.iload_n 2, 1) := by decide +kernel
theorem dX6_points_60 : decode cX6_points 60 = .ok (.invokevirtual 157, 3) := by decide +kernel
theorem dX6_points_63 : decode cX6_points 63 = .ok (.ireturn, 1) := by decide +kernel
theorem dX6_points_64 : decode cX6_points 64 = .ok (.aload_n 0, 1) := by decide +kernel
theorem dX6_points_65 : decode cX6_points 65 = .ok (.getfield 10, 3) := by decide +kernel
theorem dX6_points_68 : decode cX6_points 68 = .ok (.iload_n 1, 1) := by decide +kernel
theorem dX6_points_69 : decode cX6_points 69 = .ok (.iload_n 2, 1) := by decide +kernel
theorem dX6_points_70 : decode cX6_points 70 = .ok (.invokevirtual 160, 3) := by decide +kernel
theorem dX6_points_73 : decode cX6_points 73 = .ok (.ireturn, 1) := by decide +kernel
theorem dX6_points_74 : decode cX6_points 74 = .ok (.iload_n 2, 1) := by decide +kernel
theorem dX6_points_75 : decode cX6_points 75 = .ok (.ifCond .ne 7, 3) := by decide +kernel
theorem dX6_points_78 : decode cX6_points 78 = .ok (.iconst (-1), 1) := by decide +kernel
theorem dX6_points_79 : decode cX6_points 79 = .ok (.goto 20, 3) := by decide +kernel
theorem dX6_points_82 : decode cX6_points 82 = .ok (.aload_n 0, 1) := by decide +kernel
theorem dX6_points_83 : decode cX6_points 83 = .ok (.getfield 10, 3) := by decide +kernel
theorem dX6_points_86 : decode cX6_points 86 = .ok (.iload_n 1, 1) := by decide +kernel
theorem dX6_points_87 : decode cX6_points 87 = .ok (.aload_n 0, 1) := by decide +kernel
theorem dX6_points_88 : decode cX6_points 88 = .ok (.getfield 10, 3) := by decide +kernel
theorem dX6_points_91 : decode cX6_points 91 = .ok (.getfield 163, 3) := by decide +kernel
theorem dX6_points_94 : decode cX6_points 94 = .ok (.iload_n 2, 1) := by decide +kernel
theorem dX6_points_95 : decode cX6_points 95 = .ok (.iaload, 1) := by decide +kernel
theorem dX6_points_96 : decode cX6_points 96 = .ok (.invokevirtual 160, 3) := by decide +kernel
theorem dX6_points_99 : decode cX6_points 99 = .ok (.ireturn, 1) := by decide +kernel
theorem dX6_at_0 : decode cX6_at 0 = .ok (.aload_n 0, 1) := by decide +kernel
theorem dX6_at_1 : decode cX6_at 1 = .ok (.iload_n 1, 1) := by decide +kernel
theorem dX6_at_2 : decode cX6_at 2 = .ok (.invokevirtual 108, 3) := by decide +kernel
theorem dX6_at_5 : decode cX6_at 5 = .ok (.aload_n 0, 1) := by decide +kernel
theorem dX6_at_6 : decode cX6_at 6 = .ok (.iload_n 2, 1) := by decide +kernel
theorem dX6_at_7 : decode cX6_at 7 = .ok (.invokevirtual 111, 3) := by decide +kernel
theorem dX6_at_10 : decode cX6_at 10 = .ok (.aload_n 0, 1) := by decide +kernel
theorem dX6_at_11 : decode cX6_at 11 = .ok (.getfield 19, 3) := by decide +kernel
theorem dX6_at_14 : decode cX6_at 14 = .ok (.getfield 114, 3) := by decide +kernel
theorem dX6_at_17 : decode cX6_at 17 = .ok (.iload_n 1, 1) := by decide +kernel
theorem dX6_at_18 : decode cX6_at 18 = .ok (.aaload, 1) := by decide +kernel
theorem dX6_at_19 : decode cX6_at 19 = .ok (.iload_n 2, 1) := by decide +kernel
theorem dX6_at_20 : decode cX6_at 20 = .ok (.iaload, 1) := by decide +kernel
theorem dX6_at_21 : decode cX6_at 21 = .ok (.ireturn, 1) := by decide +kernel
theorem dX6_coefficient_0 : decode cX6_coefficient 0 = .ok (.aload_n 0, 1) := by decide +kernel
theorem dX6_coefficient_1 : decode cX6_coefficient 1 = .ok (.iload_n 1, 1) := by decide +kernel
theorem dX6_coefficient_2 : decode cX6_coefficient 2 = .ok (.invokevirtual 108, 3) := by decide +kernel
theorem dX6_coefficient_5 : decode cX6_coefficient 5 = .ok (.aload_n 0, 1) := by decide +kernel
theorem dX6_coefficient_6 : decode cX6_coefficient 6 = .ok (.iload_n 2, 1) := by decide +kernel
theorem dX6_coefficient_7 : decode cX6_coefficient 7 = .ok (.iconst 0, 1) := by decide +kernel
theorem dX6_coefficient_8 : decode cX6_coefficient 8 = .ok (.aload_n 0, 1) := by decide +kernel
theorem dX6_coefficient_9 : decode cX6_coefficient 9 = .ok (.getfield 10, 3) := by decide +kernel
theorem dX6_coefficient_12 : decode cX6_coefficient 12 = .ok (.getfield 147, 3) := by decide +kernel
theorem dX6_coefficient_15 : decode cX6_coefficient 15 = .ok (.iconst 1, 1) := by decide +kernel
theorem dX6_coefficient_16 : decode cX6_coefficient 16 = .ok (.isub, 1) := by decide +kernel
theorem dX6_coefficient_17 : decode cX6_coefficient 17 = .ok (.invokevirtual 73, 3) := by decide +kernel
theorem dX6_coefficient_20 : decode cX6_coefficient 20 = .ok (.aload_n 0, 1) := by decide +kernel
theorem dX6_coefficient_21 : decode cX6_coefficient 21 = .ok (.getfield 54, 3) := by decide +kernel
theorem dX6_coefficient_24 : decode cX6_coefficient 24 = .ok (.aload_n 0, 1) := by decide +kernel
theorem dX6_coefficient_25 : decode cX6_coefficient 25 = .ok (.getfield 19, 3) := by decide +kernel
theorem dX6_coefficient_28 : decode cX6_coefficient 28 = .ok (.getfield 114, 3) := by decide +kernel
theorem dX6_coefficient_31 : decode cX6_coefficient 31 = .ok (.iload_n 1, 1) := by decide +kernel
theorem dX6_coefficient_32 : decode cX6_coefficient 32 = .ok (.aaload, 1) := by decide +kernel
theorem dX6_coefficient_33 : decode cX6_coefficient 33 = .ok (.iload_n 2, 1) := by decide +kernel
theorem dX6_coefficient_34 : decode cX6_coefficient 34 = .ok (.invokevirtual 166, 3) := by decide +kernel
theorem dX6_coefficient_37 : decode cX6_coefficient 37 = .ok (.ireturn, 1) := by decide +kernel
theorem dX6_degree_0 : decode cX6_degree 0 = .ok (.aload_n 0, 1) := by decide +kernel
theorem dX6_degree_1 : decode cX6_degree 1 = .ok (.iload_n 1, 1) := by decide +kernel
theorem dX6_degree_2 : decode cX6_degree 2 = .ok (.invokevirtual 108, 3) := by decide +kernel
theorem dX6_degree_5 : decode cX6_degree 5 = .ok (.aload_n 0, 1) := by decide +kernel
theorem dX6_degree_6 : decode cX6_degree 6 = .ok (.getfield 54, 3) := by decide +kernel
theorem dX6_degree_9 : decode cX6_degree 9 = .ok (.aload_n 0, 1) := by decide +kernel
theorem dX6_degree_10 : decode cX6_degree 10 = .ok (.getfield 19, 3) := by decide +kernel
theorem dX6_degree_13 : decode cX6_degree 13 = .ok (.getfield 114, 3) := by decide +kernel
theorem dX6_degree_16 : decode cX6_degree 16 = .ok (.iload_n 1, 1) := by decide +kernel
theorem dX6_degree_17 : decode cX6_degree 17 = .ok (.aaload, 1) := by decide +kernel
theorem dX6_degree_18 : decode cX6_degree 18 = .ok (.invokevirtual 170, 3) := by decide +kernel
theorem dX6_degree_21 : decode cX6_degree 21 = .ok (.ireturn, 1) := by decide +kernel
theorem dX6_taken_0 : decode cX6_taken 0 = .ok (.aload_n 0, 1) := by decide +kernel
theorem dX6_taken_1 : decode cX6_taken 1 = .ok (.iload_n 1, 1) := by decide +kernel
theorem dX6_taken_2 : decode cX6_taken 2 = .ok (.invokevirtual 108, 3) := by decide +kernel
theorem dX6_taken_5 : decode cX6_taken 5 = .ok (.aload_n 0, 1) := by decide +kernel
theorem dX6_taken_6 : decode cX6_taken 6 = .ok (.iload_n 2, 1) := by decide +kernel
theorem dX6_taken_7 : decode cX6_taken 7 = .ok (.invokevirtual 111, 3) := by decide +kernel
theorem dX6_taken_10 : decode cX6_taken 10 = .ok (.aload_n 0, 1) := by decide +kernel
theorem dX6_taken_11 : decode cX6_taken 11 = .ok (.getfield 54, 3) := by decide +kernel
theorem dX6_taken_14 : decode cX6_taken 14 = .ok (.aload_n 0, 1) := by decide +kernel
theorem dX6_taken_15 : decode cX6_taken 15 = .ok (.getfield 19, 3) := by decide +kernel
theorem dX6_taken_18 : decode cX6_taken 18 = .ok (.getfield 114, 3) := by decide +kernel
theorem dX6_taken_21 : decode cX6_taken 21 = .ok (.iload_n 1, 1) := by decide +kernel
theorem dX6_taken_22 : decode cX6_taken 22 = .ok (.aaload, 1) := by decide +kernel
theorem dX6_taken_23 : decode cX6_taken 23 = .ok (.iload_n 2, 1) := by decide +kernel
theorem dX6_taken_24 : decode cX6_taken 24 = .ok (.invokevirtual 174, 3) := by decide +kernel
theorem dX6_taken_27 : decode cX6_taken 27 = .ok (.ireturn, 1) := by decide +kernel
theorem dX6_image_0 : decode cX6_image 0 = .ok (.aload_n 0, 1) := by decide +kernel
theorem dX6_image_1 : decode cX6_image 1 = .ok (.iload_n 1, 1) := by decide +kernel
theorem dX6_image_2 : decode cX6_image 2 = .ok (.invokevirtual 108, 3) := by decide +kernel
theorem dX6_image_5 : decode cX6_image 5 = .ok (.aload_n 0, 1) := by decide +kernel
theorem dX6_image_6 : decode cX6_image 6 = .ok (.getfield 54, 3) := by decide +kernel
theorem dX6_image_9 : decode cX6_image 9 = .ok (.aload_n 0, 1) := by decide +kernel
theorem dX6_image_10 : decode cX6_image 10 = .ok (.getfield 19, 3) := by decide +kernel
theorem dX6_image_13 : decode cX6_image 13 = .ok (.getfield 114, 3) := by decide +kernel
theorem dX6_image_16 : decode cX6_image 16 = .ok (.iload_n 1, 1) := by decide +kernel
theorem dX6_image_17 : decode cX6_image 17 = .ok (.aaload, 1) := by decide +kernel
theorem dX6_image_18 : decode cX6_image 18 = .ok (.invokevirtual 177, 3) := by decide +kernel
theorem dX6_image_21 : decode cX6_image 21 = .ok (.ireturn, 1) := by decide +kernel
theorem dX6_permutes_0 : decode cX6_permutes 0 = .ok (.aload_n 0, 1) := by decide +kernel
theorem dX6_permutes_1 : decode cX6_permutes 1 = .ok (.iload_n 1, 1) := by decide +kernel
theorem dX6_permutes_2 : decode cX6_permutes 2 = .ok (.invokevirtual 108, 3) := by decide +kernel
theorem dX6_permutes_5 : decode cX6_permutes 5 = .ok (.aload_n 0, 1) := by decide +kernel
theorem dX6_permutes_6 : decode cX6_permutes 6 = .ok (.getfield 54, 3) := by decide +kernel
theorem dX6_permutes_9 : decode cX6_permutes 9 = .ok (.aload_n 0, 1) := by decide +kernel
theorem dX6_permutes_10 : decode cX6_permutes 10 = .ok (.getfield 19, 3) := by decide +kernel
theorem dX6_permutes_13 : decode cX6_permutes 13 = .ok (.getfield 114, 3) := by decide +kernel
theorem dX6_permutes_16 : decode cX6_permutes 16 = .ok (.iload_n 1, 1) := by decide +kernel
theorem dX6_permutes_17 : decode cX6_permutes 17 = .ok (.aaload, 1) := by decide +kernel
theorem dX6_permutes_18 : decode cX6_permutes 18 = .ok (.invokevirtual 180, 3) := by decide +kernel
theorem dX6_permutes_21 : decode cX6_permutes 21 = .ok (.ifCond .eq 7, 3) := by decide +kernel
theorem dX6_permutes_24 : decode cX6_permutes 24 = .ok (.iconst 1, 1) := by decide +kernel
theorem dX6_permutes_25 : decode cX6_permutes 25 = .ok (.goto 4, 3) := by decide +kernel
theorem dX6_permutes_28 : decode cX6_permutes 28 = .ok (.iconst 0, 1) := by decide +kernel
theorem dX6_permutes_29 : decode cX6_permutes 29 = .ok (.ireturn, 1) := by decide +kernel
theorem dX6_powers_0 : decode cX6_powers 0 = .ok (.aload_n 0, 1) := by decide +kernel
theorem dX6_powers_1 : decode cX6_powers 1 = .ok (.iload_n 1, 1) := by decide +kernel
theorem dX6_powers_2 : decode cX6_powers 2 = .ok (.invokevirtual 108, 3) := by decide +kernel
theorem dX6_powers_5 : decode cX6_powers 5 = .ok (.aload_n 0, 1) := by decide +kernel
theorem dX6_powers_6 : decode cX6_powers 6 = .ok (.getfield 54, 3) := by decide +kernel
theorem dX6_powers_9 : decode cX6_powers 9 = .ok (.aload_n 0, 1) := by decide +kernel
theorem dX6_powers_10 : decode cX6_powers 10 = .ok (.getfield 19, 3) := by decide +kernel
theorem dX6_powers_13 : decode cX6_powers 13 = .ok (.getfield 114, 3) := by decide +kernel
theorem dX6_powers_16 : decode cX6_powers 16 = .ok (.iload_n 1, 1) := by decide +kernel
theorem dX6_powers_17 : decode cX6_powers 17 = .ok (.aaload, 1) := by decide +kernel
theorem dX6_powers_18 : decode cX6_powers 18 = .ok (.invokevirtual 184, 3) := by decide +kernel
theorem dX6_powers_21 : decode cX6_powers 21 = .ok (.ireturn, 1) := by decide +kernel
theorem dX6_cycles_0 : decode cX6_cycles 0 = .ok (.aload_n 0, 1) := by decide +kernel
theorem dX6_cycles_1 : decode cX6_cycles 1 = .ok (.iload_n 1, 1) := by decide +kernel
theorem dX6_cycles_2 : decode cX6_cycles 2 = .ok (.invokevirtual 108, 3) := by decide +kernel
theorem dX6_cycles_5 : decode cX6_cycles 5 = .ok (.aload_n 0, 1) := by decide +kernel
theorem dX6_cycles_6 : decode cX6_cycles 6 = .ok (.iload_n 2, 1) := by decide +kernel
theorem dX6_cycles_7 : decode cX6_cycles 7 = .ok (.iconst 0, 1) := by decide +kernel
theorem dX6_cycles_8 : decode cX6_cycles 8 = .ok (.bipush 64, 2) := by decide +kernel
theorem dX6_cycles_10 : decode cX6_cycles 10 = .ok (.invokevirtual 73, 3) := by decide +kernel
theorem dX6_cycles_13 : decode cX6_cycles 13 = .ok (.aload_n 0, 1) := by decide +kernel
theorem dX6_cycles_14 : decode cX6_cycles 14 = .ok (.iload_n 1, 1) := by decide +kernel
theorem dX6_cycles_15 : decode cX6_cycles 15 = .ok (.invokevirtual 130, 3) := by decide +kernel
theorem dX6_cycles_18 : decode cX6_cycles 18 = .ok (.aload_n 0, 1) := by decide +kernel
theorem dX6_cycles_19 : decode cX6_cycles 19 = .ok (.getfield 54, 3) := by decide +kernel
theorem dX6_cycles_22 : decode cX6_cycles 22 = .ok (.aload_n 0, 1) := by decide +kernel
theorem dX6_cycles_23 : decode cX6_cycles 23 = .ok (.getfield 19, 3) := by decide +kernel
theorem dX6_cycles_26 : decode cX6_cycles 26 = .ok (.getfield 114, 3) := by decide +kernel
theorem dX6_cycles_29 : decode cX6_cycles 29 = .ok (.iload_n 1, 1) := by decide +kernel
theorem dX6_cycles_30 : decode cX6_cycles 30 = .ok (.aaload, 1) := by decide +kernel
theorem dX6_cycles_31 : decode cX6_cycles 31 = .ok (.invokevirtual 187, 3) := by decide +kernel
theorem dX6_cycles_34 : decode cX6_cycles 34 = .ok (.iload_n 2, 1) := by decide +kernel
theorem dX6_cycles_35 : decode cX6_cycles 35 = .ok (.ifCond .ne 13, 3) := by decide +kernel
theorem dX6_cycles_38 : decode cX6_cycles 38 = .ok (.aload_n 0, 1) := by decide +kernel
theorem dX6_cycles_39 : decode cX6_cycles 39 = .ok (.getfield 54, 3) := by decide +kernel
theorem dX6_cycles_42 : decode cX6_cycles 42 = .ok (.getfield 191, 3) := by decide +kernel
theorem dX6_cycles_45 : decode cX6_cycles 45 = .ok (.goto 12, 3) := by decide +kernel
theorem dX6_cycles_48 : decode cX6_cycles 48 = .ok (.aload_n 0, 1) := by decide +kernel
theorem dX6_cycles_49 : decode cX6_cycles 49 = .ok (.getfield 54, 3) := by decide +kernel
theorem dX6_cycles_52 : decode cX6_cycles 52 = .ok (.getfield 194, 3) := by decide +kernel
theorem dX6_cycles_55 : decode cX6_cycles 55 = .ok (.iload_n 2, 1) := by decide +kernel
theorem dX6_cycles_56 : decode cX6_cycles 56 = .ok (.iaload, 1) := by decide +kernel
theorem dX6_cycles_57 : decode cX6_cycles 57 = .ok (.ireturn, 1) := by decide +kernel
theorem dX6_order_0 : decode cX6_order 0 = .ok (.aload_n 0, 1) := by decide +kernel
theorem dX6_order_1 : decode cX6_order 1 = .ok (.iload_n 1, 1) := by decide +kernel
theorem dX6_order_2 : decode cX6_order 2 = .ok (.invokevirtual 108, 3) := by decide +kernel
theorem dX6_order_5 : decode cX6_order 5 = .ok (.aload_n 0, 1) := by decide +kernel
theorem dX6_order_6 : decode cX6_order 6 = .ok (.iload_n 1, 1) := by decide +kernel
theorem dX6_order_7 : decode cX6_order 7 = .ok (.invokevirtual 130, 3) := by decide +kernel
theorem dX6_order_10 : decode cX6_order 10 = .ok (.aload_n 0, 1) := by decide +kernel
theorem dX6_order_11 : decode cX6_order 11 = .ok (.getfield 54, 3) := by decide +kernel
theorem dX6_order_14 : decode cX6_order 14 = .ok (.aload_n 0, 1) := by decide +kernel
theorem dX6_order_15 : decode cX6_order 15 = .ok (.getfield 19, 3) := by decide +kernel
theorem dX6_order_18 : decode cX6_order 18 = .ok (.getfield 114, 3) := by decide +kernel
theorem dX6_order_21 : decode cX6_order 21 = .ok (.iload_n 1, 1) := by decide +kernel
theorem dX6_order_22 : decode cX6_order 22 = .ok (.aaload, 1) := by decide +kernel
theorem dX6_order_23 : decode cX6_order 23 = .ok (.invokevirtual 187, 3) := by decide +kernel
theorem dX6_order_26 : decode cX6_order 26 = .ok (.aload_n 0, 1) := by decide +kernel
theorem dX6_order_27 : decode cX6_order 27 = .ok (.getfield 54, 3) := by decide +kernel
theorem dX6_order_30 : decode cX6_order 30 = .ok (.invokevirtual 197, 3) := by decide +kernel
theorem dX6_order_33 : decode cX6_order 33 = .ok (.ireturn, 1) := by decide +kernel
theorem dX6_even_0 : decode cX6_even 0 = .ok (.aload_n 0, 1) := by decide +kernel
theorem dX6_even_1 : decode cX6_even 1 = .ok (.iload_n 1, 1) := by decide +kernel
theorem dX6_even_2 : decode cX6_even 2 = .ok (.invokevirtual 108, 3) := by decide +kernel
theorem dX6_even_5 : decode cX6_even 5 = .ok (.aload_n 0, 1) := by decide +kernel
theorem dX6_even_6 : decode cX6_even 6 = .ok (.iload_n 1, 1) := by decide +kernel
theorem dX6_even_7 : decode cX6_even 7 = .ok (.invokevirtual 130, 3) := by decide +kernel
theorem dX6_even_10 : decode cX6_even 10 = .ok (.aload_n 0, 1) := by decide +kernel
theorem dX6_even_11 : decode cX6_even 11 = .ok (.getfield 54, 3) := by decide +kernel
theorem dX6_even_14 : decode cX6_even 14 = .ok (.aload_n 0, 1) := by decide +kernel
theorem dX6_even_15 : decode cX6_even 15 = .ok (.getfield 19, 3) := by decide +kernel
theorem dX6_even_18 : decode cX6_even 18 = .ok (.getfield 114, 3) := by decide +kernel
theorem dX6_even_21 : decode cX6_even 21 = .ok (.iload_n 1, 1) := by decide +kernel
theorem dX6_even_22 : decode cX6_even 22 = .ok (.aaload, 1) := by decide +kernel
theorem dX6_even_23 : decode cX6_even 23 = .ok (.invokevirtual 187, 3) := by decide +kernel
theorem dX6_even_26 : decode cX6_even 26 = .ok (.aload_n 0, 1) := by decide +kernel
theorem dX6_even_27 : decode cX6_even 27 = .ok (.getfield 10, 3) := by decide +kernel
theorem dX6_even_30 : decode cX6_even 30 = .ok (.getfield 147, 3) := by decide +kernel
theorem dX6_even_33 : decode cX6_even 33 = .ok (.aload_n 0, 1) := by decide +kernel
theorem dX6_even_34 : decode cX6_even 34 = .ok (.getfield 54, 3) := by decide +kernel
theorem dX6_even_37 : decode cX6_even 37 = .ok (.getfield 191, 3) := by decide +kernel
theorem dX6_even_40 : decode cX6_even 40 = .ok (.isub, 1) := by decide +kernel
theorem dX6_even_41 : decode cX6_even 41 = .ok (.iconst 2, 1) := by decide +kernel
theorem dX6_even_42 : decode cX6_even 42 = .ok (.irem, 1) := by decide +kernel
theorem dX6_even_43 : decode cX6_even 43 = .ok (.ifCond .ne 7, 3) := by decide +kernel
theorem dX6_even_46 : decode cX6_even 46 = .ok (.iconst 1, 1) := by decide +kernel
theorem dX6_even_47 : decode cX6_even 47 = .ok (.goto 4, 3) := by decide +kernel
theorem dX6_even_50 : decode cX6_even 50 = .ok (.iconst 0, 1) := by decide +kernel
theorem dX6_even_51 : decode cX6_even 51 = .ok (.ireturn, 1) := by decide +kernel
theorem dX6_orbit_0 : decode cX6_orbit 0 = .ok (.aload_n 0, 1) := by decide +kernel
theorem dX6_orbit_1 : decode cX6_orbit 1 = .ok (.iload_n 1, 1) := by decide +kernel
theorem dX6_orbit_2 : decode cX6_orbit 2 = .ok (.invokevirtual 111, 3) := by decide +kernel
theorem dX6_orbit_5 : decode cX6_orbit 5 = .ok (.aload_n 0, 1) := by decide +kernel
theorem dX6_orbit_6 : decode cX6_orbit 6 = .ok (.getfield 54, 3) := by decide +kernel
theorem dX6_orbit_9 : decode cX6_orbit 9 = .ok (.iload_n 1, 1) := by decide +kernel
theorem dX6_orbit_10 : decode cX6_orbit 10 = .ok (.aload_n 0, 1) := by decide +kernel
theorem dX6_orbit_11 : decode cX6_orbit 11 = .ok (.getfield 19, 3) := by decide +kernel
theorem dX6_orbit_14 : decode cX6_orbit 14 = .ok (.invokevirtual 201, 3) := by decide +kernel
theorem dX6_orbit_17 : decode cX6_orbit 17 = .ok (.invokestatic 205, 3) := by decide +kernel
theorem dX6_orbit_20 : decode cX6_orbit 20 = .ok (.ireturn, 1) := by decide +kernel
theorem dX6_orbits_0 : decode cX6_orbits 0 = .ok (.lconst 0, 1) := by decide +kernel
theorem dX6_orbits_1 : decode cX6_orbits 1 = .ok (.lstore_n 1, 1) := by decide +kernel
theorem dX6_orbits_2 : decode cX6_orbits 2 = .ok (.iconst 0, 1) := by decide +kernel
theorem dX6_orbits_3 : decode cX6_orbits 3 = .ok (.istore_n 3, 1) := by decide +kernel
theorem dX6_orbits_4 : decode cX6_orbits 4 = .ok (.iconst 0, 1) := by decide +kernel
theorem dX6_orbits_5 : decode cX6_orbits 5 = .ok (.istore 4, 2) := by decide +kernel
theorem dX6_orbits_7 : decode cX6_orbits 7 = .ok (.iload 4, 2) := by decide +kernel
theorem dX6_orbits_9 : decode cX6_orbits 9 = .ok (.aload_n 0, 1) := by decide +kernel
theorem dX6_orbits_10 : decode cX6_orbits 10 = .ok (.getfield 10, 3) := by decide +kernel
theorem dX6_orbits_13 : decode cX6_orbits 13 = .ok (.getfield 147, 3) := by decide +kernel
theorem dX6_orbits_16 : decode cX6_orbits 16 = .ok (.if_icmp .ge 39, 3) := by decide +kernel
theorem dX6_orbits_19 : decode cX6_orbits 19 = .ok (.lload_n 1, 1) := by decide +kernel
theorem dX6_orbits_20 : decode cX6_orbits 20 = .ok (.iload 4, 2) := by decide +kernel
theorem dX6_orbits_22 : decode cX6_orbits 22 = .ok (.lushr, 1) := by decide +kernel
theorem dX6_orbits_23 : decode cX6_orbits 23 = .ok (.lconst 1, 1) := by decide +kernel
theorem dX6_orbits_24 : decode cX6_orbits 24 = .ok (.land, 1) := by decide +kernel
theorem dX6_orbits_25 : decode cX6_orbits 25 = .ok (.lconst 0, 1) := by decide +kernel
theorem dX6_orbits_26 : decode cX6_orbits 26 = .ok (.lcmp, 1) := by decide +kernel
theorem dX6_orbits_27 : decode cX6_orbits 27 = .ok (.ifCond .ne 22, 3) := by decide +kernel
theorem dX6_orbits_30 : decode cX6_orbits 30 = .ok (.lload_n 1, 1) := by decide +kernel
theorem dX6_orbits_31 : decode cX6_orbits 31 = .ok (.aload_n 0, 1) := by decide +kernel
theorem dX6_orbits_32 : decode cX6_orbits 32 = .ok (.getfield 54, 3) := by decide +kernel
theorem dX6_orbits_35 : decode cX6_orbits 35 = .ok (.iload 4, 2) := by decide +kernel
theorem dX6_orbits_37 : decode cX6_orbits 37 = .ok (.aload_n 0, 1) := by decide +kernel
theorem dX6_orbits_38 : decode cX6_orbits 38 = .ok (.getfield 19, 3) := by decide +kernel
theorem dX6_orbits_41 : decode cX6_orbits 41 = .ok (.invokevirtual 201, 3) := by decide +kernel
theorem dX6_orbits_44 : decode cX6_orbits 44 = .ok (.lor, 1) := by decide +kernel
theorem dX6_orbits_45 : decode cX6_orbits 45 = .ok (.lstore_n 1, 1) := by decide +kernel
theorem dX6_orbits_46 : decode cX6_orbits 46 = .ok (.iinc 3 1, 3) := by decide +kernel
theorem dX6_orbits_49 : decode cX6_orbits 49 = .ok (.iinc 4 1, 3) := by decide +kernel
theorem dX6_orbits_52 : decode cX6_orbits 52 = .ok (.goto (-45), 3) := by decide +kernel
theorem dX6_orbits_55 : decode cX6_orbits 55 = .ok (.iload_n 3, 1) := by decide +kernel
theorem dX6_orbits_56 : decode cX6_orbits 56 = .ok (.ireturn, 1) := by decide +kernel
theorem dX6_spread_0 : decode cX6_spread 0 = .ok (.aload_n 0, 1) := by decide +kernel
theorem dX6_spread_1 : decode cX6_spread 1 = .ok (.iload_n 1, 1) := by decide +kernel
theorem dX6_spread_2 : decode cX6_spread 2 = .ok (.invokevirtual 108, 3) := by decide +kernel
theorem dX6_spread_5 : decode cX6_spread 5 = .ok (.aload_n 0, 1) := by decide +kernel
theorem dX6_spread_6 : decode cX6_spread 6 = .ok (.getfield 54, 3) := by decide +kernel
theorem dX6_spread_9 : decode cX6_spread 9 = .ok (.aload_n 0, 1) := by decide +kernel
theorem dX6_spread_10 : decode cX6_spread 10 = .ok (.getfield 19, 3) := by decide +kernel
theorem dX6_spread_13 : decode cX6_spread 13 = .ok (.getfield 114, 3) := by decide +kernel
theorem dX6_spread_16 : decode cX6_spread 16 = .ok (.iload_n 1, 1) := by decide +kernel
theorem dX6_spread_17 : decode cX6_spread 17 = .ok (.aaload, 1) := by decide +kernel
theorem dX6_spread_18 : decode cX6_spread 18 = .ok (.invokevirtual 211, 3) := by decide +kernel
theorem dX6_spread_21 : decode cX6_spread 21 = .ok (.ireturn, 1) := by decide +kernel
theorem dX6_monomials_0 : decode cX6_monomials 0 = .ok (.aload_n 0, 1) := by decide +kernel
theorem dX6_monomials_1 : decode cX6_monomials 1 = .ok (.getfield 54, 3) := by decide +kernel
theorem dX6_monomials_4 : decode cX6_monomials 4 = .ok (.invokevirtual 214, 3) := by decide +kernel
theorem dX6_monomials_7 : decode cX6_monomials 7 = .ok (.lreturn, 1) := by decide +kernel
theorem dX6_dicksons_0 : decode cX6_dicksons 0 = .ok (.aload_n 0, 1) := by decide +kernel
theorem dX6_dicksons_1 : decode cX6_dicksons 1 = .ok (.iload_n 1, 1) := by decide +kernel
theorem dX6_dicksons_2 : decode cX6_dicksons 2 = .ok (.invokevirtual 111, 3) := by decide +kernel
theorem dX6_dicksons_5 : decode cX6_dicksons 5 = .ok (.aload_n 0, 1) := by decide +kernel
theorem dX6_dicksons_6 : decode cX6_dicksons 6 = .ok (.getfield 54, 3) := by decide +kernel
theorem dX6_dicksons_9 : decode cX6_dicksons 9 = .ok (.iload_n 1, 1) := by decide +kernel
theorem dX6_dicksons_10 : decode cX6_dicksons 10 = .ok (.invokevirtual 218, 3) := by decide +kernel
theorem dX6_dicksons_13 : decode cX6_dicksons 13 = .ok (.lreturn, 1) := by decide +kernel
theorem dX6_binomials_0 : decode cX6_binomials 0 = .ok (.aload_n 0, 1) := by decide +kernel
theorem dX6_binomials_1 : decode cX6_binomials 1 = .ok (.iload_n 1, 1) := by decide +kernel
theorem dX6_binomials_2 : decode cX6_binomials 2 = .ok (.iconst 2, 1) := by decide +kernel
theorem dX6_binomials_3 : decode cX6_binomials 3 = .ok (.bipush 63, 2) := by decide +kernel
theorem dX6_binomials_5 : decode cX6_binomials 5 = .ok (.invokevirtual 73, 3) := by decide +kernel
theorem dX6_binomials_8 : decode cX6_binomials 8 = .ok (.aload_n 0, 1) := by decide +kernel
theorem dX6_binomials_9 : decode cX6_binomials 9 = .ok (.getfield 54, 3) := by decide +kernel
theorem dX6_binomials_12 : decode cX6_binomials 12 = .ok (.iload_n 1, 1) := by decide +kernel
theorem dX6_binomials_13 : decode cX6_binomials 13 = .ok (.invokevirtual 222, 3) := by decide +kernel
theorem dX6_binomials_16 : decode cX6_binomials 16 = .ok (.ireturn, 1) := by decide +kernel
theorem dX6_print_0 : decode cX6_print 0 = .ok (.lconst 0, 1) := by decide +kernel
theorem dX6_print_1 : decode cX6_print 1 = .ok (.lstore_n 1, 1) := by decide +kernel
theorem dX6_print_2 : decode cX6_print 2 = .ok (.iconst 0, 1) := by decide +kernel
theorem dX6_print_3 : decode cX6_print 3 = .ok (.istore_n 3, 1) := by decide +kernel
theorem dX6_print_4 : decode cX6_print 4 = .ok (.iload_n 3, 1) := by decide +kernel
theorem dX6_print_5 : decode cX6_print 5 = .ok (.aload_n 0, 1) := by decide +kernel
theorem dX6_print_6 : decode cX6_print 6 = .ok (.getfield 19, 3) := by decide +kernel
theorem dX6_print_9 : decode cX6_print 9 = .ok (.getfield 105, 3) := by decide +kernel
theorem dX6_print_12 : decode cX6_print 12 = .ok (.if_icmp .ge 54, 3) := by decide +kernel
theorem dX6_print_15 : decode cX6_print 15 = .ok (.aload_n 0, 1) := by decide +kernel
theorem dX6_print_16 : decode cX6_print 16 = .ok (.getfield 19, 3) := by decide +kernel
theorem dX6_print_19 : decode cX6_print 19 = .ok (.getfield 114, 3) := by decide +kernel
theorem dX6_print_22 : decode cX6_print 22 = .ok (.iload_n 3, 1) := by decide +kernel
theorem dX6_print_23 : decode cX6_print 23 = .ok (.aaload, 1) := by decide +kernel
theorem dX6_print_24 : decode cX6_print 24 = .ok (.astore 4, 2) := by decide +kernel
theorem dX6_print_26 : decode cX6_print 26 = .ok (.iconst 0, 1) := by decide +kernel
theorem dX6_print_27 : decode cX6_print 27 = .ok (.istore 5, 2) := by decide +kernel
theorem dX6_print_29 : decode cX6_print 29 = .ok (.iload 5, 2) := by decide +kernel
theorem dX6_print_31 : decode cX6_print 31 = .ok (.aload_n 0, 1) := by decide +kernel
theorem dX6_print_32 : decode cX6_print 32 = .ok (.getfield 10, 3) := by decide +kernel
theorem dX6_print_35 : decode cX6_print 35 = .ok (.getfield 147, 3) := by decide +kernel
theorem dX6_print_38 : decode cX6_print 38 = .ok (.if_icmp .ge 22, 3) := by decide +kernel
theorem dX6_print_41 : decode cX6_print 41 = .ok (.ldc2_w 226, 3) := by decide +kernel
theorem dX6_print_44 : decode cX6_print 44 = .ok (.lload_n 1, 1) := by decide +kernel
theorem dX6_print_45 : decode cX6_print 45 = .ok (.lmul, 1) := by decide +kernel
theorem dX6_print_46 : decode cX6_print 46 = .ok (.aload 4, 2) := by decide +kernel
theorem dX6_print_48 : decode cX6_print 48 = .ok (.iload 5, 2) := by decide +kernel
theorem dX6_print_50 : decode cX6_print 50 = .ok (.iaload, 1) := by decide +kernel
theorem dX6_print_51 : decode cX6_print 51 = .ok (.i2l, 1) := by decide +kernel
theorem dX6_print_52 : decode cX6_print 52 = .ok (.ladd, 1) := by decide +kernel
theorem dX6_print_53 : decode cX6_print 53 = .ok (.lstore_n 1, 1) := by decide +kernel
theorem dX6_print_54 : decode cX6_print 54 = .ok (.iinc 5 1, 3) := by decide +kernel
theorem dX6_print_57 : decode cX6_print 57 = .ok (.goto (-28), 3) := by decide +kernel
theorem dX6_print_60 : decode cX6_print 60 = .ok (.iinc 3 1, 3) := by decide +kernel
theorem dX6_print_63 : decode cX6_print 63 = .ok (.goto (-59), 3) := by decide +kernel
theorem dX6_print_66 : decode cX6_print 66 = .ok (.lload_n 1, 1) := by decide +kernel
theorem dX6_print_67 : decode cX6_print 67 = .ok (.lreturn, 1) := by decide +kernel
theorem dX6_status_0 : decode cX6_status 0 = .ok (.iload_n 1, 1) := by decide +kernel
theorem dX6_status_1 : decode cX6_status 1 = .ok (.ifCond .lt 12, 3) := by decide +kernel
theorem dX6_status_4 : decode cX6_status 4 = .ok (.iload_n 1, 1) := by decide +kernel
theorem dX6_status_5 : decode cX6_status 5 = .ok (.aload_n 0, 1) := by decide +kernel
theorem dX6_status_6 : decode cX6_status 6 = .ok (.getfield 58, 3) := by decide +kernel
theorem dX6_status_9 : decode cX6_status 9 = .ok (.arraylength, 1) := by decide +kernel
theorem dX6_status_10 : decode cX6_status 10 = .ok (.if_icmp .lt 7, 3) := by decide +kernel
theorem dX6_status_13 : decode cX6_status 13 = .ok (.iconst (-1), 1) := by decide +kernel
theorem dX6_status_14 : decode cX6_status 14 = .ok (.goto 9, 3) := by decide +kernel
theorem dX6_status_17 : decode cX6_status 17 = .ok (.aload_n 0, 1) := by decide +kernel
theorem dX6_status_18 : decode cX6_status 18 = .ok (.getfield 58, 3) := by decide +kernel
theorem dX6_status_21 : decode cX6_status 21 = .ok (.iload_n 1, 1) := by decide +kernel
theorem dX6_status_22 : decode cX6_status 22 = .ok (.iaload, 1) := by decide +kernel
theorem dX6_status_23 : decode cX6_status 23 = .ok (.ireturn, 1) := by decide +kernel
theorem dX6_needPoly_0 : decode cX6_needPoly 0 = .ok (.iload_n 1, 1) := by decide +kernel
theorem dX6_needPoly_1 : decode cX6_needPoly 1 = .ok (.ifCond .lt 14, 3) := by decide +kernel
theorem dX6_needPoly_4 : decode cX6_needPoly 4 = .ok (.iload_n 1, 1) := by decide +kernel
theorem dX6_needPoly_5 : decode cX6_needPoly 5 = .ok (.aload_n 0, 1) := by decide +kernel
theorem dX6_needPoly_6 : decode cX6_needPoly 6 = .ok (.getfield 19, 3) := by decide +kernel
theorem dX6_needPoly_9 : decode cX6_needPoly 9 = .ok (.getfield 105, 3) := by decide +kernel
theorem dX6_needPoly_12 : decode cX6_needPoly 12 = .ok (.if_icmp .lt 23, 3) := by decide +kernel
theorem dX6_needPoly_15 : decode cX6_needPoly 15 = .ok (.aload_n 0, 1) := by decide +kernel
theorem dX6_needPoly_16 : decode cX6_needPoly 16 = .ok (.getfield 58, 3) := by decide +kernel
theorem dX6_needPoly_19 : decode cX6_needPoly 19 = .ok (.iconst 0, 1) := by decide +kernel
theorem dX6_needPoly_20 : decode cX6_needPoly 20 = .ok (.dup2, 1) := by decide +kernel
theorem dX6_needPoly_21 : decode cX6_needPoly 21 = .ok (.iaload, 1) := by decide +kernel
theorem dX6_needPoly_22 : decode cX6_needPoly 22 = .ok (.iconst 1, 1) := by decide +kernel
theorem dX6_needPoly_23 : decode cX6_needPoly 23 = .ok (.iadd, 1) := by decide +kernel
theorem dX6_needPoly_24 : decode cX6_needPoly 24 = .ok (.iastore, 1) := by decide +kernel
theorem dX6_needPoly_25 : decode cX6_needPoly 25 = .ok (.new 228, 3) := by decide +kernel
theorem dX6_needPoly_28 : decode cX6_needPoly 28 = .ok (.dup, 1) := by decide +kernel
theorem dX6_needPoly_29 : decode cX6_needPoly 29 = .ok (.ldc 230, 2) := by decide +kernel
theorem dX6_needPoly_31 : decode cX6_needPoly 31 = .ok (.invokespecial 232, 3) := by decide +kernel
theorem dX6_needPoly_34 : decode cX6_needPoly 34 = .ok (.athrow, 1) := by decide +kernel
theorem dX6_needPoly_35 : decode cX6_needPoly 35 = .ok (.return_, 1) := by decide +kernel
theorem dX6_needPoint_0 : decode cX6_needPoint 0 = .ok (.iload_n 1, 1) := by decide +kernel
theorem dX6_needPoint_1 : decode cX6_needPoint 1 = .ok (.ifCond .lt 14, 3) := by decide +kernel
theorem dX6_needPoint_4 : decode cX6_needPoint 4 = .ok (.iload_n 1, 1) := by decide +kernel
theorem dX6_needPoint_5 : decode cX6_needPoint 5 = .ok (.aload_n 0, 1) := by decide +kernel
theorem dX6_needPoint_6 : decode cX6_needPoint 6 = .ok (.getfield 10, 3) := by decide +kernel
theorem dX6_needPoint_9 : decode cX6_needPoint 9 = .ok (.getfield 147, 3) := by decide +kernel
theorem dX6_needPoint_12 : decode cX6_needPoint 12 = .ok (.if_icmp .lt 23, 3) := by decide +kernel
theorem dX6_needPoint_15 : decode cX6_needPoint 15 = .ok (.aload_n 0, 1) := by decide +kernel
theorem dX6_needPoint_16 : decode cX6_needPoint 16 = .ok (.getfield 58, 3) := by decide +kernel
theorem dX6_needPoint_19 : decode cX6_needPoint 19 = .ok (.iconst 0, 1) := by decide +kernel
theorem dX6_needPoint_20 : decode cX6_needPoint 20 = .ok (.dup2, 1) := by decide +kernel
theorem dX6_needPoint_21 : decode cX6_needPoint 21 = .ok (.iaload, 1) := by decide +kernel
theorem dX6_needPoint_22 : decode cX6_needPoint 22 = .ok (.iconst 1, 1) := by decide +kernel
theorem dX6_needPoint_23 : decode cX6_needPoint 23 = .ok (.iadd, 1) := by decide +kernel
theorem dX6_needPoint_24 : decode cX6_needPoint 24 = .ok (.iastore, 1) := by decide +kernel
theorem dX6_needPoint_25 : decode cX6_needPoint 25 = .ok (.new 228, 3) := by decide +kernel
theorem dX6_needPoint_28 : decode cX6_needPoint 28 = .ok (.dup, 1) := by decide +kernel
theorem dX6_needPoint_29 : decode cX6_needPoint 29 = .ok (.ldc 235, 2) := by decide +kernel
theorem dX6_needPoint_31 : decode cX6_needPoint 31 = .ok (.invokespecial 232, 3) := by decide +kernel
theorem dX6_needPoint_34 : decode cX6_needPoint 34 = .ok (.athrow, 1) := by decide +kernel
theorem dX6_needPoint_35 : decode cX6_needPoint 35 = .ok (.return_, 1) := by decide +kernel
theorem dX6_needNumber_0 : decode cX6_needNumber 0 = .ok (.iload_n 1, 1) := by decide +kernel
theorem dX6_needNumber_1 : decode cX6_needNumber 1 = .ok (.iload_n 2, 1) := by decide +kernel
theorem dX6_needNumber_2 : decode cX6_needNumber 2 = .ok (.if_icmp .lt 8, 3) := by decide +kernel
theorem dX6_needNumber_5 : decode cX6_needNumber 5 = .ok (.iload_n 1, 1) := by decide +kernel
theorem dX6_needNumber_6 : decode cX6_needNumber 6 = .ok (.iload_n 3, 1) := by decide +kernel
theorem dX6_needNumber_7 : decode cX6_needNumber 7 = .ok (.if_icmp .le 23, 3) := by decide +kernel
theorem dX6_needNumber_10 : decode cX6_needNumber 10 = .ok (.aload_n 0, 1) := by decide +kernel
theorem dX6_needNumber_11 : decode cX6_needNumber 11 = .ok (.getfield 58, 3) := by decide +kernel
theorem dX6_needNumber_14 : decode cX6_needNumber 14 = .ok (.iconst 1, 1) := by decide +kernel
theorem dX6_needNumber_15 : decode cX6_needNumber 15 = .ok (.dup2, 1) := by decide +kernel
theorem dX6_needNumber_16 : decode cX6_needNumber 16 = .ok (.iaload, 1) := by decide +kernel
theorem dX6_needNumber_17 : decode cX6_needNumber 17 = .ok (.iconst 1, 1) := by decide +kernel
theorem dX6_needNumber_18 : decode cX6_needNumber 18 = .ok (.iadd, 1) := by decide +kernel
theorem dX6_needNumber_19 : decode cX6_needNumber 19 = .ok (.iastore, 1) := by decide +kernel
theorem dX6_needNumber_20 : decode cX6_needNumber 20 = .ok (.new 237, 3) := by decide +kernel
theorem dX6_needNumber_23 : decode cX6_needNumber 23 = .ok (.dup, 1) := by decide +kernel
theorem dX6_needNumber_24 : decode cX6_needNumber 24 = .ok (.ldc 239, 2) := by decide +kernel
theorem dX6_needNumber_26 : decode cX6_needNumber 26 = .ok (.invokespecial 241, 3) := by decide +kernel
theorem dX6_needNumber_29 : decode cX6_needNumber 29 = .ok (.athrow, 1) := by decide +kernel
theorem dX6_needNumber_30 : decode cX6_needNumber 30 = .ok (.return_, 1) := by decide +kernel
theorem dX6_needRoom_0 : decode cX6_needRoom 0 = .ok (.aload_n 0, 1) := by decide +kernel
theorem dX6_needRoom_1 : decode cX6_needRoom 1 = .ok (.getfield 19, 3) := by decide +kernel
theorem dX6_needRoom_4 : decode cX6_needRoom 4 = .ok (.getfield 105, 3) := by decide +kernel
theorem dX6_needRoom_7 : decode cX6_needRoom 7 = .ok (.bipush 6, 2) := by decide +kernel
theorem dX6_needRoom_9 : decode cX6_needRoom 9 = .ok (.if_icmp .lt 23, 3) := by decide +kernel
theorem dX6_needRoom_12 : decode cX6_needRoom 12 = .ok (.aload_n 0, 1) := by decide +kernel
theorem dX6_needRoom_13 : decode cX6_needRoom 13 = .ok (.getfield 58, 3) := by decide +kernel
theorem dX6_needRoom_16 : decode cX6_needRoom 16 = .ok (.iconst 2, 1) := by decide +kernel
theorem dX6_needRoom_17 : decode cX6_needRoom 17 = .ok (.dup2, 1) := by decide +kernel
theorem dX6_needRoom_18 : decode cX6_needRoom 18 = .ok (.iaload, 1) := by decide +kernel
theorem dX6_needRoom_19 : decode cX6_needRoom 19 = .ok (.iconst 1, 1) := by decide +kernel
theorem dX6_needRoom_20 : decode cX6_needRoom 20 = .ok (.iadd, 1) := by decide +kernel
theorem dX6_needRoom_21 : decode cX6_needRoom 21 = .ok (.iastore, 1) := by decide +kernel
theorem dX6_needRoom_22 : decode cX6_needRoom 22 = .ok (.new 242, 3) := by decide +kernel
theorem dX6_needRoom_25 : decode cX6_needRoom 25 = .ok (.dup, 1) := by decide +kernel
theorem dX6_needRoom_26 : decode cX6_needRoom 26 = .ok (.ldc 244, 2) := by decide +kernel
theorem dX6_needRoom_28 : decode cX6_needRoom 28 = .ok (.invokespecial 246, 3) := by decide +kernel
theorem dX6_needRoom_31 : decode cX6_needRoom 31 = .ok (.athrow, 1) := by decide +kernel
theorem dX6_needRoom_32 : decode cX6_needRoom 32 = .ok (.return_, 1) := by decide +kernel
theorem dX6_needPermuting_0 : decode cX6_needPermuting 0 = .ok (.aload_n 0, 1) := by decide +kernel
theorem dX6_needPermuting_1 : decode cX6_needPermuting 1 = .ok (.getfield 54, 3) := by decide +kernel
theorem dX6_needPermuting_4 : decode cX6_needPermuting 4 = .ok (.aload_n 0, 1) := by decide +kernel
theorem dX6_needPermuting_5 : decode cX6_needPermuting 5 = .ok (.getfield 19, 3) := by decide +kernel
theorem dX6_needPermuting_8 : decode cX6_needPermuting 8 = .ok (.getfield 114, 3) := by decide +kernel
theorem dX6_needPermuting_11 : decode cX6_needPermuting 11 = .ok (.iload_n 1, 1) := by decide +kernel
theorem dX6_needPermuting_12 : decode cX6_needPermuting 12 = .ok (.aaload, 1) := by decide +kernel
theorem dX6_needPermuting_13 : decode cX6_needPermuting 13 = .ok (.invokevirtual 180, 3) := by decide +kernel
theorem dX6_needPermuting_16 : decode cX6_needPermuting 16 = .ok (.ifCond .ne 23, 3) := by decide +kernel
theorem dX6_needPermuting_19 : decode cX6_needPermuting 19 = .ok (.aload_n 0, 1) := by decide +kernel
theorem dX6_needPermuting_20 : decode cX6_needPermuting 20 = .ok (.getfield 58, 3) := by decide +kernel
theorem dX6_needPermuting_23 : decode cX6_needPermuting 23 = .ok (.iconst 2, 1) := by decide +kernel
theorem dX6_needPermuting_24 : decode cX6_needPermuting 24 = .ok (.dup2, 1) := by decide +kernel
theorem dX6_needPermuting_25 : decode cX6_needPermuting 25 = .ok (.iaload, 1) := by decide +kernel
theorem dX6_needPermuting_26 : decode cX6_needPermuting 26 = .ok (.iconst 1, 1) := by decide +kernel
theorem dX6_needPermuting_27 : decode cX6_needPermuting 27 = .ok (.iadd, 1) := by decide +kernel
theorem dX6_needPermuting_28 : decode cX6_needPermuting 28 = .ok (.iastore, 1) := by decide +kernel
theorem dX6_needPermuting_29 : decode cX6_needPermuting 29 = .ok (.new 242, 3) := by decide +kernel
theorem dX6_needPermuting_32 : decode cX6_needPermuting 32 = .ok (.dup, 1) := by decide +kernel
theorem dX6_needPermuting_33 : decode cX6_needPermuting 33 = .ok (.ldc 247, 2) := by decide +kernel
theorem dX6_needPermuting_35 : decode cX6_needPermuting 35 = .ok (.invokespecial 246, 3) := by decide +kernel
theorem dX6_needPermuting_38 : decode cX6_needPermuting 38 = .ok (.athrow, 1) := by decide +kernel
theorem dX6_needPermuting_39 : decode cX6_needPermuting 39 = .ok (.return_, 1) := by decide +kernel
end
section
theorem dX7_init_0 : decode cX7_init 0 = .ok (.aload_n 0, 1) := by decide +kernel
theorem dX7_init_1 : decode cX7_init 1 = .ok (.invokespecial 3, 3) := by decide +kernel
theorem dX7_init_4 : decode cX7_init 4 = .ok (.aload_n 0, 1) := by decide +kernel
theorem dX7_init_5 : decode cX7_init 5 = .ok (.iconst 3, 1) := by decide +kernel
theorem dX7_init_6 : decode cX7_init 6 = .ok (.newarray .int, 2) := by decide +kernel
theorem dX7_init_8 : decode cX7_init 8 = .ok (.putfield 9, 3) := by decide +kernel
theorem dX7_init_11 : decode cX7_init 11 = .ok (.aload_n 0, 1) := by decide +kernel
theorem dX7_init_12 : decode cX7_init 12 = .ok (.iconst (-1), 1) := by decide +kernel
theorem dX7_init_13 : decode cX7_init 13 = .ok (.putfield 13, 3) := by decide +kernel
theorem dX7_init_16 : decode cX7_init 16 = .ok (.aload_n 0, 1) := by decide +kernel
theorem dX7_init_17 : decode cX7_init 17 = .ok (.sipush 300, 3) := by decide +kernel
theorem dX7_init_20 : decode cX7_init 20 = .ok (.newarray .int, 2) := by decide +kernel
theorem dX7_init_22 : decode cX7_init 22 = .ok (.putfield 17, 3) := by decide +kernel
theorem dX7_init_25 : decode cX7_init 25 = .ok (.aload_n 0, 1) := by decide +kernel
theorem dX7_init_26 : decode cX7_init 26 = .ok (.sipush 387, 3) := by decide +kernel
theorem dX7_init_29 : decode cX7_init 29 = .ok (.newarray .int, 2) := by decide +kernel
theorem dX7_init_31 : decode cX7_init 31 = .ok (.putfield 20, 3) := by decide +kernel
theorem dX7_init_34 : decode cX7_init 34 = .ok (.aload_n 0, 1) := by decide +kernel
theorem dX7_init_35 : decode cX7_init 35 = .ok (.sipush 387, 3) := by decide +kernel
theorem dX7_init_38 : decode cX7_init 38 = .ok (.newarray .int, 2) := by decide +kernel
theorem dX7_init_40 : decode cX7_init 40 = .ok (.putfield 23, 3) := by decide +kernel
theorem dX7_init_43 : decode cX7_init 43 = .ok (.aload_n 0, 1) := by decide +kernel
theorem dX7_init_44 : decode cX7_init 44 = .ok (.bipush 8, 2) := by decide +kernel
theorem dX7_init_46 : decode cX7_init 46 = .ok (.sipush 387, 3) := by decide +kernel
theorem dX7_init_49 : decode cX7_init 49 = .ok (.multianewarray 26 2, 4) := by decide +kernel
theorem dX7_init_53 : decode cX7_init 53 = .ok (.putfield 28, 3) := by decide +kernel
theorem dX7_init_56 : decode cX7_init 56 = .ok (.aload_n 0, 1) := by decide +kernel
theorem dX7_init_57 : decode cX7_init 57 = .ok (.bipush 64, 2) := by decide +kernel
theorem dX7_init_59 : decode cX7_init 59 = .ok (.bipush 64, 2) := by decide +kernel
theorem dX7_init_61 : decode cX7_init 61 = .ok (.multianewarray 26 2, 4) := by decide +kernel
theorem dX7_init_65 : decode cX7_init 65 = .ok (.putfield 31, 3) := by decide +kernel
theorem dX7_init_68 : decode cX7_init 68 = .ok (.aload_n 0, 1) := by decide +kernel
theorem dX7_init_69 : decode cX7_init 69 = .ok (.bipush 64, 2) := by decide +kernel
theorem dX7_init_71 : decode cX7_init 71 = .ok (.bipush 64, 2) := by decide +kernel
theorem dX7_init_73 : decode cX7_init 73 = .ok (.multianewarray 26 2, 4) := by decide +kernel
theorem dX7_init_77 : decode cX7_init 77 = .ok (.putfield 34, 3) := by decide +kernel
theorem dX7_init_80 : decode cX7_init 80 = .ok (.aload_n 0, 1) := by decide +kernel
theorem dX7_init_81 : decode cX7_init 81 = .ok (.bipush 64, 2) := by decide +kernel
theorem dX7_init_83 : decode cX7_init 83 = .ok (.newarray .int, 2) := by decide +kernel
theorem dX7_init_85 : decode cX7_init 85 = .ok (.putfield 37, 3) := by decide +kernel
theorem dX7_init_88 : decode cX7_init 88 = .ok (.aload_n 0, 1) := by decide +kernel
theorem dX7_init_89 : decode cX7_init 89 = .ok (.bipush 64, 2) := by decide +kernel
theorem dX7_init_91 : decode cX7_init 91 = .ok (.newarray .int, 2) := by decide +kernel
theorem dX7_init_93 : decode cX7_init 93 = .ok (.putfield 40, 3) := by decide +kernel
theorem dX7_init_96 : decode cX7_init 96 = .ok (.aload_n 0, 1) := by decide +kernel
theorem dX7_init_97 : decode cX7_init 97 = .ok (.bipush 14, 2) := by decide +kernel
theorem dX7_init_99 : decode cX7_init 99 = .ok (.newarray .int, 2) := by decide +kernel
theorem dX7_init_101 : decode cX7_init 101 = .ok (.putfield 43, 3) := by decide +kernel
theorem dX7_init_104 : decode cX7_init 104 = .ok (.aload_n 0, 1) := by decide +kernel
theorem dX7_init_105 : decode cX7_init 105 = .ok (.bipush 64, 2) := by decide +kernel
theorem dX7_init_107 : decode cX7_init 107 = .ok (.newarray .int, 2) := by decide +kernel
theorem dX7_init_109 : decode cX7_init 109 = .ok (.putfield 46, 3) := by decide +kernel
theorem dX7_init_112 : decode cX7_init 112 = .ok (.aload_n 0, 1) := by decide +kernel
theorem dX7_init_113 : decode cX7_init 113 = .ok (.bipush 64, 2) := by decide +kernel
theorem dX7_init_115 : decode cX7_init 115 = .ok (.newarray .int, 2) := by decide +kernel
theorem dX7_init_117 : decode cX7_init 117 = .ok (.putfield 49, 3) := by decide +kernel
theorem dX7_init_120 : decode cX7_init 120 = .ok (.aload_n 0, 1) := by decide +kernel
theorem dX7_init_121 : decode cX7_init 121 = .ok (.bipush 64, 2) := by decide +kernel
theorem dX7_init_123 : decode cX7_init 123 = .ok (.newarray .int, 2) := by decide +kernel
theorem dX7_init_125 : decode cX7_init 125 = .ok (.putfield 52, 3) := by decide +kernel
theorem dX7_init_128 : decode cX7_init 128 = .ok (.aload_n 0, 1) := by decide +kernel
theorem dX7_init_129 : decode cX7_init 129 = .ok (.bipush 64, 2) := by decide +kernel
theorem dX7_init_131 : decode cX7_init 131 = .ok (.newarray .int, 2) := by decide +kernel
theorem dX7_init_133 : decode cX7_init 133 = .ok (.putfield 55, 3) := by decide +kernel
theorem dX7_init_136 : decode cX7_init 136 = .ok (.aload_n 0, 1) := by decide +kernel
theorem dX7_init_137 : decode cX7_init 137 = .ok (.getfield 20, 3) := by decide +kernel
theorem dX7_init_140 : decode cX7_init 140 = .ok (.iconst 0, 1) := by decide +kernel
theorem dX7_init_141 : decode cX7_init 141 = .ok (.iconst 2, 1) := by decide +kernel
theorem dX7_init_142 : decode cX7_init 142 = .ok (.iastore, 1) := by decide +kernel
theorem dX7_init_143 : decode cX7_init 143 = .ok (.aload_n 0, 1) := by decide +kernel
theorem dX7_init_144 : decode cX7_init 144 = .ok (.getfield 20, 3) := by decide +kernel
theorem dX7_init_147 : decode cX7_init 147 = .ok (.iconst 1, 1) := by decide +kernel
theorem dX7_init_148 : decode cX7_init 148 = .ok (.iconst 1, 1) := by decide +kernel
theorem dX7_init_149 : decode cX7_init 149 = .ok (.iastore, 1) := by decide +kernel
theorem dX7_init_150 : decode cX7_init 150 = .ok (.return_, 1) := by decide +kernel
theorem dX7_thrown_0 : decode cX7_thrown 0 = .ok (.aload_n 0, 1) := by decide +kernel
theorem dX7_thrown_1 : decode cX7_thrown 1 = .ok (.getfield 58, 3) := by decide +kernel
theorem dX7_thrown_4 : decode cX7_thrown 4 = .ok (.ireturn, 1) := by decide +kernel
theorem dX7_bad_0 : decode cX7_bad 0 = .ok (.iload_n 1, 1) := by decide +kernel
theorem dX7_bad_1 : decode cX7_bad 1 = .ok (.ifCond .eq 25, 3) := by decide +kernel
theorem dX7_bad_4 : decode cX7_bad 4 = .ok (.aload_n 0, 1) := by decide +kernel
theorem dX7_bad_5 : decode cX7_bad 5 = .ok (.getfield 58, 3) := by decide +kernel
theorem dX7_bad_8 : decode cX7_bad 8 = .ok (.ifCond .ne 18, 3) := by decide +kernel
theorem dX7_bad_11 : decode cX7_bad 11 = .ok (.aload_n 0, 1) := by decide +kernel
theorem dX7_bad_12 : decode cX7_bad 12 = .ok (.iload_n 2, 1) := by decide +kernel
theorem dX7_bad_13 : decode cX7_bad 13 = .ok (.putfield 58, 3) := by decide +kernel
theorem dX7_bad_16 : decode cX7_bad 16 = .ok (.aload_n 0, 1) := by decide +kernel
theorem dX7_bad_17 : decode cX7_bad 17 = .ok (.getfield 9, 3) := by decide +kernel
theorem dX7_bad_20 : decode cX7_bad 20 = .ok (.iload_n 3, 1) := by decide +kernel
theorem dX7_bad_21 : decode cX7_bad 21 = .ok (.dup2, 1) := by decide +kernel
theorem dX7_bad_22 : decode cX7_bad 22 = .ok (.iaload, 1) := by decide +kernel
theorem dX7_bad_23 : decode cX7_bad 23 = .ok (.iconst 1, 1) := by decide +kernel
theorem dX7_bad_24 : decode cX7_bad 24 = .ok (.iadd, 1) := by decide +kernel
theorem dX7_bad_25 : decode cX7_bad 25 = .ok (.iastore, 1) := by decide +kernel
theorem dX7_bad_26 : decode cX7_bad 26 = .ok (.aload_n 0, 1) := by decide +kernel
theorem dX7_bad_27 : decode cX7_bad 27 = .ok (.getfield 58, 3) := by decide +kernel
theorem dX7_bad_30 : decode cX7_bad 30 = .ok (.ifCond .eq 7, 3) := by decide +kernel
theorem dX7_bad_33 : decode cX7_bad 33 = .ok (.iconst 1, 1) := by decide +kernel
theorem dX7_bad_34 : decode cX7_bad 34 = .ok (.goto 4, 3) := by decide +kernel
theorem dX7_bad_37 : decode cX7_bad 37 = .ok (.iconst 0, 1) := by decide +kernel
theorem dX7_bad_38 : decode cX7_bad 38 = .ok (.ireturn, 1) := by decide +kernel
theorem dX7_in_0 : decode cX7_in 0 = .ok (.lload_n 0, 1) := by decide +kernel
theorem dX7_in_1 : decode cX7_in 1 = .ok (.lload_n 2, 1) := by decide +kernel
theorem dX7_in_2 : decode cX7_in 2 = .ok (.lcmp, 1) := by decide +kernel
theorem dX7_in_3 : decode cX7_in 3 = .ok (.ifCond .lt 14, 3) := by decide +kernel
theorem dX7_in_6 : decode cX7_in 6 = .ok (.lload_n 0, 1) := by decide +kernel
theorem dX7_in_7 : decode cX7_in 7 = .ok (.lload 4, 2) := by decide +kernel
theorem dX7_in_9 : decode cX7_in 9 = .ok (.lcmp, 1) := by decide +kernel
theorem dX7_in_10 : decode cX7_in 10 = .ok (.ifCond .gt 7, 3) := by decide +kernel
theorem dX7_in_13 : decode cX7_in 13 = .ok (.iconst 1, 1) := by decide +kernel
theorem dX7_in_14 : decode cX7_in 14 = .ok (.goto 4, 3) := by decide +kernel
theorem dX7_in_17 : decode cX7_in 17 = .ok (.iconst 0, 1) := by decide +kernel
theorem dX7_in_18 : decode cX7_in 18 = .ok (.ireturn, 1) := by decide +kernel
theorem dX7_less_0 : decode cX7_less 0 = .ok (.iload_n 0, 1) := by decide +kernel
theorem dX7_less_1 : decode cX7_less 1 = .ok (.iload_n 1, 1) := by decide +kernel
theorem dX7_less_2 : decode cX7_less 2 = .ok (.if_icmp .ge 7, 3) := by decide +kernel
theorem dX7_less_5 : decode cX7_less 5 = .ok (.iload_n 0, 1) := by decide +kernel
theorem dX7_less_6 : decode cX7_less 6 = .ok (.goto 4, 3) := by decide +kernel
theorem dX7_less_9 : decode cX7_less 9 = .ok (.iload_n 1, 1) := by decide +kernel
theorem dX7_less_10 : decode cX7_less 10 = .ok (.ireturn, 1) := by decide +kernel
theorem dX7_feed_0 : decode cX7_feed 0 = .ok (.aload_n 0, 1) := by decide +kernel
theorem dX7_feed_1 : decode cX7_feed 1 = .ok (.iconst 0, 1) := by decide +kernel
theorem dX7_feed_2 : decode cX7_feed 2 = .ok (.putfield 58, 3) := by decide +kernel
theorem dX7_feed_5 : decode cX7_feed 5 = .ok (.aload_n 0, 1) := by decide +kernel
theorem dX7_feed_6 : decode cX7_feed 6 = .ok (.getfield 61, 3) := by decide +kernel
theorem dX7_feed_9 : decode cX7_feed 9 = .ok (.bipush 20, 2) := by decide +kernel
theorem dX7_feed_11 : decode cX7_feed 11 = .ok (.iadd, 1) := by decide +kernel
theorem dX7_feed_12 : decode cX7_feed 12 = .ok (.sipush 300, 3) := by decide +kernel
theorem dX7_feed_15 : decode cX7_feed 15 = .ok (.if_icmp .le 5, 3) := by decide +kernel
theorem dX7_feed_18 : decode cX7_feed 18 = .ok (.iconst (-1), 1) := by decide +kernel
theorem dX7_feed_19 : decode cX7_feed 19 = .ok (.ireturn, 1) := by decide +kernel
theorem dX7_feed_20 : decode cX7_feed 20 = .ok (.iconst 0, 1) := by decide +kernel
theorem dX7_feed_21 : decode cX7_feed 21 = .ok (.istore 6, 2) := by decide +kernel
theorem dX7_feed_23 : decode cX7_feed 23 = .ok (.iload 6, 2) := by decide +kernel
theorem dX7_feed_25 : decode cX7_feed 25 = .ok (.bipush 20, 2) := by decide +kernel
theorem dX7_feed_27 : decode cX7_feed 27 = .ok (.if_icmp .ge 93, 3) := by decide +kernel
theorem dX7_feed_30 : decode cX7_feed 30 = .ok (.iload 6, 2) := by decide +kernel
theorem dX7_feed_32 : decode cX7_feed 32 = .ok (.iconst 4, 1) := by decide +kernel
theorem dX7_feed_33 : decode cX7_feed 33 = .ok (.if_icmp .ge 7, 3) := by decide +kernel
theorem dX7_feed_36 : decode cX7_feed 36 = .ok (.iload_n 1, 1) := by decide +kernel
theorem dX7_feed_37 : decode cX7_feed 37 = .ok (.goto 39, 3) := by decide +kernel
theorem dX7_feed_40 : decode cX7_feed 40 = .ok (.iload 6, 2) := by decide +kernel
theorem dX7_feed_42 : decode cX7_feed 42 = .ok (.bipush 8, 2) := by decide +kernel
theorem dX7_feed_44 : decode cX7_feed 44 = .ok (.if_icmp .ge 7, 3) := by decide +kernel
theorem dX7_feed_47 : decode cX7_feed 47 = .ok (.iload_n 2, 1) := by decide +kernel
theorem dX7_feed_48 : decode cX7_feed 48 = .ok (.goto 28, 3) := by decide +kernel
theorem dX7_feed_51 : decode cX7_feed 51 = .ok (.iload 6, 2) := by decide +kernel
theorem dX7_feed_53 : decode cX7_feed 53 = .ok (.bipush 12, 2) := by decide +kernel
theorem dX7_feed_55 : decode cX7_feed 55 = .ok (.if_icmp .ge 7, 3) := by decide +kernel
theorem dX7_feed_58 : decode cX7_feed 58 = .ok (.iload_n 3, 1) := by decide +kernel
theorem dX7_feed_59 : decode cX7_feed 59 = .ok (.goto 17, 3) := by decide +kernel
theorem dX7_feed_62 : decode cX7_feed 62 = .ok (.iload 6, 2) := by decide +kernel
theorem dX7_feed_64 : decode cX7_feed 64 = .ok (.bipush 16, 2) := by decide +kernel
theorem dX7_feed_66 : decode cX7_feed 66 = .ok (.if_icmp .ge 8, 3) := by decide +kernel
theorem dX7_feed_69 : decode cX7_feed 69 = .ok (.iload 4, 2) := by decide +kernel
theorem dX7_feed_71 : decode cX7_feed 71 = .ok (.goto 5, 3) := by decide +kernel
theorem dX7_feed_74 : decode cX7_feed 74 = .ok (.iload 5, 2) := by decide +kernel
theorem dX7_feed_76 : decode cX7_feed 76 = .ok (.istore 7, 2) := by decide +kernel
theorem dX7_feed_78 : decode cX7_feed 78 = .ok (.aload_n 0, 1) := by decide +kernel
theorem dX7_feed_79 : decode cX7_feed 79 = .ok (.getfield 17, 3) := by decide +kernel
theorem dX7_feed_82 : decode cX7_feed 82 = .ok (.aload_n 0, 1) := by decide +kernel
theorem dX7_feed_83 : decode cX7_feed 83 = .ok (.getfield 61, 3) := by decide +kernel
theorem dX7_feed_86 : decode cX7_feed 86 = .ok (.iload 7, 2) := by decide +kernel
theorem dX7_feed_88 : decode cX7_feed 88 = .ok (.bipush 24, 2) := by decide +kernel
theorem dX7_feed_90 : decode cX7_feed 90 = .ok (.bipush 8, 2) := by decide +kernel
theorem dX7_feed_92 : decode cX7_feed 92 = .ok (.iload 6, 2) := by decide +kernel
theorem dX7_feed_94 : decode cX7_feed 94 = .ok (.iconst 4, 1) := by decide +kernel
theorem dX7_feed_95 : decode cX7_feed 95 = .ok (.irem, 1) := by decide +kernel
theorem dX7_feed_96 : decode cX7_feed 96 = .ok (.imul, 1) := by decide +kernel
theorem dX7_feed_97 : decode cX7_feed 97 = .ok (.isub, 1) := by decide +kernel
theorem dX7_feed_98 : decode cX7_feed 98 = .ok (.ishr, 1) := by decide +kernel
theorem dX7_feed_99 : decode cX7_feed 99 = .ok (.sipush 255, 3) := by decide +kernel
theorem dX7_feed_102 : decode cX7_feed 102 = .ok (.iand, 1) := by decide +kernel
theorem dX7_feed_103 : decode cX7_feed 103 = .ok (.iastore, 1) := by decide +kernel
theorem dX7_feed_104 : decode cX7_feed 104 = .ok (.aload_n 0, 1) := by decide +kernel
theorem dX7_feed_105 : decode cX7_feed 105 = .ok (.dup, 1) := by decide +kernel
theorem dX7_feed_106 : decode cX7_feed 106 = .ok (.getfield 61, 3) := by decide +kernel
theorem dX7_feed_109 : decode cX7_feed 109 = .ok (.iconst 1, 1) := by decide +kernel
theorem dX7_feed_110 : decode cX7_feed 110 = .ok (.iadd, 1) := by decide +kernel
theorem dX7_feed_111 : decode cX7_feed 111 = .ok (.putfield 61, 3) := by decide +kernel
theorem dX7_feed_114 : decode cX7_feed 114 = .ok (.iinc 6 1, 3) := by decide +kernel
theorem dX7_feed_117 : decode cX7_feed 117 = .ok (.goto (-94), 3) := by decide +kernel
theorem dX7_feed_120 : decode cX7_feed 120 = .ok (.aload_n 0, 1) := by decide +kernel
theorem dX7_feed_121 : decode cX7_feed 121 = .ok (.getfield 61, 3) := by decide +kernel
theorem dX7_feed_124 : decode cX7_feed 124 = .ok (.ireturn, 1) := by decide +kernel
theorem dX7_copies_0 : decode cX7_copies 0 = .ok (.iconst 0, 1) := by decide +kernel
theorem dX7_copies_1 : decode cX7_copies 1 = .ok (.istore_n 2, 1) := by decide +kernel
theorem dX7_copies_2 : decode cX7_copies 2 = .ok (.iload_n 2, 1) := by decide +kernel
theorem dX7_copies_3 : decode cX7_copies 3 = .ok (.sipush 387, 3) := by decide +kernel
theorem dX7_copies_6 : decode cX7_copies 6 = .ok (.if_icmp .ge 15, 3) := by decide +kernel
theorem dX7_copies_9 : decode cX7_copies 9 = .ok (.aload_n 1, 1) := by decide +kernel
theorem dX7_copies_10 : decode cX7_copies 10 = .ok (.iload_n 2, 1) := by decide +kernel
theorem dX7_copies_11 : decode cX7_copies 11 = .ok (.aload_n 0, 1) := by decide +kernel
theorem dX7_copies_12 : decode cX7_copies 12 = .ok (.iload_n 2, 1) := by decide +kernel
theorem dX7_copies_13 : decode cX7_copies 13 = .ok (.iaload, 1) := by decide +kernel
theorem dX7_copies_14 : decode cX7_copies 14 = .ok (.iastore, 1) := by decide +kernel
theorem dX7_copies_15 : decode cX7_copies 15 = .ok (.iinc 2 1, 3) := by decide +kernel
theorem dX7_copies_18 : decode cX7_copies 18 = .ok (.goto (-16), 3) := by decide +kernel
theorem dX7_copies_21 : decode cX7_copies 21 = .ok (.return_, 1) := by decide +kernel
theorem dX7_digit_0 : decode cX7_digit 0 = .ok (.iload_n 0, 1) := by decide +kernel
theorem dX7_digit_1 : decode cX7_digit 1 = .ok (.istore_n 3, 1) := by decide +kernel
theorem dX7_digit_2 : decode cX7_digit 2 = .ok (.iconst 0, 1) := by decide +kernel
theorem dX7_digit_3 : decode cX7_digit 3 = .ok (.istore 4, 2) := by decide +kernel
theorem dX7_digit_5 : decode cX7_digit 5 = .ok (.iload 4, 2) := by decide +kernel
theorem dX7_digit_7 : decode cX7_digit 7 = .ok (.iload_n 2, 1) := by decide +kernel
theorem dX7_digit_8 : decode cX7_digit 8 = .ok (.if_icmp .ge 13, 3) := by decide +kernel
theorem dX7_digit_11 : decode cX7_digit 11 = .ok (.iload_n 3, 1) := by decide +kernel
theorem dX7_digit_12 : decode cX7_digit 12 = .ok (.iload_n 1, 1) := by decide +kernel
theorem dX7_digit_13 : decode cX7_digit 13 = .ok (.idiv, 1) := by decide +kernel
theorem dX7_digit_14 : decode cX7_digit 14 = .ok (.istore_n 3, 1) := by decide +kernel
theorem dX7_digit_15 : decode cX7_digit 15 = .ok (.iinc 4 1, 3) := by decide +kernel
theorem dX7_digit_18 : decode cX7_digit 18 = .ok (.goto (-13), 3) := by decide +kernel
theorem dX7_digit_21 : decode cX7_digit 21 = .ok (.iload_n 3, 1) := by decide +kernel
theorem dX7_digit_22 : decode cX7_digit 22 = .ok (.iload_n 1, 1) := by decide +kernel
theorem dX7_digit_23 : decode cX7_digit 23 = .ok (.irem, 1) := by decide +kernel
theorem dX7_digit_24 : decode cX7_digit 24 = .ok (.ireturn, 1) := by decide +kernel
theorem dX7_raised_0 : decode cX7_raised 0 = .ok (.iconst 1, 1) := by decide +kernel
theorem dX7_raised_1 : decode cX7_raised 1 = .ok (.istore_n 2, 1) := by decide +kernel
theorem dX7_raised_2 : decode cX7_raised 2 = .ok (.iconst 0, 1) := by decide +kernel
theorem dX7_raised_3 : decode cX7_raised 3 = .ok (.istore_n 3, 1) := by decide +kernel
theorem dX7_raised_4 : decode cX7_raised 4 = .ok (.iload_n 3, 1) := by decide +kernel
theorem dX7_raised_5 : decode cX7_raised 5 = .ok (.iload_n 1, 1) := by decide +kernel
theorem dX7_raised_6 : decode cX7_raised 6 = .ok (.if_icmp .ge 19, 3) := by decide +kernel
theorem dX7_raised_9 : decode cX7_raised 9 = .ok (.sipush 1000, 3) := by decide +kernel
theorem dX7_raised_12 : decode cX7_raised 12 = .ok (.iload_n 2, 1) := by decide +kernel
theorem dX7_raised_13 : decode cX7_raised 13 = .ok (.iload_n 0, 1) := by decide +kernel
theorem dX7_raised_14 : decode cX7_raised 14 = .ok (.imul, 1) := by decide +kernel
theorem dX7_raised_15 : decode cX7_raised 15 = .ok (.invokestatic 64, 3) := by decide +kernel
theorem dX7_raised_18 : decode cX7_raised 18 = .ok (.istore_n 2, 1) := by decide +kernel
theorem dX7_raised_19 : decode cX7_raised 19 = .ok (.iinc 3 1, 3) := by decide +kernel
theorem dX7_raised_22 : decode cX7_raised 22 = .ok (.goto (-18), 3) := by decide +kernel
theorem dX7_raised_25 : decode cX7_raised 25 = .ok (.iload_n 2, 1) := by decide +kernel
theorem dX7_raised_26 : decode cX7_raised 26 = .ok (.ireturn, 1) := by decide +kernel
theorem dX7_rests_0 : decode cX7_rests 0 = .ok (.iload_n 1, 1) := by decide +kernel
theorem dX7_rests_1 : decode cX7_rests 1 = .ok (.istore 4, 2) := by decide +kernel
theorem dX7_rests_3 : decode cX7_rests 3 = .ok (.iload 4, 2) := by decide +kernel
theorem dX7_rests_5 : decode cX7_rests 5 = .ok (.iload_n 3, 1) := by decide +kernel
theorem dX7_rests_6 : decode cX7_rests 6 = .ok (.if_icmp .lt 97, 3) := by decide +kernel
theorem dX7_rests_9 : decode cX7_rests 9 = .ok (.aload_n 0, 1) := by decide +kernel
theorem dX7_rests_10 : decode cX7_rests 10 = .ok (.getfield 43, 3) := by decide +kernel
theorem dX7_rests_13 : decode cX7_rests 13 = .ok (.iload 4, 2) := by decide +kernel
theorem dX7_rests_15 : decode cX7_rests 15 = .ok (.iaload, 1) := by decide +kernel
theorem dX7_rests_16 : decode cX7_rests 16 = .ok (.istore 5, 2) := by decide +kernel
theorem dX7_rests_18 : decode cX7_rests 18 = .ok (.iload 5, 2) := by decide +kernel
theorem dX7_rests_20 : decode cX7_rests 20 = .ok (.ifCond .ne 6, 3) := by decide +kernel
theorem dX7_rests_23 : decode cX7_rests 23 = .ok (.goto 74, 3) := by decide +kernel
theorem dX7_rests_26 : decode cX7_rests 26 = .ok (.aload_n 0, 1) := by decide +kernel
theorem dX7_rests_27 : decode cX7_rests 27 = .ok (.getfield 43, 3) := by decide +kernel
theorem dX7_rests_30 : decode cX7_rests 30 = .ok (.iload 4, 2) := by decide +kernel
theorem dX7_rests_32 : decode cX7_rests 32 = .ok (.iconst 0, 1) := by decide +kernel
theorem dX7_rests_33 : decode cX7_rests 33 = .ok (.iastore, 1) := by decide +kernel
theorem dX7_rests_34 : decode cX7_rests 34 = .ok (.iconst 0, 1) := by decide +kernel
theorem dX7_rests_35 : decode cX7_rests 35 = .ok (.istore 6, 2) := by decide +kernel
theorem dX7_rests_37 : decode cX7_rests 37 = .ok (.iload 6, 2) := by decide +kernel
theorem dX7_rests_39 : decode cX7_rests 39 = .ok (.iload_n 3, 1) := by decide +kernel
theorem dX7_rests_40 : decode cX7_rests 40 = .ok (.if_icmp .ge 57, 3) := by decide +kernel
theorem dX7_rests_43 : decode cX7_rests 43 = .ok (.aload_n 0, 1) := by decide +kernel
theorem dX7_rests_44 : decode cX7_rests 44 = .ok (.getfield 43, 3) := by decide +kernel
theorem dX7_rests_47 : decode cX7_rests 47 = .ok (.iload 4, 2) := by decide +kernel
theorem dX7_rests_49 : decode cX7_rests 49 = .ok (.iload_n 3, 1) := by decide +kernel
theorem dX7_rests_50 : decode cX7_rests 50 = .ok (.isub, 1) := by decide +kernel
theorem dX7_rests_51 : decode cX7_rests 51 = .ok (.iload 6, 2) := by decide +kernel
theorem dX7_rests_53 : decode cX7_rests 53 = .ok (.iadd, 1) := by decide +kernel
theorem dX7_rests_54 : decode cX7_rests 54 = .ok (.aload_n 0, 1) := by decide +kernel
theorem dX7_rests_55 : decode cX7_rests 55 = .ok (.getfield 43, 3) := by decide +kernel
theorem dX7_rests_58 : decode cX7_rests 58 = .ok (.iload 4, 2) := by decide +kernel
theorem dX7_rests_60 : decode cX7_rests 60 = .ok (.iload_n 3, 1) := by decide +kernel
theorem dX7_rests_61 : decode cX7_rests 61 = .ok (.isub, 1) := by decide +kernel
theorem dX7_rests_62 : decode cX7_rests 62 = .ok (.iload 6, 2) := by decide +kernel
theorem dX7_rests_64 : decode cX7_rests 64 = .ok (.iadd, 1) := by decide +kernel
theorem dX7_rests_65 : decode cX7_rests 65 = .ok (.iaload, 1) := by decide +kernel
theorem dX7_rests_66 : decode cX7_rests 66 = .ok (.aload_n 0, 1) := by decide +kernel
theorem dX7_rests_67 : decode cX7_rests 67 = .ok (.getfield 68, 3) := by decide +kernel
theorem dX7_rests_70 : decode cX7_rests 70 = .ok (.iload_n 2, 1) := by decide +kernel
theorem dX7_rests_71 : decode cX7_rests 71 = .ok (.aload_n 0, 1) := by decide +kernel
theorem dX7_rests_72 : decode cX7_rests 72 = .ok (.getfield 68, 3) := by decide +kernel
theorem dX7_rests_75 : decode cX7_rests 75 = .ok (.iload 6, 2) := by decide +kernel
theorem dX7_rests_77 : decode cX7_rests 77 = .ok (.invokestatic 71, 3) := by decide +kernel
theorem dX7_rests_80 : decode cX7_rests 80 = .ok (.isub, 1) := by decide +kernel
theorem dX7_rests_81 : decode cX7_rests 81 = .ok (.iload 5, 2) := by decide +kernel
theorem dX7_rests_83 : decode cX7_rests 83 = .ok (.imul, 1) := by decide +kernel
theorem dX7_rests_84 : decode cX7_rests 84 = .ok (.iadd, 1) := by decide +kernel
theorem dX7_rests_85 : decode cX7_rests 85 = .ok (.aload_n 0, 1) := by decide +kernel
theorem dX7_rests_86 : decode cX7_rests 86 = .ok (.getfield 68, 3) := by decide +kernel
theorem dX7_rests_89 : decode cX7_rests 89 = .ok (.irem, 1) := by decide +kernel
theorem dX7_rests_90 : decode cX7_rests 90 = .ok (.iastore, 1) := by decide +kernel
theorem dX7_rests_91 : decode cX7_rests 91 = .ok (.iinc 6 1, 3) := by decide +kernel
theorem dX7_rests_94 : decode cX7_rests 94 = .ok (.goto (-57), 3) := by decide +kernel
theorem dX7_rests_97 : decode cX7_rests 97 = .ok (.iinc 4 (-1), 3) := by decide +kernel
theorem dX7_rests_100 : decode cX7_rests 100 = .ok (.goto (-97), 3) := by decide +kernel
theorem dX7_rests_103 : decode cX7_rests 103 = .ok (.return_, 1) := by decide +kernel
theorem dX7_isProduct_0 : decode cX7_isProduct 0 = .ok (.iconst 1, 1) := by decide +kernel
theorem dX7_isProduct_1 : decode cX7_isProduct 1 = .ok (.istore_n 2, 1) := by decide +kernel
theorem dX7_isProduct_2 : decode cX7_isProduct 2 = .ok (.iconst 2, 1) := by decide +kernel
theorem dX7_isProduct_3 : decode cX7_isProduct 3 = .ok (.iload_n 2, 1) := by decide +kernel
theorem dX7_isProduct_4 : decode cX7_isProduct 4 = .ok (.imul, 1) := by decide +kernel
theorem dX7_isProduct_5 : decode cX7_isProduct 5 = .ok (.aload_n 0, 1) := by decide +kernel
theorem dX7_isProduct_6 : decode cX7_isProduct 6 = .ok (.getfield 75, 3) := by decide +kernel
theorem dX7_isProduct_9 : decode cX7_isProduct 9 = .ok (.if_icmp .gt 131, 3) := by decide +kernel
theorem dX7_isProduct_12 : decode cX7_isProduct 12 = .ok (.iconst 0, 1) := by decide +kernel
theorem dX7_isProduct_13 : decode cX7_isProduct 13 = .ok (.istore_n 3, 1) := by decide +kernel
theorem dX7_isProduct_14 : decode cX7_isProduct 14 = .ok (.iload_n 3, 1) := by decide +kernel
theorem dX7_isProduct_15 : decode cX7_isProduct 15 = .ok (.aload_n 0, 1) := by decide +kernel
theorem dX7_isProduct_16 : decode cX7_isProduct 16 = .ok (.getfield 68, 3) := by decide +kernel
theorem dX7_isProduct_19 : decode cX7_isProduct 19 = .ok (.iload_n 2, 1) := by decide +kernel
theorem dX7_isProduct_20 : decode cX7_isProduct 20 = .ok (.invokestatic 78, 3) := by decide +kernel
theorem dX7_isProduct_23 : decode cX7_isProduct 23 = .ok (.if_icmp .ge 111, 3) := by decide +kernel
theorem dX7_isProduct_26 : decode cX7_isProduct 26 = .ok (.iconst 0, 1) := by decide +kernel
theorem dX7_isProduct_27 : decode cX7_isProduct 27 = .ok (.istore 4, 2) := by decide +kernel
theorem dX7_isProduct_29 : decode cX7_isProduct 29 = .ok (.iload 4, 2) := by decide +kernel
theorem dX7_isProduct_31 : decode cX7_isProduct 31 = .ok (.aload_n 0, 1) := by decide +kernel
theorem dX7_isProduct_32 : decode cX7_isProduct 32 = .ok (.getfield 75, 3) := by decide +kernel
theorem dX7_isProduct_35 : decode cX7_isProduct 35 = .ok (.if_icmp .ge 26, 3) := by decide +kernel
theorem dX7_isProduct_38 : decode cX7_isProduct 38 = .ok (.aload_n 0, 1) := by decide +kernel
theorem dX7_isProduct_39 : decode cX7_isProduct 39 = .ok (.getfield 43, 3) := by decide +kernel
theorem dX7_isProduct_42 : decode cX7_isProduct 42 = .ok (.iload 4, 2) := by decide +kernel
theorem dX7_isProduct_44 : decode cX7_isProduct 44 = .ok (.iload_n 1, 1) := by decide +kernel
theorem dX7_isProduct_45 : decode cX7_isProduct 45 = .ok (.aload_n 0, 1) := by decide +kernel
theorem dX7_isProduct_46 : decode cX7_isProduct 46 = .ok (.getfield 68, 3) := by decide +kernel
theorem dX7_isProduct_49 : decode cX7_isProduct 49 = .ok (.iload 4, 2) := by decide +kernel
theorem dX7_isProduct_51 : decode cX7_isProduct 51 = .ok (.invokestatic 71, 3) := by decide +kernel
theorem dX7_isProduct_54 : decode cX7_isProduct 54 = .ok (.iastore, 1) := by decide +kernel
theorem dX7_isProduct_55 : decode cX7_isProduct 55 = .ok (.iinc 4 1, 3) := by decide +kernel
theorem dX7_isProduct_58 : decode cX7_isProduct 58 = .ok (.goto (-29), 3) := by decide +kernel
theorem dX7_isProduct_61 : decode cX7_isProduct 61 = .ok (.aload_n 0, 1) := by decide +kernel
theorem dX7_isProduct_62 : decode cX7_isProduct 62 = .ok (.getfield 43, 3) := by decide +kernel
theorem dX7_isProduct_65 : decode cX7_isProduct 65 = .ok (.aload_n 0, 1) := by decide +kernel
theorem dX7_isProduct_66 : decode cX7_isProduct 66 = .ok (.getfield 75, 3) := by decide +kernel
theorem dX7_isProduct_69 : decode cX7_isProduct 69 = .ok (.iconst 1, 1) := by decide +kernel
theorem dX7_isProduct_70 : decode cX7_isProduct 70 = .ok (.iastore, 1) := by decide +kernel
theorem dX7_isProduct_71 : decode cX7_isProduct 71 = .ok (.aload_n 0, 1) := by decide +kernel
theorem dX7_isProduct_72 : decode cX7_isProduct 72 = .ok (.aload_n 0, 1) := by decide +kernel
theorem dX7_isProduct_73 : decode cX7_isProduct 73 = .ok (.getfield 75, 3) := by decide +kernel
theorem dX7_isProduct_76 : decode cX7_isProduct 76 = .ok (.iload_n 3, 1) := by decide +kernel
theorem dX7_isProduct_77 : decode cX7_isProduct 77 = .ok (.iload_n 2, 1) := by decide +kernel
theorem dX7_isProduct_78 : decode cX7_isProduct 78 = .ok (.invokevirtual 81, 3) := by decide +kernel
theorem dX7_isProduct_81 : decode cX7_isProduct 81 = .ok (.iconst 0, 1) := by decide +kernel
theorem dX7_isProduct_82 : decode cX7_isProduct 82 = .ok (.istore 4, 2) := by decide +kernel
theorem dX7_isProduct_84 : decode cX7_isProduct 84 = .ok (.iconst 0, 1) := by decide +kernel
theorem dX7_isProduct_85 : decode cX7_isProduct 85 = .ok (.istore 5, 2) := by decide +kernel
theorem dX7_isProduct_87 : decode cX7_isProduct 87 = .ok (.iload 5, 2) := by decide +kernel
theorem dX7_isProduct_89 : decode cX7_isProduct 89 = .ok (.iload_n 2, 1) := by decide +kernel
theorem dX7_isProduct_90 : decode cX7_isProduct 90 = .ok (.if_icmp .ge 31, 3) := by decide +kernel
theorem dX7_isProduct_93 : decode cX7_isProduct 93 = .ok (.iload 4, 2) := by decide +kernel
theorem dX7_isProduct_95 : decode cX7_isProduct 95 = .ok (.ifCond .ne 13, 3) := by decide +kernel
theorem dX7_isProduct_98 : decode cX7_isProduct 98 = .ok (.aload_n 0, 1) := by decide +kernel
theorem dX7_isProduct_99 : decode cX7_isProduct 99 = .ok (.getfield 43, 3) := by decide +kernel
theorem dX7_isProduct_102 : decode cX7_isProduct 102 = .ok (.iload 5, 2) := by decide +kernel
theorem dX7_isProduct_104 : decode cX7_isProduct 104 = .ok (.iaload, 1) := by decide +kernel
theorem dX7_isProduct_105 : decode cX7_isProduct 105 = .ok (.ifCond .eq 7, 3) := by decide +kernel
theorem dX7_isProduct_108 : decode cX7_isProduct 108 = .ok (.iconst 1, 1) := by decide +kernel
theorem dX7_isProduct_109 : decode cX7_isProduct 109 = .ok (.goto 4, 3) := by decide +kernel
theorem dX7_isProduct_112 : decode cX7_isProduct 112 = .ok (.iconst 0, 1) := by decide +kernel
theorem dX7_isProduct_113 : decode cX7_isProduct 113 = .ok (.istore 4, 2) := by decide +kernel
theorem dX7_isProduct_115 : decode cX7_isProduct 115 = .ok (.iinc 5 1, 3) := by decide +kernel
theorem dX7_isProduct_118 : decode cX7_isProduct 118 = .ok (.goto (-31), 3) := by decide +kernel
theorem dX7_isProduct_121 : decode cX7_isProduct 121 = .ok (.iload 4, 2) := by decide +kernel
theorem dX7_isProduct_123 : decode cX7_isProduct 123 = .ok (.ifCond .ne 5, 3) := by decide +kernel
theorem dX7_isProduct_126 : decode cX7_isProduct 126 = .ok (.iconst 1, 1) := by decide +kernel
theorem dX7_isProduct_127 : decode cX7_isProduct 127 = .ok (.ireturn, 1) := by decide +kernel
theorem dX7_isProduct_128 : decode cX7_isProduct 128 = .ok (.iinc 3 1, 3) := by decide +kernel
theorem dX7_isProduct_131 : decode cX7_isProduct 131 = .ok (.goto (-117), 3) := by decide +kernel
theorem dX7_isProduct_134 : decode cX7_isProduct 134 = .ok (.iinc 2 1, 3) := by decide +kernel
theorem dX7_isProduct_137 : decode cX7_isProduct 137 = .ok (.goto (-135), 3) := by decide +kernel
theorem dX7_isProduct_140 : decode cX7_isProduct 140 = .ok (.iconst 0, 1) := by decide +kernel
theorem dX7_isProduct_141 : decode cX7_isProduct 141 = .ok (.ireturn, 1) := by decide +kernel
theorem dX7_numberOf_0 : decode cX7_numberOf 0 = .ok (.iconst 0, 1) := by decide +kernel
theorem dX7_numberOf_1 : decode cX7_numberOf 1 = .ok (.istore_n 1, 1) := by decide +kernel
theorem dX7_numberOf_2 : decode cX7_numberOf 2 = .ok (.aload_n 0, 1) := by decide +kernel
theorem dX7_numberOf_3 : decode cX7_numberOf 3 = .ok (.getfield 75, 3) := by decide +kernel
theorem dX7_numberOf_6 : decode cX7_numberOf 6 = .ok (.iconst 1, 1) := by decide +kernel
theorem dX7_numberOf_7 : decode cX7_numberOf 7 = .ok (.isub, 1) := by decide +kernel
theorem dX7_numberOf_8 : decode cX7_numberOf 8 = .ok (.istore_n 2, 1) := by decide +kernel
theorem dX7_numberOf_9 : decode cX7_numberOf 9 = .ok (.iload_n 2, 1) := by decide +kernel
theorem dX7_numberOf_10 : decode cX7_numberOf 10 = .ok (.ifCond .lt 23, 3) := by decide +kernel
theorem dX7_numberOf_13 : decode cX7_numberOf 13 = .ok (.iload_n 1, 1) := by decide +kernel
theorem dX7_numberOf_14 : decode cX7_numberOf 14 = .ok (.aload_n 0, 1) := by decide +kernel
theorem dX7_numberOf_15 : decode cX7_numberOf 15 = .ok (.getfield 68, 3) := by decide +kernel
theorem dX7_numberOf_18 : decode cX7_numberOf 18 = .ok (.imul, 1) := by decide +kernel
theorem dX7_numberOf_19 : decode cX7_numberOf 19 = .ok (.aload_n 0, 1) := by decide +kernel
theorem dX7_numberOf_20 : decode cX7_numberOf 20 = .ok (.getfield 43, 3) := by decide +kernel
theorem dX7_numberOf_23 : decode cX7_numberOf 23 = .ok (.iload_n 2, 1) := by decide +kernel
theorem dX7_numberOf_24 : decode cX7_numberOf 24 = .ok (.iaload, 1) := by decide +kernel
theorem dX7_numberOf_25 : decode cX7_numberOf 25 = .ok (.iadd, 1) := by decide +kernel
theorem dX7_numberOf_26 : decode cX7_numberOf 26 = .ok (.istore_n 1, 1) := by decide +kernel
theorem dX7_numberOf_27 : decode cX7_numberOf 27 = .ok (.iinc 2 (-1), 3) := by decide +kernel
theorem dX7_numberOf_30 : decode cX7_numberOf 30 = .ok (.goto (-21), 3) := by decide +kernel
theorem dX7_numberOf_33 : decode cX7_numberOf 33 = .ok (.iload_n 1, 1) := by decide +kernel
theorem dX7_numberOf_34 : decode cX7_numberOf 34 = .ok (.ireturn, 1) := by decide +kernel
theorem dX7_summed_0 : decode cX7_summed 0 = .ok (.iconst 0, 1) := by decide +kernel
theorem dX7_summed_1 : decode cX7_summed 1 = .ok (.istore_n 3, 1) := by decide +kernel
theorem dX7_summed_2 : decode cX7_summed 2 = .ok (.iload_n 3, 1) := by decide +kernel
theorem dX7_summed_3 : decode cX7_summed 3 = .ok (.aload_n 0, 1) := by decide +kernel
theorem dX7_summed_4 : decode cX7_summed 4 = .ok (.getfield 75, 3) := by decide +kernel
theorem dX7_summed_7 : decode cX7_summed 7 = .ok (.if_icmp .ge 39, 3) := by decide +kernel
theorem dX7_summed_10 : decode cX7_summed 10 = .ok (.aload_n 0, 1) := by decide +kernel
theorem dX7_summed_11 : decode cX7_summed 11 = .ok (.getfield 43, 3) := by decide +kernel
theorem dX7_summed_14 : decode cX7_summed 14 = .ok (.iload_n 3, 1) := by decide +kernel
theorem dX7_summed_15 : decode cX7_summed 15 = .ok (.iload_n 1, 1) := by decide +kernel
theorem dX7_summed_16 : decode cX7_summed 16 = .ok (.aload_n 0, 1) := by decide +kernel
theorem dX7_summed_17 : decode cX7_summed 17 = .ok (.getfield 68, 3) := by decide +kernel
theorem dX7_summed_20 : decode cX7_summed 20 = .ok (.iload_n 3, 1) := by decide +kernel
theorem dX7_summed_21 : decode cX7_summed 21 = .ok (.invokestatic 71, 3) := by decide +kernel
theorem dX7_summed_24 : decode cX7_summed 24 = .ok (.iload_n 2, 1) := by decide +kernel
theorem dX7_summed_25 : decode cX7_summed 25 = .ok (.aload_n 0, 1) := by decide +kernel
theorem dX7_summed_26 : decode cX7_summed 26 = .ok (.getfield 68, 3) := by decide +kernel
theorem dX7_summed_29 : decode cX7_summed 29 = .ok (.iload_n 3, 1) := by decide +kernel
theorem dX7_summed_30 : decode cX7_summed 30 = .ok (.invokestatic 71, 3) := by decide +kernel
theorem dX7_summed_33 : decode cX7_summed 33 = .ok (.iadd, 1) := by decide +kernel
theorem dX7_summed_34 : decode cX7_summed 34 = .ok (.aload_n 0, 1) := by decide +kernel
theorem dX7_summed_35 : decode cX7_summed 35 = .ok (.getfield 68, 3) := by decide +kernel
theorem dX7_summed_38 : decode cX7_summed 38 = .ok (.irem, 1) := by decide +kernel
theorem dX7_summed_39 : decode cX7_summed 39 = .ok (.iastore, 1) := by decide +kernel
theorem dX7_summed_40 : decode cX7_summed 40 = .ok (.iinc 3 1, 3) := by decide +kernel
theorem dX7_summed_43 : decode cX7_summed 43 = .ok (.goto (-41), 3) := by decide +kernel
theorem dX7_summed_46 : decode cX7_summed 46 = .ok (.aload_n 0, 1) := by decide +kernel
theorem dX7_summed_47 : decode cX7_summed 47 = .ok (.invokevirtual 85, 3) := by decide +kernel
theorem dX7_summed_50 : decode cX7_summed 50 = .ok (.ireturn, 1) := by decide +kernel
theorem dX7_multiplied_0 : decode cX7_multiplied 0 = .ok (.iconst 0, 1) := by decide +kernel
theorem dX7_multiplied_1 : decode cX7_multiplied 1 = .ok (.istore_n 3, 1) := by decide +kernel
theorem dX7_multiplied_2 : decode cX7_multiplied 2 = .ok (.iload_n 3, 1) := by decide +kernel
theorem dX7_multiplied_3 : decode cX7_multiplied 3 = .ok (.iconst 2, 1) := by decide +kernel
theorem dX7_multiplied_4 : decode cX7_multiplied 4 = .ok (.aload_n 0, 1) := by decide +kernel
theorem dX7_multiplied_5 : decode cX7_multiplied 5 = .ok (.getfield 75, 3) := by decide +kernel
theorem dX7_multiplied_8 : decode cX7_multiplied 8 = .ok (.imul, 1) := by decide +kernel
theorem dX7_multiplied_9 : decode cX7_multiplied 9 = .ok (.if_icmp .ge 16, 3) := by decide +kernel
theorem dX7_multiplied_12 : decode cX7_multiplied 12 = .ok (.aload_n 0, 1) := by decide +kernel
theorem dX7_multiplied_13 : decode cX7_multiplied 13 = .ok (.getfield 43, 3) := by decide +kernel
theorem dX7_multiplied_16 : decode cX7_multiplied 16 = .ok (.iload_n 3, 1) := by decide +kernel
theorem dX7_multiplied_17 : decode cX7_multiplied 17 = .ok (.iconst 0, 1) := by decide +kernel
theorem dX7_multiplied_18 : decode cX7_multiplied 18 = .ok (.iastore, 1) := by decide +kernel
theorem dX7_multiplied_19 : decode cX7_multiplied 19 = .ok (.iinc 3 1, 3) := by decide +kernel
theorem dX7_multiplied_22 : decode cX7_multiplied 22 = .ok (.goto (-20), 3) := by decide +kernel
theorem dX7_multiplied_25 : decode cX7_multiplied 25 = .ok (.iconst 0, 1) := by decide +kernel
theorem dX7_multiplied_26 : decode cX7_multiplied 26 = .ok (.istore_n 3, 1) := by decide +kernel
theorem dX7_multiplied_27 : decode cX7_multiplied 27 = .ok (.iload_n 3, 1) := by decide +kernel
theorem dX7_multiplied_28 : decode cX7_multiplied 28 = .ok (.aload_n 0, 1) := by decide +kernel
theorem dX7_multiplied_29 : decode cX7_multiplied 29 = .ok (.getfield 75, 3) := by decide +kernel
theorem dX7_multiplied_32 : decode cX7_multiplied 32 = .ok (.if_icmp .ge 71, 3) := by decide +kernel
theorem dX7_multiplied_35 : decode cX7_multiplied 35 = .ok (.iconst 0, 1) := by decide +kernel
theorem dX7_multiplied_36 : decode cX7_multiplied 36 = .ok (.istore 4, 2) := by decide +kernel
theorem dX7_multiplied_38 : decode cX7_multiplied 38 = .ok (.iload 4, 2) := by decide +kernel
theorem dX7_multiplied_40 : decode cX7_multiplied 40 = .ok (.aload_n 0, 1) := by decide +kernel
theorem dX7_multiplied_41 : decode cX7_multiplied 41 = .ok (.getfield 75, 3) := by decide +kernel
theorem dX7_multiplied_44 : decode cX7_multiplied 44 = .ok (.if_icmp .ge 53, 3) := by decide +kernel
theorem dX7_multiplied_47 : decode cX7_multiplied 47 = .ok (.aload_n 0, 1) := by decide +kernel
theorem dX7_multiplied_48 : decode cX7_multiplied 48 = .ok (.getfield 43, 3) := by decide +kernel
theorem dX7_multiplied_51 : decode cX7_multiplied 51 = .ok (.iload_n 3, 1) := by decide +kernel
theorem dX7_multiplied_52 : decode cX7_multiplied 52 = .ok (.iload 4, 2) := by decide +kernel
theorem dX7_multiplied_54 : decode cX7_multiplied 54 = .ok (.iadd, 1) := by decide +kernel
theorem dX7_multiplied_55 : decode cX7_multiplied 55 = .ok (.aload_n 0, 1) := by decide +kernel
theorem dX7_multiplied_56 : decode cX7_multiplied 56 = .ok (.getfield 43, 3) := by decide +kernel
theorem dX7_multiplied_59 : decode cX7_multiplied 59 = .ok (.iload_n 3, 1) := by decide +kernel
theorem dX7_multiplied_60 : decode cX7_multiplied 60 = .ok (.iload 4, 2) := by decide +kernel
theorem dX7_multiplied_62 : decode cX7_multiplied 62 = .ok (.iadd, 1) := by decide +kernel
theorem dX7_multiplied_63 : decode cX7_multiplied 63 = .ok (.iaload, 1) := by decide +kernel
theorem dX7_multiplied_64 : decode cX7_multiplied 64 = .ok (.iload_n 1, 1) := by decide +kernel
theorem dX7_multiplied_65 : decode cX7_multiplied 65 = .ok (.aload_n 0, 1) := by decide +kernel
theorem dX7_multiplied_66 : decode cX7_multiplied 66 = .ok (.getfield 68, 3) := by decide +kernel
theorem dX7_multiplied_69 : decode cX7_multiplied 69 = .ok (.iload_n 3, 1) := by decide +kernel
theorem dX7_multiplied_70 : decode cX7_multiplied 70 = .ok (.invokestatic 71, 3) := by decide +kernel
theorem dX7_multiplied_73 : decode cX7_multiplied 73 = .ok (.iload_n 2, 1) := by decide +kernel
theorem dX7_multiplied_74 : decode cX7_multiplied 74 = .ok (.aload_n 0, 1) := by decide +kernel
theorem dX7_multiplied_75 : decode cX7_multiplied 75 = .ok (.getfield 68, 3) := by decide +kernel
theorem dX7_multiplied_78 : decode cX7_multiplied 78 = .ok (.iload 4, 2) := by decide +kernel
theorem dX7_multiplied_80 : decode cX7_multiplied 80 = .ok (.invokestatic 71, 3) := by decide +kernel
theorem dX7_multiplied_83 : decode cX7_multiplied 83 = .ok (.imul, 1) := by decide +kernel
theorem dX7_multiplied_84 : decode cX7_multiplied 84 = .ok (.iadd, 1) := by decide +kernel
theorem dX7_multiplied_85 : decode cX7_multiplied 85 = .ok (.aload_n 0, 1) := by decide +kernel
theorem dX7_multiplied_86 : decode cX7_multiplied 86 = .ok (.getfield 68, 3) := by decide +kernel
theorem dX7_multiplied_89 : decode cX7_multiplied 89 = .ok (.irem, 1) := by decide +kernel
theorem dX7_multiplied_90 : decode cX7_multiplied 90 = .ok (.iastore, 1) := by decide +kernel
theorem dX7_multiplied_91 : decode cX7_multiplied 91 = .ok (.iinc 4 1, 3) := by decide +kernel
theorem dX7_multiplied_94 : decode cX7_multiplied 94 = .ok (.goto (-56), 3) := by decide +kernel
theorem dX7_multiplied_97 : decode cX7_multiplied 97 = .ok (.iinc 3 1, 3) := by decide +kernel
theorem dX7_multiplied_100 : decode cX7_multiplied 100 = .ok (.goto (-73), 3) := by decide +kernel
theorem dX7_multiplied_103 : decode cX7_multiplied 103 = .ok (.aload_n 0, 1) := by decide +kernel
theorem dX7_multiplied_104 : decode cX7_multiplied 104 = .ok (.iconst 2, 1) := by decide +kernel
theorem dX7_multiplied_105 : decode cX7_multiplied 105 = .ok (.aload_n 0, 1) := by decide +kernel
theorem dX7_multiplied_106 : decode cX7_multiplied 106 = .ok (.getfield 75, 3) := by decide +kernel
theorem dX7_multiplied_109 : decode cX7_multiplied 109 = .ok (.imul, 1) := by decide +kernel
theorem dX7_multiplied_110 : decode cX7_multiplied 110 = .ok (.iconst 2, 1) := by decide +kernel
theorem dX7_multiplied_111 : decode cX7_multiplied 111 = .ok (.isub, 1) := by decide +kernel
theorem dX7_multiplied_112 : decode cX7_multiplied 112 = .ok (.aload_n 0, 1) := by decide +kernel
theorem dX7_multiplied_113 : decode cX7_multiplied 113 = .ok (.getfield 89, 3) := by decide +kernel
theorem dX7_multiplied_116 : decode cX7_multiplied 116 = .ok (.aload_n 0, 1) := by decide +kernel
theorem dX7_multiplied_117 : decode cX7_multiplied 117 = .ok (.getfield 75, 3) := by decide +kernel
theorem dX7_multiplied_120 : decode cX7_multiplied 120 = .ok (.invokevirtual 81, 3) := by decide +kernel
theorem dX7_multiplied_123 : decode cX7_multiplied 123 = .ok (.aload_n 0, 1) := by decide +kernel
theorem dX7_multiplied_124 : decode cX7_multiplied 124 = .ok (.invokevirtual 85, 3) := by decide +kernel
theorem dX7_multiplied_127 : decode cX7_multiplied 127 = .ok (.ireturn, 1) := by decide +kernel
theorem dX7_lays_0 : decode cX7_lays 0 = .ok (.aload_n 0, 1) := by decide +kernel
theorem dX7_lays_1 : decode cX7_lays 1 = .ok (.getfield 68, 3) := by decide +kernel
theorem dX7_lays_4 : decode cX7_lays 4 = .ok (.aload_n 1, 1) := by decide +kernel
theorem dX7_lays_5 : decode cX7_lays 5 = .ok (.iconst 0, 1) := by decide +kernel
theorem dX7_lays_6 : decode cX7_lays 6 = .ok (.iaload, 1) := by decide +kernel
theorem dX7_lays_7 : decode cX7_lays 7 = .ok (.if_icmp .ne 14, 3) := by decide +kernel
theorem dX7_lays_10 : decode cX7_lays 10 = .ok (.aload_n 0, 1) := by decide +kernel
theorem dX7_lays_11 : decode cX7_lays 11 = .ok (.getfield 75, 3) := by decide +kernel
theorem dX7_lays_14 : decode cX7_lays 14 = .ok (.aload_n 1, 1) := by decide +kernel
theorem dX7_lays_15 : decode cX7_lays 15 = .ok (.iconst 1, 1) := by decide +kernel
theorem dX7_lays_16 : decode cX7_lays 16 = .ok (.iaload, 1) := by decide +kernel
theorem dX7_lays_17 : decode cX7_lays 17 = .ok (.if_icmp .ne 4, 3) := by decide +kernel
theorem dX7_lays_20 : decode cX7_lays 20 = .ok (.return_, 1) := by decide +kernel
theorem dX7_lays_21 : decode cX7_lays 21 = .ok (.aload_n 0, 1) := by decide +kernel
theorem dX7_lays_22 : decode cX7_lays 22 = .ok (.aload_n 1, 1) := by decide +kernel
theorem dX7_lays_23 : decode cX7_lays 23 = .ok (.iconst 0, 1) := by decide +kernel
theorem dX7_lays_24 : decode cX7_lays 24 = .ok (.iaload, 1) := by decide +kernel
theorem dX7_lays_25 : decode cX7_lays 25 = .ok (.putfield 68, 3) := by decide +kernel
theorem dX7_lays_28 : decode cX7_lays 28 = .ok (.aload_n 0, 1) := by decide +kernel
theorem dX7_lays_29 : decode cX7_lays 29 = .ok (.aload_n 1, 1) := by decide +kernel
theorem dX7_lays_30 : decode cX7_lays 30 = .ok (.iconst 1, 1) := by decide +kernel
theorem dX7_lays_31 : decode cX7_lays 31 = .ok (.iaload, 1) := by decide +kernel
theorem dX7_lays_32 : decode cX7_lays 32 = .ok (.putfield 75, 3) := by decide +kernel
theorem dX7_lays_35 : decode cX7_lays 35 = .ok (.aload_n 0, 1) := by decide +kernel
theorem dX7_lays_36 : decode cX7_lays 36 = .ok (.aload_n 0, 1) := by decide +kernel
theorem dX7_lays_37 : decode cX7_lays 37 = .ok (.getfield 68, 3) := by decide +kernel
theorem dX7_lays_40 : decode cX7_lays 40 = .ok (.aload_n 0, 1) := by decide +kernel
theorem dX7_lays_41 : decode cX7_lays 41 = .ok (.getfield 75, 3) := by decide +kernel
theorem dX7_lays_44 : decode cX7_lays 44 = .ok (.invokestatic 78, 3) := by decide +kernel
theorem dX7_lays_47 : decode cX7_lays 47 = .ok (.putfield 92, 3) := by decide +kernel
theorem dX7_lays_50 : decode cX7_lays 50 = .ok (.aload_n 0, 1) := by decide +kernel
theorem dX7_lays_51 : decode cX7_lays 51 = .ok (.iconst 0, 1) := by decide +kernel
theorem dX7_lays_52 : decode cX7_lays 52 = .ok (.putfield 89, 3) := by decide +kernel
theorem dX7_lays_55 : decode cX7_lays 55 = .ok (.aload_n 0, 1) := by decide +kernel
theorem dX7_lays_56 : decode cX7_lays 56 = .ok (.getfield 75, 3) := by decide +kernel
theorem dX7_lays_59 : decode cX7_lays 59 = .ok (.iconst 1, 1) := by decide +kernel
theorem dX7_lays_60 : decode cX7_lays 60 = .ok (.if_icmp .le 27, 3) := by decide +kernel
theorem dX7_lays_63 : decode cX7_lays 63 = .ok (.aload_n 0, 1) := by decide +kernel
theorem dX7_lays_64 : decode cX7_lays 64 = .ok (.aload_n 0, 1) := by decide +kernel
theorem dX7_lays_65 : decode cX7_lays 65 = .ok (.getfield 89, 3) := by decide +kernel
theorem dX7_lays_68 : decode cX7_lays 68 = .ok (.invokevirtual 95, 3) := by decide +kernel
theorem dX7_lays_71 : decode cX7_lays 71 = .ok (.ifCond .eq 16, 3) := by decide +kernel
theorem dX7_lays_74 : decode cX7_lays 74 = .ok (.aload_n 0, 1) := by decide +kernel
theorem dX7_lays_75 : decode cX7_lays 75 = .ok (.dup, 1) := by decide +kernel
theorem dX7_lays_76 : decode cX7_lays 76 = .ok (.getfield 89, 3) := by decide +kernel
theorem dX7_lays_79 : decode cX7_lays 79 = .ok (.iconst 1, 1) := by decide +kernel
theorem dX7_lays_80 : decode cX7_lays 80 = .ok (.iadd, 1) := by decide +kernel
theorem dX7_lays_81 : decode cX7_lays 81 = .ok (.putfield 89, 3) := by decide +kernel
theorem dX7_lays_84 : decode cX7_lays 84 = .ok (.goto (-29), 3) := by decide +kernel
theorem dX7_lays_87 : decode cX7_lays 87 = .ok (.iconst 0, 1) := by decide +kernel
theorem dX7_lays_88 : decode cX7_lays 88 = .ok (.istore_n 2, 1) := by decide +kernel
theorem dX7_lays_89 : decode cX7_lays 89 = .ok (.iload_n 2, 1) := by decide +kernel
theorem dX7_lays_90 : decode cX7_lays 90 = .ok (.aload_n 0, 1) := by decide +kernel
theorem dX7_lays_91 : decode cX7_lays 91 = .ok (.getfield 92, 3) := by decide +kernel
theorem dX7_lays_94 : decode cX7_lays 94 = .ok (.if_icmp .ge 90, 3) := by decide +kernel
theorem dX7_lays_97 : decode cX7_lays 97 = .ok (.iconst 0, 1) := by decide +kernel
theorem dX7_lays_98 : decode cX7_lays 98 = .ok (.istore_n 3, 1) := by decide +kernel
theorem dX7_lays_99 : decode cX7_lays 99 = .ok (.iload_n 3, 1) := by decide +kernel
theorem dX7_lays_100 : decode cX7_lays 100 = .ok (.aload_n 0, 1) := by decide +kernel
theorem dX7_lays_101 : decode cX7_lays 101 = .ok (.getfield 92, 3) := by decide +kernel
theorem dX7_lays_104 : decode cX7_lays 104 = .ok (.if_icmp .ge 74, 3) := by decide +kernel
theorem dX7_lays_107 : decode cX7_lays 107 = .ok (.aload_n 0, 1) := by decide +kernel
theorem dX7_lays_108 : decode cX7_lays 108 = .ok (.getfield 31, 3) := by decide +kernel
theorem dX7_lays_111 : decode cX7_lays 111 = .ok (.iload_n 2, 1) := by decide +kernel
theorem dX7_lays_112 : decode cX7_lays 112 = .ok (.aaload, 1) := by decide +kernel
theorem dX7_lays_113 : decode cX7_lays 113 = .ok (.iload_n 3, 1) := by decide +kernel
theorem dX7_lays_114 : decode cX7_lays 114 = .ok (.aload_n 0, 1) := by decide +kernel
theorem dX7_lays_115 : decode cX7_lays 115 = .ok (.iload_n 2, 1) := by decide +kernel
theorem dX7_lays_116 : decode cX7_lays 116 = .ok (.iload_n 3, 1) := by decide +kernel
theorem dX7_lays_117 : decode cX7_lays 117 = .ok (.invokevirtual 99, 3) := by decide +kernel
theorem dX7_lays_120 : decode cX7_lays 120 = .ok (.iastore, 1) := by decide +kernel
theorem dX7_lays_121 : decode cX7_lays 121 = .ok (.aload_n 0, 1) := by decide +kernel
theorem dX7_lays_122 : decode cX7_lays 122 = .ok (.getfield 34, 3) := by decide +kernel
theorem dX7_lays_125 : decode cX7_lays 125 = .ok (.iload_n 2, 1) := by decide +kernel
theorem dX7_lays_126 : decode cX7_lays 126 = .ok (.aaload, 1) := by decide +kernel
theorem dX7_lays_127 : decode cX7_lays 127 = .ok (.iload_n 3, 1) := by decide +kernel
theorem dX7_lays_128 : decode cX7_lays 128 = .ok (.aload_n 0, 1) := by decide +kernel
theorem dX7_lays_129 : decode cX7_lays 129 = .ok (.iload_n 2, 1) := by decide +kernel
theorem dX7_lays_130 : decode cX7_lays 130 = .ok (.iload_n 3, 1) := by decide +kernel
theorem dX7_lays_131 : decode cX7_lays 131 = .ok (.invokevirtual 102, 3) := by decide +kernel
theorem dX7_lays_134 : decode cX7_lays 134 = .ok (.iastore, 1) := by decide +kernel
theorem dX7_lays_135 : decode cX7_lays 135 = .ok (.aload_n 0, 1) := by decide +kernel
theorem dX7_lays_136 : decode cX7_lays 136 = .ok (.getfield 31, 3) := by decide +kernel
theorem dX7_lays_139 : decode cX7_lays 139 = .ok (.iload_n 2, 1) := by decide +kernel
theorem dX7_lays_140 : decode cX7_lays 140 = .ok (.aaload, 1) := by decide +kernel
theorem dX7_lays_141 : decode cX7_lays 141 = .ok (.iload_n 3, 1) := by decide +kernel
theorem dX7_lays_142 : decode cX7_lays 142 = .ok (.iaload, 1) := by decide +kernel
theorem dX7_lays_143 : decode cX7_lays 143 = .ok (.ifCond .ne 10, 3) := by decide +kernel
theorem dX7_lays_146 : decode cX7_lays 146 = .ok (.aload_n 0, 1) := by decide +kernel
theorem dX7_lays_147 : decode cX7_lays 147 = .ok (.getfield 37, 3) := by decide +kernel
theorem dX7_lays_150 : decode cX7_lays 150 = .ok (.iload_n 2, 1) := by decide +kernel
theorem dX7_lays_151 : decode cX7_lays 151 = .ok (.iload_n 3, 1) := by decide +kernel
theorem dX7_lays_152 : decode cX7_lays 152 = .ok (.iastore, 1) := by decide +kernel
theorem dX7_lays_153 : decode cX7_lays 153 = .ok (.aload_n 0, 1) := by decide +kernel
theorem dX7_lays_154 : decode cX7_lays 154 = .ok (.getfield 34, 3) := by decide +kernel
theorem dX7_lays_157 : decode cX7_lays 157 = .ok (.iload_n 2, 1) := by decide +kernel
theorem dX7_lays_158 : decode cX7_lays 158 = .ok (.aaload, 1) := by decide +kernel
theorem dX7_lays_159 : decode cX7_lays 159 = .ok (.iload_n 3, 1) := by decide +kernel
theorem dX7_lays_160 : decode cX7_lays 160 = .ok (.iaload, 1) := by decide +kernel
theorem dX7_lays_161 : decode cX7_lays 161 = .ok (.iconst 1, 1) := by decide +kernel
theorem dX7_lays_162 : decode cX7_lays 162 = .ok (.if_icmp .ne 10, 3) := by decide +kernel
theorem dX7_lays_165 : decode cX7_lays 165 = .ok (.aload_n 0, 1) := by decide +kernel
theorem dX7_lays_166 : decode cX7_lays 166 = .ok (.getfield 40, 3) := by decide +kernel
theorem dX7_lays_169 : decode cX7_lays 169 = .ok (.iload_n 2, 1) := by decide +kernel
theorem dX7_lays_170 : decode cX7_lays 170 = .ok (.iload_n 3, 1) := by decide +kernel
theorem dX7_lays_171 : decode cX7_lays 171 = .ok (.iastore, 1) := by decide +kernel
theorem dX7_lays_172 : decode cX7_lays 172 = .ok (.iinc 3 1, 3) := by decide +kernel
theorem dX7_lays_175 : decode cX7_lays 175 = .ok (.goto (-76), 3) := by decide +kernel
theorem dX7_lays_178 : decode cX7_lays 178 = .ok (.iinc 2 1, 3) := by decide +kernel
theorem dX7_lays_181 : decode cX7_lays 181 = .ok (.goto (-92), 3) := by decide +kernel
theorem dX7_lays_184 : decode cX7_lays 184 = .ok (.return_, 1) := by decide +kernel
theorem dX7_raisedPoint_0 : decode cX7_raisedPoint 0 = .ok (.iconst 1, 1) := by decide +kernel
theorem dX7_raisedPoint_1 : decode cX7_raisedPoint 1 = .ok (.istore_n 3, 1) := by decide +kernel
theorem dX7_raisedPoint_2 : decode cX7_raisedPoint 2 = .ok (.iload_n 1, 1) := by decide +kernel
theorem dX7_raisedPoint_3 : decode cX7_raisedPoint 3 = .ok (.istore 4, 2) := by decide +kernel
theorem dX7_raisedPoint_5 : decode cX7_raisedPoint 5 = .ok (.iload_n 2, 1) := by decide +kernel
theorem dX7_raisedPoint_6 : decode cX7_raisedPoint 6 = .ok (.istore 5, 2) := by decide +kernel
theorem dX7_raisedPoint_8 : decode cX7_raisedPoint 8 = .ok (.iload 5, 2) := by decide +kernel
theorem dX7_raisedPoint_10 : decode cX7_raisedPoint 10 = .ok (.ifCond .le 42, 3) := by decide +kernel
theorem dX7_raisedPoint_13 : decode cX7_raisedPoint 13 = .ok (.iload 5, 2) := by decide +kernel
theorem dX7_raisedPoint_15 : decode cX7_raisedPoint 15 = .ok (.iconst 2, 1) := by decide +kernel
theorem dX7_raisedPoint_16 : decode cX7_raisedPoint 16 = .ok (.irem, 1) := by decide +kernel
theorem dX7_raisedPoint_17 : decode cX7_raisedPoint 17 = .ok (.iconst 1, 1) := by decide +kernel
theorem dX7_raisedPoint_18 : decode cX7_raisedPoint 18 = .ok (.if_icmp .ne 13, 3) := by decide +kernel
theorem dX7_raisedPoint_21 : decode cX7_raisedPoint 21 = .ok (.aload_n 0, 1) := by decide +kernel
theorem dX7_raisedPoint_22 : decode cX7_raisedPoint 22 = .ok (.getfield 34, 3) := by decide +kernel
theorem dX7_raisedPoint_25 : decode cX7_raisedPoint 25 = .ok (.iload_n 3, 1) := by decide +kernel
theorem dX7_raisedPoint_26 : decode cX7_raisedPoint 26 = .ok (.aaload, 1) := by decide +kernel
theorem dX7_raisedPoint_27 : decode cX7_raisedPoint 27 = .ok (.iload 4, 2) := by decide +kernel
theorem dX7_raisedPoint_29 : decode cX7_raisedPoint 29 = .ok (.iaload, 1) := by decide +kernel
theorem dX7_raisedPoint_30 : decode cX7_raisedPoint 30 = .ok (.istore_n 3, 1) := by decide +kernel
theorem dX7_raisedPoint_31 : decode cX7_raisedPoint 31 = .ok (.aload_n 0, 1) := by decide +kernel
theorem dX7_raisedPoint_32 : decode cX7_raisedPoint 32 = .ok (.getfield 34, 3) := by decide +kernel
theorem dX7_raisedPoint_35 : decode cX7_raisedPoint 35 = .ok (.iload 4, 2) := by decide +kernel
theorem dX7_raisedPoint_37 : decode cX7_raisedPoint 37 = .ok (.aaload, 1) := by decide +kernel
theorem dX7_raisedPoint_38 : decode cX7_raisedPoint 38 = .ok (.iload 4, 2) := by decide +kernel
theorem dX7_raisedPoint_40 : decode cX7_raisedPoint 40 = .ok (.iaload, 1) := by decide +kernel
theorem dX7_raisedPoint_41 : decode cX7_raisedPoint 41 = .ok (.istore 4, 2) := by decide +kernel
theorem dX7_raisedPoint_43 : decode cX7_raisedPoint 43 = .ok (.iload 5, 2) := by decide +kernel
theorem dX7_raisedPoint_45 : decode cX7_raisedPoint 45 = .ok (.iconst 2, 1) := by decide +kernel
theorem dX7_raisedPoint_46 : decode cX7_raisedPoint 46 = .ok (.idiv, 1) := by decide +kernel
theorem dX7_raisedPoint_47 : decode cX7_raisedPoint 47 = .ok (.istore 5, 2) := by decide +kernel
theorem dX7_raisedPoint_49 : decode cX7_raisedPoint 49 = .ok (.goto (-41), 3) := by decide +kernel
theorem dX7_raisedPoint_52 : decode cX7_raisedPoint 52 = .ok (.iload_n 3, 1) := by decide +kernel
theorem dX7_raisedPoint_53 : decode cX7_raisedPoint 53 = .ok (.ireturn, 1) := by decide +kernel
theorem dX7_apart_0 : decode cX7_apart 0 = .ok (.aload_n 0, 1) := by decide +kernel
theorem dX7_apart_1 : decode cX7_apart 1 = .ok (.getfield 31, 3) := by decide +kernel
theorem dX7_apart_4 : decode cX7_apart 4 = .ok (.iload_n 1, 1) := by decide +kernel
theorem dX7_apart_5 : decode cX7_apart 5 = .ok (.aaload, 1) := by decide +kernel
theorem dX7_apart_6 : decode cX7_apart 6 = .ok (.aload_n 0, 1) := by decide +kernel
theorem dX7_apart_7 : decode cX7_apart 7 = .ok (.getfield 37, 3) := by decide +kernel
theorem dX7_apart_10 : decode cX7_apart 10 = .ok (.iload_n 2, 1) := by decide +kernel
theorem dX7_apart_11 : decode cX7_apart 11 = .ok (.iaload, 1) := by decide +kernel
theorem dX7_apart_12 : decode cX7_apart 12 = .ok (.iaload, 1) := by decide +kernel
theorem dX7_apart_13 : decode cX7_apart 13 = .ok (.ireturn, 1) := by decide +kernel
theorem dX7_dickson_0 : decode cX7_dickson 0 = .ok (.aload_n 0, 1) := by decide +kernel
theorem dX7_dickson_1 : decode cX7_dickson 1 = .ok (.getfield 31, 3) := by decide +kernel
theorem dX7_dickson_4 : decode cX7_dickson 4 = .ok (.iconst 1, 1) := by decide +kernel
theorem dX7_dickson_5 : decode cX7_dickson 5 = .ok (.aaload, 1) := by decide +kernel
theorem dX7_dickson_6 : decode cX7_dickson 6 = .ok (.iconst 1, 1) := by decide +kernel
theorem dX7_dickson_7 : decode cX7_dickson 7 = .ok (.iaload, 1) := by decide +kernel
theorem dX7_dickson_8 : decode cX7_dickson 8 = .ok (.istore 4, 2) := by decide +kernel
theorem dX7_dickson_10 : decode cX7_dickson 10 = .ok (.iload_n 3, 1) := by decide +kernel
theorem dX7_dickson_11 : decode cX7_dickson 11 = .ok (.istore 5, 2) := by decide +kernel
theorem dX7_dickson_13 : decode cX7_dickson 13 = .ok (.iload_n 1, 1) := by decide +kernel
theorem dX7_dickson_14 : decode cX7_dickson 14 = .ok (.ifCond .ne 6, 3) := by decide +kernel
theorem dX7_dickson_17 : decode cX7_dickson 17 = .ok (.iload 4, 2) := by decide +kernel
theorem dX7_dickson_19 : decode cX7_dickson 19 = .ok (.ireturn, 1) := by decide +kernel
theorem dX7_dickson_20 : decode cX7_dickson 20 = .ok (.iconst 1, 1) := by decide +kernel
theorem dX7_dickson_21 : decode cX7_dickson 21 = .ok (.istore 6, 2) := by decide +kernel
theorem dX7_dickson_23 : decode cX7_dickson 23 = .ok (.iload 6, 2) := by decide +kernel
theorem dX7_dickson_25 : decode cX7_dickson 25 = .ok (.iload_n 1, 1) := by decide +kernel
theorem dX7_dickson_26 : decode cX7_dickson 26 = .ok (.if_icmp .ge 41, 3) := by decide +kernel
theorem dX7_dickson_29 : decode cX7_dickson 29 = .ok (.aload_n 0, 1) := by decide +kernel
theorem dX7_dickson_30 : decode cX7_dickson 30 = .ok (.aload_n 0, 1) := by decide +kernel
theorem dX7_dickson_31 : decode cX7_dickson 31 = .ok (.getfield 34, 3) := by decide +kernel
theorem dX7_dickson_34 : decode cX7_dickson 34 = .ok (.iload_n 3, 1) := by decide +kernel
theorem dX7_dickson_35 : decode cX7_dickson 35 = .ok (.aaload, 1) := by decide +kernel
theorem dX7_dickson_36 : decode cX7_dickson 36 = .ok (.iload 5, 2) := by decide +kernel
theorem dX7_dickson_38 : decode cX7_dickson 38 = .ok (.iaload, 1) := by decide +kernel
theorem dX7_dickson_39 : decode cX7_dickson 39 = .ok (.aload_n 0, 1) := by decide +kernel
theorem dX7_dickson_40 : decode cX7_dickson 40 = .ok (.getfield 34, 3) := by decide +kernel
theorem dX7_dickson_43 : decode cX7_dickson 43 = .ok (.iload_n 2, 1) := by decide +kernel
theorem dX7_dickson_44 : decode cX7_dickson 44 = .ok (.aaload, 1) := by decide +kernel
theorem dX7_dickson_45 : decode cX7_dickson 45 = .ok (.iload 4, 2) := by decide +kernel
theorem dX7_dickson_47 : decode cX7_dickson 47 = .ok (.iaload, 1) := by decide +kernel
theorem dX7_dickson_48 : decode cX7_dickson 48 = .ok (.invokevirtual 105, 3) := by decide +kernel
theorem dX7_dickson_51 : decode cX7_dickson 51 = .ok (.istore 7, 2) := by decide +kernel
theorem dX7_dickson_53 : decode cX7_dickson 53 = .ok (.iload 5, 2) := by decide +kernel
theorem dX7_dickson_55 : decode cX7_dickson 55 = .ok (.istore 4, 2) := by decide +kernel
theorem dX7_dickson_57 : decode cX7_dickson 57 = .ok (.iload 7, 2) := by decide +kernel
theorem dX7_dickson_59 : decode cX7_dickson 59 = .ok (.istore 5, 2) := by decide +kernel
theorem dX7_dickson_61 : decode cX7_dickson 61 = .ok (.iinc 6 1, 3) := by decide +kernel
theorem dX7_dickson_64 : decode cX7_dickson 64 = .ok (.goto (-41), 3) := by decide +kernel
theorem dX7_dickson_67 : decode cX7_dickson 67 = .ok (.iload 5, 2) := by decide +kernel
theorem dX7_dickson_69 : decode cX7_dickson 69 = .ok (.ireturn, 1) := by decide +kernel
theorem dX7_byteAt_0 : decode cX7_byteAt 0 = .ok (.iload_n 1, 1) := by decide +kernel
theorem dX7_byteAt_1 : decode cX7_byteAt 1 = .ok (.aload_n 0, 1) := by decide +kernel
theorem dX7_byteAt_2 : decode cX7_byteAt 2 = .ok (.getfield 108, 3) := by decide +kernel
theorem dX7_byteAt_5 : decode cX7_byteAt 5 = .ok (.if_icmp .lt 7, 3) := by decide +kernel
theorem dX7_byteAt_8 : decode cX7_byteAt 8 = .ok (.iconst (-1), 1) := by decide +kernel
theorem dX7_byteAt_9 : decode cX7_byteAt 9 = .ok (.goto 9, 3) := by decide +kernel
theorem dX7_byteAt_12 : decode cX7_byteAt 12 = .ok (.aload_n 0, 1) := by decide +kernel
theorem dX7_byteAt_13 : decode cX7_byteAt 13 = .ok (.getfield 17, 3) := by decide +kernel
theorem dX7_byteAt_16 : decode cX7_byteAt 16 = .ok (.iload_n 1, 1) := by decide +kernel
theorem dX7_byteAt_17 : decode cX7_byteAt 17 = .ok (.iaload, 1) := by decide +kernel
theorem dX7_byteAt_18 : decode cX7_byteAt 18 = .ok (.ireturn, 1) := by decide +kernel
theorem dX7_here_0 : decode cX7_here 0 = .ok (.aload_n 0, 1) := by decide +kernel
theorem dX7_here_1 : decode cX7_here 1 = .ok (.aload_n 0, 1) := by decide +kernel
theorem dX7_here_2 : decode cX7_here 2 = .ok (.getfield 111, 3) := by decide +kernel
theorem dX7_here_5 : decode cX7_here 5 = .ok (.invokevirtual 114, 3) := by decide +kernel
theorem dX7_here_8 : decode cX7_here 8 = .ok (.bipush 32, 2) := by decide +kernel
theorem dX7_here_10 : decode cX7_here 10 = .ok (.if_icmp .ne 16, 3) := by decide +kernel
theorem dX7_here_13 : decode cX7_here 13 = .ok (.aload_n 0, 1) := by decide +kernel
theorem dX7_here_14 : decode cX7_here 14 = .ok (.dup, 1) := by decide +kernel
theorem dX7_here_15 : decode cX7_here 15 = .ok (.getfield 111, 3) := by decide +kernel
theorem dX7_here_18 : decode cX7_here 18 = .ok (.iconst 1, 1) := by decide +kernel
theorem dX7_here_19 : decode cX7_here 19 = .ok (.iadd, 1) := by decide +kernel
theorem dX7_here_20 : decode cX7_here 20 = .ok (.putfield 111, 3) := by decide +kernel
theorem dX7_here_23 : decode cX7_here 23 = .ok (.goto (-23), 3) := by decide +kernel
theorem dX7_here_26 : decode cX7_here 26 = .ok (.aload_n 0, 1) := by decide +kernel
theorem dX7_here_27 : decode cX7_here 27 = .ok (.aload_n 0, 1) := by decide +kernel
theorem dX7_here_28 : decode cX7_here 28 = .ok (.getfield 111, 3) := by decide +kernel
theorem dX7_here_31 : decode cX7_here 31 = .ok (.invokevirtual 114, 3) := by decide +kernel
theorem dX7_here_34 : decode cX7_here 34 = .ok (.ireturn, 1) := by decide +kernel
theorem dX7_fine_0 : decode cX7_fine 0 = .ok (.aload_n 0, 1) := by decide +kernel
theorem dX7_fine_1 : decode cX7_fine 1 = .ok (.getfield 118, 3) := by decide +kernel
theorem dX7_fine_4 : decode cX7_fine 4 = .ok (.ifCond .ne 7, 3) := by decide +kernel
theorem dX7_fine_7 : decode cX7_fine 7 = .ok (.iconst 1, 1) := by decide +kernel
theorem dX7_fine_8 : decode cX7_fine 8 = .ok (.goto 4, 3) := by decide +kernel
theorem dX7_fine_11 : decode cX7_fine 11 = .ok (.iconst 0, 1) := by decide +kernel
theorem dX7_fine_12 : decode cX7_fine 12 = .ok (.ireturn, 1) := by decide +kernel
theorem dX7_wrong_0 : decode cX7_wrong 0 = .ok (.aload_n 0, 1) := by decide +kernel
theorem dX7_wrong_1 : decode cX7_wrong 1 = .ok (.getfield 118, 3) := by decide +kernel
theorem dX7_wrong_4 : decode cX7_wrong 4 = .ok (.ifCond .ne 13, 3) := by decide +kernel
theorem dX7_wrong_7 : decode cX7_wrong 7 = .ok (.aload_n 0, 1) := by decide +kernel
theorem dX7_wrong_8 : decode cX7_wrong 8 = .ok (.iload_n 1, 1) := by decide +kernel
theorem dX7_wrong_9 : decode cX7_wrong 9 = .ok (.putfield 118, 3) := by decide +kernel
theorem dX7_wrong_12 : decode cX7_wrong 12 = .ok (.aload_n 0, 1) := by decide +kernel
theorem dX7_wrong_13 : decode cX7_wrong 13 = .ok (.iload_n 2, 1) := by decide +kernel
theorem dX7_wrong_14 : decode cX7_wrong 14 = .ok (.putfield 121, 3) := by decide +kernel
theorem dX7_wrong_17 : decode cX7_wrong 17 = .ok (.return_, 1) := by decide +kernel
theorem dX7_isSmall_0 : decode cX7_isSmall 0 = .ok (.iload_n 0, 1) := by decide +kernel
theorem dX7_isSmall_1 : decode cX7_isSmall 1 = .ok (.bipush 97, 2) := by decide +kernel
theorem dX7_isSmall_3 : decode cX7_isSmall 3 = .ok (.if_icmp .lt 13, 3) := by decide +kernel
theorem dX7_isSmall_6 : decode cX7_isSmall 6 = .ok (.iload_n 0, 1) := by decide +kernel
theorem dX7_isSmall_7 : decode cX7_isSmall 7 = .ok (.bipush 122, 2) := by decide +kernel
theorem dX7_isSmall_9 : decode cX7_isSmall 9 = .ok (.if_icmp .gt 7, 3) := by decide +kernel
theorem dX7_isSmall_12 : decode cX7_isSmall 12 = .ok (.iconst 1, 1) := by decide +kernel
theorem dX7_isSmall_13 : decode cX7_isSmall 13 = .ok (.goto 4, 3) := by decide +kernel
theorem dX7_isSmall_16 : decode cX7_isSmall 16 = .ok (.iconst 0, 1) := by decide +kernel
theorem dX7_isSmall_17 : decode cX7_isSmall 17 = .ok (.ireturn, 1) := by decide +kernel
theorem dX7_isDigit_0 : decode cX7_isDigit 0 = .ok (.iload_n 0, 1) := by decide +kernel
theorem dX7_isDigit_1 : decode cX7_isDigit 1 = .ok (.bipush 48, 2) := by decide +kernel
theorem dX7_isDigit_3 : decode cX7_isDigit 3 = .ok (.if_icmp .lt 13, 3) := by decide +kernel
theorem dX7_isDigit_6 : decode cX7_isDigit 6 = .ok (.iload_n 0, 1) := by decide +kernel
theorem dX7_isDigit_7 : decode cX7_isDigit 7 = .ok (.bipush 57, 2) := by decide +kernel
theorem dX7_isDigit_9 : decode cX7_isDigit 9 = .ok (.if_icmp .gt 7, 3) := by decide +kernel
theorem dX7_isDigit_12 : decode cX7_isDigit 12 = .ok (.iconst 1, 1) := by decide +kernel
theorem dX7_isDigit_13 : decode cX7_isDigit 13 = .ok (.goto 4, 3) := by decide +kernel
theorem dX7_isDigit_16 : decode cX7_isDigit 16 = .ok (.iconst 0, 1) := by decide +kernel
theorem dX7_isDigit_17 : decode cX7_isDigit 17 = .ok (.ireturn, 1) := by decide +kernel
theorem dX7_takes_0 : decode cX7_takes 0 = .ok (.aload_n 0, 1) := by decide +kernel
theorem dX7_takes_1 : decode cX7_takes 1 = .ok (.invokevirtual 124, 3) := by decide +kernel
theorem dX7_takes_4 : decode cX7_takes 4 = .ok (.ifCond .ne 5, 3) := by decide +kernel
theorem dX7_takes_7 : decode cX7_takes 7 = .ok (.iconst 0, 1) := by decide +kernel
theorem dX7_takes_8 : decode cX7_takes 8 = .ok (.ireturn, 1) := by decide +kernel
theorem dX7_takes_9 : decode cX7_takes 9 = .ok (.aload_n 0, 1) := by decide +kernel
theorem dX7_takes_10 : decode cX7_takes 10 = .ok (.invokevirtual 128, 3) := by decide +kernel
theorem dX7_takes_13 : decode cX7_takes 13 = .ok (.pop, 1) := by decide +kernel
theorem dX7_takes_14 : decode cX7_takes 14 = .ok (.iconst 0, 1) := by decide +kernel
theorem dX7_takes_15 : decode cX7_takes 15 = .ok (.istore_n 2, 1) := by decide +kernel
theorem dX7_takes_16 : decode cX7_takes 16 = .ok (.iload_n 2, 1) := by decide +kernel
theorem dX7_takes_17 : decode cX7_takes 17 = .ok (.aload_n 1, 1) := by decide +kernel
theorem dX7_takes_18 : decode cX7_takes 18 = .ok (.invokevirtual 131, 3) := by decide +kernel
theorem dX7_takes_21 : decode cX7_takes 21 = .ok (.if_icmp .ge 27, 3) := by decide +kernel
theorem dX7_takes_24 : decode cX7_takes 24 = .ok (.aload_n 0, 1) := by decide +kernel
theorem dX7_takes_25 : decode cX7_takes 25 = .ok (.aload_n 0, 1) := by decide +kernel
theorem dX7_takes_26 : decode cX7_takes 26 = .ok (.getfield 111, 3) := by decide +kernel
theorem dX7_takes_29 : decode cX7_takes 29 = .ok (.iload_n 2, 1) := by decide +kernel
theorem dX7_takes_30 : decode cX7_takes 30 = .ok (.iadd, 1) := by decide +kernel
theorem dX7_takes_31 : decode cX7_takes 31 = .ok (.invokevirtual 114, 3) := by decide +kernel
theorem dX7_takes_34 : decode cX7_takes 34 = .ok (.aload_n 1, 1) := by decide +kernel
theorem dX7_takes_35 : decode cX7_takes 35 = .ok (.iload_n 2, 1) := by decide +kernel
theorem dX7_takes_36 : decode cX7_takes 36 = .ok (.invokevirtual 136, 3) := by decide +kernel
theorem dX7_takes_39 : decode cX7_takes 39 = .ok (.if_icmp .ne 9, 3) := by decide +kernel
theorem dX7_takes_42 : decode cX7_takes 42 = .ok (.iinc 2 1, 3) := by decide +kernel
theorem dX7_takes_45 : decode cX7_takes 45 = .ok (.goto (-29), 3) := by decide +kernel
theorem dX7_takes_48 : decode cX7_takes 48 = .ok (.iload_n 2, 1) := by decide +kernel
theorem dX7_takes_49 : decode cX7_takes 49 = .ok (.aload_n 1, 1) := by decide +kernel
theorem dX7_takes_50 : decode cX7_takes 50 = .ok (.invokevirtual 131, 3) := by decide +kernel
theorem dX7_takes_53 : decode cX7_takes 53 = .ok (.if_icmp .lt 19, 3) := by decide +kernel
theorem dX7_takes_56 : decode cX7_takes 56 = .ok (.aload_n 0, 1) := by decide +kernel
theorem dX7_takes_57 : decode cX7_takes 57 = .ok (.aload_n 0, 1) := by decide +kernel
theorem dX7_takes_58 : decode cX7_takes 58 = .ok (.getfield 111, 3) := by decide +kernel
theorem dX7_takes_61 : decode cX7_takes 61 = .ok (.iload_n 2, 1) := by decide +kernel
theorem dX7_takes_62 : decode cX7_takes 62 = .ok (.iadd, 1) := by decide +kernel
theorem dX7_takes_63 : decode cX7_takes 63 = .ok (.invokevirtual 114, 3) := by decide +kernel
theorem dX7_takes_66 : decode cX7_takes 66 = .ok (.invokestatic 140, 3) := by decide +kernel
theorem dX7_takes_69 : decode cX7_takes 69 = .ok (.ifCond .eq 5, 3) := by decide +kernel
theorem dX7_takes_72 : decode cX7_takes 72 = .ok (.iconst 0, 1) := by decide +kernel
theorem dX7_takes_73 : decode cX7_takes 73 = .ok (.ireturn, 1) := by decide +kernel
theorem dX7_takes_74 : decode cX7_takes 74 = .ok (.aload_n 0, 1) := by decide +kernel
theorem dX7_takes_75 : decode cX7_takes 75 = .ok (.dup, 1) := by decide +kernel
theorem dX7_takes_76 : decode cX7_takes 76 = .ok (.getfield 111, 3) := by decide +kernel
theorem dX7_takes_79 : decode cX7_takes 79 = .ok (.iload_n 2, 1) := by decide +kernel
theorem dX7_takes_80 : decode cX7_takes 80 = .ok (.iadd, 1) := by decide +kernel
theorem dX7_takes_81 : decode cX7_takes 81 = .ok (.putfield 111, 3) := by decide +kernel
theorem dX7_takes_84 : decode cX7_takes 84 = .ok (.iconst 1, 1) := by decide +kernel
theorem dX7_takes_85 : decode cX7_takes 85 = .ok (.ireturn, 1) := by decide +kernel
theorem dX7_must_0 : decode cX7_must 0 = .ok (.aload_n 0, 1) := by decide +kernel
theorem dX7_must_1 : decode cX7_must 1 = .ok (.invokevirtual 124, 3) := by decide +kernel
theorem dX7_must_4 : decode cX7_must 4 = .ok (.ifCond .ne 4, 3) := by decide +kernel
theorem dX7_must_7 : decode cX7_must 7 = .ok (.return_, 1) := by decide +kernel
theorem dX7_must_8 : decode cX7_must 8 = .ok (.aload_n 0, 1) := by decide +kernel
theorem dX7_must_9 : decode cX7_must 9 = .ok (.invokevirtual 128, 3) := by decide +kernel
theorem dX7_must_12 : decode cX7_must 12 = .ok (.iload_n 1, 1) := by decide +kernel
theorem dX7_must_13 : decode cX7_must 13 = .ok (.if_icmp .ne 16, 3) := by decide +kernel
theorem dX7_must_16 : decode cX7_must 16 = .ok (.aload_n 0, 1) := by decide +kernel
theorem dX7_must_17 : decode cX7_must 17 = .ok (.dup, 1) := by decide +kernel
theorem dX7_must_18 : decode cX7_must 18 = .ok (.getfield 111, 3) := by decide +kernel
theorem dX7_must_21 : decode cX7_must 21 = .ok (.iconst 1, 1) := by decide +kernel
theorem dX7_must_22 : decode cX7_must 22 = .ok (.iadd, 1) := by decide +kernel
theorem dX7_must_23 : decode cX7_must 23 = .ok (.putfield 111, 3) := by decide +kernel
theorem dX7_must_26 : decode cX7_must 26 = .ok (.goto 12, 3) := by decide +kernel
theorem dX7_must_29 : decode cX7_must 29 = .ok (.aload_n 0, 1) := by decide +kernel
theorem dX7_must_30 : decode cX7_must 30 = .ok (.iconst 1, 1) := by decide +kernel
theorem dX7_must_31 : decode cX7_must 31 = .ok (.aload_n 0, 1) := by decide +kernel
theorem dX7_must_32 : decode cX7_must 32 = .ok (.getfield 111, 3) := by decide +kernel
theorem dX7_must_35 : decode cX7_must 35 = .ok (.invokevirtual 143, 3) := by decide +kernel
theorem dX7_must_38 : decode cX7_must 38 = .ok (.return_, 1) := by decide +kernel
theorem dX7_number_0 : decode cX7_number 0 = .ok (.aload_n 0, 1) := by decide +kernel
theorem dX7_number_1 : decode cX7_number 1 = .ok (.invokevirtual 124, 3) := by decide +kernel
theorem dX7_number_4 : decode cX7_number 4 = .ok (.ifCond .ne 5, 3) := by decide +kernel
theorem dX7_number_7 : decode cX7_number 7 = .ok (.iconst 0, 1) := by decide +kernel
theorem dX7_number_8 : decode cX7_number 8 = .ok (.ireturn, 1) := by decide +kernel
theorem dX7_number_9 : decode cX7_number 9 = .ok (.aload_n 0, 1) := by decide +kernel
theorem dX7_number_10 : decode cX7_number 10 = .ok (.invokevirtual 128, 3) := by decide +kernel
theorem dX7_number_13 : decode cX7_number 13 = .ok (.invokestatic 147, 3) := by decide +kernel
theorem dX7_number_16 : decode cX7_number 16 = .ok (.ifCond .ne 14, 3) := by decide +kernel
theorem dX7_number_19 : decode cX7_number 19 = .ok (.aload_n 0, 1) := by decide +kernel
theorem dX7_number_20 : decode cX7_number 20 = .ok (.iconst 1, 1) := by decide +kernel
theorem dX7_number_21 : decode cX7_number 21 = .ok (.aload_n 0, 1) := by decide +kernel
theorem dX7_number_22 : decode cX7_number 22 = .ok (.getfield 111, 3) := by decide +kernel
theorem dX7_number_25 : decode cX7_number 25 = .ok (.invokevirtual 143, 3) := by decide +kernel
theorem dX7_number_28 : decode cX7_number 28 = .ok (.iconst 0, 1) := by decide +kernel
theorem dX7_number_29 : decode cX7_number 29 = .ok (.ireturn, 1) := by decide +kernel
theorem dX7_number_30 : decode cX7_number 30 = .ok (.aload_n 0, 1) := by decide +kernel
theorem dX7_number_31 : decode cX7_number 31 = .ok (.aload_n 0, 1) := by decide +kernel
theorem dX7_number_32 : decode cX7_number 32 = .ok (.getfield 111, 3) := by decide +kernel
theorem dX7_number_35 : decode cX7_number 35 = .ok (.putfield 150, 3) := by decide +kernel
theorem dX7_number_38 : decode cX7_number 38 = .ok (.iconst 0, 1) := by decide +kernel
theorem dX7_number_39 : decode cX7_number 39 = .ok (.istore_n 3, 1) := by decide +kernel
theorem dX7_number_40 : decode cX7_number 40 = .ok (.aload_n 0, 1) := by decide +kernel
theorem dX7_number_41 : decode cX7_number 41 = .ok (.aload_n 0, 1) := by decide +kernel
theorem dX7_number_42 : decode cX7_number 42 = .ok (.getfield 111, 3) := by decide +kernel
theorem dX7_number_45 : decode cX7_number 45 = .ok (.invokevirtual 114, 3) := by decide +kernel
theorem dX7_number_48 : decode cX7_number 48 = .ok (.invokestatic 147, 3) := by decide +kernel
theorem dX7_number_51 : decode cX7_number 51 = .ok (.ifCond .eq 38, 3) := by decide +kernel
theorem dX7_number_54 : decode cX7_number 54 = .ok (.ldc 153, 2) := by decide +kernel
theorem dX7_number_56 : decode cX7_number 56 = .ok (.bipush 10, 2) := by decide +kernel
theorem dX7_number_58 : decode cX7_number 58 = .ok (.iload_n 3, 1) := by decide +kernel
theorem dX7_number_59 : decode cX7_number 59 = .ok (.imul, 1) := by decide +kernel
theorem dX7_number_60 : decode cX7_number 60 = .ok (.aload_n 0, 1) := by decide +kernel
theorem dX7_number_61 : decode cX7_number 61 = .ok (.aload_n 0, 1) := by decide +kernel
theorem dX7_number_62 : decode cX7_number 62 = .ok (.getfield 111, 3) := by decide +kernel
theorem dX7_number_65 : decode cX7_number 65 = .ok (.invokevirtual 114, 3) := by decide +kernel
theorem dX7_number_68 : decode cX7_number 68 = .ok (.iadd, 1) := by decide +kernel
theorem dX7_number_69 : decode cX7_number 69 = .ok (.bipush 48, 2) := by decide +kernel
theorem dX7_number_71 : decode cX7_number 71 = .ok (.isub, 1) := by decide +kernel
theorem dX7_number_72 : decode cX7_number 72 = .ok (.invokestatic 64, 3) := by decide +kernel
theorem dX7_number_75 : decode cX7_number 75 = .ok (.istore_n 3, 1) := by decide +kernel
theorem dX7_number_76 : decode cX7_number 76 = .ok (.aload_n 0, 1) := by decide +kernel
theorem dX7_number_77 : decode cX7_number 77 = .ok (.dup, 1) := by decide +kernel
theorem dX7_number_78 : decode cX7_number 78 = .ok (.getfield 111, 3) := by decide +kernel
theorem dX7_number_81 : decode cX7_number 81 = .ok (.iconst 1, 1) := by decide +kernel
theorem dX7_number_82 : decode cX7_number 82 = .ok (.iadd, 1) := by decide +kernel
theorem dX7_number_83 : decode cX7_number 83 = .ok (.putfield 111, 3) := by decide +kernel
theorem dX7_number_86 : decode cX7_number 86 = .ok (.goto (-46), 3) := by decide +kernel
theorem dX7_number_89 : decode cX7_number 89 = .ok (.iload_n 3, 1) := by decide +kernel
theorem dX7_number_90 : decode cX7_number 90 = .ok (.i2l, 1) := by decide +kernel
theorem dX7_number_91 : decode cX7_number 91 = .ok (.iload_n 1, 1) := by decide +kernel
theorem dX7_number_92 : decode cX7_number 92 = .ok (.i2l, 1) := by decide +kernel
theorem dX7_number_93 : decode cX7_number 93 = .ok (.iload_n 2, 1) := by decide +kernel
theorem dX7_number_94 : decode cX7_number 94 = .ok (.i2l, 1) := by decide +kernel
theorem dX7_number_95 : decode cX7_number 95 = .ok (.invokestatic 154, 3) := by decide +kernel
theorem dX7_number_98 : decode cX7_number 98 = .ok (.ifCond .ne 12, 3) := by decide +kernel
theorem dX7_number_101 : decode cX7_number 101 = .ok (.aload_n 0, 1) := by decide +kernel
theorem dX7_number_102 : decode cX7_number 102 = .ok (.iconst 2, 1) := by decide +kernel
theorem dX7_number_103 : decode cX7_number 103 = .ok (.aload_n 0, 1) := by decide +kernel
theorem dX7_number_104 : decode cX7_number 104 = .ok (.getfield 150, 3) := by decide +kernel
theorem dX7_number_107 : decode cX7_number 107 = .ok (.invokevirtual 143, 3) := by decide +kernel
theorem dX7_number_110 : decode cX7_number 110 = .ok (.aload_n 0, 1) := by decide +kernel
theorem dX7_number_111 : decode cX7_number 111 = .ok (.invokevirtual 124, 3) := by decide +kernel
theorem dX7_number_114 : decode cX7_number 114 = .ok (.ifCond .eq 7, 3) := by decide +kernel
theorem dX7_number_117 : decode cX7_number 117 = .ok (.iload_n 3, 1) := by decide +kernel
theorem dX7_number_118 : decode cX7_number 118 = .ok (.goto 4, 3) := by decide +kernel
theorem dX7_number_121 : decode cX7_number 121 = .ok (.iconst 0, 1) := by decide +kernel
theorem dX7_number_122 : decode cX7_number 122 = .ok (.ireturn, 1) := by decide +kernel
theorem dX7_opens_0 : decode cX7_opens 0 = .ok (.aload_n 0, 1) := by decide +kernel
theorem dX7_opens_1 : decode cX7_opens 1 = .ok (.invokevirtual 128, 3) := by decide +kernel
theorem dX7_opens_4 : decode cX7_opens 4 = .ok (.bipush 40, 2) := by decide +kernel
theorem dX7_opens_6 : decode cX7_opens 6 = .ok (.if_icmp .ne 20, 3) := by decide +kernel
theorem dX7_opens_9 : decode cX7_opens 9 = .ok (.aload_n 0, 1) := by decide +kernel
theorem dX7_opens_10 : decode cX7_opens 10 = .ok (.getfield 158, 3) := by decide +kernel
theorem dX7_opens_13 : decode cX7_opens 13 = .ok (.iconst 4, 1) := by decide +kernel
theorem dX7_opens_14 : decode cX7_opens 14 = .ok (.if_icmp .ne 12, 3) := by decide +kernel
theorem dX7_opens_17 : decode cX7_opens 17 = .ok (.aload_n 0, 1) := by decide +kernel
theorem dX7_opens_18 : decode cX7_opens 18 = .ok (.iconst 4, 1) := by decide +kernel
theorem dX7_opens_19 : decode cX7_opens 19 = .ok (.aload_n 0, 1) := by decide +kernel
theorem dX7_opens_20 : decode cX7_opens 20 = .ok (.getfield 111, 3) := by decide +kernel
theorem dX7_opens_23 : decode cX7_opens 23 = .ok (.invokevirtual 143, 3) := by decide +kernel
theorem dX7_opens_26 : decode cX7_opens 26 = .ok (.aload_n 0, 1) := by decide +kernel
theorem dX7_opens_27 : decode cX7_opens 27 = .ok (.bipush 40, 2) := by decide +kernel
theorem dX7_opens_29 : decode cX7_opens 29 = .ok (.invokevirtual 161, 3) := by decide +kernel
theorem dX7_opens_32 : decode cX7_opens 32 = .ok (.aload_n 0, 1) := by decide +kernel
theorem dX7_opens_33 : decode cX7_opens 33 = .ok (.dup, 1) := by decide +kernel
theorem dX7_opens_34 : decode cX7_opens 34 = .ok (.getfield 158, 3) := by decide +kernel
theorem dX7_opens_37 : decode cX7_opens 37 = .ok (.iconst 1, 1) := by decide +kernel
theorem dX7_opens_38 : decode cX7_opens 38 = .ok (.iadd, 1) := by decide +kernel
theorem dX7_opens_39 : decode cX7_opens 39 = .ok (.putfield 158, 3) := by decide +kernel
theorem dX7_opens_42 : decode cX7_opens 42 = .ok (.return_, 1) := by decide +kernel
theorem dX7_closes_0 : decode cX7_closes 0 = .ok (.aload_n 0, 1) := by decide +kernel
theorem dX7_closes_1 : decode cX7_closes 1 = .ok (.bipush 41, 2) := by decide +kernel
theorem dX7_closes_3 : decode cX7_closes 3 = .ok (.invokevirtual 161, 3) := by decide +kernel
theorem dX7_closes_6 : decode cX7_closes 6 = .ok (.aload_n 0, 1) := by decide +kernel
theorem dX7_closes_7 : decode cX7_closes 7 = .ok (.dup, 1) := by decide +kernel
theorem dX7_closes_8 : decode cX7_closes 8 = .ok (.getfield 158, 3) := by decide +kernel
theorem dX7_closes_11 : decode cX7_closes 11 = .ok (.iconst 1, 1) := by decide +kernel
theorem dX7_closes_12 : decode cX7_closes 12 = .ok (.isub, 1) := by decide +kernel
theorem dX7_closes_13 : decode cX7_closes 13 = .ok (.putfield 158, 3) := by decide +kernel
theorem dX7_closes_16 : decode cX7_closes 16 = .ok (.return_, 1) := by decide +kernel
theorem dX7_row_0 : decode cX7_row 0 = .ok (.bipush 64, 2) := by decide +kernel
theorem dX7_row_2 : decode cX7_row 2 = .ok (.newarray .int, 2) := by decide +kernel
theorem dX7_row_4 : decode cX7_row 4 = .ok (.astore_n 2, 1) := by decide +kernel
theorem dX7_row_5 : decode cX7_row 5 = .ok (.iconst 0, 1) := by decide +kernel
theorem dX7_row_6 : decode cX7_row 6 = .ok (.istore_n 3, 1) := by decide +kernel
theorem dX7_row_7 : decode cX7_row 7 = .ok (.iload_n 3, 1) := by decide +kernel
theorem dX7_row_8 : decode cX7_row 8 = .ok (.aload_n 0, 1) := by decide +kernel
theorem dX7_row_9 : decode cX7_row 9 = .ok (.getfield 92, 3) := by decide +kernel
theorem dX7_row_12 : decode cX7_row 12 = .ok (.if_icmp .ge 22, 3) := by decide +kernel
theorem dX7_row_15 : decode cX7_row 15 = .ok (.aload_n 2, 1) := by decide +kernel
theorem dX7_row_16 : decode cX7_row 16 = .ok (.iload_n 3, 1) := by decide +kernel
theorem dX7_row_17 : decode cX7_row 17 = .ok (.iload_n 1, 1) := by decide +kernel
theorem dX7_row_18 : decode cX7_row 18 = .ok (.iconst (-1), 1) := by decide +kernel
theorem dX7_row_19 : decode cX7_row 19 = .ok (.if_icmp .ne 7, 3) := by decide +kernel
theorem dX7_row_22 : decode cX7_row 22 = .ok (.iload_n 3, 1) := by decide +kernel
theorem dX7_row_23 : decode cX7_row 23 = .ok (.goto 4, 3) := by decide +kernel
theorem dX7_row_26 : decode cX7_row 26 = .ok (.iload_n 1, 1) := by decide +kernel
theorem dX7_row_27 : decode cX7_row 27 = .ok (.iastore, 1) := by decide +kernel
theorem dX7_row_28 : decode cX7_row 28 = .ok (.iinc 3 1, 3) := by decide +kernel
theorem dX7_row_31 : decode cX7_row 31 = .ok (.goto (-24), 3) := by decide +kernel
theorem dX7_row_34 : decode cX7_row 34 = .ok (.aload_n 2, 1) := by decide +kernel
theorem dX7_row_35 : decode cX7_row 35 = .ok (.areturn, 1) := by decide +kernel
theorem dX7_part_0 : decode cX7_part 0 = .ok (.aload_n 0, 1) := by decide +kernel
theorem dX7_part_1 : decode cX7_part 1 = .ok (.invokevirtual 124, 3) := by decide +kernel
theorem dX7_part_4 : decode cX7_part 4 = .ok (.ifCond .ne 9, 3) := by decide +kernel
theorem dX7_part_7 : decode cX7_part 7 = .ok (.aload_n 0, 1) := by decide +kernel
theorem dX7_part_8 : decode cX7_part 8 = .ok (.iconst 0, 1) := by decide +kernel
theorem dX7_part_9 : decode cX7_part 9 = .ok (.invokevirtual 165, 3) := by decide +kernel
theorem dX7_part_12 : decode cX7_part 12 = .ok (.areturn, 1) := by decide +kernel
theorem dX7_part_13 : decode cX7_part 13 = .ok (.aload_n 0, 1) := by decide +kernel
theorem dX7_part_14 : decode cX7_part 14 = .ok (.invokevirtual 128, 3) := by decide +kernel
theorem dX7_part_17 : decode cX7_part 17 = .ok (.invokestatic 147, 3) := by decide +kernel
theorem dX7_part_20 : decode cX7_part 20 = .ok (.ifCond .eq 19, 3) := by decide +kernel
theorem dX7_part_23 : decode cX7_part 23 = .ok (.aload_n 0, 1) := by decide +kernel
theorem dX7_part_24 : decode cX7_part 24 = .ok (.aload_n 0, 1) := by decide +kernel
theorem dX7_part_25 : decode cX7_part 25 = .ok (.iconst 0, 1) := by decide +kernel
theorem dX7_part_26 : decode cX7_part 26 = .ok (.aload_n 0, 1) := by decide +kernel
theorem dX7_part_27 : decode cX7_part 27 = .ok (.getfield 92, 3) := by decide +kernel
theorem dX7_part_30 : decode cX7_part 30 = .ok (.iconst 1, 1) := by decide +kernel
theorem dX7_part_31 : decode cX7_part 31 = .ok (.isub, 1) := by decide +kernel
theorem dX7_part_32 : decode cX7_part 32 = .ok (.invokevirtual 169, 3) := by decide +kernel
theorem dX7_part_35 : decode cX7_part 35 = .ok (.invokevirtual 165, 3) := by decide +kernel
theorem dX7_part_38 : decode cX7_part 38 = .ok (.areturn, 1) := by decide +kernel
theorem dX7_part_39 : decode cX7_part 39 = .ok (.aload_n 0, 1) := by decide +kernel
theorem dX7_part_40 : decode cX7_part 40 = .ok (.ldc 172, 2) := by decide +kernel
theorem dX7_part_42 : decode cX7_part 42 = .ok (.invokevirtual 174, 3) := by decide +kernel
theorem dX7_part_45 : decode cX7_part 45 = .ok (.ifCond .eq 9, 3) := by decide +kernel
theorem dX7_part_48 : decode cX7_part 48 = .ok (.aload_n 0, 1) := by decide +kernel
theorem dX7_part_49 : decode cX7_part 49 = .ok (.iconst (-1), 1) := by decide +kernel
theorem dX7_part_50 : decode cX7_part 50 = .ok (.invokevirtual 165, 3) := by decide +kernel
theorem dX7_part_53 : decode cX7_part 53 = .ok (.areturn, 1) := by decide +kernel
theorem dX7_part_54 : decode cX7_part 54 = .ok (.aload_n 0, 1) := by decide +kernel
theorem dX7_part_55 : decode cX7_part 55 = .ok (.invokevirtual 128, 3) := by decide +kernel
theorem dX7_part_58 : decode cX7_part 58 = .ok (.bipush 40, 2) := by decide +kernel
theorem dX7_part_60 : decode cX7_part 60 = .ok (.if_icmp .ne 18, 3) := by decide +kernel
theorem dX7_part_63 : decode cX7_part 63 = .ok (.aload_n 0, 1) := by decide +kernel
theorem dX7_part_64 : decode cX7_part 64 = .ok (.invokevirtual 178, 3) := by decide +kernel
theorem dX7_part_67 : decode cX7_part 67 = .ok (.aload_n 0, 1) := by decide +kernel
theorem dX7_part_68 : decode cX7_part 68 = .ok (.invokevirtual 181, 3) := by decide +kernel
theorem dX7_part_71 : decode cX7_part 71 = .ok (.astore_n 1, 1) := by decide +kernel
theorem dX7_part_72 : decode cX7_part 72 = .ok (.aload_n 0, 1) := by decide +kernel
theorem dX7_part_73 : decode cX7_part 73 = .ok (.invokevirtual 185, 3) := by decide +kernel
theorem dX7_part_76 : decode cX7_part 76 = .ok (.aload_n 1, 1) := by decide +kernel
theorem dX7_part_77 : decode cX7_part 77 = .ok (.areturn, 1) := by decide +kernel
theorem dX7_part_78 : decode cX7_part 78 = .ok (.aload_n 0, 1) := by decide +kernel
theorem dX7_part_79 : decode cX7_part 79 = .ok (.iconst 0, 1) := by decide +kernel
theorem dX7_part_80 : decode cX7_part 80 = .ok (.invokevirtual 165, 3) := by decide +kernel
theorem dX7_part_83 : decode cX7_part 83 = .ok (.astore_n 1, 1) := by decide +kernel
theorem dX7_part_84 : decode cX7_part 84 = .ok (.aload_n 0, 1) := by decide +kernel
theorem dX7_part_85 : decode cX7_part 85 = .ok (.ldc 188, 2) := by decide +kernel
theorem dX7_part_87 : decode cX7_part 87 = .ok (.invokevirtual 174, 3) := by decide +kernel
theorem dX7_part_90 : decode cX7_part 90 = .ok (.ifCond .eq 78, 3) := by decide +kernel
theorem dX7_part_93 : decode cX7_part 93 = .ok (.aload_n 0, 1) := by decide +kernel
theorem dX7_part_94 : decode cX7_part 94 = .ok (.iconst 0, 1) := by decide +kernel
theorem dX7_part_95 : decode cX7_part 95 = .ok (.aload_n 0, 1) := by decide +kernel
theorem dX7_part_96 : decode cX7_part 96 = .ok (.getfield 23, 3) := by decide +kernel
theorem dX7_part_99 : decode cX7_part 99 = .ok (.iconst 2, 1) := by decide +kernel
theorem dX7_part_100 : decode cX7_part 100 = .ok (.iaload, 1) := by decide +kernel
theorem dX7_part_101 : decode cX7_part 101 = .ok (.iconst 1, 1) := by decide +kernel
theorem dX7_part_102 : decode cX7_part 102 = .ok (.isub, 1) := by decide +kernel
theorem dX7_part_103 : decode cX7_part 103 = .ok (.invokevirtual 169, 3) := by decide +kernel
theorem dX7_part_106 : decode cX7_part 106 = .ok (.istore_n 2, 1) := by decide +kernel
theorem dX7_part_107 : decode cX7_part 107 = .ok (.aload_n 0, 1) := by decide +kernel
theorem dX7_part_108 : decode cX7_part 108 = .ok (.invokevirtual 178, 3) := by decide +kernel
theorem dX7_part_111 : decode cX7_part 111 = .ok (.aload_n 0, 1) := by decide +kernel
theorem dX7_part_112 : decode cX7_part 112 = .ok (.invokevirtual 181, 3) := by decide +kernel
theorem dX7_part_115 : decode cX7_part 115 = .ok (.astore_n 3, 1) := by decide +kernel
theorem dX7_part_116 : decode cX7_part 116 = .ok (.aload_n 0, 1) := by decide +kernel
theorem dX7_part_117 : decode cX7_part 117 = .ok (.invokevirtual 185, 3) := by decide +kernel
theorem dX7_part_120 : decode cX7_part 120 = .ok (.iconst 0, 1) := by decide +kernel
theorem dX7_part_121 : decode cX7_part 121 = .ok (.istore 4, 2) := by decide +kernel
theorem dX7_part_123 : decode cX7_part 123 = .ok (.iload 4, 2) := by decide +kernel
theorem dX7_part_125 : decode cX7_part 125 = .ok (.aload_n 0, 1) := by decide +kernel
theorem dX7_part_126 : decode cX7_part 126 = .ok (.getfield 92, 3) := by decide +kernel
theorem dX7_part_129 : decode cX7_part 129 = .ok (.if_icmp .ge 36, 3) := by decide +kernel
theorem dX7_part_132 : decode cX7_part 132 = .ok (.aload_n 0, 1) := by decide +kernel
theorem dX7_part_133 : decode cX7_part 133 = .ok (.invokevirtual 124, 3) := by decide +kernel
theorem dX7_part_136 : decode cX7_part 136 = .ok (.ifCond .eq 29, 3) := by decide +kernel
theorem dX7_part_139 : decode cX7_part 139 = .ok (.aload_n 1, 1) := by decide +kernel
theorem dX7_part_140 : decode cX7_part 140 = .ok (.iload 4, 2) := by decide +kernel
theorem dX7_part_142 : decode cX7_part 142 = .ok (.aload_n 0, 1) := by decide +kernel
theorem dX7_part_143 : decode cX7_part 143 = .ok (.getfield 23, 3) := by decide +kernel
theorem dX7_part_146 : decode cX7_part 146 = .ok (.iconst 3, 1) := by decide +kernel
theorem dX7_part_147 : decode cX7_part 147 = .ok (.bipush 64, 2) := by decide +kernel
theorem dX7_part_149 : decode cX7_part 149 = .ok (.iload_n 2, 1) := by decide +kernel
theorem dX7_part_150 : decode cX7_part 150 = .ok (.imul, 1) := by decide +kernel
theorem dX7_part_151 : decode cX7_part 151 = .ok (.iadd, 1) := by decide +kernel
theorem dX7_part_152 : decode cX7_part 152 = .ok (.aload_n 3, 1) := by decide +kernel
theorem dX7_part_153 : decode cX7_part 153 = .ok (.iload 4, 2) := by decide +kernel
theorem dX7_part_155 : decode cX7_part 155 = .ok (.iaload, 1) := by decide +kernel
theorem dX7_part_156 : decode cX7_part 156 = .ok (.iadd, 1) := by decide +kernel
theorem dX7_part_157 : decode cX7_part 157 = .ok (.iaload, 1) := by decide +kernel
theorem dX7_part_158 : decode cX7_part 158 = .ok (.iastore, 1) := by decide +kernel
theorem dX7_part_159 : decode cX7_part 159 = .ok (.iinc 4 1, 3) := by decide +kernel
theorem dX7_part_162 : decode cX7_part 162 = .ok (.goto (-39), 3) := by decide +kernel
theorem dX7_part_165 : decode cX7_part 165 = .ok (.goto 82, 3) := by decide +kernel
theorem dX7_part_168 : decode cX7_part 168 = .ok (.aload_n 0, 1) := by decide +kernel
theorem dX7_part_169 : decode cX7_part 169 = .ok (.ldc 190, 2) := by decide +kernel
theorem dX7_part_171 : decode cX7_part 171 = .ok (.invokevirtual 174, 3) := by decide +kernel
theorem dX7_part_174 : decode cX7_part 174 = .ok (.ifCond .eq 64, 3) := by decide +kernel
theorem dX7_part_177 : decode cX7_part 177 = .ok (.aload_n 0, 1) := by decide +kernel
theorem dX7_part_178 : decode cX7_part 178 = .ok (.iconst 0, 1) := by decide +kernel
theorem dX7_part_179 : decode cX7_part 179 = .ok (.sipush 9999, 3) := by decide +kernel
theorem dX7_part_182 : decode cX7_part 182 = .ok (.invokevirtual 169, 3) := by decide +kernel
theorem dX7_part_185 : decode cX7_part 185 = .ok (.istore_n 2, 1) := by decide +kernel
theorem dX7_part_186 : decode cX7_part 186 = .ok (.aload_n 0, 1) := by decide +kernel
theorem dX7_part_187 : decode cX7_part 187 = .ok (.iconst 0, 1) := by decide +kernel
theorem dX7_part_188 : decode cX7_part 188 = .ok (.aload_n 0, 1) := by decide +kernel
theorem dX7_part_189 : decode cX7_part 189 = .ok (.getfield 92, 3) := by decide +kernel
theorem dX7_part_192 : decode cX7_part 192 = .ok (.iconst 1, 1) := by decide +kernel
theorem dX7_part_193 : decode cX7_part 193 = .ok (.isub, 1) := by decide +kernel
theorem dX7_part_194 : decode cX7_part 194 = .ok (.invokevirtual 169, 3) := by decide +kernel
theorem dX7_part_197 : decode cX7_part 197 = .ok (.istore_n 3, 1) := by decide +kernel
theorem dX7_part_198 : decode cX7_part 198 = .ok (.iconst 0, 1) := by decide +kernel
theorem dX7_part_199 : decode cX7_part 199 = .ok (.istore 4, 2) := by decide +kernel
theorem dX7_part_201 : decode cX7_part 201 = .ok (.iload 4, 2) := by decide +kernel
theorem dX7_part_203 : decode cX7_part 203 = .ok (.aload_n 0, 1) := by decide +kernel
theorem dX7_part_204 : decode cX7_part 204 = .ok (.getfield 92, 3) := by decide +kernel
theorem dX7_part_207 : decode cX7_part 207 = .ok (.if_icmp .ge 28, 3) := by decide +kernel
theorem dX7_part_210 : decode cX7_part 210 = .ok (.aload_n 0, 1) := by decide +kernel
theorem dX7_part_211 : decode cX7_part 211 = .ok (.invokevirtual 124, 3) := by decide +kernel
theorem dX7_part_214 : decode cX7_part 214 = .ok (.ifCond .eq 21, 3) := by decide +kernel
theorem dX7_part_217 : decode cX7_part 217 = .ok (.aload_n 1, 1) := by decide +kernel
theorem dX7_part_218 : decode cX7_part 218 = .ok (.iload 4, 2) := by decide +kernel
theorem dX7_part_220 : decode cX7_part 220 = .ok (.aload_n 0, 1) := by decide +kernel
theorem dX7_part_221 : decode cX7_part 221 = .ok (.iload_n 2, 1) := by decide +kernel
theorem dX7_part_222 : decode cX7_part 222 = .ok (.iload_n 3, 1) := by decide +kernel
theorem dX7_part_223 : decode cX7_part 223 = .ok (.iload 4, 2) := by decide +kernel
theorem dX7_part_225 : decode cX7_part 225 = .ok (.invokevirtual 192, 3) := by decide +kernel
theorem dX7_part_228 : decode cX7_part 228 = .ok (.iastore, 1) := by decide +kernel
theorem dX7_part_229 : decode cX7_part 229 = .ok (.iinc 4 1, 3) := by decide +kernel
theorem dX7_part_232 : decode cX7_part 232 = .ok (.goto (-31), 3) := by decide +kernel
theorem dX7_part_235 : decode cX7_part 235 = .ok (.goto 12, 3) := by decide +kernel
theorem dX7_part_238 : decode cX7_part 238 = .ok (.aload_n 0, 1) := by decide +kernel
theorem dX7_part_239 : decode cX7_part 239 = .ok (.iconst 1, 1) := by decide +kernel
theorem dX7_part_240 : decode cX7_part 240 = .ok (.aload_n 0, 1) := by decide +kernel
theorem dX7_part_241 : decode cX7_part 241 = .ok (.getfield 111, 3) := by decide +kernel
theorem dX7_part_244 : decode cX7_part 244 = .ok (.invokevirtual 143, 3) := by decide +kernel
theorem dX7_part_247 : decode cX7_part 247 = .ok (.aload_n 1, 1) := by decide +kernel
theorem dX7_part_248 : decode cX7_part 248 = .ok (.areturn, 1) := by decide +kernel
theorem dX7_unit_0 : decode cX7_unit 0 = .ok (.aload_n 0, 1) := by decide +kernel
theorem dX7_unit_1 : decode cX7_unit 1 = .ok (.invokevirtual 194, 3) := by decide +kernel
theorem dX7_unit_4 : decode cX7_unit 4 = .ok (.astore_n 1, 1) := by decide +kernel
theorem dX7_unit_5 : decode cX7_unit 5 = .ok (.aload_n 0, 1) := by decide +kernel
theorem dX7_unit_6 : decode cX7_unit 6 = .ok (.invokevirtual 124, 3) := by decide +kernel
theorem dX7_unit_9 : decode cX7_unit 9 = .ok (.ifCond .eq 12, 3) := by decide +kernel
theorem dX7_unit_12 : decode cX7_unit 12 = .ok (.aload_n 0, 1) := by decide +kernel
theorem dX7_unit_13 : decode cX7_unit 13 = .ok (.invokevirtual 128, 3) := by decide +kernel
theorem dX7_unit_16 : decode cX7_unit 16 = .ok (.bipush 94, 2) := by decide +kernel
theorem dX7_unit_18 : decode cX7_unit 18 = .ok (.if_icmp .eq 5, 3) := by decide +kernel
theorem dX7_unit_21 : decode cX7_unit 21 = .ok (.aload_n 1, 1) := by decide +kernel
theorem dX7_unit_22 : decode cX7_unit 22 = .ok (.areturn, 1) := by decide +kernel
theorem dX7_unit_23 : decode cX7_unit 23 = .ok (.aload_n 0, 1) := by decide +kernel
theorem dX7_unit_24 : decode cX7_unit 24 = .ok (.dup, 1) := by decide +kernel
theorem dX7_unit_25 : decode cX7_unit 25 = .ok (.getfield 111, 3) := by decide +kernel
theorem dX7_unit_28 : decode cX7_unit 28 = .ok (.iconst 1, 1) := by decide +kernel
theorem dX7_unit_29 : decode cX7_unit 29 = .ok (.iadd, 1) := by decide +kernel
theorem dX7_unit_30 : decode cX7_unit 30 = .ok (.putfield 111, 3) := by decide +kernel
theorem dX7_unit_33 : decode cX7_unit 33 = .ok (.aload_n 0, 1) := by decide +kernel
theorem dX7_unit_34 : decode cX7_unit 34 = .ok (.iconst 0, 1) := by decide +kernel
theorem dX7_unit_35 : decode cX7_unit 35 = .ok (.sipush 9999, 3) := by decide +kernel
theorem dX7_unit_38 : decode cX7_unit 38 = .ok (.invokevirtual 169, 3) := by decide +kernel
theorem dX7_unit_41 : decode cX7_unit 41 = .ok (.istore_n 2, 1) := by decide +kernel
theorem dX7_unit_42 : decode cX7_unit 42 = .ok (.iconst 0, 1) := by decide +kernel
theorem dX7_unit_43 : decode cX7_unit 43 = .ok (.istore_n 3, 1) := by decide +kernel
theorem dX7_unit_44 : decode cX7_unit 44 = .ok (.iload_n 3, 1) := by decide +kernel
theorem dX7_unit_45 : decode cX7_unit 45 = .ok (.aload_n 0, 1) := by decide +kernel
theorem dX7_unit_46 : decode cX7_unit 46 = .ok (.getfield 92, 3) := by decide +kernel
theorem dX7_unit_49 : decode cX7_unit 49 = .ok (.if_icmp .ge 20, 3) := by decide +kernel
theorem dX7_unit_52 : decode cX7_unit 52 = .ok (.aload_n 1, 1) := by decide +kernel
theorem dX7_unit_53 : decode cX7_unit 53 = .ok (.iload_n 3, 1) := by decide +kernel
theorem dX7_unit_54 : decode cX7_unit 54 = .ok (.aload_n 0, 1) := by decide +kernel
theorem dX7_unit_55 : decode cX7_unit 55 = .ok (.aload_n 1, 1) := by decide +kernel
theorem dX7_unit_56 : decode cX7_unit 56 = .ok (.iload_n 3, 1) := by decide +kernel
theorem dX7_unit_57 : decode cX7_unit 57 = .ok (.iaload, 1) := by decide +kernel
theorem dX7_unit_58 : decode cX7_unit 58 = .ok (.iload_n 2, 1) := by decide +kernel
theorem dX7_unit_59 : decode cX7_unit 59 = .ok (.invokevirtual 197, 3) := by decide +kernel
theorem dX7_unit_62 : decode cX7_unit 62 = .ok (.iastore, 1) := by decide +kernel
theorem dX7_unit_63 : decode cX7_unit 63 = .ok (.iinc 3 1, 3) := by decide +kernel
theorem dX7_unit_66 : decode cX7_unit 66 = .ok (.goto (-22), 3) := by decide +kernel
theorem dX7_unit_69 : decode cX7_unit 69 = .ok (.aload_n 1, 1) := by decide +kernel
theorem dX7_unit_70 : decode cX7_unit 70 = .ok (.areturn, 1) := by decide +kernel
theorem dX7_product_0 : decode cX7_product 0 = .ok (.aload_n 0, 1) := by decide +kernel
theorem dX7_product_1 : decode cX7_product 1 = .ok (.invokevirtual 200, 3) := by decide +kernel
theorem dX7_product_4 : decode cX7_product 4 = .ok (.astore_n 1, 1) := by decide +kernel
theorem dX7_product_5 : decode cX7_product 5 = .ok (.aload_n 0, 1) := by decide +kernel
theorem dX7_product_6 : decode cX7_product 6 = .ok (.invokevirtual 124, 3) := by decide +kernel
theorem dX7_product_9 : decode cX7_product 9 = .ok (.ifCond .eq 61, 3) := by decide +kernel
theorem dX7_product_12 : decode cX7_product 12 = .ok (.aload_n 0, 1) := by decide +kernel
theorem dX7_product_13 : decode cX7_product 13 = .ok (.invokevirtual 128, 3) := by decide +kernel
theorem dX7_product_16 : decode cX7_product 16 = .ok (.bipush 42, 2) := by decide +kernel
theorem dX7_product_18 : decode cX7_product 18 = .ok (.if_icmp .ne 52, 3) := by decide +kernel
theorem dX7_product_21 : decode cX7_product 21 = .ok (.aload_n 0, 1) := by decide +kernel
theorem dX7_product_22 : decode cX7_product 22 = .ok (.dup, 1) := by decide +kernel
theorem dX7_product_23 : decode cX7_product 23 = .ok (.getfield 111, 3) := by decide +kernel
theorem dX7_product_26 : decode cX7_product 26 = .ok (.iconst 1, 1) := by decide +kernel
theorem dX7_product_27 : decode cX7_product 27 = .ok (.iadd, 1) := by decide +kernel
theorem dX7_product_28 : decode cX7_product 28 = .ok (.putfield 111, 3) := by decide +kernel
theorem dX7_product_31 : decode cX7_product 31 = .ok (.aload_n 0, 1) := by decide +kernel
theorem dX7_product_32 : decode cX7_product 32 = .ok (.invokevirtual 200, 3) := by decide +kernel
theorem dX7_product_35 : decode cX7_product 35 = .ok (.astore_n 2, 1) := by decide +kernel
theorem dX7_product_36 : decode cX7_product 36 = .ok (.iconst 0, 1) := by decide +kernel
theorem dX7_product_37 : decode cX7_product 37 = .ok (.istore_n 3, 1) := by decide +kernel
theorem dX7_product_38 : decode cX7_product 38 = .ok (.iload_n 3, 1) := by decide +kernel
theorem dX7_product_39 : decode cX7_product 39 = .ok (.aload_n 0, 1) := by decide +kernel
theorem dX7_product_40 : decode cX7_product 40 = .ok (.getfield 92, 3) := by decide +kernel
theorem dX7_product_43 : decode cX7_product 43 = .ok (.if_icmp .ge 24, 3) := by decide +kernel
theorem dX7_product_46 : decode cX7_product 46 = .ok (.aload_n 1, 1) := by decide +kernel
theorem dX7_product_47 : decode cX7_product 47 = .ok (.iload_n 3, 1) := by decide +kernel
theorem dX7_product_48 : decode cX7_product 48 = .ok (.aload_n 0, 1) := by decide +kernel
theorem dX7_product_49 : decode cX7_product 49 = .ok (.getfield 34, 3) := by decide +kernel
theorem dX7_product_52 : decode cX7_product 52 = .ok (.aload_n 1, 1) := by decide +kernel
theorem dX7_product_53 : decode cX7_product 53 = .ok (.iload_n 3, 1) := by decide +kernel
theorem dX7_product_54 : decode cX7_product 54 = .ok (.iaload, 1) := by decide +kernel
theorem dX7_product_55 : decode cX7_product 55 = .ok (.aaload, 1) := by decide +kernel
theorem dX7_product_56 : decode cX7_product 56 = .ok (.aload_n 2, 1) := by decide +kernel
theorem dX7_product_57 : decode cX7_product 57 = .ok (.iload_n 3, 1) := by decide +kernel
theorem dX7_product_58 : decode cX7_product 58 = .ok (.iaload, 1) := by decide +kernel
theorem dX7_product_59 : decode cX7_product 59 = .ok (.iaload, 1) := by decide +kernel
theorem dX7_product_60 : decode cX7_product 60 = .ok (.iastore, 1) := by decide +kernel
theorem dX7_product_61 : decode cX7_product 61 = .ok (.iinc 3 1, 3) := by decide +kernel
theorem dX7_product_64 : decode cX7_product 64 = .ok (.goto (-26), 3) := by decide +kernel
theorem dX7_product_67 : decode cX7_product 67 = .ok (.goto (-62), 3) := by decide +kernel
theorem dX7_product_70 : decode cX7_product 70 = .ok (.aload_n 1, 1) := by decide +kernel
theorem dX7_product_71 : decode cX7_product 71 = .ok (.areturn, 1) := by decide +kernel
theorem dX7_sum_0 : decode cX7_sum 0 = .ok (.aload_n 0, 1) := by decide +kernel
theorem dX7_sum_1 : decode cX7_sum 1 = .ok (.invokevirtual 203, 3) := by decide +kernel
theorem dX7_sum_4 : decode cX7_sum 4 = .ok (.astore_n 1, 1) := by decide +kernel
theorem dX7_sum_5 : decode cX7_sum 5 = .ok (.aload_n 0, 1) := by decide +kernel
theorem dX7_sum_6 : decode cX7_sum 6 = .ok (.invokevirtual 124, 3) := by decide +kernel
theorem dX7_sum_9 : decode cX7_sum 9 = .ok (.ifCond .eq 109, 3) := by decide +kernel
theorem dX7_sum_12 : decode cX7_sum 12 = .ok (.aload_n 0, 1) := by decide +kernel
theorem dX7_sum_13 : decode cX7_sum 13 = .ok (.invokevirtual 128, 3) := by decide +kernel
theorem dX7_sum_16 : decode cX7_sum 16 = .ok (.bipush 43, 2) := by decide +kernel
theorem dX7_sum_18 : decode cX7_sum 18 = .ok (.if_icmp .eq 12, 3) := by decide +kernel
theorem dX7_sum_21 : decode cX7_sum 21 = .ok (.aload_n 0, 1) := by decide +kernel
theorem dX7_sum_22 : decode cX7_sum 22 = .ok (.invokevirtual 128, 3) := by decide +kernel
theorem dX7_sum_25 : decode cX7_sum 25 = .ok (.bipush 45, 2) := by decide +kernel
theorem dX7_sum_27 : decode cX7_sum 27 = .ok (.if_icmp .ne 91, 3) := by decide +kernel
theorem dX7_sum_30 : decode cX7_sum 30 = .ok (.aload_n 0, 1) := by decide +kernel
theorem dX7_sum_31 : decode cX7_sum 31 = .ok (.invokevirtual 128, 3) := by decide +kernel
theorem dX7_sum_34 : decode cX7_sum 34 = .ok (.bipush 43, 2) := by decide +kernel
theorem dX7_sum_36 : decode cX7_sum 36 = .ok (.if_icmp .ne 7, 3) := by decide +kernel
theorem dX7_sum_39 : decode cX7_sum 39 = .ok (.iconst 1, 1) := by decide +kernel
theorem dX7_sum_40 : decode cX7_sum 40 = .ok (.goto 4, 3) := by decide +kernel
theorem dX7_sum_43 : decode cX7_sum 43 = .ok (.iconst 0, 1) := by decide +kernel
theorem dX7_sum_44 : decode cX7_sum 44 = .ok (.istore_n 2, 1) := by decide +kernel
theorem dX7_sum_45 : decode cX7_sum 45 = .ok (.aload_n 0, 1) := by decide +kernel
theorem dX7_sum_46 : decode cX7_sum 46 = .ok (.dup, 1) := by decide +kernel
theorem dX7_sum_47 : decode cX7_sum 47 = .ok (.getfield 111, 3) := by decide +kernel
theorem dX7_sum_50 : decode cX7_sum 50 = .ok (.iconst 1, 1) := by decide +kernel
theorem dX7_sum_51 : decode cX7_sum 51 = .ok (.iadd, 1) := by decide +kernel
theorem dX7_sum_52 : decode cX7_sum 52 = .ok (.putfield 111, 3) := by decide +kernel
theorem dX7_sum_55 : decode cX7_sum 55 = .ok (.aload_n 0, 1) := by decide +kernel
theorem dX7_sum_56 : decode cX7_sum 56 = .ok (.invokevirtual 203, 3) := by decide +kernel
theorem dX7_sum_59 : decode cX7_sum 59 = .ok (.astore_n 3, 1) := by decide +kernel
theorem dX7_sum_60 : decode cX7_sum 60 = .ok (.iconst 0, 1) := by decide +kernel
theorem dX7_sum_61 : decode cX7_sum 61 = .ok (.istore 4, 2) := by decide +kernel
theorem dX7_sum_63 : decode cX7_sum 63 = .ok (.iload 4, 2) := by decide +kernel
theorem dX7_sum_65 : decode cX7_sum 65 = .ok (.aload_n 0, 1) := by decide +kernel
theorem dX7_sum_66 : decode cX7_sum 66 = .ok (.getfield 92, 3) := by decide +kernel
theorem dX7_sum_69 : decode cX7_sum 69 = .ok (.if_icmp .ge 46, 3) := by decide +kernel
theorem dX7_sum_72 : decode cX7_sum 72 = .ok (.aload_n 1, 1) := by decide +kernel
theorem dX7_sum_73 : decode cX7_sum 73 = .ok (.iload 4, 2) := by decide +kernel
theorem dX7_sum_75 : decode cX7_sum 75 = .ok (.iload_n 2, 1) := by decide +kernel
theorem dX7_sum_76 : decode cX7_sum 76 = .ok (.ifCond .eq 20, 3) := by decide +kernel
theorem dX7_sum_79 : decode cX7_sum 79 = .ok (.aload_n 0, 1) := by decide +kernel
theorem dX7_sum_80 : decode cX7_sum 80 = .ok (.getfield 31, 3) := by decide +kernel
theorem dX7_sum_83 : decode cX7_sum 83 = .ok (.aload_n 1, 1) := by decide +kernel
theorem dX7_sum_84 : decode cX7_sum 84 = .ok (.iload 4, 2) := by decide +kernel
theorem dX7_sum_86 : decode cX7_sum 86 = .ok (.iaload, 1) := by decide +kernel
theorem dX7_sum_87 : decode cX7_sum 87 = .ok (.aaload, 1) := by decide +kernel
theorem dX7_sum_88 : decode cX7_sum 88 = .ok (.aload_n 3, 1) := by decide +kernel
theorem dX7_sum_89 : decode cX7_sum 89 = .ok (.iload 4, 2) := by decide +kernel
theorem dX7_sum_91 : decode cX7_sum 91 = .ok (.iaload, 1) := by decide +kernel
theorem dX7_sum_92 : decode cX7_sum 92 = .ok (.iaload, 1) := by decide +kernel
theorem dX7_sum_93 : decode cX7_sum 93 = .ok (.goto 15, 3) := by decide +kernel
theorem dX7_sum_96 : decode cX7_sum 96 = .ok (.aload_n 0, 1) := by decide +kernel
theorem dX7_sum_97 : decode cX7_sum 97 = .ok (.aload_n 1, 1) := by decide +kernel
theorem dX7_sum_98 : decode cX7_sum 98 = .ok (.iload 4, 2) := by decide +kernel
theorem dX7_sum_100 : decode cX7_sum 100 = .ok (.iaload, 1) := by decide +kernel
theorem dX7_sum_101 : decode cX7_sum 101 = .ok (.aload_n 3, 1) := by decide +kernel
theorem dX7_sum_102 : decode cX7_sum 102 = .ok (.iload 4, 2) := by decide +kernel
theorem dX7_sum_104 : decode cX7_sum 104 = .ok (.iaload, 1) := by decide +kernel
theorem dX7_sum_105 : decode cX7_sum 105 = .ok (.invokevirtual 105, 3) := by decide +kernel
theorem dX7_sum_108 : decode cX7_sum 108 = .ok (.iastore, 1) := by decide +kernel
theorem dX7_sum_109 : decode cX7_sum 109 = .ok (.iinc 4 1, 3) := by decide +kernel
theorem dX7_sum_112 : decode cX7_sum 112 = .ok (.goto (-49), 3) := by decide +kernel
theorem dX7_sum_115 : decode cX7_sum 115 = .ok (.goto (-110), 3) := by decide +kernel
theorem dX7_sum_118 : decode cX7_sum 118 = .ok (.aload_n 1, 1) := by decide +kernel
theorem dX7_sum_119 : decode cX7_sum 119 = .ok (.areturn, 1) := by decide +kernel
theorem dX7_readsPoly_0 : decode cX7_readsPoly 0 = .ok (.aload_n 0, 1) := by decide +kernel
theorem dX7_readsPoly_1 : decode cX7_readsPoly 1 = .ok (.getfield 23, 3) := by decide +kernel
theorem dX7_readsPoly_4 : decode cX7_readsPoly 4 = .ok (.iconst 2, 1) := by decide +kernel
theorem dX7_readsPoly_5 : decode cX7_readsPoly 5 = .ok (.iaload, 1) := by decide +kernel
theorem dX7_readsPoly_6 : decode cX7_readsPoly 6 = .ok (.bipush 6, 2) := by decide +kernel
theorem dX7_readsPoly_8 : decode cX7_readsPoly 8 = .ok (.if_icmp .ne 9, 3) := by decide +kernel
theorem dX7_readsPoly_11 : decode cX7_readsPoly 11 = .ok (.aload_n 0, 1) := by decide +kernel
theorem dX7_readsPoly_12 : decode cX7_readsPoly 12 = .ok (.iconst 3, 1) := by decide +kernel
theorem dX7_readsPoly_13 : decode cX7_readsPoly 13 = .ok (.iload_n 1, 1) := by decide +kernel
theorem dX7_readsPoly_14 : decode cX7_readsPoly 14 = .ok (.invokevirtual 143, 3) := by decide +kernel
theorem dX7_readsPoly_17 : decode cX7_readsPoly 17 = .ok (.aload_n 0, 1) := by decide +kernel
theorem dX7_readsPoly_18 : decode cX7_readsPoly 18 = .ok (.iconst 0, 1) := by decide +kernel
theorem dX7_readsPoly_19 : decode cX7_readsPoly 19 = .ok (.putfield 158, 3) := by decide +kernel
theorem dX7_readsPoly_22 : decode cX7_readsPoly 22 = .ok (.aload_n 0, 1) := by decide +kernel
theorem dX7_readsPoly_23 : decode cX7_readsPoly 23 = .ok (.invokevirtual 181, 3) := by decide +kernel
theorem dX7_readsPoly_26 : decode cX7_readsPoly 26 = .ok (.astore_n 2, 1) := by decide +kernel
theorem dX7_readsPoly_27 : decode cX7_readsPoly 27 = .ok (.aload_n 0, 1) := by decide +kernel
theorem dX7_readsPoly_28 : decode cX7_readsPoly 28 = .ok (.bipush 59, 2) := by decide +kernel
theorem dX7_readsPoly_30 : decode cX7_readsPoly 30 = .ok (.invokevirtual 161, 3) := by decide +kernel
theorem dX7_readsPoly_33 : decode cX7_readsPoly 33 = .ok (.aload_n 0, 1) := by decide +kernel
theorem dX7_readsPoly_34 : decode cX7_readsPoly 34 = .ok (.invokevirtual 124, 3) := by decide +kernel
theorem dX7_readsPoly_37 : decode cX7_readsPoly 37 = .ok (.ifCond .ne 4, 3) := by decide +kernel
theorem dX7_readsPoly_40 : decode cX7_readsPoly 40 = .ok (.return_, 1) := by decide +kernel
theorem dX7_readsPoly_41 : decode cX7_readsPoly 41 = .ok (.iconst 0, 1) := by decide +kernel
theorem dX7_readsPoly_42 : decode cX7_readsPoly 42 = .ok (.istore_n 3, 1) := by decide +kernel
theorem dX7_readsPoly_43 : decode cX7_readsPoly 43 = .ok (.iload_n 3, 1) := by decide +kernel
theorem dX7_readsPoly_44 : decode cX7_readsPoly 44 = .ok (.aload_n 0, 1) := by decide +kernel
theorem dX7_readsPoly_45 : decode cX7_readsPoly 45 = .ok (.getfield 92, 3) := by decide +kernel
theorem dX7_readsPoly_48 : decode cX7_readsPoly 48 = .ok (.if_icmp .ge 30, 3) := by decide +kernel
theorem dX7_readsPoly_51 : decode cX7_readsPoly 51 = .ok (.aload_n 0, 1) := by decide +kernel
theorem dX7_readsPoly_52 : decode cX7_readsPoly 52 = .ok (.getfield 23, 3) := by decide +kernel
theorem dX7_readsPoly_55 : decode cX7_readsPoly 55 = .ok (.iconst 3, 1) := by decide +kernel
theorem dX7_readsPoly_56 : decode cX7_readsPoly 56 = .ok (.bipush 64, 2) := by decide +kernel
theorem dX7_readsPoly_58 : decode cX7_readsPoly 58 = .ok (.aload_n 0, 1) := by decide +kernel
theorem dX7_readsPoly_59 : decode cX7_readsPoly 59 = .ok (.getfield 23, 3) := by decide +kernel
theorem dX7_readsPoly_62 : decode cX7_readsPoly 62 = .ok (.iconst 2, 1) := by decide +kernel
theorem dX7_readsPoly_63 : decode cX7_readsPoly 63 = .ok (.iaload, 1) := by decide +kernel
theorem dX7_readsPoly_64 : decode cX7_readsPoly 64 = .ok (.imul, 1) := by decide +kernel
theorem dX7_readsPoly_65 : decode cX7_readsPoly 65 = .ok (.iadd, 1) := by decide +kernel
theorem dX7_readsPoly_66 : decode cX7_readsPoly 66 = .ok (.iload_n 3, 1) := by decide +kernel
theorem dX7_readsPoly_67 : decode cX7_readsPoly 67 = .ok (.iadd, 1) := by decide +kernel
theorem dX7_readsPoly_68 : decode cX7_readsPoly 68 = .ok (.aload_n 2, 1) := by decide +kernel
theorem dX7_readsPoly_69 : decode cX7_readsPoly 69 = .ok (.iload_n 3, 1) := by decide +kernel
theorem dX7_readsPoly_70 : decode cX7_readsPoly 70 = .ok (.iaload, 1) := by decide +kernel
theorem dX7_readsPoly_71 : decode cX7_readsPoly 71 = .ok (.iastore, 1) := by decide +kernel
theorem dX7_readsPoly_72 : decode cX7_readsPoly 72 = .ok (.iinc 3 1, 3) := by decide +kernel
theorem dX7_readsPoly_75 : decode cX7_readsPoly 75 = .ok (.goto (-32), 3) := by decide +kernel
theorem dX7_readsPoly_78 : decode cX7_readsPoly 78 = .ok (.aload_n 0, 1) := by decide +kernel
theorem dX7_readsPoly_79 : decode cX7_readsPoly 79 = .ok (.getfield 23, 3) := by decide +kernel
theorem dX7_readsPoly_82 : decode cX7_readsPoly 82 = .ok (.iconst 2, 1) := by decide +kernel
theorem dX7_readsPoly_83 : decode cX7_readsPoly 83 = .ok (.dup2, 1) := by decide +kernel
theorem dX7_readsPoly_84 : decode cX7_readsPoly 84 = .ok (.iaload, 1) := by decide +kernel
theorem dX7_readsPoly_85 : decode cX7_readsPoly 85 = .ok (.iconst 1, 1) := by decide +kernel
theorem dX7_readsPoly_86 : decode cX7_readsPoly 86 = .ok (.iadd, 1) := by decide +kernel
theorem dX7_readsPoly_87 : decode cX7_readsPoly 87 = .ok (.iastore, 1) := by decide +kernel
theorem dX7_readsPoly_88 : decode cX7_readsPoly 88 = .ok (.return_, 1) := by decide +kernel
theorem dX7_isPrime_0 : decode cX7_isPrime 0 = .ok (.iconst 2, 1) := by decide +kernel
theorem dX7_isPrime_1 : decode cX7_isPrime 1 = .ok (.istore_n 1, 1) := by decide +kernel
theorem dX7_isPrime_2 : decode cX7_isPrime 2 = .ok (.iload_n 1, 1) := by decide +kernel
theorem dX7_isPrime_3 : decode cX7_isPrime 3 = .ok (.iload_n 1, 1) := by decide +kernel
theorem dX7_isPrime_4 : decode cX7_isPrime 4 = .ok (.imul, 1) := by decide +kernel
theorem dX7_isPrime_5 : decode cX7_isPrime 5 = .ok (.iload_n 0, 1) := by decide +kernel
theorem dX7_isPrime_6 : decode cX7_isPrime 6 = .ok (.if_icmp .gt 17, 3) := by decide +kernel
theorem dX7_isPrime_9 : decode cX7_isPrime 9 = .ok (.iload_n 0, 1) := by decide +kernel
theorem dX7_isPrime_10 : decode cX7_isPrime 10 = .ok (.iload_n 1, 1) := by decide +kernel
theorem dX7_isPrime_11 : decode cX7_isPrime 11 = .ok (.irem, 1) := by decide +kernel
theorem dX7_isPrime_12 : decode cX7_isPrime 12 = .ok (.ifCond .ne 5, 3) := by decide +kernel
theorem dX7_isPrime_15 : decode cX7_isPrime 15 = .ok (.iconst 0, 1) := by decide +kernel
theorem dX7_isPrime_16 : decode cX7_isPrime 16 = .ok (.ireturn, 1) := by decide +kernel
theorem dX7_isPrime_17 : decode cX7_isPrime 17 = .ok (.iinc 1 1, 3) := by decide +kernel
theorem dX7_isPrime_20 : decode cX7_isPrime 20 = .ok (.goto (-18), 3) := by decide +kernel
theorem dX7_isPrime_23 : decode cX7_isPrime 23 = .ok (.iload_n 0, 1) := by decide +kernel
theorem dX7_isPrime_24 : decode cX7_isPrime 24 = .ok (.iconst 1, 1) := by decide +kernel
theorem dX7_isPrime_25 : decode cX7_isPrime 25 = .ok (.if_icmp .le 7, 3) := by decide +kernel
theorem dX7_isPrime_28 : decode cX7_isPrime 28 = .ok (.iconst 1, 1) := by decide +kernel
theorem dX7_isPrime_29 : decode cX7_isPrime 29 = .ok (.goto 4, 3) := by decide +kernel
theorem dX7_isPrime_32 : decode cX7_isPrime 32 = .ok (.iconst 0, 1) := by decide +kernel
theorem dX7_isPrime_33 : decode cX7_isPrime 33 = .ok (.ireturn, 1) := by decide +kernel
theorem dX7_readsField_0 : decode cX7_readsField 0 = .ok (.aload_n 0, 1) := by decide +kernel
theorem dX7_readsField_1 : decode cX7_readsField 1 = .ok (.ldc 206, 2) := by decide +kernel
theorem dX7_readsField_3 : decode cX7_readsField 3 = .ok (.invokevirtual 174, 3) := by decide +kernel
theorem dX7_readsField_6 : decode cX7_readsField 6 = .ok (.ifCond .ne 12, 3) := by decide +kernel
theorem dX7_readsField_9 : decode cX7_readsField 9 = .ok (.aload_n 0, 1) := by decide +kernel
theorem dX7_readsField_10 : decode cX7_readsField 10 = .ok (.iconst 1, 1) := by decide +kernel
theorem dX7_readsField_11 : decode cX7_readsField 11 = .ok (.aload_n 0, 1) := by decide +kernel
theorem dX7_readsField_12 : decode cX7_readsField 12 = .ok (.getfield 111, 3) := by decide +kernel
theorem dX7_readsField_15 : decode cX7_readsField 15 = .ok (.invokevirtual 143, 3) := by decide +kernel
theorem dX7_readsField_18 : decode cX7_readsField 18 = .ok (.aload_n 0, 1) := by decide +kernel
theorem dX7_readsField_19 : decode cX7_readsField 19 = .ok (.iconst 2, 1) := by decide +kernel
theorem dX7_readsField_20 : decode cX7_readsField 20 = .ok (.bipush 64, 2) := by decide +kernel
theorem dX7_readsField_22 : decode cX7_readsField 22 = .ok (.invokevirtual 169, 3) := by decide +kernel
theorem dX7_readsField_25 : decode cX7_readsField 25 = .ok (.istore_n 1, 1) := by decide +kernel
theorem dX7_readsField_26 : decode cX7_readsField 26 = .ok (.aload_n 0, 1) := by decide +kernel
theorem dX7_readsField_27 : decode cX7_readsField 27 = .ok (.invokevirtual 124, 3) := by decide +kernel
theorem dX7_readsField_30 : decode cX7_readsField 30 = .ok (.ifCond .eq 19, 3) := by decide +kernel
theorem dX7_readsField_33 : decode cX7_readsField 33 = .ok (.iload_n 1, 1) := by decide +kernel
theorem dX7_readsField_34 : decode cX7_readsField 34 = .ok (.invokestatic 208, 3) := by decide +kernel
theorem dX7_readsField_37 : decode cX7_readsField 37 = .ok (.ifCond .ne 12, 3) := by decide +kernel
theorem dX7_readsField_40 : decode cX7_readsField 40 = .ok (.aload_n 0, 1) := by decide +kernel
theorem dX7_readsField_41 : decode cX7_readsField 41 = .ok (.iconst 2, 1) := by decide +kernel
theorem dX7_readsField_42 : decode cX7_readsField 42 = .ok (.aload_n 0, 1) := by decide +kernel
theorem dX7_readsField_43 : decode cX7_readsField 43 = .ok (.getfield 150, 3) := by decide +kernel
theorem dX7_readsField_46 : decode cX7_readsField 46 = .ok (.invokevirtual 143, 3) := by decide +kernel
theorem dX7_readsField_49 : decode cX7_readsField 49 = .ok (.aload_n 0, 1) := by decide +kernel
theorem dX7_readsField_50 : decode cX7_readsField 50 = .ok (.iconst 1, 1) := by decide +kernel
theorem dX7_readsField_51 : decode cX7_readsField 51 = .ok (.bipush 6, 2) := by decide +kernel
theorem dX7_readsField_53 : decode cX7_readsField 53 = .ok (.invokevirtual 169, 3) := by decide +kernel
theorem dX7_readsField_56 : decode cX7_readsField 56 = .ok (.istore_n 2, 1) := by decide +kernel
theorem dX7_readsField_57 : decode cX7_readsField 57 = .ok (.aload_n 0, 1) := by decide +kernel
theorem dX7_readsField_58 : decode cX7_readsField 58 = .ok (.invokevirtual 124, 3) := by decide +kernel
theorem dX7_readsField_61 : decode cX7_readsField 61 = .ok (.ifCond .eq 22, 3) := by decide +kernel
theorem dX7_readsField_64 : decode cX7_readsField 64 = .ok (.iload_n 1, 1) := by decide +kernel
theorem dX7_readsField_65 : decode cX7_readsField 65 = .ok (.iload_n 2, 1) := by decide +kernel
theorem dX7_readsField_66 : decode cX7_readsField 66 = .ok (.invokestatic 78, 3) := by decide +kernel
theorem dX7_readsField_69 : decode cX7_readsField 69 = .ok (.bipush 64, 2) := by decide +kernel
theorem dX7_readsField_71 : decode cX7_readsField 71 = .ok (.if_icmp .le 12, 3) := by decide +kernel
theorem dX7_readsField_74 : decode cX7_readsField 74 = .ok (.aload_n 0, 1) := by decide +kernel
theorem dX7_readsField_75 : decode cX7_readsField 75 = .ok (.iconst 2, 1) := by decide +kernel
theorem dX7_readsField_76 : decode cX7_readsField 76 = .ok (.aload_n 0, 1) := by decide +kernel
theorem dX7_readsField_77 : decode cX7_readsField 77 = .ok (.getfield 150, 3) := by decide +kernel
theorem dX7_readsField_80 : decode cX7_readsField 80 = .ok (.invokevirtual 143, 3) := by decide +kernel
theorem dX7_readsField_83 : decode cX7_readsField 83 = .ok (.aload_n 0, 1) := by decide +kernel
theorem dX7_readsField_84 : decode cX7_readsField 84 = .ok (.bipush 59, 2) := by decide +kernel
theorem dX7_readsField_86 : decode cX7_readsField 86 = .ok (.invokevirtual 161, 3) := by decide +kernel
theorem dX7_readsField_89 : decode cX7_readsField 89 = .ok (.aload_n 0, 1) := by decide +kernel
theorem dX7_readsField_90 : decode cX7_readsField 90 = .ok (.invokevirtual 124, 3) := by decide +kernel
theorem dX7_readsField_93 : decode cX7_readsField 93 = .ok (.ifCond .ne 4, 3) := by decide +kernel
theorem dX7_readsField_96 : decode cX7_readsField 96 = .ok (.return_, 1) := by decide +kernel
theorem dX7_readsField_97 : decode cX7_readsField 97 = .ok (.aload_n 0, 1) := by decide +kernel
theorem dX7_readsField_98 : decode cX7_readsField 98 = .ok (.getfield 23, 3) := by decide +kernel
theorem dX7_readsField_101 : decode cX7_readsField 101 = .ok (.iconst 0, 1) := by decide +kernel
theorem dX7_readsField_102 : decode cX7_readsField 102 = .ok (.iload_n 1, 1) := by decide +kernel
theorem dX7_readsField_103 : decode cX7_readsField 103 = .ok (.iastore, 1) := by decide +kernel
theorem dX7_readsField_104 : decode cX7_readsField 104 = .ok (.aload_n 0, 1) := by decide +kernel
theorem dX7_readsField_105 : decode cX7_readsField 105 = .ok (.getfield 23, 3) := by decide +kernel
theorem dX7_readsField_108 : decode cX7_readsField 108 = .ok (.iconst 1, 1) := by decide +kernel
theorem dX7_readsField_109 : decode cX7_readsField 109 = .ok (.iload_n 2, 1) := by decide +kernel
theorem dX7_readsField_110 : decode cX7_readsField 110 = .ok (.iastore, 1) := by decide +kernel
theorem dX7_readsField_111 : decode cX7_readsField 111 = .ok (.aload_n 0, 1) := by decide +kernel
theorem dX7_readsField_112 : decode cX7_readsField 112 = .ok (.aload_n 0, 1) := by decide +kernel
theorem dX7_readsField_113 : decode cX7_readsField 113 = .ok (.getfield 23, 3) := by decide +kernel
theorem dX7_readsField_116 : decode cX7_readsField 116 = .ok (.invokevirtual 211, 3) := by decide +kernel
theorem dX7_readsField_119 : decode cX7_readsField 119 = .ok (.return_, 1) := by decide +kernel
theorem dX7_text_0 : decode cX7_text 0 = .ok (.aload_n 0, 1) := by decide +kernel
theorem dX7_text_1 : decode cX7_text 1 = .ok (.iconst 0, 1) := by decide +kernel
theorem dX7_text_2 : decode cX7_text 2 = .ok (.putfield 58, 3) := by decide +kernel
theorem dX7_text_5 : decode cX7_text 5 = .ok (.aload_n 0, 1) := by decide +kernel
theorem dX7_text_6 : decode cX7_text 6 = .ok (.iload_n 1, 1) := by decide +kernel
theorem dX7_text_7 : decode cX7_text 7 = .ok (.i2l, 1) := by decide +kernel
theorem dX7_text_8 : decode cX7_text 8 = .ok (.lconst 0, 1) := by decide +kernel
theorem dX7_text_9 : decode cX7_text 9 = .ok (.aload_n 0, 1) := by decide +kernel
theorem dX7_text_10 : decode cX7_text 10 = .ok (.getfield 61, 3) := by decide +kernel
theorem dX7_text_13 : decode cX7_text 13 = .ok (.i2l, 1) := by decide +kernel
theorem dX7_text_14 : decode cX7_text 14 = .ok (.invokestatic 154, 3) := by decide +kernel
theorem dX7_text_17 : decode cX7_text 17 = .ok (.ifCond .ne 7, 3) := by decide +kernel
theorem dX7_text_20 : decode cX7_text 20 = .ok (.iconst 1, 1) := by decide +kernel
theorem dX7_text_21 : decode cX7_text 21 = .ok (.goto 4, 3) := by decide +kernel
theorem dX7_text_24 : decode cX7_text 24 = .ok (.iconst 0, 1) := by decide +kernel
theorem dX7_text_25 : decode cX7_text 25 = .ok (.iconst 1, 1) := by decide +kernel
theorem dX7_text_26 : decode cX7_text 26 = .ok (.iconst 1, 1) := by decide +kernel
theorem dX7_text_27 : decode cX7_text 27 = .ok (.invokevirtual 215, 3) := by decide +kernel
theorem dX7_text_30 : decode cX7_text 30 = .ok (.ifCond .eq 5, 3) := by decide +kernel
theorem dX7_text_33 : decode cX7_text 33 = .ok (.iconst 0, 1) := by decide +kernel
theorem dX7_text_34 : decode cX7_text 34 = .ok (.ireturn, 1) := by decide +kernel
theorem dX7_text_35 : decode cX7_text 35 = .ok (.aload_n 0, 1) := by decide +kernel
theorem dX7_text_36 : decode cX7_text 36 = .ok (.iconst 0, 1) := by decide +kernel
theorem dX7_text_37 : decode cX7_text 37 = .ok (.putfield 61, 3) := by decide +kernel
theorem dX7_text_40 : decode cX7_text 40 = .ok (.aload_n 0, 1) := by decide +kernel
theorem dX7_text_41 : decode cX7_text 41 = .ok (.iload_n 1, 1) := by decide +kernel
theorem dX7_text_42 : decode cX7_text 42 = .ok (.putfield 108, 3) := by decide +kernel
theorem dX7_text_45 : decode cX7_text 45 = .ok (.aload_n 0, 1) := by decide +kernel
theorem dX7_text_46 : decode cX7_text 46 = .ok (.iconst 0, 1) := by decide +kernel
theorem dX7_text_47 : decode cX7_text 47 = .ok (.putfield 111, 3) := by decide +kernel
theorem dX7_text_50 : decode cX7_text 50 = .ok (.aload_n 0, 1) := by decide +kernel
theorem dX7_text_51 : decode cX7_text 51 = .ok (.iconst 0, 1) := by decide +kernel
theorem dX7_text_52 : decode cX7_text 52 = .ok (.putfield 118, 3) := by decide +kernel
theorem dX7_text_55 : decode cX7_text 55 = .ok (.aload_n 0, 1) := by decide +kernel
theorem dX7_text_56 : decode cX7_text 56 = .ok (.iconst (-1), 1) := by decide +kernel
theorem dX7_text_57 : decode cX7_text 57 = .ok (.putfield 121, 3) := by decide +kernel
theorem dX7_text_60 : decode cX7_text 60 = .ok (.iconst 0, 1) := by decide +kernel
theorem dX7_text_61 : decode cX7_text 61 = .ok (.istore_n 2, 1) := by decide +kernel
theorem dX7_text_62 : decode cX7_text 62 = .ok (.iload_n 2, 1) := by decide +kernel
theorem dX7_text_63 : decode cX7_text 63 = .ok (.sipush 387, 3) := by decide +kernel
theorem dX7_text_66 : decode cX7_text 66 = .ok (.if_icmp .ge 16, 3) := by decide +kernel
theorem dX7_text_69 : decode cX7_text 69 = .ok (.aload_n 0, 1) := by decide +kernel
theorem dX7_text_70 : decode cX7_text 70 = .ok (.getfield 23, 3) := by decide +kernel
theorem dX7_text_73 : decode cX7_text 73 = .ok (.iload_n 2, 1) := by decide +kernel
theorem dX7_text_74 : decode cX7_text 74 = .ok (.iconst 0, 1) := by decide +kernel
theorem dX7_text_75 : decode cX7_text 75 = .ok (.iastore, 1) := by decide +kernel
theorem dX7_text_76 : decode cX7_text 76 = .ok (.iinc 2 1, 3) := by decide +kernel
theorem dX7_text_79 : decode cX7_text 79 = .ok (.goto (-17), 3) := by decide +kernel
theorem dX7_text_82 : decode cX7_text 82 = .ok (.aload_n 0, 1) := by decide +kernel
theorem dX7_text_83 : decode cX7_text 83 = .ok (.invokevirtual 219, 3) := by decide +kernel
theorem dX7_text_86 : decode cX7_text 86 = .ok (.aload_n 0, 1) := by decide +kernel
theorem dX7_text_87 : decode cX7_text 87 = .ok (.invokevirtual 124, 3) := by decide +kernel
theorem dX7_text_90 : decode cX7_text 90 = .ok (.ifCond .eq 42, 3) := by decide +kernel
theorem dX7_text_93 : decode cX7_text 93 = .ok (.aload_n 0, 1) := by decide +kernel
theorem dX7_text_94 : decode cX7_text 94 = .ok (.invokevirtual 128, 3) := by decide +kernel
theorem dX7_text_97 : decode cX7_text 97 = .ok (.iconst (-1), 1) := by decide +kernel
theorem dX7_text_98 : decode cX7_text 98 = .ok (.if_icmp .eq 34, 3) := by decide +kernel
theorem dX7_text_101 : decode cX7_text 101 = .ok (.aload_n 0, 1) := by decide +kernel
theorem dX7_text_102 : decode cX7_text 102 = .ok (.getfield 111, 3) := by decide +kernel
theorem dX7_text_105 : decode cX7_text 105 = .ok (.istore_n 2, 1) := by decide +kernel
theorem dX7_text_106 : decode cX7_text 106 = .ok (.aload_n 0, 1) := by decide +kernel
theorem dX7_text_107 : decode cX7_text 107 = .ok (.ldc 222, 2) := by decide +kernel
theorem dX7_text_109 : decode cX7_text 109 = .ok (.invokevirtual 174, 3) := by decide +kernel
theorem dX7_text_112 : decode cX7_text 112 = .ok (.ifCond .eq 11, 3) := by decide +kernel
theorem dX7_text_115 : decode cX7_text 115 = .ok (.aload_n 0, 1) := by decide +kernel
theorem dX7_text_116 : decode cX7_text 116 = .ok (.iload_n 2, 1) := by decide +kernel
theorem dX7_text_117 : decode cX7_text 117 = .ok (.invokevirtual 224, 3) := by decide +kernel
theorem dX7_text_120 : decode cX7_text 120 = .ok (.goto 9, 3) := by decide +kernel
theorem dX7_text_123 : decode cX7_text 123 = .ok (.aload_n 0, 1) := by decide +kernel
theorem dX7_text_124 : decode cX7_text 124 = .ok (.iconst 1, 1) := by decide +kernel
theorem dX7_text_125 : decode cX7_text 125 = .ok (.iload_n 2, 1) := by decide +kernel
theorem dX7_text_126 : decode cX7_text 126 = .ok (.invokevirtual 143, 3) := by decide +kernel
theorem dX7_text_129 : decode cX7_text 129 = .ok (.goto (-43), 3) := by decide +kernel
theorem dX7_text_132 : decode cX7_text 132 = .ok (.aload_n 0, 1) := by decide +kernel
theorem dX7_text_133 : decode cX7_text 133 = .ok (.aload_n 0, 1) := by decide +kernel
theorem dX7_text_134 : decode cX7_text 134 = .ok (.getfield 121, 3) := by decide +kernel
theorem dX7_text_137 : decode cX7_text 137 = .ok (.putfield 13, 3) := by decide +kernel
theorem dX7_text_140 : decode cX7_text 140 = .ok (.aload_n 0, 1) := by decide +kernel
theorem dX7_text_141 : decode cX7_text 141 = .ok (.invokevirtual 124, 3) := by decide +kernel
theorem dX7_text_144 : decode cX7_text 144 = .ok (.ifCond .ne 11, 3) := by decide +kernel
theorem dX7_text_147 : decode cX7_text 147 = .ok (.aload_n 0, 1) := by decide +kernel
theorem dX7_text_148 : decode cX7_text 148 = .ok (.getfield 118, 3) := by decide +kernel
theorem dX7_text_151 : decode cX7_text 151 = .ok (.bipush 10, 2) := by decide +kernel
theorem dX7_text_153 : decode cX7_text 153 = .ok (.isub, 1) := by decide +kernel
theorem dX7_text_154 : decode cX7_text 154 = .ok (.ireturn, 1) := by decide +kernel
theorem dX7_text_155 : decode cX7_text 155 = .ok (.aload_n 0, 1) := by decide +kernel
theorem dX7_text_156 : decode cX7_text 156 = .ok (.invokevirtual 227, 3) := by decide +kernel
theorem dX7_text_159 : decode cX7_text 159 = .ok (.aload_n 0, 1) := by decide +kernel
theorem dX7_text_160 : decode cX7_text 160 = .ok (.getfield 23, 3) := by decide +kernel
theorem dX7_text_163 : decode cX7_text 163 = .ok (.aload_n 0, 1) := by decide +kernel
theorem dX7_text_164 : decode cX7_text 164 = .ok (.getfield 20, 3) := by decide +kernel
theorem dX7_text_167 : decode cX7_text 167 = .ok (.invokestatic 230, 3) := by decide +kernel
theorem dX7_text_170 : decode cX7_text 170 = .ok (.aload_n 0, 1) := by decide +kernel
theorem dX7_text_171 : decode cX7_text 171 = .ok (.getfield 20, 3) := by decide +kernel
theorem dX7_text_174 : decode cX7_text 174 = .ok (.iconst 2, 1) := by decide +kernel
theorem dX7_text_175 : decode cX7_text 175 = .ok (.iaload, 1) := by decide +kernel
theorem dX7_text_176 : decode cX7_text 176 = .ok (.ireturn, 1) := by decide +kernel
theorem dX7_fault_0 : decode cX7_fault 0 = .ok (.aload_n 0, 1) := by decide +kernel
theorem dX7_fault_1 : decode cX7_fault 1 = .ok (.iconst 0, 1) := by decide +kernel
theorem dX7_fault_2 : decode cX7_fault 2 = .ok (.putfield 58, 3) := by decide +kernel
theorem dX7_fault_5 : decode cX7_fault 5 = .ok (.aload_n 0, 1) := by decide +kernel
theorem dX7_fault_6 : decode cX7_fault 6 = .ok (.getfield 13, 3) := by decide +kernel
theorem dX7_fault_9 : decode cX7_fault 9 = .ok (.ireturn, 1) := by decide +kernel
theorem dX7_remembers_0 : decode cX7_remembers 0 = .ok (.aload_n 0, 1) := by decide +kernel
theorem dX7_remembers_1 : decode cX7_remembers 1 = .ok (.getfield 234, 3) := by decide +kernel
theorem dX7_remembers_4 : decode cX7_remembers 4 = .ok (.bipush 8, 2) := by decide +kernel
theorem dX7_remembers_6 : decode cX7_remembers 6 = .ok (.if_icmp .ne 44, 3) := by decide +kernel
theorem dX7_remembers_9 : decode cX7_remembers 9 = .ok (.iconst 1, 1) := by decide +kernel
theorem dX7_remembers_10 : decode cX7_remembers 10 = .ok (.istore_n 1, 1) := by decide +kernel
theorem dX7_remembers_11 : decode cX7_remembers 11 = .ok (.iload_n 1, 1) := by decide +kernel
theorem dX7_remembers_12 : decode cX7_remembers 12 = .ok (.bipush 8, 2) := by decide +kernel
theorem dX7_remembers_14 : decode cX7_remembers 14 = .ok (.if_icmp .ge 26, 3) := by decide +kernel
theorem dX7_remembers_17 : decode cX7_remembers 17 = .ok (.aload_n 0, 1) := by decide +kernel
theorem dX7_remembers_18 : decode cX7_remembers 18 = .ok (.getfield 28, 3) := by decide +kernel
theorem dX7_remembers_21 : decode cX7_remembers 21 = .ok (.iload_n 1, 1) := by decide +kernel
theorem dX7_remembers_22 : decode cX7_remembers 22 = .ok (.aaload, 1) := by decide +kernel
theorem dX7_remembers_23 : decode cX7_remembers 23 = .ok (.aload_n 0, 1) := by decide +kernel
theorem dX7_remembers_24 : decode cX7_remembers 24 = .ok (.getfield 28, 3) := by decide +kernel
theorem dX7_remembers_27 : decode cX7_remembers 27 = .ok (.iload_n 1, 1) := by decide +kernel
theorem dX7_remembers_28 : decode cX7_remembers 28 = .ok (.iconst 1, 1) := by decide +kernel
theorem dX7_remembers_29 : decode cX7_remembers 29 = .ok (.isub, 1) := by decide +kernel
theorem dX7_remembers_30 : decode cX7_remembers 30 = .ok (.aaload, 1) := by decide +kernel
theorem dX7_remembers_31 : decode cX7_remembers 31 = .ok (.invokestatic 230, 3) := by decide +kernel
theorem dX7_remembers_34 : decode cX7_remembers 34 = .ok (.iinc 1 1, 3) := by decide +kernel
theorem dX7_remembers_37 : decode cX7_remembers 37 = .ok (.goto (-26), 3) := by decide +kernel
theorem dX7_remembers_40 : decode cX7_remembers 40 = .ok (.aload_n 0, 1) := by decide +kernel
theorem dX7_remembers_41 : decode cX7_remembers 41 = .ok (.dup, 1) := by decide +kernel
theorem dX7_remembers_42 : decode cX7_remembers 42 = .ok (.getfield 234, 3) := by decide +kernel
theorem dX7_remembers_45 : decode cX7_remembers 45 = .ok (.iconst 1, 1) := by decide +kernel
theorem dX7_remembers_46 : decode cX7_remembers 46 = .ok (.isub, 1) := by decide +kernel
theorem dX7_remembers_47 : decode cX7_remembers 47 = .ok (.putfield 234, 3) := by decide +kernel
theorem dX7_remembers_50 : decode cX7_remembers 50 = .ok (.aload_n 0, 1) := by decide +kernel
theorem dX7_remembers_51 : decode cX7_remembers 51 = .ok (.getfield 20, 3) := by decide +kernel
theorem dX7_remembers_54 : decode cX7_remembers 54 = .ok (.aload_n 0, 1) := by decide +kernel
theorem dX7_remembers_55 : decode cX7_remembers 55 = .ok (.getfield 28, 3) := by decide +kernel
theorem dX7_remembers_58 : decode cX7_remembers 58 = .ok (.aload_n 0, 1) := by decide +kernel
theorem dX7_remembers_59 : decode cX7_remembers 59 = .ok (.getfield 234, 3) := by decide +kernel
theorem dX7_remembers_62 : decode cX7_remembers 62 = .ok (.aaload, 1) := by decide +kernel
theorem dX7_remembers_63 : decode cX7_remembers 63 = .ok (.invokestatic 230, 3) := by decide +kernel
theorem dX7_remembers_66 : decode cX7_remembers 66 = .ok (.aload_n 0, 1) := by decide +kernel
theorem dX7_remembers_67 : decode cX7_remembers 67 = .ok (.dup, 1) := by decide +kernel
theorem dX7_remembers_68 : decode cX7_remembers 68 = .ok (.getfield 234, 3) := by decide +kernel
theorem dX7_remembers_71 : decode cX7_remembers 71 = .ok (.iconst 1, 1) := by decide +kernel
theorem dX7_remembers_72 : decode cX7_remembers 72 = .ok (.iadd, 1) := by decide +kernel
theorem dX7_remembers_73 : decode cX7_remembers 73 = .ok (.putfield 234, 3) := by decide +kernel
theorem dX7_remembers_76 : decode cX7_remembers 76 = .ok (.return_, 1) := by decide +kernel
theorem dX7_undo_0 : decode cX7_undo 0 = .ok (.aload_n 0, 1) := by decide +kernel
theorem dX7_undo_1 : decode cX7_undo 1 = .ok (.iconst 0, 1) := by decide +kernel
theorem dX7_undo_2 : decode cX7_undo 2 = .ok (.putfield 58, 3) := by decide +kernel
theorem dX7_undo_5 : decode cX7_undo 5 = .ok (.aload_n 0, 1) := by decide +kernel
theorem dX7_undo_6 : decode cX7_undo 6 = .ok (.getfield 234, 3) := by decide +kernel
theorem dX7_undo_9 : decode cX7_undo 9 = .ok (.ifCond .ne 5, 3) := by decide +kernel
theorem dX7_undo_12 : decode cX7_undo 12 = .ok (.iconst (-1), 1) := by decide +kernel
theorem dX7_undo_13 : decode cX7_undo 13 = .ok (.ireturn, 1) := by decide +kernel
theorem dX7_undo_14 : decode cX7_undo 14 = .ok (.aload_n 0, 1) := by decide +kernel
theorem dX7_undo_15 : decode cX7_undo 15 = .ok (.dup, 1) := by decide +kernel
theorem dX7_undo_16 : decode cX7_undo 16 = .ok (.getfield 234, 3) := by decide +kernel
theorem dX7_undo_19 : decode cX7_undo 19 = .ok (.iconst 1, 1) := by decide +kernel
theorem dX7_undo_20 : decode cX7_undo 20 = .ok (.isub, 1) := by decide +kernel
theorem dX7_undo_21 : decode cX7_undo 21 = .ok (.putfield 234, 3) := by decide +kernel
theorem dX7_undo_24 : decode cX7_undo 24 = .ok (.aload_n 0, 1) := by decide +kernel
theorem dX7_undo_25 : decode cX7_undo 25 = .ok (.getfield 28, 3) := by decide +kernel
theorem dX7_undo_28 : decode cX7_undo 28 = .ok (.aload_n 0, 1) := by decide +kernel
theorem dX7_undo_29 : decode cX7_undo 29 = .ok (.getfield 234, 3) := by decide +kernel
theorem dX7_undo_32 : decode cX7_undo 32 = .ok (.aaload, 1) := by decide +kernel
theorem dX7_undo_33 : decode cX7_undo 33 = .ok (.aload_n 0, 1) := by decide +kernel
theorem dX7_undo_34 : decode cX7_undo 34 = .ok (.getfield 20, 3) := by decide +kernel
theorem dX7_undo_37 : decode cX7_undo 37 = .ok (.invokestatic 230, 3) := by decide +kernel
theorem dX7_undo_40 : decode cX7_undo 40 = .ok (.aload_n 0, 1) := by decide +kernel
theorem dX7_undo_41 : decode cX7_undo 41 = .ok (.getfield 234, 3) := by decide +kernel
theorem dX7_undo_44 : decode cX7_undo 44 = .ok (.ireturn, 1) := by decide +kernel
theorem dX7_begins_0 : decode cX7_begins 0 = .ok (.aload_n 0, 1) := by decide +kernel
theorem dX7_begins_1 : decode cX7_begins 1 = .ok (.iconst 0, 1) := by decide +kernel
theorem dX7_begins_2 : decode cX7_begins 2 = .ok (.putfield 58, 3) := by decide +kernel
theorem dX7_begins_5 : decode cX7_begins 5 = .ok (.aload_n 0, 1) := by decide +kernel
theorem dX7_begins_6 : decode cX7_begins 6 = .ok (.aload_n 0, 1) := by decide +kernel
theorem dX7_begins_7 : decode cX7_begins 7 = .ok (.getfield 20, 3) := by decide +kernel
theorem dX7_begins_10 : decode cX7_begins 10 = .ok (.invokevirtual 211, 3) := by decide +kernel
theorem dX7_begins_13 : decode cX7_begins 13 = .ok (.return_, 1) := by decide +kernel
theorem dX7_isPoly_0 : decode cX7_isPoly 0 = .ok (.iload_n 1, 1) := by decide +kernel
theorem dX7_isPoly_1 : decode cX7_isPoly 1 = .ok (.i2l, 1) := by decide +kernel
theorem dX7_isPoly_2 : decode cX7_isPoly 2 = .ok (.lconst 0, 1) := by decide +kernel
theorem dX7_isPoly_3 : decode cX7_isPoly 3 = .ok (.aload_n 0, 1) := by decide +kernel
theorem dX7_isPoly_4 : decode cX7_isPoly 4 = .ok (.getfield 20, 3) := by decide +kernel
theorem dX7_isPoly_7 : decode cX7_isPoly 7 = .ok (.iconst 2, 1) := by decide +kernel
theorem dX7_isPoly_8 : decode cX7_isPoly 8 = .ok (.iaload, 1) := by decide +kernel
theorem dX7_isPoly_9 : decode cX7_isPoly 9 = .ok (.iconst 1, 1) := by decide +kernel
theorem dX7_isPoly_10 : decode cX7_isPoly 10 = .ok (.isub, 1) := by decide +kernel
theorem dX7_isPoly_11 : decode cX7_isPoly 11 = .ok (.i2l, 1) := by decide +kernel
theorem dX7_isPoly_12 : decode cX7_isPoly 12 = .ok (.invokestatic 154, 3) := by decide +kernel
theorem dX7_isPoly_15 : decode cX7_isPoly 15 = .ok (.ireturn, 1) := by decide +kernel
theorem dX7_isPoint_0 : decode cX7_isPoint 0 = .ok (.iload_n 1, 1) := by decide +kernel
theorem dX7_isPoint_1 : decode cX7_isPoint 1 = .ok (.i2l, 1) := by decide +kernel
theorem dX7_isPoint_2 : decode cX7_isPoint 2 = .ok (.lconst 0, 1) := by decide +kernel
theorem dX7_isPoint_3 : decode cX7_isPoint 3 = .ok (.aload_n 0, 1) := by decide +kernel
theorem dX7_isPoint_4 : decode cX7_isPoint 4 = .ok (.getfield 92, 3) := by decide +kernel
theorem dX7_isPoint_7 : decode cX7_isPoint 7 = .ok (.iconst 1, 1) := by decide +kernel
theorem dX7_isPoint_8 : decode cX7_isPoint 8 = .ok (.isub, 1) := by decide +kernel
theorem dX7_isPoint_9 : decode cX7_isPoint 9 = .ok (.i2l, 1) := by decide +kernel
theorem dX7_isPoint_10 : decode cX7_isPoint 10 = .ok (.invokestatic 154, 3) := by decide +kernel
theorem dX7_isPoint_13 : decode cX7_isPoint 13 = .ok (.ireturn, 1) := by decide +kernel
theorem dX7_of_0 : decode cX7_of 0 = .ok (.aload_n 0, 1) := by decide +kernel
theorem dX7_of_1 : decode cX7_of 1 = .ok (.getfield 20, 3) := by decide +kernel
theorem dX7_of_4 : decode cX7_of 4 = .ok (.iconst 3, 1) := by decide +kernel
theorem dX7_of_5 : decode cX7_of 5 = .ok (.bipush 64, 2) := by decide +kernel
theorem dX7_of_7 : decode cX7_of 7 = .ok (.iload_n 1, 1) := by decide +kernel
theorem dX7_of_8 : decode cX7_of 8 = .ok (.imul, 1) := by decide +kernel
theorem dX7_of_9 : decode cX7_of 9 = .ok (.iadd, 1) := by decide +kernel
theorem dX7_of_10 : decode cX7_of 10 = .ok (.iload_n 2, 1) := by decide +kernel
theorem dX7_of_11 : decode cX7_of 11 = .ok (.iadd, 1) := by decide +kernel
theorem dX7_of_12 : decode cX7_of 12 = .ok (.iaload, 1) := by decide +kernel
theorem dX7_of_13 : decode cX7_of 13 = .ok (.ireturn, 1) := by decide +kernel
theorem dX7_takesValues_0 : decode cX7_takesValues 0 = .ok (.iconst 0, 1) := by decide +kernel
theorem dX7_takesValues_1 : decode cX7_takesValues 1 = .ok (.istore_n 2, 1) := by decide +kernel
theorem dX7_takesValues_2 : decode cX7_takesValues 2 = .ok (.iload_n 2, 1) := by decide +kernel
theorem dX7_takesValues_3 : decode cX7_takesValues 3 = .ok (.aload_n 0, 1) := by decide +kernel
theorem dX7_takesValues_4 : decode cX7_takesValues 4 = .ok (.getfield 92, 3) := by decide +kernel
theorem dX7_takesValues_7 : decode cX7_takesValues 7 = .ok (.if_icmp .ge 21, 3) := by decide +kernel
theorem dX7_takesValues_10 : decode cX7_takesValues 10 = .ok (.aload_n 0, 1) := by decide +kernel
theorem dX7_takesValues_11 : decode cX7_takesValues 11 = .ok (.getfield 46, 3) := by decide +kernel
theorem dX7_takesValues_14 : decode cX7_takesValues 14 = .ok (.iload_n 2, 1) := by decide +kernel
theorem dX7_takesValues_15 : decode cX7_takesValues 15 = .ok (.aload_n 0, 1) := by decide +kernel
theorem dX7_takesValues_16 : decode cX7_takesValues 16 = .ok (.iload_n 1, 1) := by decide +kernel
end
section
theorem dX7_takesValues_17 : decode cX7_takesValues 17 = .ok (.iload_n 2, 1) := by decide +kernel
theorem dX7_takesValues_18 : decode cX7_takesValues 18 = .ok (.invokevirtual 237, 3) := by decide +kernel
theorem dX7_takesValues_21 : decode cX7_takesValues 21 = .ok (.iastore, 1) := by decide +kernel
theorem dX7_takesValues_22 : decode cX7_takesValues 22 = .ok (.iinc 2 1, 3) := by decide +kernel
theorem dX7_takesValues_25 : decode cX7_takesValues 25 = .ok (.goto (-23), 3) := by decide +kernel
theorem dX7_takesValues_28 : decode cX7_takesValues 28 = .ok (.return_, 1) := by decide +kernel
theorem dX7_comes_0 : decode cX7_comes 0 = .ok (.aload_n 0, 1) := by decide +kernel
theorem dX7_comes_1 : decode cX7_comes 1 = .ok (.invokevirtual 227, 3) := by decide +kernel
theorem dX7_comes_4 : decode cX7_comes 4 = .ok (.iconst 0, 1) := by decide +kernel
theorem dX7_comes_5 : decode cX7_comes 5 = .ok (.istore_n 1, 1) := by decide +kernel
theorem dX7_comes_6 : decode cX7_comes 6 = .ok (.iload_n 1, 1) := by decide +kernel
theorem dX7_comes_7 : decode cX7_comes 7 = .ok (.aload_n 0, 1) := by decide +kernel
theorem dX7_comes_8 : decode cX7_comes 8 = .ok (.getfield 92, 3) := by decide +kernel
theorem dX7_comes_11 : decode cX7_comes 11 = .ok (.if_icmp .ge 33, 3) := by decide +kernel
theorem dX7_comes_14 : decode cX7_comes 14 = .ok (.aload_n 0, 1) := by decide +kernel
theorem dX7_comes_15 : decode cX7_comes 15 = .ok (.getfield 20, 3) := by decide +kernel
theorem dX7_comes_18 : decode cX7_comes 18 = .ok (.iconst 3, 1) := by decide +kernel
theorem dX7_comes_19 : decode cX7_comes 19 = .ok (.bipush 64, 2) := by decide +kernel
theorem dX7_comes_21 : decode cX7_comes 21 = .ok (.aload_n 0, 1) := by decide +kernel
theorem dX7_comes_22 : decode cX7_comes 22 = .ok (.getfield 20, 3) := by decide +kernel
theorem dX7_comes_25 : decode cX7_comes 25 = .ok (.iconst 2, 1) := by decide +kernel
theorem dX7_comes_26 : decode cX7_comes 26 = .ok (.iaload, 1) := by decide +kernel
theorem dX7_comes_27 : decode cX7_comes 27 = .ok (.imul, 1) := by decide +kernel
theorem dX7_comes_28 : decode cX7_comes 28 = .ok (.iadd, 1) := by decide +kernel
theorem dX7_comes_29 : decode cX7_comes 29 = .ok (.iload_n 1, 1) := by decide +kernel
theorem dX7_comes_30 : decode cX7_comes 30 = .ok (.iadd, 1) := by decide +kernel
theorem dX7_comes_31 : decode cX7_comes 31 = .ok (.aload_n 0, 1) := by decide +kernel
theorem dX7_comes_32 : decode cX7_comes 32 = .ok (.getfield 46, 3) := by decide +kernel
theorem dX7_comes_35 : decode cX7_comes 35 = .ok (.iload_n 1, 1) := by decide +kernel
theorem dX7_comes_36 : decode cX7_comes 36 = .ok (.iaload, 1) := by decide +kernel
theorem dX7_comes_37 : decode cX7_comes 37 = .ok (.iastore, 1) := by decide +kernel
theorem dX7_comes_38 : decode cX7_comes 38 = .ok (.iinc 1 1, 3) := by decide +kernel
theorem dX7_comes_41 : decode cX7_comes 41 = .ok (.goto (-35), 3) := by decide +kernel
theorem dX7_comes_44 : decode cX7_comes 44 = .ok (.aload_n 0, 1) := by decide +kernel
theorem dX7_comes_45 : decode cX7_comes 45 = .ok (.getfield 20, 3) := by decide +kernel
theorem dX7_comes_48 : decode cX7_comes 48 = .ok (.iconst 2, 1) := by decide +kernel
theorem dX7_comes_49 : decode cX7_comes 49 = .ok (.dup2, 1) := by decide +kernel
theorem dX7_comes_50 : decode cX7_comes 50 = .ok (.iaload, 1) := by decide +kernel
theorem dX7_comes_51 : decode cX7_comes 51 = .ok (.iconst 1, 1) := by decide +kernel
theorem dX7_comes_52 : decode cX7_comes 52 = .ok (.iadd, 1) := by decide +kernel
theorem dX7_comes_53 : decode cX7_comes 53 = .ok (.iastore, 1) := by decide +kernel
theorem dX7_comes_54 : decode cX7_comes 54 = .ok (.aload_n 0, 1) := by decide +kernel
theorem dX7_comes_55 : decode cX7_comes 55 = .ok (.getfield 20, 3) := by decide +kernel
theorem dX7_comes_58 : decode cX7_comes 58 = .ok (.iconst 2, 1) := by decide +kernel
theorem dX7_comes_59 : decode cX7_comes 59 = .ok (.iaload, 1) := by decide +kernel
theorem dX7_comes_60 : decode cX7_comes 60 = .ok (.iconst 1, 1) := by decide +kernel
theorem dX7_comes_61 : decode cX7_comes 61 = .ok (.isub, 1) := by decide +kernel
theorem dX7_comes_62 : decode cX7_comes 62 = .ok (.ireturn, 1) := by decide +kernel
theorem dX7_isFull_0 : decode cX7_isFull 0 = .ok (.aload_n 0, 1) := by decide +kernel
theorem dX7_isFull_1 : decode cX7_isFull 1 = .ok (.getfield 20, 3) := by decide +kernel
theorem dX7_isFull_4 : decode cX7_isFull 4 = .ok (.iconst 2, 1) := by decide +kernel
theorem dX7_isFull_5 : decode cX7_isFull 5 = .ok (.iaload, 1) := by decide +kernel
theorem dX7_isFull_6 : decode cX7_isFull 6 = .ok (.bipush 6, 2) := by decide +kernel
theorem dX7_isFull_8 : decode cX7_isFull 8 = .ok (.if_icmp .ne 7, 3) := by decide +kernel
theorem dX7_isFull_11 : decode cX7_isFull 11 = .ok (.iconst 1, 1) := by decide +kernel
theorem dX7_isFull_12 : decode cX7_isFull 12 = .ok (.goto 4, 3) := by decide +kernel
theorem dX7_isFull_15 : decode cX7_isFull 15 = .ok (.iconst 0, 1) := by decide +kernel
theorem dX7_isFull_16 : decode cX7_isFull 16 = .ok (.ireturn, 1) := by decide +kernel
theorem dX7_value_0 : decode cX7_value 0 = .ok (.aload_n 0, 1) := by decide +kernel
theorem dX7_value_1 : decode cX7_value 1 = .ok (.invokevirtual 240, 3) := by decide +kernel
theorem dX7_value_4 : decode cX7_value 4 = .ok (.aload_n 0, 1) := by decide +kernel
theorem dX7_value_5 : decode cX7_value 5 = .ok (.aload_n 0, 1) := by decide +kernel
theorem dX7_value_6 : decode cX7_value 6 = .ok (.iload_n 1, 1) := by decide +kernel
theorem dX7_value_7 : decode cX7_value 7 = .ok (.invokevirtual 243, 3) := by decide +kernel
theorem dX7_value_10 : decode cX7_value 10 = .ok (.ifCond .eq 19, 3) := by decide +kernel
theorem dX7_value_13 : decode cX7_value 13 = .ok (.aload_n 0, 1) := by decide +kernel
theorem dX7_value_14 : decode cX7_value 14 = .ok (.iload_n 2, 1) := by decide +kernel
theorem dX7_value_15 : decode cX7_value 15 = .ok (.invokevirtual 246, 3) := by decide +kernel
theorem dX7_value_18 : decode cX7_value 18 = .ok (.ifCond .eq 11, 3) := by decide +kernel
theorem dX7_value_21 : decode cX7_value 21 = .ok (.aload_n 0, 1) := by decide +kernel
theorem dX7_value_22 : decode cX7_value 22 = .ok (.iload_n 3, 1) := by decide +kernel
theorem dX7_value_23 : decode cX7_value 23 = .ok (.invokevirtual 246, 3) := by decide +kernel
theorem dX7_value_26 : decode cX7_value 26 = .ok (.ifCond .ne 7, 3) := by decide +kernel
theorem dX7_value_29 : decode cX7_value 29 = .ok (.iconst 1, 1) := by decide +kernel
theorem dX7_value_30 : decode cX7_value 30 = .ok (.goto 4, 3) := by decide +kernel
theorem dX7_value_33 : decode cX7_value 33 = .ok (.iconst 0, 1) := by decide +kernel
theorem dX7_value_34 : decode cX7_value 34 = .ok (.iconst 1, 1) := by decide +kernel
theorem dX7_value_35 : decode cX7_value 35 = .ok (.iconst 0, 1) := by decide +kernel
theorem dX7_value_36 : decode cX7_value 36 = .ok (.invokevirtual 215, 3) := by decide +kernel
theorem dX7_value_39 : decode cX7_value 39 = .ok (.ifCond .eq 5, 3) := by decide +kernel
theorem dX7_value_42 : decode cX7_value 42 = .ok (.iconst 0, 1) := by decide +kernel
theorem dX7_value_43 : decode cX7_value 43 = .ok (.ireturn, 1) := by decide +kernel
theorem dX7_value_44 : decode cX7_value 44 = .ok (.aload_n 0, 1) := by decide +kernel
theorem dX7_value_45 : decode cX7_value 45 = .ok (.invokevirtual 227, 3) := by decide +kernel
theorem dX7_value_48 : decode cX7_value 48 = .ok (.aload_n 0, 1) := by decide +kernel
theorem dX7_value_49 : decode cX7_value 49 = .ok (.iload_n 1, 1) := by decide +kernel
theorem dX7_value_50 : decode cX7_value 50 = .ok (.iload_n 2, 1) := by decide +kernel
theorem dX7_value_51 : decode cX7_value 51 = .ok (.invokevirtual 237, 3) := by decide +kernel
theorem dX7_value_54 : decode cX7_value 54 = .ok (.istore 4, 2) := by decide +kernel
theorem dX7_value_56 : decode cX7_value 56 = .ok (.aload_n 0, 1) := by decide +kernel
theorem dX7_value_57 : decode cX7_value 57 = .ok (.getfield 20, 3) := by decide +kernel
theorem dX7_value_60 : decode cX7_value 60 = .ok (.iconst 3, 1) := by decide +kernel
theorem dX7_value_61 : decode cX7_value 61 = .ok (.bipush 64, 2) := by decide +kernel
theorem dX7_value_63 : decode cX7_value 63 = .ok (.iload_n 1, 1) := by decide +kernel
theorem dX7_value_64 : decode cX7_value 64 = .ok (.imul, 1) := by decide +kernel
theorem dX7_value_65 : decode cX7_value 65 = .ok (.iadd, 1) := by decide +kernel
theorem dX7_value_66 : decode cX7_value 66 = .ok (.iload_n 2, 1) := by decide +kernel
theorem dX7_value_67 : decode cX7_value 67 = .ok (.iadd, 1) := by decide +kernel
theorem dX7_value_68 : decode cX7_value 68 = .ok (.iload_n 3, 1) := by decide +kernel
theorem dX7_value_69 : decode cX7_value 69 = .ok (.iastore, 1) := by decide +kernel
theorem dX7_value_70 : decode cX7_value 70 = .ok (.iload 4, 2) := by decide +kernel
theorem dX7_value_72 : decode cX7_value 72 = .ok (.ireturn, 1) := by decide +kernel
theorem dX7_after_0 : decode cX7_after 0 = .ok (.aload_n 0, 1) := by decide +kernel
theorem dX7_after_1 : decode cX7_after 1 = .ok (.invokevirtual 240, 3) := by decide +kernel
theorem dX7_after_4 : decode cX7_after 4 = .ok (.aload_n 0, 1) := by decide +kernel
theorem dX7_after_5 : decode cX7_after 5 = .ok (.aload_n 0, 1) := by decide +kernel
theorem dX7_after_6 : decode cX7_after 6 = .ok (.iload_n 1, 1) := by decide +kernel
theorem dX7_after_7 : decode cX7_after 7 = .ok (.invokevirtual 243, 3) := by decide +kernel
theorem dX7_after_10 : decode cX7_after 10 = .ok (.ifCond .eq 11, 3) := by decide +kernel
theorem dX7_after_13 : decode cX7_after 13 = .ok (.aload_n 0, 1) := by decide +kernel
theorem dX7_after_14 : decode cX7_after 14 = .ok (.iload_n 2, 1) := by decide +kernel
theorem dX7_after_15 : decode cX7_after 15 = .ok (.invokevirtual 243, 3) := by decide +kernel
theorem dX7_after_18 : decode cX7_after 18 = .ok (.ifCond .ne 7, 3) := by decide +kernel
theorem dX7_after_21 : decode cX7_after 21 = .ok (.iconst 1, 1) := by decide +kernel
theorem dX7_after_22 : decode cX7_after 22 = .ok (.goto 4, 3) := by decide +kernel
theorem dX7_after_25 : decode cX7_after 25 = .ok (.iconst 0, 1) := by decide +kernel
theorem dX7_after_26 : decode cX7_after 26 = .ok (.iconst 1, 1) := by decide +kernel
theorem dX7_after_27 : decode cX7_after 27 = .ok (.iconst 0, 1) := by decide +kernel
theorem dX7_after_28 : decode cX7_after 28 = .ok (.invokevirtual 215, 3) := by decide +kernel
theorem dX7_after_31 : decode cX7_after 31 = .ok (.ifCond .ne 16, 3) := by decide +kernel
theorem dX7_after_34 : decode cX7_after 34 = .ok (.aload_n 0, 1) := by decide +kernel
theorem dX7_after_35 : decode cX7_after 35 = .ok (.aload_n 0, 1) := by decide +kernel
theorem dX7_after_36 : decode cX7_after 36 = .ok (.invokevirtual 249, 3) := by decide +kernel
theorem dX7_after_39 : decode cX7_after 39 = .ok (.iconst 2, 1) := by decide +kernel
theorem dX7_after_40 : decode cX7_after 40 = .ok (.iconst 2, 1) := by decide +kernel
theorem dX7_after_41 : decode cX7_after 41 = .ok (.invokevirtual 215, 3) := by decide +kernel
theorem dX7_after_44 : decode cX7_after 44 = .ok (.ifCond .eq 5, 3) := by decide +kernel
theorem dX7_after_47 : decode cX7_after 47 = .ok (.iconst 0, 1) := by decide +kernel
theorem dX7_after_48 : decode cX7_after 48 = .ok (.ireturn, 1) := by decide +kernel
theorem dX7_after_49 : decode cX7_after 49 = .ok (.iconst 0, 1) := by decide +kernel
theorem dX7_after_50 : decode cX7_after 50 = .ok (.istore_n 3, 1) := by decide +kernel
theorem dX7_after_51 : decode cX7_after 51 = .ok (.iload_n 3, 1) := by decide +kernel
theorem dX7_after_52 : decode cX7_after 52 = .ok (.aload_n 0, 1) := by decide +kernel
theorem dX7_after_53 : decode cX7_after 53 = .ok (.getfield 92, 3) := by decide +kernel
theorem dX7_after_56 : decode cX7_after 56 = .ok (.if_icmp .ge 26, 3) := by decide +kernel
theorem dX7_after_59 : decode cX7_after 59 = .ok (.aload_n 0, 1) := by decide +kernel
theorem dX7_after_60 : decode cX7_after 60 = .ok (.getfield 46, 3) := by decide +kernel
theorem dX7_after_63 : decode cX7_after 63 = .ok (.iload_n 3, 1) := by decide +kernel
theorem dX7_after_64 : decode cX7_after 64 = .ok (.aload_n 0, 1) := by decide +kernel
theorem dX7_after_65 : decode cX7_after 65 = .ok (.iload_n 1, 1) := by decide +kernel
theorem dX7_after_66 : decode cX7_after 66 = .ok (.aload_n 0, 1) := by decide +kernel
theorem dX7_after_67 : decode cX7_after 67 = .ok (.iload_n 2, 1) := by decide +kernel
theorem dX7_after_68 : decode cX7_after 68 = .ok (.iload_n 3, 1) := by decide +kernel
theorem dX7_after_69 : decode cX7_after 69 = .ok (.invokevirtual 237, 3) := by decide +kernel
theorem dX7_after_72 : decode cX7_after 72 = .ok (.invokevirtual 237, 3) := by decide +kernel
theorem dX7_after_75 : decode cX7_after 75 = .ok (.iastore, 1) := by decide +kernel
theorem dX7_after_76 : decode cX7_after 76 = .ok (.iinc 3 1, 3) := by decide +kernel
theorem dX7_after_79 : decode cX7_after 79 = .ok (.goto (-28), 3) := by decide +kernel
theorem dX7_after_82 : decode cX7_after 82 = .ok (.aload_n 0, 1) := by decide +kernel
theorem dX7_after_83 : decode cX7_after 83 = .ok (.invokevirtual 252, 3) := by decide +kernel
theorem dX7_after_86 : decode cX7_after 86 = .ok (.ireturn, 1) := by decide +kernel
theorem dX7_putsBehind_0 : decode cX7_putsBehind 0 = .ok (.iconst 0, 1) := by decide +kernel
theorem dX7_putsBehind_1 : decode cX7_putsBehind 1 = .ok (.istore_n 3, 1) := by decide +kernel
theorem dX7_putsBehind_2 : decode cX7_putsBehind 2 = .ok (.iload_n 3, 1) := by decide +kernel
theorem dX7_putsBehind_3 : decode cX7_putsBehind 3 = .ok (.aload_n 0, 1) := by decide +kernel
theorem dX7_putsBehind_4 : decode cX7_putsBehind 4 = .ok (.getfield 92, 3) := by decide +kernel
theorem dX7_putsBehind_7 : decode cX7_putsBehind 7 = .ok (.if_icmp .ge 20, 3) := by decide +kernel
theorem dX7_putsBehind_10 : decode cX7_putsBehind 10 = .ok (.aload_n 0, 1) := by decide +kernel
theorem dX7_putsBehind_11 : decode cX7_putsBehind 11 = .ok (.getfield 52, 3) := by decide +kernel
theorem dX7_putsBehind_14 : decode cX7_putsBehind 14 = .ok (.iload_n 3, 1) := by decide +kernel
theorem dX7_putsBehind_15 : decode cX7_putsBehind 15 = .ok (.aload_n 2, 1) := by decide +kernel
theorem dX7_putsBehind_16 : decode cX7_putsBehind 16 = .ok (.aload_n 1, 1) := by decide +kernel
theorem dX7_putsBehind_17 : decode cX7_putsBehind 17 = .ok (.iload_n 3, 1) := by decide +kernel
theorem dX7_putsBehind_18 : decode cX7_putsBehind 18 = .ok (.iaload, 1) := by decide +kernel
theorem dX7_putsBehind_19 : decode cX7_putsBehind 19 = .ok (.iaload, 1) := by decide +kernel
theorem dX7_putsBehind_20 : decode cX7_putsBehind 20 = .ok (.iastore, 1) := by decide +kernel
theorem dX7_putsBehind_21 : decode cX7_putsBehind 21 = .ok (.iinc 3 1, 3) := by decide +kernel
theorem dX7_putsBehind_24 : decode cX7_putsBehind 24 = .ok (.goto (-22), 3) := by decide +kernel
theorem dX7_putsBehind_27 : decode cX7_putsBehind 27 = .ok (.iconst 0, 1) := by decide +kernel
theorem dX7_putsBehind_28 : decode cX7_putsBehind 28 = .ok (.istore_n 3, 1) := by decide +kernel
theorem dX7_putsBehind_29 : decode cX7_putsBehind 29 = .ok (.iload_n 3, 1) := by decide +kernel
theorem dX7_putsBehind_30 : decode cX7_putsBehind 30 = .ok (.aload_n 0, 1) := by decide +kernel
theorem dX7_putsBehind_31 : decode cX7_putsBehind 31 = .ok (.getfield 92, 3) := by decide +kernel
theorem dX7_putsBehind_34 : decode cX7_putsBehind 34 = .ok (.if_icmp .ge 18, 3) := by decide +kernel
theorem dX7_putsBehind_37 : decode cX7_putsBehind 37 = .ok (.aload_n 1, 1) := by decide +kernel
theorem dX7_putsBehind_38 : decode cX7_putsBehind 38 = .ok (.iload_n 3, 1) := by decide +kernel
theorem dX7_putsBehind_39 : decode cX7_putsBehind 39 = .ok (.aload_n 0, 1) := by decide +kernel
theorem dX7_putsBehind_40 : decode cX7_putsBehind 40 = .ok (.getfield 52, 3) := by decide +kernel
theorem dX7_putsBehind_43 : decode cX7_putsBehind 43 = .ok (.iload_n 3, 1) := by decide +kernel
theorem dX7_putsBehind_44 : decode cX7_putsBehind 44 = .ok (.iaload, 1) := by decide +kernel
theorem dX7_putsBehind_45 : decode cX7_putsBehind 45 = .ok (.iastore, 1) := by decide +kernel
theorem dX7_putsBehind_46 : decode cX7_putsBehind 46 = .ok (.iinc 3 1, 3) := by decide +kernel
theorem dX7_putsBehind_49 : decode cX7_putsBehind 49 = .ok (.goto (-20), 3) := by decide +kernel
theorem dX7_putsBehind_52 : decode cX7_putsBehind 52 = .ok (.return_, 1) := by decide +kernel
theorem dX7_again_0 : decode cX7_again 0 = .ok (.aload_n 0, 1) := by decide +kernel
theorem dX7_again_1 : decode cX7_again 1 = .ok (.invokevirtual 240, 3) := by decide +kernel
theorem dX7_again_4 : decode cX7_again 4 = .ok (.aload_n 0, 1) := by decide +kernel
theorem dX7_again_5 : decode cX7_again 5 = .ok (.aload_n 0, 1) := by decide +kernel
theorem dX7_again_6 : decode cX7_again 6 = .ok (.iload_n 1, 1) := by decide +kernel
theorem dX7_again_7 : decode cX7_again 7 = .ok (.invokevirtual 243, 3) := by decide +kernel
theorem dX7_again_10 : decode cX7_again 10 = .ok (.ifCond .ne 7, 3) := by decide +kernel
theorem dX7_again_13 : decode cX7_again 13 = .ok (.iconst 1, 1) := by decide +kernel
theorem dX7_again_14 : decode cX7_again 14 = .ok (.goto 4, 3) := by decide +kernel
theorem dX7_again_17 : decode cX7_again 17 = .ok (.iconst 0, 1) := by decide +kernel
theorem dX7_again_18 : decode cX7_again 18 = .ok (.iconst 1, 1) := by decide +kernel
theorem dX7_again_19 : decode cX7_again 19 = .ok (.iconst 0, 1) := by decide +kernel
theorem dX7_again_20 : decode cX7_again 20 = .ok (.invokevirtual 215, 3) := by decide +kernel
theorem dX7_again_23 : decode cX7_again 23 = .ok (.ifCond .ne 42, 3) := by decide +kernel
theorem dX7_again_26 : decode cX7_again 26 = .ok (.aload_n 0, 1) := by decide +kernel
theorem dX7_again_27 : decode cX7_again 27 = .ok (.iload_n 2, 1) := by decide +kernel
theorem dX7_again_28 : decode cX7_again 28 = .ok (.i2l, 1) := by decide +kernel
theorem dX7_again_29 : decode cX7_again 29 = .ok (.lconst 0, 1) := by decide +kernel
theorem dX7_again_30 : decode cX7_again 30 = .ok (.ldc2_w 255, 3) := by decide +kernel
theorem dX7_again_33 : decode cX7_again 33 = .ok (.invokestatic 154, 3) := by decide +kernel
theorem dX7_again_36 : decode cX7_again 36 = .ok (.ifCond .ne 7, 3) := by decide +kernel
theorem dX7_again_39 : decode cX7_again 39 = .ok (.iconst 1, 1) := by decide +kernel
theorem dX7_again_40 : decode cX7_again 40 = .ok (.goto 4, 3) := by decide +kernel
theorem dX7_again_43 : decode cX7_again 43 = .ok (.iconst 0, 1) := by decide +kernel
theorem dX7_again_44 : decode cX7_again 44 = .ok (.iconst 2, 1) := by decide +kernel
theorem dX7_again_45 : decode cX7_again 45 = .ok (.iconst 1, 1) := by decide +kernel
theorem dX7_again_46 : decode cX7_again 46 = .ok (.invokevirtual 215, 3) := by decide +kernel
theorem dX7_again_49 : decode cX7_again 49 = .ok (.ifCond .ne 16, 3) := by decide +kernel
theorem dX7_again_52 : decode cX7_again 52 = .ok (.aload_n 0, 1) := by decide +kernel
theorem dX7_again_53 : decode cX7_again 53 = .ok (.aload_n 0, 1) := by decide +kernel
theorem dX7_again_54 : decode cX7_again 54 = .ok (.invokevirtual 249, 3) := by decide +kernel
theorem dX7_again_57 : decode cX7_again 57 = .ok (.iconst 3, 1) := by decide +kernel
theorem dX7_again_58 : decode cX7_again 58 = .ok (.iconst 2, 1) := by decide +kernel
theorem dX7_again_59 : decode cX7_again 59 = .ok (.invokevirtual 215, 3) := by decide +kernel
theorem dX7_again_62 : decode cX7_again 62 = .ok (.ifCond .eq 5, 3) := by decide +kernel
theorem dX7_again_65 : decode cX7_again 65 = .ok (.iconst 0, 1) := by decide +kernel
theorem dX7_again_66 : decode cX7_again 66 = .ok (.ireturn, 1) := by decide +kernel
theorem dX7_again_67 : decode cX7_again 67 = .ok (.iconst 0, 1) := by decide +kernel
theorem dX7_again_68 : decode cX7_again 68 = .ok (.istore_n 3, 1) := by decide +kernel
theorem dX7_again_69 : decode cX7_again 69 = .ok (.iload_n 3, 1) := by decide +kernel
theorem dX7_again_70 : decode cX7_again 70 = .ok (.aload_n 0, 1) := by decide +kernel
theorem dX7_again_71 : decode cX7_again 71 = .ok (.getfield 92, 3) := by decide +kernel
theorem dX7_again_74 : decode cX7_again 74 = .ok (.if_icmp .ge 28, 3) := by decide +kernel
theorem dX7_again_77 : decode cX7_again 77 = .ok (.aload_n 0, 1) := by decide +kernel
theorem dX7_again_78 : decode cX7_again 78 = .ok (.getfield 46, 3) := by decide +kernel
theorem dX7_again_81 : decode cX7_again 81 = .ok (.iload_n 3, 1) := by decide +kernel
theorem dX7_again_82 : decode cX7_again 82 = .ok (.iload_n 3, 1) := by decide +kernel
theorem dX7_again_83 : decode cX7_again 83 = .ok (.iastore, 1) := by decide +kernel
theorem dX7_again_84 : decode cX7_again 84 = .ok (.aload_n 0, 1) := by decide +kernel
theorem dX7_again_85 : decode cX7_again 85 = .ok (.getfield 49, 3) := by decide +kernel
theorem dX7_again_88 : decode cX7_again 88 = .ok (.iload_n 3, 1) := by decide +kernel
theorem dX7_again_89 : decode cX7_again 89 = .ok (.aload_n 0, 1) := by decide +kernel
theorem dX7_again_90 : decode cX7_again 90 = .ok (.iload_n 1, 1) := by decide +kernel
theorem dX7_again_91 : decode cX7_again 91 = .ok (.iload_n 3, 1) := by decide +kernel
theorem dX7_again_92 : decode cX7_again 92 = .ok (.invokevirtual 237, 3) := by decide +kernel
theorem dX7_again_95 : decode cX7_again 95 = .ok (.iastore, 1) := by decide +kernel
theorem dX7_again_96 : decode cX7_again 96 = .ok (.iinc 3 1, 3) := by decide +kernel
theorem dX7_again_99 : decode cX7_again 99 = .ok (.goto (-30), 3) := by decide +kernel
theorem dX7_again_102 : decode cX7_again 102 = .ok (.iload_n 2, 1) := by decide +kernel
theorem dX7_again_103 : decode cX7_again 103 = .ok (.istore_n 3, 1) := by decide +kernel
theorem dX7_again_104 : decode cX7_again 104 = .ok (.iload_n 3, 1) := by decide +kernel
theorem dX7_again_105 : decode cX7_again 105 = .ok (.ifCond .le 41, 3) := by decide +kernel
theorem dX7_again_108 : decode cX7_again 108 = .ok (.iload_n 3, 1) := by decide +kernel
theorem dX7_again_109 : decode cX7_again 109 = .ok (.iconst 2, 1) := by decide +kernel
theorem dX7_again_110 : decode cX7_again 110 = .ok (.irem, 1) := by decide +kernel
theorem dX7_again_111 : decode cX7_again 111 = .ok (.iconst 1, 1) := by decide +kernel
theorem dX7_again_112 : decode cX7_again 112 = .ok (.if_icmp .ne 15, 3) := by decide +kernel
theorem dX7_again_115 : decode cX7_again 115 = .ok (.aload_n 0, 1) := by decide +kernel
theorem dX7_again_116 : decode cX7_again 116 = .ok (.aload_n 0, 1) := by decide +kernel
theorem dX7_again_117 : decode cX7_again 117 = .ok (.getfield 46, 3) := by decide +kernel
theorem dX7_again_120 : decode cX7_again 120 = .ok (.aload_n 0, 1) := by decide +kernel
theorem dX7_again_121 : decode cX7_again 121 = .ok (.getfield 49, 3) := by decide +kernel
theorem dX7_again_124 : decode cX7_again 124 = .ok (.invokevirtual 257, 3) := by decide +kernel
theorem dX7_again_127 : decode cX7_again 127 = .ok (.aload_n 0, 1) := by decide +kernel
theorem dX7_again_128 : decode cX7_again 128 = .ok (.aload_n 0, 1) := by decide +kernel
theorem dX7_again_129 : decode cX7_again 129 = .ok (.getfield 49, 3) := by decide +kernel
theorem dX7_again_132 : decode cX7_again 132 = .ok (.aload_n 0, 1) := by decide +kernel
theorem dX7_again_133 : decode cX7_again 133 = .ok (.getfield 49, 3) := by decide +kernel
theorem dX7_again_136 : decode cX7_again 136 = .ok (.invokevirtual 257, 3) := by decide +kernel
theorem dX7_again_139 : decode cX7_again 139 = .ok (.iload_n 3, 1) := by decide +kernel
theorem dX7_again_140 : decode cX7_again 140 = .ok (.iconst 2, 1) := by decide +kernel
theorem dX7_again_141 : decode cX7_again 141 = .ok (.idiv, 1) := by decide +kernel
theorem dX7_again_142 : decode cX7_again 142 = .ok (.istore_n 3, 1) := by decide +kernel
theorem dX7_again_143 : decode cX7_again 143 = .ok (.goto (-39), 3) := by decide +kernel
theorem dX7_again_146 : decode cX7_again 146 = .ok (.aload_n 0, 1) := by decide +kernel
theorem dX7_again_147 : decode cX7_again 147 = .ok (.invokevirtual 252, 3) := by decide +kernel
theorem dX7_again_150 : decode cX7_again 150 = .ok (.ireturn, 1) := by decide +kernel
theorem dX7_imageOf_0 : decode cX7_imageOf 0 = .ok (.iconst 0, 1) := by decide +kernel
theorem dX7_imageOf_1 : decode cX7_imageOf 1 = .ok (.istore_n 2, 1) := by decide +kernel
theorem dX7_imageOf_2 : decode cX7_imageOf 2 = .ok (.iconst 0, 1) := by decide +kernel
theorem dX7_imageOf_3 : decode cX7_imageOf 3 = .ok (.istore_n 3, 1) := by decide +kernel
theorem dX7_imageOf_4 : decode cX7_imageOf 4 = .ok (.iload_n 3, 1) := by decide +kernel
theorem dX7_imageOf_5 : decode cX7_imageOf 5 = .ok (.aload_n 0, 1) := by decide +kernel
theorem dX7_imageOf_6 : decode cX7_imageOf 6 = .ok (.getfield 92, 3) := by decide +kernel
theorem dX7_imageOf_9 : decode cX7_imageOf 9 = .ok (.if_icmp .ge 26, 3) := by decide +kernel
theorem dX7_imageOf_12 : decode cX7_imageOf 12 = .ok (.iload_n 2, 1) := by decide +kernel
theorem dX7_imageOf_13 : decode cX7_imageOf 13 = .ok (.aload_n 0, 1) := by decide +kernel
theorem dX7_imageOf_14 : decode cX7_imageOf 14 = .ok (.iload_n 1, 1) := by decide +kernel
theorem dX7_imageOf_15 : decode cX7_imageOf 15 = .ok (.iload_n 3, 1) := by decide +kernel
theorem dX7_imageOf_16 : decode cX7_imageOf 16 = .ok (.invokevirtual 260, 3) := by decide +kernel
theorem dX7_imageOf_19 : decode cX7_imageOf 19 = .ok (.ifCond .le 7, 3) := by decide +kernel
theorem dX7_imageOf_22 : decode cX7_imageOf 22 = .ok (.iconst 1, 1) := by decide +kernel
theorem dX7_imageOf_23 : decode cX7_imageOf 23 = .ok (.goto 4, 3) := by decide +kernel
theorem dX7_imageOf_26 : decode cX7_imageOf 26 = .ok (.iconst 0, 1) := by decide +kernel
theorem dX7_imageOf_27 : decode cX7_imageOf 27 = .ok (.iadd, 1) := by decide +kernel
theorem dX7_imageOf_28 : decode cX7_imageOf 28 = .ok (.istore_n 2, 1) := by decide +kernel
theorem dX7_imageOf_29 : decode cX7_imageOf 29 = .ok (.iinc 3 1, 3) := by decide +kernel
theorem dX7_imageOf_32 : decode cX7_imageOf 32 = .ok (.goto (-28), 3) := by decide +kernel
theorem dX7_imageOf_35 : decode cX7_imageOf 35 = .ok (.iload_n 2, 1) := by decide +kernel
theorem dX7_imageOf_36 : decode cX7_imageOf 36 = .ok (.ireturn, 1) := by decide +kernel
theorem dX7_takenBy_0 : decode cX7_takenBy 0 = .ok (.iconst 0, 1) := by decide +kernel
theorem dX7_takenBy_1 : decode cX7_takenBy 1 = .ok (.istore_n 3, 1) := by decide +kernel
theorem dX7_takenBy_2 : decode cX7_takenBy 2 = .ok (.iconst 0, 1) := by decide +kernel
theorem dX7_takenBy_3 : decode cX7_takenBy 3 = .ok (.istore 4, 2) := by decide +kernel
theorem dX7_takenBy_5 : decode cX7_takenBy 5 = .ok (.iload 4, 2) := by decide +kernel
theorem dX7_takenBy_7 : decode cX7_takenBy 7 = .ok (.aload_n 0, 1) := by decide +kernel
theorem dX7_takenBy_8 : decode cX7_takenBy 8 = .ok (.getfield 92, 3) := by decide +kernel
theorem dX7_takenBy_11 : decode cX7_takenBy 11 = .ok (.if_icmp .ge 28, 3) := by decide +kernel
theorem dX7_takenBy_14 : decode cX7_takenBy 14 = .ok (.iload_n 3, 1) := by decide +kernel
theorem dX7_takenBy_15 : decode cX7_takenBy 15 = .ok (.aload_n 0, 1) := by decide +kernel
theorem dX7_takenBy_16 : decode cX7_takenBy 16 = .ok (.iload_n 1, 1) := by decide +kernel
theorem dX7_takenBy_17 : decode cX7_takenBy 17 = .ok (.iload 4, 2) := by decide +kernel
theorem dX7_takenBy_19 : decode cX7_takenBy 19 = .ok (.invokevirtual 237, 3) := by decide +kernel
theorem dX7_takenBy_22 : decode cX7_takenBy 22 = .ok (.iload_n 2, 1) := by decide +kernel
theorem dX7_takenBy_23 : decode cX7_takenBy 23 = .ok (.if_icmp .ne 7, 3) := by decide +kernel
theorem dX7_takenBy_26 : decode cX7_takenBy 26 = .ok (.iconst 1, 1) := by decide +kernel
theorem dX7_takenBy_27 : decode cX7_takenBy 27 = .ok (.goto 4, 3) := by decide +kernel
theorem dX7_takenBy_30 : decode cX7_takenBy 30 = .ok (.iconst 0, 1) := by decide +kernel
theorem dX7_takenBy_31 : decode cX7_takenBy 31 = .ok (.iadd, 1) := by decide +kernel
theorem dX7_takenBy_32 : decode cX7_takenBy 32 = .ok (.istore_n 3, 1) := by decide +kernel
theorem dX7_takenBy_33 : decode cX7_takenBy 33 = .ok (.iinc 4 1, 3) := by decide +kernel
theorem dX7_takenBy_36 : decode cX7_takenBy 36 = .ok (.goto (-31), 3) := by decide +kernel
theorem dX7_takenBy_39 : decode cX7_takenBy 39 = .ok (.iload_n 3, 1) := by decide +kernel
theorem dX7_takenBy_40 : decode cX7_takenBy 40 = .ok (.ireturn, 1) := by decide +kernel
theorem dX7_isPermuting_0 : decode cX7_isPermuting 0 = .ok (.aload_n 0, 1) := by decide +kernel
theorem dX7_isPermuting_1 : decode cX7_isPermuting 1 = .ok (.iload_n 1, 1) := by decide +kernel
theorem dX7_isPermuting_2 : decode cX7_isPermuting 2 = .ok (.invokevirtual 263, 3) := by decide +kernel
theorem dX7_isPermuting_5 : decode cX7_isPermuting 5 = .ok (.aload_n 0, 1) := by decide +kernel
theorem dX7_isPermuting_6 : decode cX7_isPermuting 6 = .ok (.getfield 92, 3) := by decide +kernel
theorem dX7_isPermuting_9 : decode cX7_isPermuting 9 = .ok (.if_icmp .ne 7, 3) := by decide +kernel
theorem dX7_isPermuting_12 : decode cX7_isPermuting 12 = .ok (.iconst 1, 1) := by decide +kernel
theorem dX7_isPermuting_13 : decode cX7_isPermuting 13 = .ok (.goto 4, 3) := by decide +kernel
theorem dX7_isPermuting_16 : decode cX7_isPermuting 16 = .ok (.iconst 0, 1) := by decide +kernel
theorem dX7_isPermuting_17 : decode cX7_isPermuting 17 = .ok (.ireturn, 1) := by decide +kernel
theorem dX7_back_0 : decode cX7_back 0 = .ok (.aload_n 0, 1) := by decide +kernel
theorem dX7_back_1 : decode cX7_back 1 = .ok (.invokevirtual 240, 3) := by decide +kernel
theorem dX7_back_4 : decode cX7_back 4 = .ok (.aload_n 0, 1) := by decide +kernel
theorem dX7_back_5 : decode cX7_back 5 = .ok (.aload_n 0, 1) := by decide +kernel
theorem dX7_back_6 : decode cX7_back 6 = .ok (.iload_n 1, 1) := by decide +kernel
theorem dX7_back_7 : decode cX7_back 7 = .ok (.invokevirtual 243, 3) := by decide +kernel
theorem dX7_back_10 : decode cX7_back 10 = .ok (.ifCond .ne 7, 3) := by decide +kernel
theorem dX7_back_13 : decode cX7_back 13 = .ok (.iconst 1, 1) := by decide +kernel
theorem dX7_back_14 : decode cX7_back 14 = .ok (.goto 4, 3) := by decide +kernel
theorem dX7_back_17 : decode cX7_back 17 = .ok (.iconst 0, 1) := by decide +kernel
theorem dX7_back_18 : decode cX7_back 18 = .ok (.iconst 1, 1) := by decide +kernel
theorem dX7_back_19 : decode cX7_back 19 = .ok (.iconst 0, 1) := by decide +kernel
theorem dX7_back_20 : decode cX7_back 20 = .ok (.invokevirtual 215, 3) := by decide +kernel
theorem dX7_back_23 : decode cX7_back 23 = .ok (.ifCond .ne 32, 3) := by decide +kernel
theorem dX7_back_26 : decode cX7_back 26 = .ok (.aload_n 0, 1) := by decide +kernel
theorem dX7_back_27 : decode cX7_back 27 = .ok (.aload_n 0, 1) := by decide +kernel
theorem dX7_back_28 : decode cX7_back 28 = .ok (.invokevirtual 249, 3) := by decide +kernel
theorem dX7_back_31 : decode cX7_back 31 = .ok (.ifCond .ne 11, 3) := by decide +kernel
theorem dX7_back_34 : decode cX7_back 34 = .ok (.aload_n 0, 1) := by decide +kernel
theorem dX7_back_35 : decode cX7_back 35 = .ok (.iload_n 1, 1) := by decide +kernel
theorem dX7_back_36 : decode cX7_back 36 = .ok (.invokevirtual 266, 3) := by decide +kernel
theorem dX7_back_39 : decode cX7_back 39 = .ok (.ifCond .ne 7, 3) := by decide +kernel
theorem dX7_back_42 : decode cX7_back 42 = .ok (.iconst 1, 1) := by decide +kernel
theorem dX7_back_43 : decode cX7_back 43 = .ok (.goto 4, 3) := by decide +kernel
theorem dX7_back_46 : decode cX7_back 46 = .ok (.iconst 0, 1) := by decide +kernel
theorem dX7_back_47 : decode cX7_back 47 = .ok (.iconst 2, 1) := by decide +kernel
theorem dX7_back_48 : decode cX7_back 48 = .ok (.iconst 2, 1) := by decide +kernel
theorem dX7_back_49 : decode cX7_back 49 = .ok (.invokevirtual 215, 3) := by decide +kernel
theorem dX7_back_52 : decode cX7_back 52 = .ok (.ifCond .eq 5, 3) := by decide +kernel
theorem dX7_back_55 : decode cX7_back 55 = .ok (.iconst 0, 1) := by decide +kernel
theorem dX7_back_56 : decode cX7_back 56 = .ok (.ireturn, 1) := by decide +kernel
theorem dX7_back_57 : decode cX7_back 57 = .ok (.iconst 0, 1) := by decide +kernel
theorem dX7_back_58 : decode cX7_back 58 = .ok (.istore_n 2, 1) := by decide +kernel
theorem dX7_back_59 : decode cX7_back 59 = .ok (.iload_n 2, 1) := by decide +kernel
theorem dX7_back_60 : decode cX7_back 60 = .ok (.aload_n 0, 1) := by decide +kernel
theorem dX7_back_61 : decode cX7_back 61 = .ok (.getfield 92, 3) := by decide +kernel
theorem dX7_back_64 : decode cX7_back 64 = .ok (.if_icmp .ge 21, 3) := by decide +kernel
theorem dX7_back_67 : decode cX7_back 67 = .ok (.aload_n 0, 1) := by decide +kernel
theorem dX7_back_68 : decode cX7_back 68 = .ok (.getfield 46, 3) := by decide +kernel
theorem dX7_back_71 : decode cX7_back 71 = .ok (.aload_n 0, 1) := by decide +kernel
theorem dX7_back_72 : decode cX7_back 72 = .ok (.iload_n 1, 1) := by decide +kernel
theorem dX7_back_73 : decode cX7_back 73 = .ok (.iload_n 2, 1) := by decide +kernel
theorem dX7_back_74 : decode cX7_back 74 = .ok (.invokevirtual 237, 3) := by decide +kernel
theorem dX7_back_77 : decode cX7_back 77 = .ok (.iload_n 2, 1) := by decide +kernel
theorem dX7_back_78 : decode cX7_back 78 = .ok (.iastore, 1) := by decide +kernel
theorem dX7_back_79 : decode cX7_back 79 = .ok (.iinc 2 1, 3) := by decide +kernel
theorem dX7_back_82 : decode cX7_back 82 = .ok (.goto (-23), 3) := by decide +kernel
theorem dX7_back_85 : decode cX7_back 85 = .ok (.aload_n 0, 1) := by decide +kernel
theorem dX7_back_86 : decode cX7_back 86 = .ok (.invokevirtual 252, 3) := by decide +kernel
theorem dX7_back_89 : decode cX7_back 89 = .ok (.ireturn, 1) := by decide +kernel
theorem dX7_drop_0 : decode cX7_drop 0 = .ok (.aload_n 0, 1) := by decide +kernel
theorem dX7_drop_1 : decode cX7_drop 1 = .ok (.invokevirtual 240, 3) := by decide +kernel
theorem dX7_drop_4 : decode cX7_drop 4 = .ok (.aload_n 0, 1) := by decide +kernel
theorem dX7_drop_5 : decode cX7_drop 5 = .ok (.aload_n 0, 1) := by decide +kernel
theorem dX7_drop_6 : decode cX7_drop 6 = .ok (.iload_n 1, 1) := by decide +kernel
theorem dX7_drop_7 : decode cX7_drop 7 = .ok (.invokevirtual 243, 3) := by decide +kernel
theorem dX7_drop_10 : decode cX7_drop 10 = .ok (.ifCond .ne 7, 3) := by decide +kernel
theorem dX7_drop_13 : decode cX7_drop 13 = .ok (.iconst 1, 1) := by decide +kernel
theorem dX7_drop_14 : decode cX7_drop 14 = .ok (.goto 4, 3) := by decide +kernel
theorem dX7_drop_17 : decode cX7_drop 17 = .ok (.iconst 0, 1) := by decide +kernel
theorem dX7_drop_18 : decode cX7_drop 18 = .ok (.iconst 1, 1) := by decide +kernel
theorem dX7_drop_19 : decode cX7_drop 19 = .ok (.iconst 0, 1) := by decide +kernel
theorem dX7_drop_20 : decode cX7_drop 20 = .ok (.invokevirtual 215, 3) := by decide +kernel
theorem dX7_drop_23 : decode cX7_drop 23 = .ok (.ifCond .eq 5, 3) := by decide +kernel
theorem dX7_drop_26 : decode cX7_drop 26 = .ok (.iconst 0, 1) := by decide +kernel
theorem dX7_drop_27 : decode cX7_drop 27 = .ok (.ireturn, 1) := by decide +kernel
theorem dX7_drop_28 : decode cX7_drop 28 = .ok (.aload_n 0, 1) := by decide +kernel
theorem dX7_drop_29 : decode cX7_drop 29 = .ok (.invokevirtual 227, 3) := by decide +kernel
theorem dX7_drop_32 : decode cX7_drop 32 = .ok (.aload_n 0, 1) := by decide +kernel
theorem dX7_drop_33 : decode cX7_drop 33 = .ok (.getfield 20, 3) := by decide +kernel
theorem dX7_drop_36 : decode cX7_drop 36 = .ok (.iconst 2, 1) := by decide +kernel
theorem dX7_drop_37 : decode cX7_drop 37 = .ok (.dup2, 1) := by decide +kernel
theorem dX7_drop_38 : decode cX7_drop 38 = .ok (.iaload, 1) := by decide +kernel
theorem dX7_drop_39 : decode cX7_drop 39 = .ok (.iconst 1, 1) := by decide +kernel
theorem dX7_drop_40 : decode cX7_drop 40 = .ok (.isub, 1) := by decide +kernel
theorem dX7_drop_41 : decode cX7_drop 41 = .ok (.iastore, 1) := by decide +kernel
theorem dX7_drop_42 : decode cX7_drop 42 = .ok (.iload_n 1, 1) := by decide +kernel
theorem dX7_drop_43 : decode cX7_drop 43 = .ok (.istore_n 2, 1) := by decide +kernel
theorem dX7_drop_44 : decode cX7_drop 44 = .ok (.iload_n 2, 1) := by decide +kernel
theorem dX7_drop_45 : decode cX7_drop 45 = .ok (.aload_n 0, 1) := by decide +kernel
theorem dX7_drop_46 : decode cX7_drop 46 = .ok (.getfield 20, 3) := by decide +kernel
theorem dX7_drop_49 : decode cX7_drop 49 = .ok (.iconst 2, 1) := by decide +kernel
theorem dX7_drop_50 : decode cX7_drop 50 = .ok (.iaload, 1) := by decide +kernel
theorem dX7_drop_51 : decode cX7_drop 51 = .ok (.if_icmp .ge 46, 3) := by decide +kernel
theorem dX7_drop_54 : decode cX7_drop 54 = .ok (.iconst 0, 1) := by decide +kernel
theorem dX7_drop_55 : decode cX7_drop 55 = .ok (.istore_n 3, 1) := by decide +kernel
theorem dX7_drop_56 : decode cX7_drop 56 = .ok (.iload_n 3, 1) := by decide +kernel
theorem dX7_drop_57 : decode cX7_drop 57 = .ok (.aload_n 0, 1) := by decide +kernel
theorem dX7_drop_58 : decode cX7_drop 58 = .ok (.getfield 92, 3) := by decide +kernel
theorem dX7_drop_61 : decode cX7_drop 61 = .ok (.if_icmp .ge 30, 3) := by decide +kernel
theorem dX7_drop_64 : decode cX7_drop 64 = .ok (.aload_n 0, 1) := by decide +kernel
theorem dX7_drop_65 : decode cX7_drop 65 = .ok (.getfield 20, 3) := by decide +kernel
theorem dX7_drop_68 : decode cX7_drop 68 = .ok (.iconst 3, 1) := by decide +kernel
theorem dX7_drop_69 : decode cX7_drop 69 = .ok (.bipush 64, 2) := by decide +kernel
theorem dX7_drop_71 : decode cX7_drop 71 = .ok (.iload_n 2, 1) := by decide +kernel
theorem dX7_drop_72 : decode cX7_drop 72 = .ok (.imul, 1) := by decide +kernel
theorem dX7_drop_73 : decode cX7_drop 73 = .ok (.iadd, 1) := by decide +kernel
theorem dX7_drop_74 : decode cX7_drop 74 = .ok (.iload_n 3, 1) := by decide +kernel
theorem dX7_drop_75 : decode cX7_drop 75 = .ok (.iadd, 1) := by decide +kernel
theorem dX7_drop_76 : decode cX7_drop 76 = .ok (.aload_n 0, 1) := by decide +kernel
theorem dX7_drop_77 : decode cX7_drop 77 = .ok (.iload_n 2, 1) := by decide +kernel
theorem dX7_drop_78 : decode cX7_drop 78 = .ok (.iconst 1, 1) := by decide +kernel
theorem dX7_drop_79 : decode cX7_drop 79 = .ok (.iadd, 1) := by decide +kernel
theorem dX7_drop_80 : decode cX7_drop 80 = .ok (.iload_n 3, 1) := by decide +kernel
theorem dX7_drop_81 : decode cX7_drop 81 = .ok (.invokevirtual 237, 3) := by decide +kernel
theorem dX7_drop_84 : decode cX7_drop 84 = .ok (.iastore, 1) := by decide +kernel
theorem dX7_drop_85 : decode cX7_drop 85 = .ok (.iinc 3 1, 3) := by decide +kernel
theorem dX7_drop_88 : decode cX7_drop 88 = .ok (.goto (-32), 3) := by decide +kernel
theorem dX7_drop_91 : decode cX7_drop 91 = .ok (.iinc 2 1, 3) := by decide +kernel
theorem dX7_drop_94 : decode cX7_drop 94 = .ok (.goto (-50), 3) := by decide +kernel
theorem dX7_drop_97 : decode cX7_drop 97 = .ok (.aload_n 0, 1) := by decide +kernel
theorem dX7_drop_98 : decode cX7_drop 98 = .ok (.getfield 20, 3) := by decide +kernel
theorem dX7_drop_101 : decode cX7_drop 101 = .ok (.iconst 2, 1) := by decide +kernel
theorem dX7_drop_102 : decode cX7_drop 102 = .ok (.iaload, 1) := by decide +kernel
theorem dX7_drop_103 : decode cX7_drop 103 = .ok (.ireturn, 1) := by decide +kernel
theorem dX7_told_0 : decode cX7_told 0 = .ok (.aload_n 0, 1) := by decide +kernel
theorem dX7_told_1 : decode cX7_told 1 = .ok (.invokevirtual 240, 3) := by decide +kernel
theorem dX7_told_4 : decode cX7_told 4 = .ok (.aload_n 0, 1) := by decide +kernel
theorem dX7_told_5 : decode cX7_told 5 = .ok (.iload_n 1, 1) := by decide +kernel
theorem dX7_told_6 : decode cX7_told 6 = .ok (.i2l, 1) := by decide +kernel
theorem dX7_told_7 : decode cX7_told 7 = .ok (.lconst 0, 1) := by decide +kernel
theorem dX7_told_8 : decode cX7_told 8 = .ok (.ldc2_w 269, 3) := by decide +kernel
theorem dX7_told_11 : decode cX7_told 11 = .ok (.invokestatic 154, 3) := by decide +kernel
theorem dX7_told_14 : decode cX7_told 14 = .ok (.ifCond .ne 7, 3) := by decide +kernel
theorem dX7_told_17 : decode cX7_told 17 = .ok (.iconst 1, 1) := by decide +kernel
theorem dX7_told_18 : decode cX7_told 18 = .ok (.goto 4, 3) := by decide +kernel
theorem dX7_told_21 : decode cX7_told 21 = .ok (.iconst 0, 1) := by decide +kernel
theorem dX7_told_22 : decode cX7_told 22 = .ok (.iconst 1, 1) := by decide +kernel
theorem dX7_told_23 : decode cX7_told 23 = .ok (.iconst 1, 1) := by decide +kernel
theorem dX7_told_24 : decode cX7_told 24 = .ok (.invokevirtual 215, 3) := by decide +kernel
theorem dX7_told_27 : decode cX7_told 27 = .ok (.ifCond .eq 5, 3) := by decide +kernel
theorem dX7_told_30 : decode cX7_told 30 = .ok (.iconst 0, 1) := by decide +kernel
theorem dX7_told_31 : decode cX7_told 31 = .ok (.ireturn, 1) := by decide +kernel
theorem dX7_told_32 : decode cX7_told 32 = .ok (.iload_n 1, 1) := by decide +kernel
theorem dX7_told_33 : decode cX7_told 33 = .ok (.tableswitch 71 0 5 #[39, 44, 49, 54, 59, 66], 39) := by decide +kernel
theorem dX7_told_72 : decode cX7_told 72 = .ok (.aload_n 0, 1) := by decide +kernel
theorem dX7_told_73 : decode cX7_told 73 = .ok (.getfield 92, 3) := by decide +kernel
theorem dX7_told_76 : decode cX7_told 76 = .ok (.ireturn, 1) := by decide +kernel
theorem dX7_told_77 : decode cX7_told 77 = .ok (.aload_n 0, 1) := by decide +kernel
theorem dX7_told_78 : decode cX7_told 78 = .ok (.getfield 68, 3) := by decide +kernel
theorem dX7_told_81 : decode cX7_told 81 = .ok (.ireturn, 1) := by decide +kernel
theorem dX7_told_82 : decode cX7_told 82 = .ok (.aload_n 0, 1) := by decide +kernel
theorem dX7_told_83 : decode cX7_told 83 = .ok (.getfield 75, 3) := by decide +kernel
theorem dX7_told_86 : decode cX7_told 86 = .ok (.ireturn, 1) := by decide +kernel
theorem dX7_told_87 : decode cX7_told 87 = .ok (.aload_n 0, 1) := by decide +kernel
theorem dX7_told_88 : decode cX7_told 88 = .ok (.getfield 89, 3) := by decide +kernel
theorem dX7_told_91 : decode cX7_told 91 = .ok (.ireturn, 1) := by decide +kernel
theorem dX7_told_92 : decode cX7_told 92 = .ok (.aload_n 0, 1) := by decide +kernel
theorem dX7_told_93 : decode cX7_told 93 = .ok (.getfield 20, 3) := by decide +kernel
theorem dX7_told_96 : decode cX7_told 96 = .ok (.iconst 2, 1) := by decide +kernel
theorem dX7_told_97 : decode cX7_told 97 = .ok (.iaload, 1) := by decide +kernel
theorem dX7_told_98 : decode cX7_told 98 = .ok (.ireturn, 1) := by decide +kernel
theorem dX7_told_99 : decode cX7_told 99 = .ok (.aload_n 0, 1) := by decide +kernel
theorem dX7_told_100 : decode cX7_told 100 = .ok (.getfield 61, 3) := by decide +kernel
theorem dX7_told_103 : decode cX7_told 103 = .ok (.ireturn, 1) := by decide +kernel
theorem dX7_told_104 : decode cX7_told 104 = .ok (.aload_n 0, 1) := by decide +kernel
theorem dX7_told_105 : decode cX7_told 105 = .ok (.getfield 234, 3) := by decide +kernel
theorem dX7_told_108 : decode cX7_told 108 = .ok (.ireturn, 1) := by decide +kernel
theorem dX7_points_0 : decode cX7_points 0 = .ok (.aload_n 0, 1) := by decide +kernel
theorem dX7_points_1 : decode cX7_points 1 = .ok (.invokevirtual 240, 3) := by decide +kernel
theorem dX7_points_4 : decode cX7_points 4 = .ok (.aload_n 0, 1) := by decide +kernel
theorem dX7_points_5 : decode cX7_points 5 = .ok (.aload_n 0, 1) := by decide +kernel
theorem dX7_points_6 : decode cX7_points 6 = .ok (.iload_n 1, 1) := by decide +kernel
theorem dX7_points_7 : decode cX7_points 7 = .ok (.invokevirtual 246, 3) := by decide +kernel
theorem dX7_points_10 : decode cX7_points 10 = .ok (.ifCond .eq 11, 3) := by decide +kernel
theorem dX7_points_13 : decode cX7_points 13 = .ok (.aload_n 0, 1) := by decide +kernel
theorem dX7_points_14 : decode cX7_points 14 = .ok (.iload_n 2, 1) := by decide +kernel
theorem dX7_points_15 : decode cX7_points 15 = .ok (.invokevirtual 246, 3) := by decide +kernel
theorem dX7_points_18 : decode cX7_points 18 = .ok (.ifCond .ne 7, 3) := by decide +kernel
theorem dX7_points_21 : decode cX7_points 21 = .ok (.iconst 1, 1) := by decide +kernel
theorem dX7_points_22 : decode cX7_points 22 = .ok (.goto 4, 3) := by decide +kernel
theorem dX7_points_25 : decode cX7_points 25 = .ok (.iconst 0, 1) := by decide +kernel
theorem dX7_points_26 : decode cX7_points 26 = .ok (.iconst 1, 1) := by decide +kernel
theorem dX7_points_27 : decode cX7_points 27 = .ok (.iconst 0, 1) := by decide +kernel
theorem dX7_points_28 : decode cX7_points 28 = .ok (.invokevirtual 215, 3) := by decide +kernel
theorem dX7_points_31 : decode cX7_points 31 = .ok (.ifCond .ne 29, 3) := by decide +kernel
theorem dX7_points_34 : decode cX7_points 34 = .ok (.aload_n 0, 1) := by decide +kernel
theorem dX7_points_35 : decode cX7_points 35 = .ok (.iload_n 3, 1) := by decide +kernel
theorem dX7_points_36 : decode cX7_points 36 = .ok (.i2l, 1) := by decide +kernel
theorem dX7_points_37 : decode cX7_points 37 = .ok (.lconst 0, 1) := by decide +kernel
theorem dX7_points_38 : decode cX7_points 38 = .ok (.ldc2_w 271, 3) := by decide +kernel
theorem dX7_points_41 : decode cX7_points 41 = .ok (.invokestatic 154, 3) := by decide +kernel
theorem dX7_points_44 : decode cX7_points 44 = .ok (.ifCond .ne 7, 3) := by decide +kernel
theorem dX7_points_47 : decode cX7_points 47 = .ok (.iconst 1, 1) := by decide +kernel
theorem dX7_points_48 : decode cX7_points 48 = .ok (.goto 4, 3) := by decide +kernel
theorem dX7_points_51 : decode cX7_points 51 = .ok (.iconst 0, 1) := by decide +kernel
theorem dX7_points_52 : decode cX7_points 52 = .ok (.iconst 2, 1) := by decide +kernel
theorem dX7_points_53 : decode cX7_points 53 = .ok (.iconst 1, 1) := by decide +kernel
theorem dX7_points_54 : decode cX7_points 54 = .ok (.invokevirtual 215, 3) := by decide +kernel
theorem dX7_points_57 : decode cX7_points 57 = .ok (.ifCond .eq 5, 3) := by decide +kernel
theorem dX7_points_60 : decode cX7_points 60 = .ok (.iconst 0, 1) := by decide +kernel
theorem dX7_points_61 : decode cX7_points 61 = .ok (.ireturn, 1) := by decide +kernel
theorem dX7_points_62 : decode cX7_points 62 = .ok (.iload_n 3, 1) := by decide +kernel
theorem dX7_points_63 : decode cX7_points 63 = .ok (.ifCond .ne 14, 3) := by decide +kernel
theorem dX7_points_66 : decode cX7_points 66 = .ok (.aload_n 0, 1) := by decide +kernel
theorem dX7_points_67 : decode cX7_points 67 = .ok (.getfield 31, 3) := by decide +kernel
theorem dX7_points_70 : decode cX7_points 70 = .ok (.iload_n 1, 1) := by decide +kernel
theorem dX7_points_71 : decode cX7_points 71 = .ok (.aaload, 1) := by decide +kernel
theorem dX7_points_72 : decode cX7_points 72 = .ok (.iload_n 2, 1) := by decide +kernel
theorem dX7_points_73 : decode cX7_points 73 = .ok (.iaload, 1) := by decide +kernel
theorem dX7_points_74 : decode cX7_points 74 = .ok (.goto 54, 3) := by decide +kernel
theorem dX7_points_77 : decode cX7_points 77 = .ok (.iload_n 3, 1) := by decide +kernel
theorem dX7_points_78 : decode cX7_points 78 = .ok (.iconst 1, 1) := by decide +kernel
theorem dX7_points_79 : decode cX7_points 79 = .ok (.if_icmp .ne 12, 3) := by decide +kernel
theorem dX7_points_82 : decode cX7_points 82 = .ok (.aload_n 0, 1) := by decide +kernel
theorem dX7_points_83 : decode cX7_points 83 = .ok (.iload_n 1, 1) := by decide +kernel
theorem dX7_points_84 : decode cX7_points 84 = .ok (.iload_n 2, 1) := by decide +kernel
theorem dX7_points_85 : decode cX7_points 85 = .ok (.invokevirtual 105, 3) := by decide +kernel
theorem dX7_points_88 : decode cX7_points 88 = .ok (.goto 40, 3) := by decide +kernel
theorem dX7_points_91 : decode cX7_points 91 = .ok (.iload_n 3, 1) := by decide +kernel
theorem dX7_points_92 : decode cX7_points 92 = .ok (.iconst 2, 1) := by decide +kernel
theorem dX7_points_93 : decode cX7_points 93 = .ok (.if_icmp .ne 14, 3) := by decide +kernel
theorem dX7_points_96 : decode cX7_points 96 = .ok (.aload_n 0, 1) := by decide +kernel
theorem dX7_points_97 : decode cX7_points 97 = .ok (.getfield 34, 3) := by decide +kernel
theorem dX7_points_100 : decode cX7_points 100 = .ok (.iload_n 1, 1) := by decide +kernel
theorem dX7_points_101 : decode cX7_points 101 = .ok (.aaload, 1) := by decide +kernel
theorem dX7_points_102 : decode cX7_points 102 = .ok (.iload_n 2, 1) := by decide +kernel
theorem dX7_points_103 : decode cX7_points 103 = .ok (.iaload, 1) := by decide +kernel
theorem dX7_points_104 : decode cX7_points 104 = .ok (.goto 24, 3) := by decide +kernel
theorem dX7_points_107 : decode cX7_points 107 = .ok (.iload_n 2, 1) := by decide +kernel
theorem dX7_points_108 : decode cX7_points 108 = .ok (.ifCond .ne 7, 3) := by decide +kernel
theorem dX7_points_111 : decode cX7_points 111 = .ok (.iconst (-1), 1) := by decide +kernel
theorem dX7_points_112 : decode cX7_points 112 = .ok (.goto 16, 3) := by decide +kernel
theorem dX7_points_115 : decode cX7_points 115 = .ok (.aload_n 0, 1) := by decide +kernel
theorem dX7_points_116 : decode cX7_points 116 = .ok (.getfield 34, 3) := by decide +kernel
theorem dX7_points_119 : decode cX7_points 119 = .ok (.iload_n 1, 1) := by decide +kernel
theorem dX7_points_120 : decode cX7_points 120 = .ok (.aaload, 1) := by decide +kernel
theorem dX7_points_121 : decode cX7_points 121 = .ok (.aload_n 0, 1) := by decide +kernel
theorem dX7_points_122 : decode cX7_points 122 = .ok (.getfield 40, 3) := by decide +kernel
theorem dX7_points_125 : decode cX7_points 125 = .ok (.iload_n 2, 1) := by decide +kernel
theorem dX7_points_126 : decode cX7_points 126 = .ok (.iaload, 1) := by decide +kernel
theorem dX7_points_127 : decode cX7_points 127 = .ok (.iaload, 1) := by decide +kernel
theorem dX7_points_128 : decode cX7_points 128 = .ok (.ireturn, 1) := by decide +kernel
theorem dX7_at_0 : decode cX7_at 0 = .ok (.aload_n 0, 1) := by decide +kernel
theorem dX7_at_1 : decode cX7_at 1 = .ok (.invokevirtual 240, 3) := by decide +kernel
theorem dX7_at_4 : decode cX7_at 4 = .ok (.aload_n 0, 1) := by decide +kernel
theorem dX7_at_5 : decode cX7_at 5 = .ok (.aload_n 0, 1) := by decide +kernel
theorem dX7_at_6 : decode cX7_at 6 = .ok (.iload_n 1, 1) := by decide +kernel
theorem dX7_at_7 : decode cX7_at 7 = .ok (.invokevirtual 243, 3) := by decide +kernel
theorem dX7_at_10 : decode cX7_at 10 = .ok (.ifCond .eq 11, 3) := by decide +kernel
theorem dX7_at_13 : decode cX7_at 13 = .ok (.aload_n 0, 1) := by decide +kernel
theorem dX7_at_14 : decode cX7_at 14 = .ok (.iload_n 2, 1) := by decide +kernel
theorem dX7_at_15 : decode cX7_at 15 = .ok (.invokevirtual 246, 3) := by decide +kernel
theorem dX7_at_18 : decode cX7_at 18 = .ok (.ifCond .ne 7, 3) := by decide +kernel
theorem dX7_at_21 : decode cX7_at 21 = .ok (.iconst 1, 1) := by decide +kernel
theorem dX7_at_22 : decode cX7_at 22 = .ok (.goto 4, 3) := by decide +kernel
theorem dX7_at_25 : decode cX7_at 25 = .ok (.iconst 0, 1) := by decide +kernel
theorem dX7_at_26 : decode cX7_at 26 = .ok (.iconst 1, 1) := by decide +kernel
theorem dX7_at_27 : decode cX7_at 27 = .ok (.iconst 0, 1) := by decide +kernel
theorem dX7_at_28 : decode cX7_at 28 = .ok (.invokevirtual 215, 3) := by decide +kernel
theorem dX7_at_31 : decode cX7_at 31 = .ok (.ifCond .eq 7, 3) := by decide +kernel
theorem dX7_at_34 : decode cX7_at 34 = .ok (.iconst 0, 1) := by decide +kernel
theorem dX7_at_35 : decode cX7_at 35 = .ok (.goto 9, 3) := by decide +kernel
theorem dX7_at_38 : decode cX7_at 38 = .ok (.aload_n 0, 1) := by decide +kernel
theorem dX7_at_39 : decode cX7_at 39 = .ok (.iload_n 1, 1) := by decide +kernel
theorem dX7_at_40 : decode cX7_at 40 = .ok (.iload_n 2, 1) := by decide +kernel
theorem dX7_at_41 : decode cX7_at 41 = .ok (.invokevirtual 237, 3) := by decide +kernel
theorem dX7_at_44 : decode cX7_at 44 = .ok (.ireturn, 1) := by decide +kernel
theorem dX7_coefficientOf_0 : decode cX7_coefficientOf 0 = .ok (.iload_n 1, 1) := by decide +kernel
theorem dX7_coefficientOf_1 : decode cX7_coefficientOf 1 = .ok (.ifCond .ne 10, 3) := by decide +kernel
theorem dX7_coefficientOf_4 : decode cX7_coefficientOf 4 = .ok (.aload_n 0, 1) := by decide +kernel
theorem dX7_coefficientOf_5 : decode cX7_coefficientOf 5 = .ok (.getfield 46, 3) := by decide +kernel
theorem dX7_coefficientOf_8 : decode cX7_coefficientOf 8 = .ok (.iconst 0, 1) := by decide +kernel
theorem dX7_coefficientOf_9 : decode cX7_coefficientOf 9 = .ok (.iaload, 1) := by decide +kernel
theorem dX7_coefficientOf_10 : decode cX7_coefficientOf 10 = .ok (.ireturn, 1) := by decide +kernel
theorem dX7_coefficientOf_11 : decode cX7_coefficientOf 11 = .ok (.iconst 0, 1) := by decide +kernel
theorem dX7_coefficientOf_12 : decode cX7_coefficientOf 12 = .ok (.istore_n 2, 1) := by decide +kernel
theorem dX7_coefficientOf_13 : decode cX7_coefficientOf 13 = .ok (.iconst 0, 1) := by decide +kernel
theorem dX7_coefficientOf_14 : decode cX7_coefficientOf 14 = .ok (.istore_n 3, 1) := by decide +kernel
theorem dX7_coefficientOf_15 : decode cX7_coefficientOf 15 = .ok (.iload_n 3, 1) := by decide +kernel
theorem dX7_coefficientOf_16 : decode cX7_coefficientOf 16 = .ok (.aload_n 0, 1) := by decide +kernel
theorem dX7_coefficientOf_17 : decode cX7_coefficientOf 17 = .ok (.getfield 92, 3) := by decide +kernel
theorem dX7_coefficientOf_20 : decode cX7_coefficientOf 20 = .ok (.if_icmp .ge 42, 3) := by decide +kernel
theorem dX7_coefficientOf_23 : decode cX7_coefficientOf 23 = .ok (.aload_n 0, 1) := by decide +kernel
theorem dX7_coefficientOf_24 : decode cX7_coefficientOf 24 = .ok (.getfield 31, 3) := by decide +kernel
theorem dX7_coefficientOf_27 : decode cX7_coefficientOf 27 = .ok (.iload_n 2, 1) := by decide +kernel
theorem dX7_coefficientOf_28 : decode cX7_coefficientOf 28 = .ok (.aaload, 1) := by decide +kernel
theorem dX7_coefficientOf_29 : decode cX7_coefficientOf 29 = .ok (.aload_n 0, 1) := by decide +kernel
theorem dX7_coefficientOf_30 : decode cX7_coefficientOf 30 = .ok (.getfield 34, 3) := by decide +kernel
theorem dX7_coefficientOf_33 : decode cX7_coefficientOf 33 = .ok (.aload_n 0, 1) := by decide +kernel
theorem dX7_coefficientOf_34 : decode cX7_coefficientOf 34 = .ok (.getfield 46, 3) := by decide +kernel
theorem dX7_coefficientOf_37 : decode cX7_coefficientOf 37 = .ok (.iload_n 3, 1) := by decide +kernel
theorem dX7_coefficientOf_38 : decode cX7_coefficientOf 38 = .ok (.iaload, 1) := by decide +kernel
theorem dX7_coefficientOf_39 : decode cX7_coefficientOf 39 = .ok (.aaload, 1) := by decide +kernel
theorem dX7_coefficientOf_40 : decode cX7_coefficientOf 40 = .ok (.aload_n 0, 1) := by decide +kernel
theorem dX7_coefficientOf_41 : decode cX7_coefficientOf 41 = .ok (.iload_n 3, 1) := by decide +kernel
theorem dX7_coefficientOf_42 : decode cX7_coefficientOf 42 = .ok (.aload_n 0, 1) := by decide +kernel
theorem dX7_coefficientOf_43 : decode cX7_coefficientOf 43 = .ok (.getfield 92, 3) := by decide +kernel
theorem dX7_coefficientOf_46 : decode cX7_coefficientOf 46 = .ok (.iconst 1, 1) := by decide +kernel
theorem dX7_coefficientOf_47 : decode cX7_coefficientOf 47 = .ok (.isub, 1) := by decide +kernel
theorem dX7_coefficientOf_48 : decode cX7_coefficientOf 48 = .ok (.iload_n 1, 1) := by decide +kernel
theorem dX7_coefficientOf_49 : decode cX7_coefficientOf 49 = .ok (.isub, 1) := by decide +kernel
theorem dX7_coefficientOf_50 : decode cX7_coefficientOf 50 = .ok (.invokevirtual 197, 3) := by decide +kernel
theorem dX7_coefficientOf_53 : decode cX7_coefficientOf 53 = .ok (.iaload, 1) := by decide +kernel
theorem dX7_coefficientOf_54 : decode cX7_coefficientOf 54 = .ok (.iaload, 1) := by decide +kernel
theorem dX7_coefficientOf_55 : decode cX7_coefficientOf 55 = .ok (.istore_n 2, 1) := by decide +kernel
theorem dX7_coefficientOf_56 : decode cX7_coefficientOf 56 = .ok (.iinc 3 1, 3) := by decide +kernel
theorem dX7_coefficientOf_59 : decode cX7_coefficientOf 59 = .ok (.goto (-44), 3) := by decide +kernel
theorem dX7_coefficientOf_62 : decode cX7_coefficientOf 62 = .ok (.aload_n 0, 1) := by decide +kernel
theorem dX7_coefficientOf_63 : decode cX7_coefficientOf 63 = .ok (.getfield 37, 3) := by decide +kernel
theorem dX7_coefficientOf_66 : decode cX7_coefficientOf 66 = .ok (.iload_n 2, 1) := by decide +kernel
theorem dX7_coefficientOf_67 : decode cX7_coefficientOf 67 = .ok (.iaload, 1) := by decide +kernel
theorem dX7_coefficientOf_68 : decode cX7_coefficientOf 68 = .ok (.ireturn, 1) := by decide +kernel
theorem dX7_coefficient_0 : decode cX7_coefficient 0 = .ok (.aload_n 0, 1) := by decide +kernel
theorem dX7_coefficient_1 : decode cX7_coefficient 1 = .ok (.invokevirtual 240, 3) := by decide +kernel
theorem dX7_coefficient_4 : decode cX7_coefficient 4 = .ok (.aload_n 0, 1) := by decide +kernel
theorem dX7_coefficient_5 : decode cX7_coefficient 5 = .ok (.aload_n 0, 1) := by decide +kernel
theorem dX7_coefficient_6 : decode cX7_coefficient 6 = .ok (.iload_n 1, 1) := by decide +kernel
theorem dX7_coefficient_7 : decode cX7_coefficient 7 = .ok (.invokevirtual 243, 3) := by decide +kernel
theorem dX7_coefficient_10 : decode cX7_coefficient 10 = .ok (.ifCond .ne 7, 3) := by decide +kernel
theorem dX7_coefficient_13 : decode cX7_coefficient 13 = .ok (.iconst 1, 1) := by decide +kernel
theorem dX7_coefficient_14 : decode cX7_coefficient 14 = .ok (.goto 4, 3) := by decide +kernel
theorem dX7_coefficient_17 : decode cX7_coefficient 17 = .ok (.iconst 0, 1) := by decide +kernel
theorem dX7_coefficient_18 : decode cX7_coefficient 18 = .ok (.iconst 1, 1) := by decide +kernel
theorem dX7_coefficient_19 : decode cX7_coefficient 19 = .ok (.iconst 0, 1) := by decide +kernel
theorem dX7_coefficient_20 : decode cX7_coefficient 20 = .ok (.invokevirtual 215, 3) := by decide +kernel
theorem dX7_coefficient_23 : decode cX7_coefficient 23 = .ok (.ifCond .ne 33, 3) := by decide +kernel
theorem dX7_coefficient_26 : decode cX7_coefficient 26 = .ok (.aload_n 0, 1) := by decide +kernel
theorem dX7_coefficient_27 : decode cX7_coefficient 27 = .ok (.iload_n 2, 1) := by decide +kernel
theorem dX7_coefficient_28 : decode cX7_coefficient 28 = .ok (.i2l, 1) := by decide +kernel
theorem dX7_coefficient_29 : decode cX7_coefficient 29 = .ok (.lconst 0, 1) := by decide +kernel
theorem dX7_coefficient_30 : decode cX7_coefficient 30 = .ok (.aload_n 0, 1) := by decide +kernel
theorem dX7_coefficient_31 : decode cX7_coefficient 31 = .ok (.getfield 92, 3) := by decide +kernel
theorem dX7_coefficient_34 : decode cX7_coefficient 34 = .ok (.iconst 1, 1) := by decide +kernel
theorem dX7_coefficient_35 : decode cX7_coefficient 35 = .ok (.isub, 1) := by decide +kernel
theorem dX7_coefficient_36 : decode cX7_coefficient 36 = .ok (.i2l, 1) := by decide +kernel
theorem dX7_coefficient_37 : decode cX7_coefficient 37 = .ok (.invokestatic 154, 3) := by decide +kernel
theorem dX7_coefficient_40 : decode cX7_coefficient 40 = .ok (.ifCond .ne 7, 3) := by decide +kernel
theorem dX7_coefficient_43 : decode cX7_coefficient 43 = .ok (.iconst 1, 1) := by decide +kernel
theorem dX7_coefficient_44 : decode cX7_coefficient 44 = .ok (.goto 4, 3) := by decide +kernel
theorem dX7_coefficient_47 : decode cX7_coefficient 47 = .ok (.iconst 0, 1) := by decide +kernel
theorem dX7_coefficient_48 : decode cX7_coefficient 48 = .ok (.iconst 2, 1) := by decide +kernel
theorem dX7_coefficient_49 : decode cX7_coefficient 49 = .ok (.iconst 1, 1) := by decide +kernel
theorem dX7_coefficient_50 : decode cX7_coefficient 50 = .ok (.invokevirtual 215, 3) := by decide +kernel
theorem dX7_coefficient_53 : decode cX7_coefficient 53 = .ok (.ifCond .eq 5, 3) := by decide +kernel
theorem dX7_coefficient_56 : decode cX7_coefficient 56 = .ok (.iconst 0, 1) := by decide +kernel
theorem dX7_coefficient_57 : decode cX7_coefficient 57 = .ok (.ireturn, 1) := by decide +kernel
theorem dX7_coefficient_58 : decode cX7_coefficient 58 = .ok (.aload_n 0, 1) := by decide +kernel
theorem dX7_coefficient_59 : decode cX7_coefficient 59 = .ok (.iload_n 1, 1) := by decide +kernel
theorem dX7_coefficient_60 : decode cX7_coefficient 60 = .ok (.invokevirtual 273, 3) := by decide +kernel
theorem dX7_coefficient_63 : decode cX7_coefficient 63 = .ok (.aload_n 0, 1) := by decide +kernel
theorem dX7_coefficient_64 : decode cX7_coefficient 64 = .ok (.iload_n 2, 1) := by decide +kernel
theorem dX7_coefficient_65 : decode cX7_coefficient 65 = .ok (.invokevirtual 276, 3) := by decide +kernel
theorem dX7_coefficient_68 : decode cX7_coefficient 68 = .ok (.ireturn, 1) := by decide +kernel
theorem dX7_degree_0 : decode cX7_degree 0 = .ok (.aload_n 0, 1) := by decide +kernel
theorem dX7_degree_1 : decode cX7_degree 1 = .ok (.invokevirtual 240, 3) := by decide +kernel
theorem dX7_degree_4 : decode cX7_degree 4 = .ok (.aload_n 0, 1) := by decide +kernel
theorem dX7_degree_5 : decode cX7_degree 5 = .ok (.aload_n 0, 1) := by decide +kernel
theorem dX7_degree_6 : decode cX7_degree 6 = .ok (.iload_n 1, 1) := by decide +kernel
theorem dX7_degree_7 : decode cX7_degree 7 = .ok (.invokevirtual 243, 3) := by decide +kernel
theorem dX7_degree_10 : decode cX7_degree 10 = .ok (.ifCond .ne 7, 3) := by decide +kernel
theorem dX7_degree_13 : decode cX7_degree 13 = .ok (.iconst 1, 1) := by decide +kernel
theorem dX7_degree_14 : decode cX7_degree 14 = .ok (.goto 4, 3) := by decide +kernel
theorem dX7_degree_17 : decode cX7_degree 17 = .ok (.iconst 0, 1) := by decide +kernel
theorem dX7_degree_18 : decode cX7_degree 18 = .ok (.iconst 1, 1) := by decide +kernel
theorem dX7_degree_19 : decode cX7_degree 19 = .ok (.iconst 0, 1) := by decide +kernel
theorem dX7_degree_20 : decode cX7_degree 20 = .ok (.invokevirtual 215, 3) := by decide +kernel
theorem dX7_degree_23 : decode cX7_degree 23 = .ok (.ifCond .eq 5, 3) := by decide +kernel
theorem dX7_degree_26 : decode cX7_degree 26 = .ok (.iconst 0, 1) := by decide +kernel
theorem dX7_degree_27 : decode cX7_degree 27 = .ok (.ireturn, 1) := by decide +kernel
theorem dX7_degree_28 : decode cX7_degree 28 = .ok (.aload_n 0, 1) := by decide +kernel
theorem dX7_degree_29 : decode cX7_degree 29 = .ok (.iload_n 1, 1) := by decide +kernel
theorem dX7_degree_30 : decode cX7_degree 30 = .ok (.invokevirtual 273, 3) := by decide +kernel
theorem dX7_degree_33 : decode cX7_degree 33 = .ok (.aload_n 0, 1) := by decide +kernel
theorem dX7_degree_34 : decode cX7_degree 34 = .ok (.getfield 92, 3) := by decide +kernel
theorem dX7_degree_37 : decode cX7_degree 37 = .ok (.iconst 1, 1) := by decide +kernel
theorem dX7_degree_38 : decode cX7_degree 38 = .ok (.isub, 1) := by decide +kernel
theorem dX7_degree_39 : decode cX7_degree 39 = .ok (.istore_n 2, 1) := by decide +kernel
theorem dX7_degree_40 : decode cX7_degree 40 = .ok (.iload_n 2, 1) := by decide +kernel
theorem dX7_degree_41 : decode cX7_degree 41 = .ok (.ifCond .lt 17, 3) := by decide +kernel
theorem dX7_degree_44 : decode cX7_degree 44 = .ok (.aload_n 0, 1) := by decide +kernel
theorem dX7_degree_45 : decode cX7_degree 45 = .ok (.iload_n 2, 1) := by decide +kernel
theorem dX7_degree_46 : decode cX7_degree 46 = .ok (.invokevirtual 276, 3) := by decide +kernel
theorem dX7_degree_49 : decode cX7_degree 49 = .ok (.ifCond .ne 9, 3) := by decide +kernel
theorem dX7_degree_52 : decode cX7_degree 52 = .ok (.iinc 2 (-1), 3) := by decide +kernel
theorem dX7_degree_55 : decode cX7_degree 55 = .ok (.goto (-15), 3) := by decide +kernel
theorem dX7_degree_58 : decode cX7_degree 58 = .ok (.iload_n 2, 1) := by decide +kernel
theorem dX7_degree_59 : decode cX7_degree 59 = .ok (.ireturn, 1) := by decide +kernel
theorem dX7_taken_0 : decode cX7_taken 0 = .ok (.aload_n 0, 1) := by decide +kernel
theorem dX7_taken_1 : decode cX7_taken 1 = .ok (.invokevirtual 240, 3) := by decide +kernel
theorem dX7_taken_4 : decode cX7_taken 4 = .ok (.aload_n 0, 1) := by decide +kernel
theorem dX7_taken_5 : decode cX7_taken 5 = .ok (.aload_n 0, 1) := by decide +kernel
theorem dX7_taken_6 : decode cX7_taken 6 = .ok (.iload_n 1, 1) := by decide +kernel
theorem dX7_taken_7 : decode cX7_taken 7 = .ok (.invokevirtual 243, 3) := by decide +kernel
theorem dX7_taken_10 : decode cX7_taken 10 = .ok (.ifCond .eq 11, 3) := by decide +kernel
theorem dX7_taken_13 : decode cX7_taken 13 = .ok (.aload_n 0, 1) := by decide +kernel
theorem dX7_taken_14 : decode cX7_taken 14 = .ok (.iload_n 2, 1) := by decide +kernel
theorem dX7_taken_15 : decode cX7_taken 15 = .ok (.invokevirtual 246, 3) := by decide +kernel
theorem dX7_taken_18 : decode cX7_taken 18 = .ok (.ifCond .ne 7, 3) := by decide +kernel
theorem dX7_taken_21 : decode cX7_taken 21 = .ok (.iconst 1, 1) := by decide +kernel
theorem dX7_taken_22 : decode cX7_taken 22 = .ok (.goto 4, 3) := by decide +kernel
theorem dX7_taken_25 : decode cX7_taken 25 = .ok (.iconst 0, 1) := by decide +kernel
theorem dX7_taken_26 : decode cX7_taken 26 = .ok (.iconst 1, 1) := by decide +kernel
theorem dX7_taken_27 : decode cX7_taken 27 = .ok (.iconst 0, 1) := by decide +kernel
theorem dX7_taken_28 : decode cX7_taken 28 = .ok (.invokevirtual 215, 3) := by decide +kernel
theorem dX7_taken_31 : decode cX7_taken 31 = .ok (.ifCond .eq 7, 3) := by decide +kernel
theorem dX7_taken_34 : decode cX7_taken 34 = .ok (.iconst 0, 1) := by decide +kernel
theorem dX7_taken_35 : decode cX7_taken 35 = .ok (.goto 9, 3) := by decide +kernel
theorem dX7_taken_38 : decode cX7_taken 38 = .ok (.aload_n 0, 1) := by decide +kernel
theorem dX7_taken_39 : decode cX7_taken 39 = .ok (.iload_n 1, 1) := by decide +kernel
theorem dX7_taken_40 : decode cX7_taken 40 = .ok (.iload_n 2, 1) := by decide +kernel
theorem dX7_taken_41 : decode cX7_taken 41 = .ok (.invokevirtual 260, 3) := by decide +kernel
theorem dX7_taken_44 : decode cX7_taken 44 = .ok (.ireturn, 1) := by decide +kernel
theorem dX7_image_0 : decode cX7_image 0 = .ok (.aload_n 0, 1) := by decide +kernel
theorem dX7_image_1 : decode cX7_image 1 = .ok (.invokevirtual 240, 3) := by decide +kernel
theorem dX7_image_4 : decode cX7_image 4 = .ok (.aload_n 0, 1) := by decide +kernel
theorem dX7_image_5 : decode cX7_image 5 = .ok (.aload_n 0, 1) := by decide +kernel
theorem dX7_image_6 : decode cX7_image 6 = .ok (.iload_n 1, 1) := by decide +kernel
theorem dX7_image_7 : decode cX7_image 7 = .ok (.invokevirtual 243, 3) := by decide +kernel
theorem dX7_image_10 : decode cX7_image 10 = .ok (.ifCond .ne 7, 3) := by decide +kernel
theorem dX7_image_13 : decode cX7_image 13 = .ok (.iconst 1, 1) := by decide +kernel
theorem dX7_image_14 : decode cX7_image 14 = .ok (.goto 4, 3) := by decide +kernel
theorem dX7_image_17 : decode cX7_image 17 = .ok (.iconst 0, 1) := by decide +kernel
theorem dX7_image_18 : decode cX7_image 18 = .ok (.iconst 1, 1) := by decide +kernel
theorem dX7_image_19 : decode cX7_image 19 = .ok (.iconst 0, 1) := by decide +kernel
theorem dX7_image_20 : decode cX7_image 20 = .ok (.invokevirtual 215, 3) := by decide +kernel
theorem dX7_image_23 : decode cX7_image 23 = .ok (.ifCond .eq 7, 3) := by decide +kernel
theorem dX7_image_26 : decode cX7_image 26 = .ok (.iconst 0, 1) := by decide +kernel
theorem dX7_image_27 : decode cX7_image 27 = .ok (.goto 8, 3) := by decide +kernel
theorem dX7_image_30 : decode cX7_image 30 = .ok (.aload_n 0, 1) := by decide +kernel
theorem dX7_image_31 : decode cX7_image 31 = .ok (.iload_n 1, 1) := by decide +kernel
theorem dX7_image_32 : decode cX7_image 32 = .ok (.invokevirtual 263, 3) := by decide +kernel
theorem dX7_image_35 : decode cX7_image 35 = .ok (.ireturn, 1) := by decide +kernel
theorem dX7_permutes_0 : decode cX7_permutes 0 = .ok (.aload_n 0, 1) := by decide +kernel
theorem dX7_permutes_1 : decode cX7_permutes 1 = .ok (.invokevirtual 240, 3) := by decide +kernel
theorem dX7_permutes_4 : decode cX7_permutes 4 = .ok (.aload_n 0, 1) := by decide +kernel
theorem dX7_permutes_5 : decode cX7_permutes 5 = .ok (.aload_n 0, 1) := by decide +kernel
theorem dX7_permutes_6 : decode cX7_permutes 6 = .ok (.iload_n 1, 1) := by decide +kernel
theorem dX7_permutes_7 : decode cX7_permutes 7 = .ok (.invokevirtual 243, 3) := by decide +kernel
theorem dX7_permutes_10 : decode cX7_permutes 10 = .ok (.ifCond .ne 7, 3) := by decide +kernel
theorem dX7_permutes_13 : decode cX7_permutes 13 = .ok (.iconst 1, 1) := by decide +kernel
theorem dX7_permutes_14 : decode cX7_permutes 14 = .ok (.goto 4, 3) := by decide +kernel
theorem dX7_permutes_17 : decode cX7_permutes 17 = .ok (.iconst 0, 1) := by decide +kernel
theorem dX7_permutes_18 : decode cX7_permutes 18 = .ok (.iconst 1, 1) := by decide +kernel
theorem dX7_permutes_19 : decode cX7_permutes 19 = .ok (.iconst 0, 1) := by decide +kernel
theorem dX7_permutes_20 : decode cX7_permutes 20 = .ok (.invokevirtual 215, 3) := by decide +kernel
theorem dX7_permutes_23 : decode cX7_permutes 23 = .ok (.ifCond .eq 7, 3) := by decide +kernel
theorem dX7_permutes_26 : decode cX7_permutes 26 = .ok (.iconst 0, 1) := by decide +kernel
theorem dX7_permutes_27 : decode cX7_permutes 27 = .ok (.goto 16, 3) := by decide +kernel
theorem dX7_permutes_30 : decode cX7_permutes 30 = .ok (.aload_n 0, 1) := by decide +kernel
theorem dX7_permutes_31 : decode cX7_permutes 31 = .ok (.iload_n 1, 1) := by decide +kernel
theorem dX7_permutes_32 : decode cX7_permutes 32 = .ok (.invokevirtual 266, 3) := by decide +kernel
theorem dX7_permutes_35 : decode cX7_permutes 35 = .ok (.ifCond .eq 7, 3) := by decide +kernel
theorem dX7_permutes_38 : decode cX7_permutes 38 = .ok (.iconst 1, 1) := by decide +kernel
theorem dX7_permutes_39 : decode cX7_permutes 39 = .ok (.goto 4, 3) := by decide +kernel
theorem dX7_permutes_42 : decode cX7_permutes 42 = .ok (.iconst 0, 1) := by decide +kernel
theorem dX7_permutes_43 : decode cX7_permutes 43 = .ok (.ireturn, 1) := by decide +kernel
theorem dX7_powers_0 : decode cX7_powers 0 = .ok (.aload_n 0, 1) := by decide +kernel
theorem dX7_powers_1 : decode cX7_powers 1 = .ok (.invokevirtual 240, 3) := by decide +kernel
theorem dX7_powers_4 : decode cX7_powers 4 = .ok (.aload_n 0, 1) := by decide +kernel
theorem dX7_powers_5 : decode cX7_powers 5 = .ok (.aload_n 0, 1) := by decide +kernel
theorem dX7_powers_6 : decode cX7_powers 6 = .ok (.iload_n 1, 1) := by decide +kernel
theorem dX7_powers_7 : decode cX7_powers 7 = .ok (.invokevirtual 243, 3) := by decide +kernel
theorem dX7_powers_10 : decode cX7_powers 10 = .ok (.ifCond .ne 7, 3) := by decide +kernel
theorem dX7_powers_13 : decode cX7_powers 13 = .ok (.iconst 1, 1) := by decide +kernel
theorem dX7_powers_14 : decode cX7_powers 14 = .ok (.goto 4, 3) := by decide +kernel
theorem dX7_powers_17 : decode cX7_powers 17 = .ok (.iconst 0, 1) := by decide +kernel
theorem dX7_powers_18 : decode cX7_powers 18 = .ok (.iconst 1, 1) := by decide +kernel
theorem dX7_powers_19 : decode cX7_powers 19 = .ok (.iconst 0, 1) := by decide +kernel
theorem dX7_powers_20 : decode cX7_powers 20 = .ok (.invokevirtual 215, 3) := by decide +kernel
theorem dX7_powers_23 : decode cX7_powers 23 = .ok (.ifCond .eq 5, 3) := by decide +kernel
theorem dX7_powers_26 : decode cX7_powers 26 = .ok (.iconst 0, 1) := by decide +kernel
theorem dX7_powers_27 : decode cX7_powers 27 = .ok (.ireturn, 1) := by decide +kernel
theorem dX7_powers_28 : decode cX7_powers 28 = .ok (.aload_n 0, 1) := by decide +kernel
theorem dX7_powers_29 : decode cX7_powers 29 = .ok (.iload_n 1, 1) := by decide +kernel
theorem dX7_powers_30 : decode cX7_powers 30 = .ok (.iconst 0, 1) := by decide +kernel
theorem dX7_powers_31 : decode cX7_powers 31 = .ok (.invokevirtual 260, 3) := by decide +kernel
theorem dX7_powers_34 : decode cX7_powers 34 = .ok (.iconst 1, 1) := by decide +kernel
theorem dX7_powers_35 : decode cX7_powers 35 = .ok (.if_icmp .eq 5, 3) := by decide +kernel
theorem dX7_powers_38 : decode cX7_powers 38 = .ok (.iconst 0, 1) := by decide +kernel
theorem dX7_powers_39 : decode cX7_powers 39 = .ok (.ireturn, 1) := by decide +kernel
theorem dX7_powers_40 : decode cX7_powers 40 = .ok (.iconst 1, 1) := by decide +kernel
theorem dX7_powers_41 : decode cX7_powers 41 = .ok (.istore_n 2, 1) := by decide +kernel
theorem dX7_powers_42 : decode cX7_powers 42 = .ok (.iload_n 2, 1) := by decide +kernel
theorem dX7_powers_43 : decode cX7_powers 43 = .ok (.aload_n 0, 1) := by decide +kernel
theorem dX7_powers_44 : decode cX7_powers 44 = .ok (.getfield 92, 3) := by decide +kernel
theorem dX7_powers_47 : decode cX7_powers 47 = .ok (.iconst 1, 1) := by decide +kernel
theorem dX7_powers_48 : decode cX7_powers 48 = .ok (.isub, 1) := by decide +kernel
theorem dX7_powers_49 : decode cX7_powers 49 = .ok (.if_icmp .ge 69, 3) := by decide +kernel
theorem dX7_powers_52 : decode cX7_powers 52 = .ok (.iload_n 2, 1) := by decide +kernel
theorem dX7_powers_53 : decode cX7_powers 53 = .ok (.aload_n 0, 1) := by decide +kernel
theorem dX7_powers_54 : decode cX7_powers 54 = .ok (.getfield 68, 3) := by decide +kernel
theorem dX7_powers_57 : decode cX7_powers 57 = .ok (.irem, 1) := by decide +kernel
theorem dX7_powers_58 : decode cX7_powers 58 = .ok (.ifCond .ne 6, 3) := by decide +kernel
theorem dX7_powers_61 : decode cX7_powers 61 = .ok (.goto 51, 3) := by decide +kernel
theorem dX7_powers_64 : decode cX7_powers 64 = .ok (.iconst 0, 1) := by decide +kernel
theorem dX7_powers_65 : decode cX7_powers 65 = .ok (.istore_n 3, 1) := by decide +kernel
theorem dX7_powers_66 : decode cX7_powers 66 = .ok (.iload_n 3, 1) := by decide +kernel
theorem dX7_powers_67 : decode cX7_powers 67 = .ok (.aload_n 0, 1) := by decide +kernel
theorem dX7_powers_68 : decode cX7_powers 68 = .ok (.getfield 92, 3) := by decide +kernel
theorem dX7_powers_71 : decode cX7_powers 71 = .ok (.if_icmp .ge 26, 3) := by decide +kernel
theorem dX7_powers_74 : decode cX7_powers 74 = .ok (.aload_n 0, 1) := by decide +kernel
theorem dX7_powers_75 : decode cX7_powers 75 = .ok (.getfield 46, 3) := by decide +kernel
theorem dX7_powers_78 : decode cX7_powers 78 = .ok (.iload_n 3, 1) := by decide +kernel
theorem dX7_powers_79 : decode cX7_powers 79 = .ok (.aload_n 0, 1) := by decide +kernel
theorem dX7_powers_80 : decode cX7_powers 80 = .ok (.aload_n 0, 1) := by decide +kernel
theorem dX7_powers_81 : decode cX7_powers 81 = .ok (.iload_n 1, 1) := by decide +kernel
theorem dX7_powers_82 : decode cX7_powers 82 = .ok (.iload_n 3, 1) := by decide +kernel
theorem dX7_powers_83 : decode cX7_powers 83 = .ok (.invokevirtual 237, 3) := by decide +kernel
theorem dX7_powers_86 : decode cX7_powers 86 = .ok (.iload_n 2, 1) := by decide +kernel
theorem dX7_powers_87 : decode cX7_powers 87 = .ok (.invokevirtual 197, 3) := by decide +kernel
theorem dX7_powers_90 : decode cX7_powers 90 = .ok (.iastore, 1) := by decide +kernel
theorem dX7_powers_91 : decode cX7_powers 91 = .ok (.iinc 3 1, 3) := by decide +kernel
theorem dX7_powers_94 : decode cX7_powers 94 = .ok (.goto (-28), 3) := by decide +kernel
theorem dX7_powers_97 : decode cX7_powers 97 = .ok (.aload_n 0, 1) := by decide +kernel
theorem dX7_powers_98 : decode cX7_powers 98 = .ok (.aload_n 0, 1) := by decide +kernel
theorem dX7_powers_99 : decode cX7_powers 99 = .ok (.getfield 92, 3) := by decide +kernel
theorem dX7_powers_102 : decode cX7_powers 102 = .ok (.iconst 1, 1) := by decide +kernel
theorem dX7_powers_103 : decode cX7_powers 103 = .ok (.isub, 1) := by decide +kernel
theorem dX7_powers_104 : decode cX7_powers 104 = .ok (.invokevirtual 276, 3) := by decide +kernel
theorem dX7_powers_107 : decode cX7_powers 107 = .ok (.ifCond .eq 5, 3) := by decide +kernel
theorem dX7_powers_110 : decode cX7_powers 110 = .ok (.iload_n 2, 1) := by decide +kernel
theorem dX7_powers_111 : decode cX7_powers 111 = .ok (.ireturn, 1) := by decide +kernel
theorem dX7_powers_112 : decode cX7_powers 112 = .ok (.iinc 2 1, 3) := by decide +kernel
theorem dX7_powers_115 : decode cX7_powers 115 = .ok (.goto (-73), 3) := by decide +kernel
theorem dX7_powers_118 : decode cX7_powers 118 = .ok (.iconst (-1), 1) := by decide +kernel
theorem dX7_powers_119 : decode cX7_powers 119 = .ok (.ireturn, 1) := by decide +kernel
theorem dX7_cycleOf_0 : decode cX7_cycleOf 0 = .ok (.iconst 1, 1) := by decide +kernel
theorem dX7_cycleOf_1 : decode cX7_cycleOf 1 = .ok (.istore_n 3, 1) := by decide +kernel
theorem dX7_cycleOf_2 : decode cX7_cycleOf 2 = .ok (.aload_n 0, 1) := by decide +kernel
theorem dX7_cycleOf_3 : decode cX7_cycleOf 3 = .ok (.iload_n 1, 1) := by decide +kernel
theorem dX7_cycleOf_4 : decode cX7_cycleOf 4 = .ok (.iload_n 2, 1) := by decide +kernel
theorem dX7_cycleOf_5 : decode cX7_cycleOf 5 = .ok (.invokevirtual 237, 3) := by decide +kernel
theorem dX7_cycleOf_8 : decode cX7_cycleOf 8 = .ok (.istore 4, 2) := by decide +kernel
theorem dX7_cycleOf_10 : decode cX7_cycleOf 10 = .ok (.iload 4, 2) := by decide +kernel
theorem dX7_cycleOf_12 : decode cX7_cycleOf 12 = .ok (.iload_n 2, 1) := by decide +kernel
theorem dX7_cycleOf_13 : decode cX7_cycleOf 13 = .ok (.if_icmp .eq 26, 3) := by decide +kernel
theorem dX7_cycleOf_16 : decode cX7_cycleOf 16 = .ok (.iload 4, 2) := by decide +kernel
theorem dX7_cycleOf_18 : decode cX7_cycleOf 18 = .ok (.iload_n 2, 1) := by decide +kernel
theorem dX7_cycleOf_19 : decode cX7_cycleOf 19 = .ok (.if_icmp .ge 5, 3) := by decide +kernel
theorem dX7_cycleOf_22 : decode cX7_cycleOf 22 = .ok (.iconst 0, 1) := by decide +kernel
theorem dX7_cycleOf_23 : decode cX7_cycleOf 23 = .ok (.ireturn, 1) := by decide +kernel
theorem dX7_cycleOf_24 : decode cX7_cycleOf 24 = .ok (.aload_n 0, 1) := by decide +kernel
theorem dX7_cycleOf_25 : decode cX7_cycleOf 25 = .ok (.iload_n 1, 1) := by decide +kernel
theorem dX7_cycleOf_26 : decode cX7_cycleOf 26 = .ok (.iload 4, 2) := by decide +kernel
theorem dX7_cycleOf_28 : decode cX7_cycleOf 28 = .ok (.invokevirtual 237, 3) := by decide +kernel
theorem dX7_cycleOf_31 : decode cX7_cycleOf 31 = .ok (.istore 4, 2) := by decide +kernel
theorem dX7_cycleOf_33 : decode cX7_cycleOf 33 = .ok (.iinc 3 1, 3) := by decide +kernel
theorem dX7_cycleOf_36 : decode cX7_cycleOf 36 = .ok (.goto (-26), 3) := by decide +kernel
theorem dX7_cycleOf_39 : decode cX7_cycleOf 39 = .ok (.iload_n 3, 1) := by decide +kernel
theorem dX7_cycleOf_40 : decode cX7_cycleOf 40 = .ok (.ireturn, 1) := by decide +kernel
theorem dX7_badPerm_0 : decode cX7_badPerm 0 = .ok (.aload_n 0, 1) := by decide +kernel
theorem dX7_badPerm_1 : decode cX7_badPerm 1 = .ok (.aload_n 0, 1) := by decide +kernel
theorem dX7_badPerm_2 : decode cX7_badPerm 2 = .ok (.iload_n 1, 1) := by decide +kernel
theorem dX7_badPerm_3 : decode cX7_badPerm 3 = .ok (.invokevirtual 243, 3) := by decide +kernel
theorem dX7_badPerm_6 : decode cX7_badPerm 6 = .ok (.ifCond .ne 7, 3) := by decide +kernel
theorem dX7_badPerm_9 : decode cX7_badPerm 9 = .ok (.iconst 1, 1) := by decide +kernel
theorem dX7_badPerm_10 : decode cX7_badPerm 10 = .ok (.goto 4, 3) := by decide +kernel
theorem dX7_badPerm_13 : decode cX7_badPerm 13 = .ok (.iconst 0, 1) := by decide +kernel
theorem dX7_badPerm_14 : decode cX7_badPerm 14 = .ok (.iconst 1, 1) := by decide +kernel
theorem dX7_badPerm_15 : decode cX7_badPerm 15 = .ok (.iconst 0, 1) := by decide +kernel
theorem dX7_badPerm_16 : decode cX7_badPerm 16 = .ok (.invokevirtual 215, 3) := by decide +kernel
theorem dX7_badPerm_19 : decode cX7_badPerm 19 = .ok (.ifCond .ne 43, 3) := by decide +kernel
theorem dX7_badPerm_22 : decode cX7_badPerm 22 = .ok (.aload_n 0, 1) := by decide +kernel
theorem dX7_badPerm_23 : decode cX7_badPerm 23 = .ok (.iload_n 2, 1) := by decide +kernel
theorem dX7_badPerm_24 : decode cX7_badPerm 24 = .ok (.ifCond .ne 7, 3) := by decide +kernel
theorem dX7_badPerm_27 : decode cX7_badPerm 27 = .ok (.iconst 1, 1) := by decide +kernel
theorem dX7_badPerm_28 : decode cX7_badPerm 28 = .ok (.goto 4, 3) := by decide +kernel
theorem dX7_badPerm_31 : decode cX7_badPerm 31 = .ok (.iconst 0, 1) := by decide +kernel
theorem dX7_badPerm_32 : decode cX7_badPerm 32 = .ok (.iconst 2, 1) := by decide +kernel
theorem dX7_badPerm_33 : decode cX7_badPerm 33 = .ok (.iconst 1, 1) := by decide +kernel
theorem dX7_badPerm_34 : decode cX7_badPerm 34 = .ok (.invokevirtual 215, 3) := by decide +kernel
theorem dX7_badPerm_37 : decode cX7_badPerm 37 = .ok (.ifCond .ne 25, 3) := by decide +kernel
theorem dX7_badPerm_40 : decode cX7_badPerm 40 = .ok (.aload_n 0, 1) := by decide +kernel
theorem dX7_badPerm_41 : decode cX7_badPerm 41 = .ok (.aload_n 0, 1) := by decide +kernel
theorem dX7_badPerm_42 : decode cX7_badPerm 42 = .ok (.iload_n 1, 1) := by decide +kernel
theorem dX7_badPerm_43 : decode cX7_badPerm 43 = .ok (.invokevirtual 266, 3) := by decide +kernel
theorem dX7_badPerm_46 : decode cX7_badPerm 46 = .ok (.ifCond .ne 7, 3) := by decide +kernel
theorem dX7_badPerm_49 : decode cX7_badPerm 49 = .ok (.iconst 1, 1) := by decide +kernel
theorem dX7_badPerm_50 : decode cX7_badPerm 50 = .ok (.goto 4, 3) := by decide +kernel
theorem dX7_badPerm_53 : decode cX7_badPerm 53 = .ok (.iconst 0, 1) := by decide +kernel
theorem dX7_badPerm_54 : decode cX7_badPerm 54 = .ok (.iload_n 3, 1) := by decide +kernel
theorem dX7_badPerm_55 : decode cX7_badPerm 55 = .ok (.iconst 2, 1) := by decide +kernel
theorem dX7_badPerm_56 : decode cX7_badPerm 56 = .ok (.invokevirtual 215, 3) := by decide +kernel
theorem dX7_badPerm_59 : decode cX7_badPerm 59 = .ok (.ifCond .eq 7, 3) := by decide +kernel
theorem dX7_badPerm_62 : decode cX7_badPerm 62 = .ok (.iconst 1, 1) := by decide +kernel
theorem dX7_badPerm_63 : decode cX7_badPerm 63 = .ok (.goto 4, 3) := by decide +kernel
theorem dX7_badPerm_66 : decode cX7_badPerm 66 = .ok (.iconst 0, 1) := by decide +kernel
theorem dX7_badPerm_67 : decode cX7_badPerm 67 = .ok (.ireturn, 1) := by decide +kernel
theorem dX7_cyclesOf_0 : decode cX7_cyclesOf 0 = .ok (.iconst 0, 1) := by decide +kernel
theorem dX7_cyclesOf_1 : decode cX7_cyclesOf 1 = .ok (.istore_n 3, 1) := by decide +kernel
theorem dX7_cyclesOf_2 : decode cX7_cyclesOf 2 = .ok (.iconst 0, 1) := by decide +kernel
theorem dX7_cyclesOf_3 : decode cX7_cyclesOf 3 = .ok (.istore 4, 2) := by decide +kernel
theorem dX7_cyclesOf_5 : decode cX7_cyclesOf 5 = .ok (.iload 4, 2) := by decide +kernel
theorem dX7_cyclesOf_7 : decode cX7_cyclesOf 7 = .ok (.aload_n 0, 1) := by decide +kernel
theorem dX7_cyclesOf_8 : decode cX7_cyclesOf 8 = .ok (.getfield 92, 3) := by decide +kernel
theorem dX7_cyclesOf_11 : decode cX7_cyclesOf 11 = .ok (.if_icmp .ge 50, 3) := by decide +kernel
theorem dX7_cyclesOf_14 : decode cX7_cyclesOf 14 = .ok (.iload_n 3, 1) := by decide +kernel
theorem dX7_cyclesOf_15 : decode cX7_cyclesOf 15 = .ok (.iload_n 2, 1) := by decide +kernel
theorem dX7_cyclesOf_16 : decode cX7_cyclesOf 16 = .ok (.ifCond .ne 21, 3) := by decide +kernel
theorem dX7_cyclesOf_19 : decode cX7_cyclesOf 19 = .ok (.aload_n 0, 1) := by decide +kernel
theorem dX7_cyclesOf_20 : decode cX7_cyclesOf 20 = .ok (.iload_n 1, 1) := by decide +kernel
theorem dX7_cyclesOf_21 : decode cX7_cyclesOf 21 = .ok (.iload 4, 2) := by decide +kernel
theorem dX7_cyclesOf_23 : decode cX7_cyclesOf 23 = .ok (.invokevirtual 279, 3) := by decide +kernel
theorem dX7_cyclesOf_26 : decode cX7_cyclesOf 26 = .ok (.ifCond .le 7, 3) := by decide +kernel
theorem dX7_cyclesOf_29 : decode cX7_cyclesOf 29 = .ok (.iconst 1, 1) := by decide +kernel
theorem dX7_cyclesOf_30 : decode cX7_cyclesOf 30 = .ok (.goto 23, 3) := by decide +kernel
theorem dX7_cyclesOf_33 : decode cX7_cyclesOf 33 = .ok (.iconst 0, 1) := by decide +kernel
theorem dX7_cyclesOf_34 : decode cX7_cyclesOf 34 = .ok (.goto 19, 3) := by decide +kernel
theorem dX7_cyclesOf_37 : decode cX7_cyclesOf 37 = .ok (.aload_n 0, 1) := by decide +kernel
theorem dX7_cyclesOf_38 : decode cX7_cyclesOf 38 = .ok (.iload_n 1, 1) := by decide +kernel
theorem dX7_cyclesOf_39 : decode cX7_cyclesOf 39 = .ok (.iload 4, 2) := by decide +kernel
theorem dX7_cyclesOf_41 : decode cX7_cyclesOf 41 = .ok (.invokevirtual 279, 3) := by decide +kernel
theorem dX7_cyclesOf_44 : decode cX7_cyclesOf 44 = .ok (.iload_n 2, 1) := by decide +kernel
theorem dX7_cyclesOf_45 : decode cX7_cyclesOf 45 = .ok (.if_icmp .ne 7, 3) := by decide +kernel
theorem dX7_cyclesOf_48 : decode cX7_cyclesOf 48 = .ok (.iconst 1, 1) := by decide +kernel
theorem dX7_cyclesOf_49 : decode cX7_cyclesOf 49 = .ok (.goto 4, 3) := by decide +kernel
theorem dX7_cyclesOf_52 : decode cX7_cyclesOf 52 = .ok (.iconst 0, 1) := by decide +kernel
theorem dX7_cyclesOf_53 : decode cX7_cyclesOf 53 = .ok (.iadd, 1) := by decide +kernel
theorem dX7_cyclesOf_54 : decode cX7_cyclesOf 54 = .ok (.istore_n 3, 1) := by decide +kernel
theorem dX7_cyclesOf_55 : decode cX7_cyclesOf 55 = .ok (.iinc 4 1, 3) := by decide +kernel
theorem dX7_cyclesOf_58 : decode cX7_cyclesOf 58 = .ok (.goto (-53), 3) := by decide +kernel
theorem dX7_cyclesOf_61 : decode cX7_cyclesOf 61 = .ok (.iload_n 3, 1) := by decide +kernel
theorem dX7_cyclesOf_62 : decode cX7_cyclesOf 62 = .ok (.ireturn, 1) := by decide +kernel
theorem dX7_cycles_0 : decode cX7_cycles 0 = .ok (.aload_n 0, 1) := by decide +kernel
theorem dX7_cycles_1 : decode cX7_cycles 1 = .ok (.invokevirtual 240, 3) := by decide +kernel
theorem dX7_cycles_4 : decode cX7_cycles 4 = .ok (.aload_n 0, 1) := by decide +kernel
theorem dX7_cycles_5 : decode cX7_cycles 5 = .ok (.iload_n 1, 1) := by decide +kernel
theorem dX7_cycles_6 : decode cX7_cycles 6 = .ok (.iload_n 2, 1) := by decide +kernel
theorem dX7_cycles_7 : decode cX7_cycles 7 = .ok (.i2l, 1) := by decide +kernel
theorem dX7_cycles_8 : decode cX7_cycles 8 = .ok (.lconst 0, 1) := by decide +kernel
theorem dX7_cycles_9 : decode cX7_cycles 9 = .ok (.ldc2_w 282, 3) := by decide +kernel
theorem dX7_cycles_12 : decode cX7_cycles 12 = .ok (.invokestatic 154, 3) := by decide +kernel
theorem dX7_cycles_15 : decode cX7_cycles 15 = .ok (.iconst 3, 1) := by decide +kernel
theorem dX7_cycles_16 : decode cX7_cycles 16 = .ok (.invokevirtual 284, 3) := by decide +kernel
theorem dX7_cycles_19 : decode cX7_cycles 19 = .ok (.ifCond .eq 7, 3) := by decide +kernel
theorem dX7_cycles_22 : decode cX7_cycles 22 = .ok (.iconst 0, 1) := by decide +kernel
theorem dX7_cycles_23 : decode cX7_cycles 23 = .ok (.goto 9, 3) := by decide +kernel
theorem dX7_cycles_26 : decode cX7_cycles 26 = .ok (.aload_n 0, 1) := by decide +kernel
theorem dX7_cycles_27 : decode cX7_cycles 27 = .ok (.iload_n 1, 1) := by decide +kernel
theorem dX7_cycles_28 : decode cX7_cycles 28 = .ok (.iload_n 2, 1) := by decide +kernel
theorem dX7_cycles_29 : decode cX7_cycles 29 = .ok (.invokevirtual 288, 3) := by decide +kernel
theorem dX7_cycles_32 : decode cX7_cycles 32 = .ok (.ireturn, 1) := by decide +kernel
theorem dX7_common_0 : decode cX7_common 0 = .ok (.iload_n 0, 1) := by decide +kernel
theorem dX7_common_1 : decode cX7_common 1 = .ok (.istore_n 2, 1) := by decide +kernel
theorem dX7_common_2 : decode cX7_common 2 = .ok (.iload_n 1, 1) := by decide +kernel
theorem dX7_common_3 : decode cX7_common 3 = .ok (.istore_n 3, 1) := by decide +kernel
theorem dX7_common_4 : decode cX7_common 4 = .ok (.iload_n 3, 1) := by decide +kernel
theorem dX7_common_5 : decode cX7_common 5 = .ok (.ifCond .eq 16, 3) := by decide +kernel
theorem dX7_common_8 : decode cX7_common 8 = .ok (.iload_n 2, 1) := by decide +kernel
theorem dX7_common_9 : decode cX7_common 9 = .ok (.iload_n 3, 1) := by decide +kernel
theorem dX7_common_10 : decode cX7_common 10 = .ok (.irem, 1) := by decide +kernel
theorem dX7_common_11 : decode cX7_common 11 = .ok (.istore 4, 2) := by decide +kernel
theorem dX7_common_13 : decode cX7_common 13 = .ok (.iload_n 3, 1) := by decide +kernel
theorem dX7_common_14 : decode cX7_common 14 = .ok (.istore_n 2, 1) := by decide +kernel
theorem dX7_common_15 : decode cX7_common 15 = .ok (.iload 4, 2) := by decide +kernel
theorem dX7_common_17 : decode cX7_common 17 = .ok (.istore_n 3, 1) := by decide +kernel
theorem dX7_common_18 : decode cX7_common 18 = .ok (.goto (-14), 3) := by decide +kernel
theorem dX7_common_21 : decode cX7_common 21 = .ok (.iload_n 2, 1) := by decide +kernel
theorem dX7_common_22 : decode cX7_common 22 = .ok (.ireturn, 1) := by decide +kernel
theorem dX7_order_0 : decode cX7_order 0 = .ok (.aload_n 0, 1) := by decide +kernel
theorem dX7_order_1 : decode cX7_order 1 = .ok (.invokevirtual 240, 3) := by decide +kernel
theorem dX7_order_4 : decode cX7_order 4 = .ok (.aload_n 0, 1) := by decide +kernel
theorem dX7_order_5 : decode cX7_order 5 = .ok (.iload_n 1, 1) := by decide +kernel
theorem dX7_order_6 : decode cX7_order 6 = .ok (.iconst 1, 1) := by decide +kernel
theorem dX7_order_7 : decode cX7_order 7 = .ok (.iconst 2, 1) := by decide +kernel
theorem dX7_order_8 : decode cX7_order 8 = .ok (.invokevirtual 284, 3) := by decide +kernel
theorem dX7_order_11 : decode cX7_order 11 = .ok (.ifCond .eq 5, 3) := by decide +kernel
theorem dX7_order_14 : decode cX7_order 14 = .ok (.iconst 0, 1) := by decide +kernel
theorem dX7_order_15 : decode cX7_order 15 = .ok (.ireturn, 1) := by decide +kernel
theorem dX7_order_16 : decode cX7_order 16 = .ok (.iconst 1, 1) := by decide +kernel
theorem dX7_order_17 : decode cX7_order 17 = .ok (.istore_n 2, 1) := by decide +kernel
theorem dX7_order_18 : decode cX7_order 18 = .ok (.iconst 0, 1) := by decide +kernel
theorem dX7_order_19 : decode cX7_order 19 = .ok (.istore_n 3, 1) := by decide +kernel
theorem dX7_order_20 : decode cX7_order 20 = .ok (.iload_n 3, 1) := by decide +kernel
theorem dX7_order_21 : decode cX7_order 21 = .ok (.aload_n 0, 1) := by decide +kernel
theorem dX7_order_22 : decode cX7_order 22 = .ok (.getfield 92, 3) := by decide +kernel
theorem dX7_order_25 : decode cX7_order 25 = .ok (.if_icmp .ge 34, 3) := by decide +kernel
theorem dX7_order_28 : decode cX7_order 28 = .ok (.aload_n 0, 1) := by decide +kernel
theorem dX7_order_29 : decode cX7_order 29 = .ok (.iload_n 1, 1) := by decide +kernel
theorem dX7_order_30 : decode cX7_order 30 = .ok (.iload_n 3, 1) := by decide +kernel
theorem dX7_order_31 : decode cX7_order 31 = .ok (.invokevirtual 279, 3) := by decide +kernel
theorem dX7_order_34 : decode cX7_order 34 = .ok (.istore 4, 2) := by decide +kernel
theorem dX7_order_36 : decode cX7_order 36 = .ok (.iload 4, 2) := by decide +kernel
theorem dX7_order_38 : decode cX7_order 38 = .ok (.ifCond .le 15, 3) := by decide +kernel
theorem dX7_order_41 : decode cX7_order 41 = .ok (.iload_n 2, 1) := by decide +kernel
theorem dX7_order_42 : decode cX7_order 42 = .ok (.iload_n 2, 1) := by decide +kernel
theorem dX7_order_43 : decode cX7_order 43 = .ok (.iload 4, 2) := by decide +kernel
theorem dX7_order_45 : decode cX7_order 45 = .ok (.invokestatic 291, 3) := by decide +kernel
theorem dX7_order_48 : decode cX7_order 48 = .ok (.idiv, 1) := by decide +kernel
theorem dX7_order_49 : decode cX7_order 49 = .ok (.iload 4, 2) := by decide +kernel
theorem dX7_order_51 : decode cX7_order 51 = .ok (.imul, 1) := by decide +kernel
theorem dX7_order_52 : decode cX7_order 52 = .ok (.istore_n 2, 1) := by decide +kernel
theorem dX7_order_53 : decode cX7_order 53 = .ok (.iinc 3 1, 3) := by decide +kernel
theorem dX7_order_56 : decode cX7_order 56 = .ok (.goto (-36), 3) := by decide +kernel
theorem dX7_order_59 : decode cX7_order 59 = .ok (.iload_n 2, 1) := by decide +kernel
theorem dX7_order_60 : decode cX7_order 60 = .ok (.ireturn, 1) := by decide +kernel
theorem dX7_even_0 : decode cX7_even 0 = .ok (.aload_n 0, 1) := by decide +kernel
theorem dX7_even_1 : decode cX7_even 1 = .ok (.invokevirtual 240, 3) := by decide +kernel
theorem dX7_even_4 : decode cX7_even 4 = .ok (.aload_n 0, 1) := by decide +kernel
theorem dX7_even_5 : decode cX7_even 5 = .ok (.iload_n 1, 1) := by decide +kernel
theorem dX7_even_6 : decode cX7_even 6 = .ok (.iconst 1, 1) := by decide +kernel
theorem dX7_even_7 : decode cX7_even 7 = .ok (.iconst 2, 1) := by decide +kernel
theorem dX7_even_8 : decode cX7_even 8 = .ok (.invokevirtual 284, 3) := by decide +kernel
theorem dX7_even_11 : decode cX7_even 11 = .ok (.ifCond .eq 7, 3) := by decide +kernel
theorem dX7_even_14 : decode cX7_even 14 = .ok (.iconst 0, 1) := by decide +kernel
theorem dX7_even_15 : decode cX7_even 15 = .ok (.goto 24, 3) := by decide +kernel
theorem dX7_even_18 : decode cX7_even 18 = .ok (.aload_n 0, 1) := by decide +kernel
theorem dX7_even_19 : decode cX7_even 19 = .ok (.getfield 92, 3) := by decide +kernel
theorem dX7_even_22 : decode cX7_even 22 = .ok (.aload_n 0, 1) := by decide +kernel
theorem dX7_even_23 : decode cX7_even 23 = .ok (.iload_n 1, 1) := by decide +kernel
theorem dX7_even_24 : decode cX7_even 24 = .ok (.iconst 0, 1) := by decide +kernel
theorem dX7_even_25 : decode cX7_even 25 = .ok (.invokevirtual 288, 3) := by decide +kernel
theorem dX7_even_28 : decode cX7_even 28 = .ok (.isub, 1) := by decide +kernel
theorem dX7_even_29 : decode cX7_even 29 = .ok (.iconst 2, 1) := by decide +kernel
theorem dX7_even_30 : decode cX7_even 30 = .ok (.irem, 1) := by decide +kernel
theorem dX7_even_31 : decode cX7_even 31 = .ok (.ifCond .ne 7, 3) := by decide +kernel
theorem dX7_even_34 : decode cX7_even 34 = .ok (.iconst 1, 1) := by decide +kernel
theorem dX7_even_35 : decode cX7_even 35 = .ok (.goto 4, 3) := by decide +kernel
theorem dX7_even_38 : decode cX7_even 38 = .ok (.iconst 0, 1) := by decide +kernel
theorem dX7_even_39 : decode cX7_even 39 = .ok (.ireturn, 1) := by decide +kernel
theorem dX7_laysOrbits_0 : decode cX7_laysOrbits 0 = .ok (.iconst 0, 1) := by decide +kernel
theorem dX7_laysOrbits_1 : decode cX7_laysOrbits 1 = .ok (.istore_n 1, 1) := by decide +kernel
theorem dX7_laysOrbits_2 : decode cX7_laysOrbits 2 = .ok (.iload_n 1, 1) := by decide +kernel
theorem dX7_laysOrbits_3 : decode cX7_laysOrbits 3 = .ok (.aload_n 0, 1) := by decide +kernel
theorem dX7_laysOrbits_4 : decode cX7_laysOrbits 4 = .ok (.getfield 92, 3) := by decide +kernel
theorem dX7_laysOrbits_7 : decode cX7_laysOrbits 7 = .ok (.if_icmp .ge 16, 3) := by decide +kernel
theorem dX7_laysOrbits_10 : decode cX7_laysOrbits 10 = .ok (.aload_n 0, 1) := by decide +kernel
theorem dX7_laysOrbits_11 : decode cX7_laysOrbits 11 = .ok (.getfield 55, 3) := by decide +kernel
theorem dX7_laysOrbits_14 : decode cX7_laysOrbits 14 = .ok (.iload_n 1, 1) := by decide +kernel
theorem dX7_laysOrbits_15 : decode cX7_laysOrbits 15 = .ok (.iload_n 1, 1) := by decide +kernel
theorem dX7_laysOrbits_16 : decode cX7_laysOrbits 16 = .ok (.iastore, 1) := by decide +kernel
theorem dX7_laysOrbits_17 : decode cX7_laysOrbits 17 = .ok (.iinc 1 1, 3) := by decide +kernel
theorem dX7_laysOrbits_20 : decode cX7_laysOrbits 20 = .ok (.goto (-18), 3) := by decide +kernel
theorem dX7_laysOrbits_23 : decode cX7_laysOrbits 23 = .ok (.iconst 1, 1) := by decide +kernel
theorem dX7_laysOrbits_24 : decode cX7_laysOrbits 24 = .ok (.istore_n 1, 1) := by decide +kernel
theorem dX7_laysOrbits_25 : decode cX7_laysOrbits 25 = .ok (.iload_n 1, 1) := by decide +kernel
theorem dX7_laysOrbits_26 : decode cX7_laysOrbits 26 = .ok (.ifCond .eq 122, 3) := by decide +kernel
theorem dX7_laysOrbits_29 : decode cX7_laysOrbits 29 = .ok (.iconst 0, 1) := by decide +kernel
theorem dX7_laysOrbits_30 : decode cX7_laysOrbits 30 = .ok (.istore_n 1, 1) := by decide +kernel
theorem dX7_laysOrbits_31 : decode cX7_laysOrbits 31 = .ok (.iconst 0, 1) := by decide +kernel
theorem dX7_laysOrbits_32 : decode cX7_laysOrbits 32 = .ok (.istore_n 2, 1) := by decide +kernel
theorem dX7_laysOrbits_33 : decode cX7_laysOrbits 33 = .ok (.iload_n 2, 1) := by decide +kernel
theorem dX7_laysOrbits_34 : decode cX7_laysOrbits 34 = .ok (.aload_n 0, 1) := by decide +kernel
theorem dX7_laysOrbits_35 : decode cX7_laysOrbits 35 = .ok (.getfield 20, 3) := by decide +kernel
theorem dX7_laysOrbits_38 : decode cX7_laysOrbits 38 = .ok (.iconst 2, 1) := by decide +kernel
theorem dX7_laysOrbits_39 : decode cX7_laysOrbits 39 = .ok (.iaload, 1) := by decide +kernel
theorem dX7_laysOrbits_40 : decode cX7_laysOrbits 40 = .ok (.if_icmp .ge 105, 3) := by decide +kernel
theorem dX7_laysOrbits_43 : decode cX7_laysOrbits 43 = .ok (.aload_n 0, 1) := by decide +kernel
theorem dX7_laysOrbits_44 : decode cX7_laysOrbits 44 = .ok (.iload_n 2, 1) := by decide +kernel
theorem dX7_laysOrbits_45 : decode cX7_laysOrbits 45 = .ok (.invokevirtual 266, 3) := by decide +kernel
theorem dX7_laysOrbits_48 : decode cX7_laysOrbits 48 = .ok (.ifCond .ne 6, 3) := by decide +kernel
theorem dX7_laysOrbits_51 : decode cX7_laysOrbits 51 = .ok (.goto 88, 3) := by decide +kernel
theorem dX7_laysOrbits_54 : decode cX7_laysOrbits 54 = .ok (.iconst 0, 1) := by decide +kernel
theorem dX7_laysOrbits_55 : decode cX7_laysOrbits 55 = .ok (.istore_n 3, 1) := by decide +kernel
theorem dX7_laysOrbits_56 : decode cX7_laysOrbits 56 = .ok (.iload_n 3, 1) := by decide +kernel
theorem dX7_laysOrbits_57 : decode cX7_laysOrbits 57 = .ok (.aload_n 0, 1) := by decide +kernel
theorem dX7_laysOrbits_58 : decode cX7_laysOrbits 58 = .ok (.getfield 92, 3) := by decide +kernel
theorem dX7_laysOrbits_61 : decode cX7_laysOrbits 61 = .ok (.if_icmp .ge 78, 3) := by decide +kernel
theorem dX7_laysOrbits_64 : decode cX7_laysOrbits 64 = .ok (.aload_n 0, 1) := by decide +kernel
theorem dX7_laysOrbits_65 : decode cX7_laysOrbits 65 = .ok (.iload_n 2, 1) := by decide +kernel
theorem dX7_laysOrbits_66 : decode cX7_laysOrbits 66 = .ok (.iload_n 3, 1) := by decide +kernel
theorem dX7_laysOrbits_67 : decode cX7_laysOrbits 67 = .ok (.invokevirtual 237, 3) := by decide +kernel
theorem dX7_laysOrbits_70 : decode cX7_laysOrbits 70 = .ok (.istore 4, 2) := by decide +kernel
theorem dX7_laysOrbits_72 : decode cX7_laysOrbits 72 = .ok (.aload_n 0, 1) := by decide +kernel
theorem dX7_laysOrbits_73 : decode cX7_laysOrbits 73 = .ok (.getfield 55, 3) := by decide +kernel
theorem dX7_laysOrbits_76 : decode cX7_laysOrbits 76 = .ok (.iload_n 3, 1) := by decide +kernel
theorem dX7_laysOrbits_77 : decode cX7_laysOrbits 77 = .ok (.iaload, 1) := by decide +kernel
theorem dX7_laysOrbits_78 : decode cX7_laysOrbits 78 = .ok (.aload_n 0, 1) := by decide +kernel
theorem dX7_laysOrbits_79 : decode cX7_laysOrbits 79 = .ok (.getfield 55, 3) := by decide +kernel
theorem dX7_laysOrbits_82 : decode cX7_laysOrbits 82 = .ok (.iload 4, 2) := by decide +kernel
theorem dX7_laysOrbits_84 : decode cX7_laysOrbits 84 = .ok (.iaload, 1) := by decide +kernel
theorem dX7_laysOrbits_85 : decode cX7_laysOrbits 85 = .ok (.invokestatic 64, 3) := by decide +kernel
theorem dX7_laysOrbits_88 : decode cX7_laysOrbits 88 = .ok (.istore 5, 2) := by decide +kernel
theorem dX7_laysOrbits_90 : decode cX7_laysOrbits 90 = .ok (.iload_n 1, 1) := by decide +kernel
theorem dX7_laysOrbits_91 : decode cX7_laysOrbits 91 = .ok (.ifCond .ne 19, 3) := by decide +kernel
theorem dX7_laysOrbits_94 : decode cX7_laysOrbits 94 = .ok (.aload_n 0, 1) := by decide +kernel
theorem dX7_laysOrbits_95 : decode cX7_laysOrbits 95 = .ok (.getfield 55, 3) := by decide +kernel
theorem dX7_laysOrbits_98 : decode cX7_laysOrbits 98 = .ok (.iload_n 3, 1) := by decide +kernel
theorem dX7_laysOrbits_99 : decode cX7_laysOrbits 99 = .ok (.iaload, 1) := by decide +kernel
theorem dX7_laysOrbits_100 : decode cX7_laysOrbits 100 = .ok (.aload_n 0, 1) := by decide +kernel
theorem dX7_laysOrbits_101 : decode cX7_laysOrbits 101 = .ok (.getfield 55, 3) := by decide +kernel
theorem dX7_laysOrbits_104 : decode cX7_laysOrbits 104 = .ok (.iload 4, 2) := by decide +kernel
theorem dX7_laysOrbits_106 : decode cX7_laysOrbits 106 = .ok (.iaload, 1) := by decide +kernel
theorem dX7_laysOrbits_107 : decode cX7_laysOrbits 107 = .ok (.if_icmp .eq 7, 3) := by decide +kernel
theorem dX7_laysOrbits_110 : decode cX7_laysOrbits 110 = .ok (.iconst 1, 1) := by decide +kernel
theorem dX7_laysOrbits_111 : decode cX7_laysOrbits 111 = .ok (.goto 4, 3) := by decide +kernel
theorem dX7_laysOrbits_114 : decode cX7_laysOrbits 114 = .ok (.iconst 0, 1) := by decide +kernel
theorem dX7_laysOrbits_115 : decode cX7_laysOrbits 115 = .ok (.istore_n 1, 1) := by decide +kernel
theorem dX7_laysOrbits_116 : decode cX7_laysOrbits 116 = .ok (.aload_n 0, 1) := by decide +kernel
theorem dX7_laysOrbits_117 : decode cX7_laysOrbits 117 = .ok (.getfield 55, 3) := by decide +kernel
theorem dX7_laysOrbits_120 : decode cX7_laysOrbits 120 = .ok (.iload_n 3, 1) := by decide +kernel
theorem dX7_laysOrbits_121 : decode cX7_laysOrbits 121 = .ok (.iload 5, 2) := by decide +kernel
theorem dX7_laysOrbits_123 : decode cX7_laysOrbits 123 = .ok (.iastore, 1) := by decide +kernel
theorem dX7_laysOrbits_124 : decode cX7_laysOrbits 124 = .ok (.aload_n 0, 1) := by decide +kernel
theorem dX7_laysOrbits_125 : decode cX7_laysOrbits 125 = .ok (.getfield 55, 3) := by decide +kernel
theorem dX7_laysOrbits_128 : decode cX7_laysOrbits 128 = .ok (.iload 4, 2) := by decide +kernel
theorem dX7_laysOrbits_130 : decode cX7_laysOrbits 130 = .ok (.iload 5, 2) := by decide +kernel
theorem dX7_laysOrbits_132 : decode cX7_laysOrbits 132 = .ok (.iastore, 1) := by decide +kernel
theorem dX7_laysOrbits_133 : decode cX7_laysOrbits 133 = .ok (.iinc 3 1, 3) := by decide +kernel
theorem dX7_laysOrbits_136 : decode cX7_laysOrbits 136 = .ok (.goto (-80), 3) := by decide +kernel
theorem dX7_laysOrbits_139 : decode cX7_laysOrbits 139 = .ok (.iinc 2 1, 3) := by decide +kernel
theorem dX7_laysOrbits_142 : decode cX7_laysOrbits 142 = .ok (.goto (-109), 3) := by decide +kernel
theorem dX7_laysOrbits_145 : decode cX7_laysOrbits 145 = .ok (.goto (-120), 3) := by decide +kernel
theorem dX7_laysOrbits_148 : decode cX7_laysOrbits 148 = .ok (.return_, 1) := by decide +kernel
theorem dX7_orbit_0 : decode cX7_orbit 0 = .ok (.aload_n 0, 1) := by decide +kernel
theorem dX7_orbit_1 : decode cX7_orbit 1 = .ok (.invokevirtual 240, 3) := by decide +kernel
theorem dX7_orbit_4 : decode cX7_orbit 4 = .ok (.aload_n 0, 1) := by decide +kernel
theorem dX7_orbit_5 : decode cX7_orbit 5 = .ok (.aload_n 0, 1) := by decide +kernel
theorem dX7_orbit_6 : decode cX7_orbit 6 = .ok (.iload_n 1, 1) := by decide +kernel
theorem dX7_orbit_7 : decode cX7_orbit 7 = .ok (.invokevirtual 246, 3) := by decide +kernel
theorem dX7_orbit_10 : decode cX7_orbit 10 = .ok (.ifCond .ne 7, 3) := by decide +kernel
theorem dX7_orbit_13 : decode cX7_orbit 13 = .ok (.iconst 1, 1) := by decide +kernel
theorem dX7_orbit_14 : decode cX7_orbit 14 = .ok (.goto 4, 3) := by decide +kernel
theorem dX7_orbit_17 : decode cX7_orbit 17 = .ok (.iconst 0, 1) := by decide +kernel
theorem dX7_orbit_18 : decode cX7_orbit 18 = .ok (.iconst 1, 1) := by decide +kernel
theorem dX7_orbit_19 : decode cX7_orbit 19 = .ok (.iconst 0, 1) := by decide +kernel
theorem dX7_orbit_20 : decode cX7_orbit 20 = .ok (.invokevirtual 215, 3) := by decide +kernel
theorem dX7_orbit_23 : decode cX7_orbit 23 = .ok (.ifCond .eq 5, 3) := by decide +kernel
theorem dX7_orbit_26 : decode cX7_orbit 26 = .ok (.iconst 0, 1) := by decide +kernel
theorem dX7_orbit_27 : decode cX7_orbit 27 = .ok (.ireturn, 1) := by decide +kernel
theorem dX7_orbit_28 : decode cX7_orbit 28 = .ok (.aload_n 0, 1) := by decide +kernel
theorem dX7_orbit_29 : decode cX7_orbit 29 = .ok (.invokevirtual 294, 3) := by decide +kernel
theorem dX7_orbit_32 : decode cX7_orbit 32 = .ok (.iconst 0, 1) := by decide +kernel
theorem dX7_orbit_33 : decode cX7_orbit 33 = .ok (.istore_n 2, 1) := by decide +kernel
theorem dX7_orbit_34 : decode cX7_orbit 34 = .ok (.iconst 0, 1) := by decide +kernel
theorem dX7_orbit_35 : decode cX7_orbit 35 = .ok (.istore_n 3, 1) := by decide +kernel
theorem dX7_orbit_36 : decode cX7_orbit 36 = .ok (.iload_n 3, 1) := by decide +kernel
theorem dX7_orbit_37 : decode cX7_orbit 37 = .ok (.aload_n 0, 1) := by decide +kernel
theorem dX7_orbit_38 : decode cX7_orbit 38 = .ok (.getfield 92, 3) := by decide +kernel
theorem dX7_orbit_41 : decode cX7_orbit 41 = .ok (.if_icmp .ge 32, 3) := by decide +kernel
theorem dX7_orbit_44 : decode cX7_orbit 44 = .ok (.iload_n 2, 1) := by decide +kernel
theorem dX7_orbit_45 : decode cX7_orbit 45 = .ok (.aload_n 0, 1) := by decide +kernel
theorem dX7_orbit_46 : decode cX7_orbit 46 = .ok (.getfield 55, 3) := by decide +kernel
theorem dX7_orbit_49 : decode cX7_orbit 49 = .ok (.iload_n 3, 1) := by decide +kernel
theorem dX7_orbit_50 : decode cX7_orbit 50 = .ok (.iaload, 1) := by decide +kernel
theorem dX7_orbit_51 : decode cX7_orbit 51 = .ok (.aload_n 0, 1) := by decide +kernel
theorem dX7_orbit_52 : decode cX7_orbit 52 = .ok (.getfield 55, 3) := by decide +kernel
theorem dX7_orbit_55 : decode cX7_orbit 55 = .ok (.iload_n 1, 1) := by decide +kernel
theorem dX7_orbit_56 : decode cX7_orbit 56 = .ok (.iaload, 1) := by decide +kernel
theorem dX7_orbit_57 : decode cX7_orbit 57 = .ok (.if_icmp .ne 7, 3) := by decide +kernel
theorem dX7_orbit_60 : decode cX7_orbit 60 = .ok (.iconst 1, 1) := by decide +kernel
theorem dX7_orbit_61 : decode cX7_orbit 61 = .ok (.goto 4, 3) := by decide +kernel
theorem dX7_orbit_64 : decode cX7_orbit 64 = .ok (.iconst 0, 1) := by decide +kernel
theorem dX7_orbit_65 : decode cX7_orbit 65 = .ok (.iadd, 1) := by decide +kernel
theorem dX7_orbit_66 : decode cX7_orbit 66 = .ok (.istore_n 2, 1) := by decide +kernel
theorem dX7_orbit_67 : decode cX7_orbit 67 = .ok (.iinc 3 1, 3) := by decide +kernel
theorem dX7_orbit_70 : decode cX7_orbit 70 = .ok (.goto (-34), 3) := by decide +kernel
theorem dX7_orbit_73 : decode cX7_orbit 73 = .ok (.iload_n 2, 1) := by decide +kernel
theorem dX7_orbit_74 : decode cX7_orbit 74 = .ok (.ireturn, 1) := by decide +kernel
theorem dX7_orbits_0 : decode cX7_orbits 0 = .ok (.aload_n 0, 1) := by decide +kernel
theorem dX7_orbits_1 : decode cX7_orbits 1 = .ok (.invokevirtual 240, 3) := by decide +kernel
theorem dX7_orbits_4 : decode cX7_orbits 4 = .ok (.aload_n 0, 1) := by decide +kernel
theorem dX7_orbits_5 : decode cX7_orbits 5 = .ok (.invokevirtual 294, 3) := by decide +kernel
theorem dX7_orbits_8 : decode cX7_orbits 8 = .ok (.iconst 0, 1) := by decide +kernel
theorem dX7_orbits_9 : decode cX7_orbits 9 = .ok (.istore_n 1, 1) := by decide +kernel
theorem dX7_orbits_10 : decode cX7_orbits 10 = .ok (.iconst 0, 1) := by decide +kernel
theorem dX7_orbits_11 : decode cX7_orbits 11 = .ok (.istore_n 2, 1) := by decide +kernel
theorem dX7_orbits_12 : decode cX7_orbits 12 = .ok (.iload_n 2, 1) := by decide +kernel
theorem dX7_orbits_13 : decode cX7_orbits 13 = .ok (.aload_n 0, 1) := by decide +kernel
theorem dX7_orbits_14 : decode cX7_orbits 14 = .ok (.getfield 92, 3) := by decide +kernel
theorem dX7_orbits_17 : decode cX7_orbits 17 = .ok (.if_icmp .ge 27, 3) := by decide +kernel
theorem dX7_orbits_20 : decode cX7_orbits 20 = .ok (.iload_n 1, 1) := by decide +kernel
theorem dX7_orbits_21 : decode cX7_orbits 21 = .ok (.aload_n 0, 1) := by decide +kernel
theorem dX7_orbits_22 : decode cX7_orbits 22 = .ok (.getfield 55, 3) := by decide +kernel
theorem dX7_orbits_25 : decode cX7_orbits 25 = .ok (.iload_n 2, 1) := by decide +kernel
theorem dX7_orbits_26 : decode cX7_orbits 26 = .ok (.iaload, 1) := by decide +kernel
theorem dX7_orbits_27 : decode cX7_orbits 27 = .ok (.iload_n 2, 1) := by decide +kernel
theorem dX7_orbits_28 : decode cX7_orbits 28 = .ok (.if_icmp .ne 7, 3) := by decide +kernel
theorem dX7_orbits_31 : decode cX7_orbits 31 = .ok (.iconst 1, 1) := by decide +kernel
theorem dX7_orbits_32 : decode cX7_orbits 32 = .ok (.goto 4, 3) := by decide +kernel
theorem dX7_orbits_35 : decode cX7_orbits 35 = .ok (.iconst 0, 1) := by decide +kernel
theorem dX7_orbits_36 : decode cX7_orbits 36 = .ok (.iadd, 1) := by decide +kernel
theorem dX7_orbits_37 : decode cX7_orbits 37 = .ok (.istore_n 1, 1) := by decide +kernel
theorem dX7_orbits_38 : decode cX7_orbits 38 = .ok (.iinc 2 1, 3) := by decide +kernel
theorem dX7_orbits_41 : decode cX7_orbits 41 = .ok (.goto (-29), 3) := by decide +kernel
theorem dX7_orbits_44 : decode cX7_orbits 44 = .ok (.iload_n 1, 1) := by decide +kernel
theorem dX7_orbits_45 : decode cX7_orbits 45 = .ok (.ireturn, 1) := by decide +kernel
theorem dX7_spread_0 : decode cX7_spread 0 = .ok (.aload_n 0, 1) := by decide +kernel
theorem dX7_spread_1 : decode cX7_spread 1 = .ok (.invokevirtual 240, 3) := by decide +kernel
theorem dX7_spread_4 : decode cX7_spread 4 = .ok (.aload_n 0, 1) := by decide +kernel
theorem dX7_spread_5 : decode cX7_spread 5 = .ok (.aload_n 0, 1) := by decide +kernel
theorem dX7_spread_6 : decode cX7_spread 6 = .ok (.iload_n 1, 1) := by decide +kernel
theorem dX7_spread_7 : decode cX7_spread 7 = .ok (.invokevirtual 243, 3) := by decide +kernel
theorem dX7_spread_10 : decode cX7_spread 10 = .ok (.ifCond .ne 7, 3) := by decide +kernel
theorem dX7_spread_13 : decode cX7_spread 13 = .ok (.iconst 1, 1) := by decide +kernel
theorem dX7_spread_14 : decode cX7_spread 14 = .ok (.goto 4, 3) := by decide +kernel
theorem dX7_spread_17 : decode cX7_spread 17 = .ok (.iconst 0, 1) := by decide +kernel
theorem dX7_spread_18 : decode cX7_spread 18 = .ok (.iconst 1, 1) := by decide +kernel
theorem dX7_spread_19 : decode cX7_spread 19 = .ok (.iconst 0, 1) := by decide +kernel
theorem dX7_spread_20 : decode cX7_spread 20 = .ok (.invokevirtual 215, 3) := by decide +kernel
theorem dX7_spread_23 : decode cX7_spread 23 = .ok (.ifCond .eq 5, 3) := by decide +kernel
theorem dX7_spread_26 : decode cX7_spread 26 = .ok (.iconst 0, 1) := by decide +kernel
theorem dX7_spread_27 : decode cX7_spread 27 = .ok (.ireturn, 1) := by decide +kernel
theorem dX7_spread_28 : decode cX7_spread 28 = .ok (.iconst 0, 1) := by decide +kernel
theorem dX7_spread_29 : decode cX7_spread 29 = .ok (.istore_n 2, 1) := by decide +kernel
theorem dX7_spread_30 : decode cX7_spread 30 = .ok (.iconst 1, 1) := by decide +kernel
theorem dX7_spread_31 : decode cX7_spread 31 = .ok (.istore_n 3, 1) := by decide +kernel
theorem dX7_spread_32 : decode cX7_spread 32 = .ok (.iload_n 3, 1) := by decide +kernel
theorem dX7_spread_33 : decode cX7_spread 33 = .ok (.aload_n 0, 1) := by decide +kernel
theorem dX7_spread_34 : decode cX7_spread 34 = .ok (.getfield 92, 3) := by decide +kernel
theorem dX7_spread_37 : decode cX7_spread 37 = .ok (.if_icmp .ge 101, 3) := by decide +kernel
theorem dX7_spread_40 : decode cX7_spread 40 = .ok (.iconst 0, 1) := by decide +kernel
theorem dX7_spread_41 : decode cX7_spread 41 = .ok (.istore 4, 2) := by decide +kernel
theorem dX7_spread_43 : decode cX7_spread 43 = .ok (.iload 4, 2) := by decide +kernel
theorem dX7_spread_45 : decode cX7_spread 45 = .ok (.aload_n 0, 1) := by decide +kernel
theorem dX7_spread_46 : decode cX7_spread 46 = .ok (.getfield 92, 3) := by decide +kernel
theorem dX7_spread_49 : decode cX7_spread 49 = .ok (.if_icmp .ge 83, 3) := by decide +kernel
theorem dX7_spread_52 : decode cX7_spread 52 = .ok (.iconst 0, 1) := by decide +kernel
theorem dX7_spread_53 : decode cX7_spread 53 = .ok (.istore 5, 2) := by decide +kernel
theorem dX7_spread_55 : decode cX7_spread 55 = .ok (.iconst 0, 1) := by decide +kernel
theorem dX7_spread_56 : decode cX7_spread 56 = .ok (.istore 6, 2) := by decide +kernel
theorem dX7_spread_58 : decode cX7_spread 58 = .ok (.iload 6, 2) := by decide +kernel
theorem dX7_spread_60 : decode cX7_spread 60 = .ok (.aload_n 0, 1) := by decide +kernel
theorem dX7_spread_61 : decode cX7_spread 61 = .ok (.getfield 92, 3) := by decide +kernel
theorem dX7_spread_64 : decode cX7_spread 64 = .ok (.if_icmp .ge 49, 3) := by decide +kernel
theorem dX7_spread_67 : decode cX7_spread 67 = .ok (.iload 5, 2) := by decide +kernel
theorem dX7_spread_69 : decode cX7_spread 69 = .ok (.aload_n 0, 1) := by decide +kernel
theorem dX7_spread_70 : decode cX7_spread 70 = .ok (.aload_n 0, 1) := by decide +kernel
theorem dX7_spread_71 : decode cX7_spread 71 = .ok (.iload_n 1, 1) := by decide +kernel
theorem dX7_spread_72 : decode cX7_spread 72 = .ok (.aload_n 0, 1) := by decide +kernel
theorem dX7_spread_73 : decode cX7_spread 73 = .ok (.getfield 31, 3) := by decide +kernel
theorem dX7_spread_76 : decode cX7_spread 76 = .ok (.iload 6, 2) := by decide +kernel
theorem dX7_spread_78 : decode cX7_spread 78 = .ok (.aaload, 1) := by decide +kernel
theorem dX7_spread_79 : decode cX7_spread 79 = .ok (.iload_n 3, 1) := by decide +kernel
theorem dX7_spread_80 : decode cX7_spread 80 = .ok (.iaload, 1) := by decide +kernel
theorem dX7_spread_81 : decode cX7_spread 81 = .ok (.invokevirtual 237, 3) := by decide +kernel
theorem dX7_spread_84 : decode cX7_spread 84 = .ok (.aload_n 0, 1) := by decide +kernel
theorem dX7_spread_85 : decode cX7_spread 85 = .ok (.iload_n 1, 1) := by decide +kernel
theorem dX7_spread_86 : decode cX7_spread 86 = .ok (.iload 6, 2) := by decide +kernel
theorem dX7_spread_88 : decode cX7_spread 88 = .ok (.invokevirtual 237, 3) := by decide +kernel
theorem dX7_spread_91 : decode cX7_spread 91 = .ok (.invokevirtual 105, 3) := by decide +kernel
theorem dX7_spread_94 : decode cX7_spread 94 = .ok (.iload 4, 2) := by decide +kernel
theorem dX7_spread_96 : decode cX7_spread 96 = .ok (.if_icmp .ne 7, 3) := by decide +kernel
theorem dX7_spread_99 : decode cX7_spread 99 = .ok (.iconst 1, 1) := by decide +kernel
theorem dX7_spread_100 : decode cX7_spread 100 = .ok (.goto 4, 3) := by decide +kernel
theorem dX7_spread_103 : decode cX7_spread 103 = .ok (.iconst 0, 1) := by decide +kernel
theorem dX7_spread_104 : decode cX7_spread 104 = .ok (.iadd, 1) := by decide +kernel
theorem dX7_spread_105 : decode cX7_spread 105 = .ok (.istore 5, 2) := by decide +kernel
theorem dX7_spread_107 : decode cX7_spread 107 = .ok (.iinc 6 1, 3) := by decide +kernel
theorem dX7_spread_110 : decode cX7_spread 110 = .ok (.goto (-52), 3) := by decide +kernel
theorem dX7_spread_113 : decode cX7_spread 113 = .ok (.iload 5, 2) := by decide +kernel
theorem dX7_spread_115 : decode cX7_spread 115 = .ok (.iload_n 2, 1) := by decide +kernel
theorem dX7_spread_116 : decode cX7_spread 116 = .ok (.if_icmp .le 8, 3) := by decide +kernel
theorem dX7_spread_119 : decode cX7_spread 119 = .ok (.iload 5, 2) := by decide +kernel
theorem dX7_spread_121 : decode cX7_spread 121 = .ok (.goto 4, 3) := by decide +kernel
theorem dX7_spread_124 : decode cX7_spread 124 = .ok (.iload_n 2, 1) := by decide +kernel
theorem dX7_spread_125 : decode cX7_spread 125 = .ok (.istore_n 2, 1) := by decide +kernel
theorem dX7_spread_126 : decode cX7_spread 126 = .ok (.iinc 4 1, 3) := by decide +kernel
theorem dX7_spread_129 : decode cX7_spread 129 = .ok (.goto (-86), 3) := by decide +kernel
theorem dX7_spread_132 : decode cX7_spread 132 = .ok (.iinc 3 1, 3) := by decide +kernel
theorem dX7_spread_135 : decode cX7_spread 135 = .ok (.goto (-103), 3) := by decide +kernel
theorem dX7_spread_138 : decode cX7_spread 138 = .ok (.iload_n 2, 1) := by decide +kernel
theorem dX7_spread_139 : decode cX7_spread 139 = .ok (.ireturn, 1) := by decide +kernel
theorem dX7_areAll_0 : decode cX7_areAll 0 = .ok (.lconst 0, 1) := by decide +kernel
theorem dX7_areAll_1 : decode cX7_areAll 1 = .ok (.lstore_n 1, 1) := by decide +kernel
theorem dX7_areAll_2 : decode cX7_areAll 2 = .ok (.iconst 0, 1) := by decide +kernel
theorem dX7_areAll_3 : decode cX7_areAll 3 = .ok (.istore_n 3, 1) := by decide +kernel
theorem dX7_areAll_4 : decode cX7_areAll 4 = .ok (.iload_n 3, 1) := by decide +kernel
theorem dX7_areAll_5 : decode cX7_areAll 5 = .ok (.aload_n 0, 1) := by decide +kernel
theorem dX7_areAll_6 : decode cX7_areAll 6 = .ok (.getfield 92, 3) := by decide +kernel
theorem dX7_areAll_9 : decode cX7_areAll 9 = .ok (.if_icmp .ge 20, 3) := by decide +kernel
theorem dX7_areAll_12 : decode cX7_areAll 12 = .ok (.lload_n 1, 1) := by decide +kernel
theorem dX7_areAll_13 : decode cX7_areAll 13 = .ok (.lconst 1, 1) := by decide +kernel
theorem dX7_areAll_14 : decode cX7_areAll 14 = .ok (.aload_n 0, 1) := by decide +kernel
theorem dX7_areAll_15 : decode cX7_areAll 15 = .ok (.getfield 46, 3) := by decide +kernel
theorem dX7_areAll_18 : decode cX7_areAll 18 = .ok (.iload_n 3, 1) := by decide +kernel
theorem dX7_areAll_19 : decode cX7_areAll 19 = .ok (.iaload, 1) := by decide +kernel
theorem dX7_areAll_20 : decode cX7_areAll 20 = .ok (.lshl, 1) := by decide +kernel
theorem dX7_areAll_21 : decode cX7_areAll 21 = .ok (.lor, 1) := by decide +kernel
theorem dX7_areAll_22 : decode cX7_areAll 22 = .ok (.lstore_n 1, 1) := by decide +kernel
theorem dX7_areAll_23 : decode cX7_areAll 23 = .ok (.iinc 3 1, 3) := by decide +kernel
theorem dX7_areAll_26 : decode cX7_areAll 26 = .ok (.goto (-22), 3) := by decide +kernel
theorem dX7_areAll_29 : decode cX7_areAll 29 = .ok (.iconst 0, 1) := by decide +kernel
theorem dX7_areAll_30 : decode cX7_areAll 30 = .ok (.istore_n 3, 1) := by decide +kernel
theorem dX7_areAll_31 : decode cX7_areAll 31 = .ok (.iconst 0, 1) := by decide +kernel
theorem dX7_areAll_32 : decode cX7_areAll 32 = .ok (.istore 4, 2) := by decide +kernel
theorem dX7_areAll_34 : decode cX7_areAll 34 = .ok (.iload 4, 2) := by decide +kernel
theorem dX7_areAll_36 : decode cX7_areAll 36 = .ok (.aload_n 0, 1) := by decide +kernel
theorem dX7_areAll_37 : decode cX7_areAll 37 = .ok (.getfield 92, 3) := by decide +kernel
theorem dX7_areAll_40 : decode cX7_areAll 40 = .ok (.if_icmp .ge 20, 3) := by decide +kernel
theorem dX7_areAll_43 : decode cX7_areAll 43 = .ok (.iload_n 3, 1) := by decide +kernel
theorem dX7_areAll_44 : decode cX7_areAll 44 = .ok (.i2l, 1) := by decide +kernel
theorem dX7_areAll_45 : decode cX7_areAll 45 = .ok (.lload_n 1, 1) := by decide +kernel
theorem dX7_areAll_46 : decode cX7_areAll 46 = .ok (.iload 4, 2) := by decide +kernel
theorem dX7_areAll_48 : decode cX7_areAll 48 = .ok (.lshr, 1) := by decide +kernel
theorem dX7_areAll_49 : decode cX7_areAll 49 = .ok (.lconst 1, 1) := by decide +kernel
theorem dX7_areAll_50 : decode cX7_areAll 50 = .ok (.land, 1) := by decide +kernel
theorem dX7_areAll_51 : decode cX7_areAll 51 = .ok (.ladd, 1) := by decide +kernel
theorem dX7_areAll_52 : decode cX7_areAll 52 = .ok (.l2i, 1) := by decide +kernel
theorem dX7_areAll_53 : decode cX7_areAll 53 = .ok (.istore_n 3, 1) := by decide +kernel
theorem dX7_areAll_54 : decode cX7_areAll 54 = .ok (.iinc 4 1, 3) := by decide +kernel
theorem dX7_areAll_57 : decode cX7_areAll 57 = .ok (.goto (-23), 3) := by decide +kernel
theorem dX7_areAll_60 : decode cX7_areAll 60 = .ok (.iload_n 3, 1) := by decide +kernel
theorem dX7_areAll_61 : decode cX7_areAll 61 = .ok (.aload_n 0, 1) := by decide +kernel
theorem dX7_areAll_62 : decode cX7_areAll 62 = .ok (.getfield 92, 3) := by decide +kernel
theorem dX7_areAll_65 : decode cX7_areAll 65 = .ok (.if_icmp .ne 7, 3) := by decide +kernel
theorem dX7_areAll_68 : decode cX7_areAll 68 = .ok (.iconst 1, 1) := by decide +kernel
theorem dX7_areAll_69 : decode cX7_areAll 69 = .ok (.goto 4, 3) := by decide +kernel
theorem dX7_areAll_72 : decode cX7_areAll 72 = .ok (.iconst 0, 1) := by decide +kernel
theorem dX7_areAll_73 : decode cX7_areAll 73 = .ok (.ireturn, 1) := by decide +kernel
theorem dX7_monomials_0 : decode cX7_monomials 0 = .ok (.aload_n 0, 1) := by decide +kernel
theorem dX7_monomials_1 : decode cX7_monomials 1 = .ok (.invokevirtual 240, 3) := by decide +kernel
theorem dX7_monomials_4 : decode cX7_monomials 4 = .ok (.lconst 0, 1) := by decide +kernel
theorem dX7_monomials_5 : decode cX7_monomials 5 = .ok (.lstore_n 1, 1) := by decide +kernel
theorem dX7_monomials_6 : decode cX7_monomials 6 = .ok (.iconst 1, 1) := by decide +kernel
theorem dX7_monomials_7 : decode cX7_monomials 7 = .ok (.istore_n 3, 1) := by decide +kernel
theorem dX7_monomials_8 : decode cX7_monomials 8 = .ok (.iload_n 3, 1) := by decide +kernel
theorem dX7_monomials_9 : decode cX7_monomials 9 = .ok (.aload_n 0, 1) := by decide +kernel
theorem dX7_monomials_10 : decode cX7_monomials 10 = .ok (.getfield 92, 3) := by decide +kernel
theorem dX7_monomials_13 : decode cX7_monomials 13 = .ok (.if_icmp .ge 54, 3) := by decide +kernel
theorem dX7_monomials_16 : decode cX7_monomials 16 = .ok (.iconst 0, 1) := by decide +kernel
theorem dX7_monomials_17 : decode cX7_monomials 17 = .ok (.istore 4, 2) := by decide +kernel
theorem dX7_monomials_19 : decode cX7_monomials 19 = .ok (.iload 4, 2) := by decide +kernel
theorem dX7_monomials_21 : decode cX7_monomials 21 = .ok (.aload_n 0, 1) := by decide +kernel
theorem dX7_monomials_22 : decode cX7_monomials 22 = .ok (.getfield 92, 3) := by decide +kernel
theorem dX7_monomials_25 : decode cX7_monomials 25 = .ok (.if_icmp .ge 23, 3) := by decide +kernel
theorem dX7_monomials_28 : decode cX7_monomials 28 = .ok (.aload_n 0, 1) := by decide +kernel
theorem dX7_monomials_29 : decode cX7_monomials 29 = .ok (.getfield 46, 3) := by decide +kernel
theorem dX7_monomials_32 : decode cX7_monomials 32 = .ok (.iload 4, 2) := by decide +kernel
theorem dX7_monomials_34 : decode cX7_monomials 34 = .ok (.aload_n 0, 1) := by decide +kernel
theorem dX7_monomials_35 : decode cX7_monomials 35 = .ok (.iload 4, 2) := by decide +kernel
theorem dX7_monomials_37 : decode cX7_monomials 37 = .ok (.iload_n 3, 1) := by decide +kernel
theorem dX7_monomials_38 : decode cX7_monomials 38 = .ok (.invokevirtual 197, 3) := by decide +kernel
theorem dX7_monomials_41 : decode cX7_monomials 41 = .ok (.iastore, 1) := by decide +kernel
theorem dX7_monomials_42 : decode cX7_monomials 42 = .ok (.iinc 4 1, 3) := by decide +kernel
theorem dX7_monomials_45 : decode cX7_monomials 45 = .ok (.goto (-26), 3) := by decide +kernel
theorem dX7_monomials_48 : decode cX7_monomials 48 = .ok (.aload_n 0, 1) := by decide +kernel
theorem dX7_monomials_49 : decode cX7_monomials 49 = .ok (.invokevirtual 297, 3) := by decide +kernel
theorem dX7_monomials_52 : decode cX7_monomials 52 = .ok (.ifCond .eq 9, 3) := by decide +kernel
theorem dX7_monomials_55 : decode cX7_monomials 55 = .ok (.lload_n 1, 1) := by decide +kernel
theorem dX7_monomials_56 : decode cX7_monomials 56 = .ok (.lconst 1, 1) := by decide +kernel
theorem dX7_monomials_57 : decode cX7_monomials 57 = .ok (.iload_n 3, 1) := by decide +kernel
theorem dX7_monomials_58 : decode cX7_monomials 58 = .ok (.lshl, 1) := by decide +kernel
theorem dX7_monomials_59 : decode cX7_monomials 59 = .ok (.lor, 1) := by decide +kernel
theorem dX7_monomials_60 : decode cX7_monomials 60 = .ok (.lstore_n 1, 1) := by decide +kernel
theorem dX7_monomials_61 : decode cX7_monomials 61 = .ok (.iinc 3 1, 3) := by decide +kernel
theorem dX7_monomials_64 : decode cX7_monomials 64 = .ok (.goto (-56), 3) := by decide +kernel
theorem dX7_monomials_67 : decode cX7_monomials 67 = .ok (.lload_n 1, 1) := by decide +kernel
theorem dX7_monomials_68 : decode cX7_monomials 68 = .ok (.lreturn, 1) := by decide +kernel
theorem dX7_dicksons_0 : decode cX7_dicksons 0 = .ok (.aload_n 0, 1) := by decide +kernel
theorem dX7_dicksons_1 : decode cX7_dicksons 1 = .ok (.invokevirtual 240, 3) := by decide +kernel
theorem dX7_dicksons_4 : decode cX7_dicksons 4 = .ok (.aload_n 0, 1) := by decide +kernel
theorem dX7_dicksons_5 : decode cX7_dicksons 5 = .ok (.aload_n 0, 1) := by decide +kernel
theorem dX7_dicksons_6 : decode cX7_dicksons 6 = .ok (.iload_n 1, 1) := by decide +kernel
theorem dX7_dicksons_7 : decode cX7_dicksons 7 = .ok (.invokevirtual 246, 3) := by decide +kernel
theorem dX7_dicksons_10 : decode cX7_dicksons 10 = .ok (.ifCond .ne 7, 3) := by decide +kernel
theorem dX7_dicksons_13 : decode cX7_dicksons 13 = .ok (.iconst 1, 1) := by decide +kernel
theorem dX7_dicksons_14 : decode cX7_dicksons 14 = .ok (.goto 4, 3) := by decide +kernel
theorem dX7_dicksons_17 : decode cX7_dicksons 17 = .ok (.iconst 0, 1) := by decide +kernel
theorem dX7_dicksons_18 : decode cX7_dicksons 18 = .ok (.iconst 1, 1) := by decide +kernel
theorem dX7_dicksons_19 : decode cX7_dicksons 19 = .ok (.iconst 0, 1) := by decide +kernel
theorem dX7_dicksons_20 : decode cX7_dicksons 20 = .ok (.invokevirtual 215, 3) := by decide +kernel
theorem dX7_dicksons_23 : decode cX7_dicksons 23 = .ok (.ifCond .eq 5, 3) := by decide +kernel
theorem dX7_dicksons_26 : decode cX7_dicksons 26 = .ok (.lconst 0, 1) := by decide +kernel
theorem dX7_dicksons_27 : decode cX7_dicksons 27 = .ok (.lreturn, 1) := by decide +kernel
theorem dX7_dicksons_28 : decode cX7_dicksons 28 = .ok (.lconst 0, 1) := by decide +kernel
theorem dX7_dicksons_29 : decode cX7_dicksons 29 = .ok (.lstore_n 2, 1) := by decide +kernel
theorem dX7_dicksons_30 : decode cX7_dicksons 30 = .ok (.iconst 1, 1) := by decide +kernel
theorem dX7_dicksons_31 : decode cX7_dicksons 31 = .ok (.istore 4, 2) := by decide +kernel
theorem dX7_dicksons_33 : decode cX7_dicksons 33 = .ok (.iload 4, 2) := by decide +kernel
theorem dX7_dicksons_35 : decode cX7_dicksons 35 = .ok (.bipush 64, 2) := by decide +kernel
theorem dX7_dicksons_37 : decode cX7_dicksons 37 = .ok (.if_icmp .ge 57, 3) := by decide +kernel
theorem dX7_dicksons_40 : decode cX7_dicksons 40 = .ok (.iconst 0, 1) := by decide +kernel
theorem dX7_dicksons_41 : decode cX7_dicksons 41 = .ok (.istore 5, 2) := by decide +kernel
theorem dX7_dicksons_43 : decode cX7_dicksons 43 = .ok (.iload 5, 2) := by decide +kernel
theorem dX7_dicksons_45 : decode cX7_dicksons 45 = .ok (.aload_n 0, 1) := by decide +kernel
theorem dX7_dicksons_46 : decode cX7_dicksons 46 = .ok (.getfield 92, 3) := by decide +kernel
theorem dX7_dicksons_49 : decode cX7_dicksons 49 = .ok (.if_icmp .ge 25, 3) := by decide +kernel
theorem dX7_dicksons_52 : decode cX7_dicksons 52 = .ok (.aload_n 0, 1) := by decide +kernel
theorem dX7_dicksons_53 : decode cX7_dicksons 53 = .ok (.getfield 46, 3) := by decide +kernel
theorem dX7_dicksons_56 : decode cX7_dicksons 56 = .ok (.iload 5, 2) := by decide +kernel
theorem dX7_dicksons_58 : decode cX7_dicksons 58 = .ok (.aload_n 0, 1) := by decide +kernel
theorem dX7_dicksons_59 : decode cX7_dicksons 59 = .ok (.iload 4, 2) := by decide +kernel
theorem dX7_dicksons_61 : decode cX7_dicksons 61 = .ok (.iload_n 1, 1) := by decide +kernel
theorem dX7_dicksons_62 : decode cX7_dicksons 62 = .ok (.iload 5, 2) := by decide +kernel
theorem dX7_dicksons_64 : decode cX7_dicksons 64 = .ok (.invokevirtual 192, 3) := by decide +kernel
theorem dX7_dicksons_67 : decode cX7_dicksons 67 = .ok (.iastore, 1) := by decide +kernel
theorem dX7_dicksons_68 : decode cX7_dicksons 68 = .ok (.iinc 5 1, 3) := by decide +kernel
theorem dX7_dicksons_71 : decode cX7_dicksons 71 = .ok (.goto (-28), 3) := by decide +kernel
theorem dX7_dicksons_74 : decode cX7_dicksons 74 = .ok (.aload_n 0, 1) := by decide +kernel
theorem dX7_dicksons_75 : decode cX7_dicksons 75 = .ok (.invokevirtual 297, 3) := by decide +kernel
theorem dX7_dicksons_78 : decode cX7_dicksons 78 = .ok (.ifCond .eq 10, 3) := by decide +kernel
theorem dX7_dicksons_81 : decode cX7_dicksons 81 = .ok (.lload_n 2, 1) := by decide +kernel
theorem dX7_dicksons_82 : decode cX7_dicksons 82 = .ok (.lconst 1, 1) := by decide +kernel
theorem dX7_dicksons_83 : decode cX7_dicksons 83 = .ok (.iload 4, 2) := by decide +kernel
theorem dX7_dicksons_85 : decode cX7_dicksons 85 = .ok (.lshl, 1) := by decide +kernel
theorem dX7_dicksons_86 : decode cX7_dicksons 86 = .ok (.lor, 1) := by decide +kernel
theorem dX7_dicksons_87 : decode cX7_dicksons 87 = .ok (.lstore_n 2, 1) := by decide +kernel
theorem dX7_dicksons_88 : decode cX7_dicksons 88 = .ok (.iinc 4 1, 3) := by decide +kernel
theorem dX7_dicksons_91 : decode cX7_dicksons 91 = .ok (.goto (-58), 3) := by decide +kernel
theorem dX7_dicksons_94 : decode cX7_dicksons 94 = .ok (.lload_n 2, 1) := by decide +kernel
theorem dX7_dicksons_95 : decode cX7_dicksons 95 = .ok (.lreturn, 1) := by decide +kernel
theorem dX7_binomials_0 : decode cX7_binomials 0 = .ok (.aload_n 0, 1) := by decide +kernel
theorem dX7_binomials_1 : decode cX7_binomials 1 = .ok (.invokevirtual 240, 3) := by decide +kernel
theorem dX7_binomials_4 : decode cX7_binomials 4 = .ok (.aload_n 0, 1) := by decide +kernel
theorem dX7_binomials_5 : decode cX7_binomials 5 = .ok (.iload_n 1, 1) := by decide +kernel
theorem dX7_binomials_6 : decode cX7_binomials 6 = .ok (.i2l, 1) := by decide +kernel
theorem dX7_binomials_7 : decode cX7_binomials 7 = .ok (.ldc2_w 300, 3) := by decide +kernel
theorem dX7_binomials_10 : decode cX7_binomials 10 = .ok (.ldc2_w 302, 3) := by decide +kernel
theorem dX7_binomials_13 : decode cX7_binomials 13 = .ok (.invokestatic 154, 3) := by decide +kernel
theorem dX7_binomials_16 : decode cX7_binomials 16 = .ok (.ifCond .ne 7, 3) := by decide +kernel
theorem dX7_binomials_19 : decode cX7_binomials 19 = .ok (.iconst 1, 1) := by decide +kernel
theorem dX7_binomials_20 : decode cX7_binomials 20 = .ok (.goto 4, 3) := by decide +kernel
theorem dX7_binomials_23 : decode cX7_binomials 23 = .ok (.iconst 0, 1) := by decide +kernel
theorem dX7_binomials_24 : decode cX7_binomials 24 = .ok (.iconst 1, 1) := by decide +kernel
theorem dX7_binomials_25 : decode cX7_binomials 25 = .ok (.iconst 1, 1) := by decide +kernel
theorem dX7_binomials_26 : decode cX7_binomials 26 = .ok (.invokevirtual 215, 3) := by decide +kernel
theorem dX7_binomials_29 : decode cX7_binomials 29 = .ok (.ifCond .eq 5, 3) := by decide +kernel
theorem dX7_binomials_32 : decode cX7_binomials 32 = .ok (.iconst 0, 1) := by decide +kernel
theorem dX7_binomials_33 : decode cX7_binomials 33 = .ok (.ireturn, 1) := by decide +kernel
theorem dX7_binomials_34 : decode cX7_binomials 34 = .ok (.iconst 0, 1) := by decide +kernel
theorem dX7_binomials_35 : decode cX7_binomials 35 = .ok (.istore_n 2, 1) := by decide +kernel
theorem dX7_binomials_36 : decode cX7_binomials 36 = .ok (.iconst 0, 1) := by decide +kernel
theorem dX7_binomials_37 : decode cX7_binomials 37 = .ok (.istore_n 3, 1) := by decide +kernel
theorem dX7_binomials_38 : decode cX7_binomials 38 = .ok (.iload_n 3, 1) := by decide +kernel
theorem dX7_binomials_39 : decode cX7_binomials 39 = .ok (.aload_n 0, 1) := by decide +kernel
theorem dX7_binomials_40 : decode cX7_binomials 40 = .ok (.getfield 92, 3) := by decide +kernel
theorem dX7_binomials_43 : decode cX7_binomials 43 = .ok (.if_icmp .ge 71, 3) := by decide +kernel
theorem dX7_binomials_46 : decode cX7_binomials 46 = .ok (.iconst 0, 1) := by decide +kernel
theorem dX7_binomials_47 : decode cX7_binomials 47 = .ok (.istore 4, 2) := by decide +kernel
theorem dX7_binomials_49 : decode cX7_binomials 49 = .ok (.iload 4, 2) := by decide +kernel
theorem dX7_binomials_51 : decode cX7_binomials 51 = .ok (.aload_n 0, 1) := by decide +kernel
theorem dX7_binomials_52 : decode cX7_binomials 52 = .ok (.getfield 92, 3) := by decide +kernel
theorem dX7_binomials_55 : decode cX7_binomials 55 = .ok (.if_icmp .ge 38, 3) := by decide +kernel
theorem dX7_binomials_58 : decode cX7_binomials 58 = .ok (.aload_n 0, 1) := by decide +kernel
theorem dX7_binomials_59 : decode cX7_binomials 59 = .ok (.getfield 46, 3) := by decide +kernel
theorem dX7_binomials_62 : decode cX7_binomials 62 = .ok (.iload 4, 2) := by decide +kernel
theorem dX7_binomials_64 : decode cX7_binomials 64 = .ok (.aload_n 0, 1) := by decide +kernel
theorem dX7_binomials_65 : decode cX7_binomials 65 = .ok (.getfield 31, 3) := by decide +kernel
theorem dX7_binomials_68 : decode cX7_binomials 68 = .ok (.aload_n 0, 1) := by decide +kernel
theorem dX7_binomials_69 : decode cX7_binomials 69 = .ok (.iload 4, 2) := by decide +kernel
theorem dX7_binomials_71 : decode cX7_binomials 71 = .ok (.iload_n 1, 1) := by decide +kernel
theorem dX7_binomials_72 : decode cX7_binomials 72 = .ok (.invokevirtual 197, 3) := by decide +kernel
theorem dX7_binomials_75 : decode cX7_binomials 75 = .ok (.aaload, 1) := by decide +kernel
theorem dX7_binomials_76 : decode cX7_binomials 76 = .ok (.aload_n 0, 1) := by decide +kernel
theorem dX7_binomials_77 : decode cX7_binomials 77 = .ok (.getfield 34, 3) := by decide +kernel
theorem dX7_binomials_80 : decode cX7_binomials 80 = .ok (.iload_n 3, 1) := by decide +kernel
theorem dX7_binomials_81 : decode cX7_binomials 81 = .ok (.aaload, 1) := by decide +kernel
theorem dX7_binomials_82 : decode cX7_binomials 82 = .ok (.iload 4, 2) := by decide +kernel
theorem dX7_binomials_84 : decode cX7_binomials 84 = .ok (.iaload, 1) := by decide +kernel
theorem dX7_binomials_85 : decode cX7_binomials 85 = .ok (.iaload, 1) := by decide +kernel
theorem dX7_binomials_86 : decode cX7_binomials 86 = .ok (.iastore, 1) := by decide +kernel
theorem dX7_binomials_87 : decode cX7_binomials 87 = .ok (.iinc 4 1, 3) := by decide +kernel
theorem dX7_binomials_90 : decode cX7_binomials 90 = .ok (.goto (-41), 3) := by decide +kernel
theorem dX7_binomials_93 : decode cX7_binomials 93 = .ok (.iload_n 2, 1) := by decide +kernel
theorem dX7_binomials_94 : decode cX7_binomials 94 = .ok (.aload_n 0, 1) := by decide +kernel
theorem dX7_binomials_95 : decode cX7_binomials 95 = .ok (.invokevirtual 297, 3) := by decide +kernel
theorem dX7_binomials_98 : decode cX7_binomials 98 = .ok (.ifCond .eq 7, 3) := by decide +kernel
theorem dX7_binomials_101 : decode cX7_binomials 101 = .ok (.iconst 1, 1) := by decide +kernel
theorem dX7_binomials_102 : decode cX7_binomials 102 = .ok (.goto 4, 3) := by decide +kernel
theorem dX7_binomials_105 : decode cX7_binomials 105 = .ok (.iconst 0, 1) := by decide +kernel
theorem dX7_binomials_106 : decode cX7_binomials 106 = .ok (.iadd, 1) := by decide +kernel
theorem dX7_binomials_107 : decode cX7_binomials 107 = .ok (.istore_n 2, 1) := by decide +kernel
theorem dX7_binomials_108 : decode cX7_binomials 108 = .ok (.iinc 3 1, 3) := by decide +kernel
theorem dX7_binomials_111 : decode cX7_binomials 111 = .ok (.goto (-73), 3) := by decide +kernel
theorem dX7_binomials_114 : decode cX7_binomials 114 = .ok (.iload_n 2, 1) := by decide +kernel
theorem dX7_binomials_115 : decode cX7_binomials 115 = .ok (.ireturn, 1) := by decide +kernel
theorem dX7_print_0 : decode cX7_print 0 = .ok (.aload_n 0, 1) := by decide +kernel
theorem dX7_print_1 : decode cX7_print 1 = .ok (.invokevirtual 240, 3) := by decide +kernel
theorem dX7_print_4 : decode cX7_print 4 = .ok (.lconst 0, 1) := by decide +kernel
theorem dX7_print_5 : decode cX7_print 5 = .ok (.lstore_n 1, 1) := by decide +kernel
theorem dX7_print_6 : decode cX7_print 6 = .ok (.iconst 0, 1) := by decide +kernel
theorem dX7_print_7 : decode cX7_print 7 = .ok (.istore_n 3, 1) := by decide +kernel
theorem dX7_print_8 : decode cX7_print 8 = .ok (.iload_n 3, 1) := by decide +kernel
theorem dX7_print_9 : decode cX7_print 9 = .ok (.aload_n 0, 1) := by decide +kernel
theorem dX7_print_10 : decode cX7_print 10 = .ok (.getfield 20, 3) := by decide +kernel
theorem dX7_print_13 : decode cX7_print 13 = .ok (.iconst 2, 1) := by decide +kernel
theorem dX7_print_14 : decode cX7_print 14 = .ok (.iaload, 1) := by decide +kernel
theorem dX7_print_15 : decode cX7_print 15 = .ok (.if_icmp .ge 42, 3) := by decide +kernel
theorem dX7_print_18 : decode cX7_print 18 = .ok (.iconst 0, 1) := by decide +kernel
theorem dX7_print_19 : decode cX7_print 19 = .ok (.istore 4, 2) := by decide +kernel
theorem dX7_print_21 : decode cX7_print 21 = .ok (.iload 4, 2) := by decide +kernel
theorem dX7_print_23 : decode cX7_print 23 = .ok (.aload_n 0, 1) := by decide +kernel
theorem dX7_print_24 : decode cX7_print 24 = .ok (.getfield 92, 3) := by decide +kernel
theorem dX7_print_27 : decode cX7_print 27 = .ok (.if_icmp .ge 24, 3) := by decide +kernel
theorem dX7_print_30 : decode cX7_print 30 = .ok (.ldc2_w 304, 3) := by decide +kernel
theorem dX7_print_33 : decode cX7_print 33 = .ok (.lload_n 1, 1) := by decide +kernel
theorem dX7_print_34 : decode cX7_print 34 = .ok (.lmul, 1) := by decide +kernel
theorem dX7_print_35 : decode cX7_print 35 = .ok (.aload_n 0, 1) := by decide +kernel
theorem dX7_print_36 : decode cX7_print 36 = .ok (.iload_n 3, 1) := by decide +kernel
theorem dX7_print_37 : decode cX7_print 37 = .ok (.iload 4, 2) := by decide +kernel
theorem dX7_print_39 : decode cX7_print 39 = .ok (.invokevirtual 237, 3) := by decide +kernel
theorem dX7_print_42 : decode cX7_print 42 = .ok (.i2l, 1) := by decide +kernel
theorem dX7_print_43 : decode cX7_print 43 = .ok (.ladd, 1) := by decide +kernel
theorem dX7_print_44 : decode cX7_print 44 = .ok (.lstore_n 1, 1) := by decide +kernel
theorem dX7_print_45 : decode cX7_print 45 = .ok (.iinc 4 1, 3) := by decide +kernel
theorem dX7_print_48 : decode cX7_print 48 = .ok (.goto (-27), 3) := by decide +kernel
theorem dX7_print_51 : decode cX7_print 51 = .ok (.iinc 3 1, 3) := by decide +kernel
theorem dX7_print_54 : decode cX7_print 54 = .ok (.goto (-46), 3) := by decide +kernel
theorem dX7_print_57 : decode cX7_print 57 = .ok (.lload_n 1, 1) := by decide +kernel
theorem dX7_print_58 : decode cX7_print 58 = .ok (.lreturn, 1) := by decide +kernel
theorem dX7_status_0 : decode cX7_status 0 = .ok (.aload_n 0, 1) := by decide +kernel
theorem dX7_status_1 : decode cX7_status 1 = .ok (.iconst 0, 1) := by decide +kernel
theorem dX7_status_2 : decode cX7_status 2 = .ok (.putfield 58, 3) := by decide +kernel
theorem dX7_status_5 : decode cX7_status 5 = .ok (.iload_n 1, 1) := by decide +kernel
theorem dX7_status_6 : decode cX7_status 6 = .ok (.i2l, 1) := by decide +kernel
theorem dX7_status_7 : decode cX7_status 7 = .ok (.lconst 0, 1) := by decide +kernel
theorem dX7_status_8 : decode cX7_status 8 = .ok (.ldc2_w 300, 3) := by decide +kernel
theorem dX7_status_11 : decode cX7_status 11 = .ok (.invokestatic 154, 3) := by decide +kernel
theorem dX7_status_14 : decode cX7_status 14 = .ok (.ifCond .eq 12, 3) := by decide +kernel
theorem dX7_status_17 : decode cX7_status 17 = .ok (.aload_n 0, 1) := by decide +kernel
theorem dX7_status_18 : decode cX7_status 18 = .ok (.getfield 9, 3) := by decide +kernel
theorem dX7_status_21 : decode cX7_status 21 = .ok (.iload_n 1, 1) := by decide +kernel
theorem dX7_status_22 : decode cX7_status 22 = .ok (.iaload, 1) := by decide +kernel
theorem dX7_status_23 : decode cX7_status 23 = .ok (.goto 4, 3) := by decide +kernel
theorem dX7_status_26 : decode cX7_status 26 = .ok (.iconst (-1), 1) := by decide +kernel
theorem dX7_status_27 : decode cX7_status 27 = .ok (.ireturn, 1) := by decide +kernel
end
section
theorem dJ13_bitCount_95d88_0 : decode cJ13_bitCount_95d88 0 = .ok (.lload_n 0, 1) := by decide +kernel
theorem dJ13_bitCount_95d88_1 : decode cJ13_bitCount_95d88 1 = .ok (.lload_n 0, 1) := by decide +kernel
theorem dJ13_bitCount_95d88_2 : decode cJ13_bitCount_95d88 2 = .ok (.iconst 1, 1) := by decide +kernel
theorem dJ13_bitCount_95d88_3 : decode cJ13_bitCount_95d88 3 = .ok (.lushr, 1) := by decide +kernel
theorem dJ13_bitCount_95d88_4 : decode cJ13_bitCount_95d88 4 = .ok (.ldc2_w 314, 3) := by decide +kernel
theorem dJ13_bitCount_95d88_7 : decode cJ13_bitCount_95d88 7 = .ok (.land, 1) := by decide +kernel
theorem dJ13_bitCount_95d88_8 : decode cJ13_bitCount_95d88 8 = .ok (.lsub, 1) := by decide +kernel
theorem dJ13_bitCount_95d88_9 : decode cJ13_bitCount_95d88 9 = .ok (.lstore_n 0, 1) := by decide +kernel
theorem dJ13_bitCount_95d88_10 : decode cJ13_bitCount_95d88 10 = .ok (.lload_n 0, 1) := by decide +kernel
theorem dJ13_bitCount_95d88_11 : decode cJ13_bitCount_95d88 11 = .ok (.ldc2_w 316, 3) := by decide +kernel
theorem dJ13_bitCount_95d88_14 : decode cJ13_bitCount_95d88 14 = .ok (.land, 1) := by decide +kernel
theorem dJ13_bitCount_95d88_15 : decode cJ13_bitCount_95d88 15 = .ok (.lload_n 0, 1) := by decide +kernel
theorem dJ13_bitCount_95d88_16 : decode cJ13_bitCount_95d88 16 = .ok (.iconst 2, 1) := by decide +kernel
theorem dJ13_bitCount_95d88_17 : decode cJ13_bitCount_95d88 17 = .ok (.lushr, 1) := by decide +kernel
theorem dJ13_bitCount_95d88_18 : decode cJ13_bitCount_95d88 18 = .ok (.ldc2_w 316, 3) := by decide +kernel
theorem dJ13_bitCount_95d88_21 : decode cJ13_bitCount_95d88 21 = .ok (.land, 1) := by decide +kernel
theorem dJ13_bitCount_95d88_22 : decode cJ13_bitCount_95d88 22 = .ok (.ladd, 1) := by decide +kernel
theorem dJ13_bitCount_95d88_23 : decode cJ13_bitCount_95d88 23 = .ok (.lstore_n 0, 1) := by decide +kernel
theorem dJ13_bitCount_95d88_24 : decode cJ13_bitCount_95d88 24 = .ok (.lload_n 0, 1) := by decide +kernel
theorem dJ13_bitCount_95d88_25 : decode cJ13_bitCount_95d88 25 = .ok (.lload_n 0, 1) := by decide +kernel
theorem dJ13_bitCount_95d88_26 : decode cJ13_bitCount_95d88 26 = .ok (.iconst 4, 1) := by decide +kernel
theorem dJ13_bitCount_95d88_27 : decode cJ13_bitCount_95d88 27 = .ok (.lushr, 1) := by decide +kernel
theorem dJ13_bitCount_95d88_28 : decode cJ13_bitCount_95d88 28 = .ok (.ladd, 1) := by decide +kernel
theorem dJ13_bitCount_95d88_29 : decode cJ13_bitCount_95d88 29 = .ok (.ldc2_w 318, 3) := by decide +kernel
theorem dJ13_bitCount_95d88_32 : decode cJ13_bitCount_95d88 32 = .ok (.land, 1) := by decide +kernel
theorem dJ13_bitCount_95d88_33 : decode cJ13_bitCount_95d88 33 = .ok (.lstore_n 0, 1) := by decide +kernel
theorem dJ13_bitCount_95d88_34 : decode cJ13_bitCount_95d88 34 = .ok (.lload_n 0, 1) := by decide +kernel
theorem dJ13_bitCount_95d88_35 : decode cJ13_bitCount_95d88 35 = .ok (.lload_n 0, 1) := by decide +kernel
theorem dJ13_bitCount_95d88_36 : decode cJ13_bitCount_95d88 36 = .ok (.bipush 8, 2) := by decide +kernel
theorem dJ13_bitCount_95d88_38 : decode cJ13_bitCount_95d88 38 = .ok (.lushr, 1) := by decide +kernel
theorem dJ13_bitCount_95d88_39 : decode cJ13_bitCount_95d88 39 = .ok (.ladd, 1) := by decide +kernel
theorem dJ13_bitCount_95d88_40 : decode cJ13_bitCount_95d88 40 = .ok (.lstore_n 0, 1) := by decide +kernel
theorem dJ13_bitCount_95d88_41 : decode cJ13_bitCount_95d88 41 = .ok (.lload_n 0, 1) := by decide +kernel
theorem dJ13_bitCount_95d88_42 : decode cJ13_bitCount_95d88 42 = .ok (.lload_n 0, 1) := by decide +kernel
theorem dJ13_bitCount_95d88_43 : decode cJ13_bitCount_95d88 43 = .ok (.bipush 16, 2) := by decide +kernel
theorem dJ13_bitCount_95d88_45 : decode cJ13_bitCount_95d88 45 = .ok (.lushr, 1) := by decide +kernel
theorem dJ13_bitCount_95d88_46 : decode cJ13_bitCount_95d88 46 = .ok (.ladd, 1) := by decide +kernel
theorem dJ13_bitCount_95d88_47 : decode cJ13_bitCount_95d88 47 = .ok (.lstore_n 0, 1) := by decide +kernel
theorem dJ13_bitCount_95d88_48 : decode cJ13_bitCount_95d88 48 = .ok (.lload_n 0, 1) := by decide +kernel
theorem dJ13_bitCount_95d88_49 : decode cJ13_bitCount_95d88 49 = .ok (.lload_n 0, 1) := by decide +kernel
theorem dJ13_bitCount_95d88_50 : decode cJ13_bitCount_95d88 50 = .ok (.bipush 32, 2) := by decide +kernel
theorem dJ13_bitCount_95d88_52 : decode cJ13_bitCount_95d88 52 = .ok (.lushr, 1) := by decide +kernel
theorem dJ13_bitCount_95d88_53 : decode cJ13_bitCount_95d88 53 = .ok (.ladd, 1) := by decide +kernel
theorem dJ13_bitCount_95d88_54 : decode cJ13_bitCount_95d88 54 = .ok (.lstore_n 0, 1) := by decide +kernel
theorem dJ13_bitCount_95d88_55 : decode cJ13_bitCount_95d88 55 = .ok (.lload_n 0, 1) := by decide +kernel
theorem dJ13_bitCount_95d88_56 : decode cJ13_bitCount_95d88 56 = .ok (.l2i, 1) := by decide +kernel
theorem dJ13_bitCount_95d88_57 : decode cJ13_bitCount_95d88 57 = .ok (.bipush 127, 2) := by decide +kernel
theorem dJ13_bitCount_95d88_59 : decode cJ13_bitCount_95d88 59 = .ok (.iand, 1) := by decide +kernel
theorem dJ13_bitCount_95d88_60 : decode cJ13_bitCount_95d88 60 = .ok (.ireturn, 1) := by decide +kernel
theorem dJ9_max_7cf53_0 : decode cJ9_max_7cf53 0 = .ok (.iload_n 0, 1) := by decide +kernel
theorem dJ9_max_7cf53_1 : decode cJ9_max_7cf53 1 = .ok (.iload_n 1, 1) := by decide +kernel
theorem dJ9_max_7cf53_2 : decode cJ9_max_7cf53 2 = .ok (.if_icmp .lt 7, 3) := by decide +kernel
theorem dJ9_max_7cf53_5 : decode cJ9_max_7cf53 5 = .ok (.iload_n 0, 1) := by decide +kernel
theorem dJ9_max_7cf53_6 : decode cJ9_max_7cf53 6 = .ok (.goto 4, 3) := by decide +kernel
theorem dJ9_max_7cf53_9 : decode cJ9_max_7cf53 9 = .ok (.iload_n 1, 1) := by decide +kernel
theorem dJ9_max_7cf53_10 : decode cJ9_max_7cf53 10 = .ok (.ireturn, 1) := by decide +kernel
theorem dJ9_min_7cf53_0 : decode cJ9_min_7cf53 0 = .ok (.iload_n 0, 1) := by decide +kernel
theorem dJ9_min_7cf53_1 : decode cJ9_min_7cf53 1 = .ok (.iload_n 1, 1) := by decide +kernel
theorem dJ9_min_7cf53_2 : decode cJ9_min_7cf53 2 = .ok (.if_icmp .gt 7, 3) := by decide +kernel
theorem dJ9_min_7cf53_5 : decode cJ9_min_7cf53 5 = .ok (.iload_n 0, 1) := by decide +kernel
theorem dJ9_min_7cf53_6 : decode cJ9_min_7cf53 6 = .ok (.goto 4, 3) := by decide +kernel
theorem dJ9_min_7cf53_9 : decode cJ9_min_7cf53 9 = .ok (.iload_n 1, 1) := by decide +kernel
theorem dJ9_min_7cf53_10 : decode cJ9_min_7cf53 10 = .ok (.ireturn, 1) := by decide +kernel
theorem dJ0_length_8abf5_0 : decode cJ0_length_8abf5 0 = .ok (.aload_n 0, 1) := by decide +kernel
theorem dJ0_length_8abf5_1 : decode cJ0_length_8abf5 1 = .ok (.getfield 9, 3) := by decide +kernel
theorem dJ0_length_8abf5_4 : decode cJ0_length_8abf5 4 = .ok (.arraylength, 1) := by decide +kernel
theorem dJ0_length_8abf5_5 : decode cJ0_length_8abf5 5 = .ok (.aload_n 0, 1) := by decide +kernel
theorem dJ0_length_8abf5_6 : decode cJ0_length_8abf5 6 = .ok (.invokevirtual 335, 3) := by decide +kernel
theorem dJ0_length_8abf5_9 : decode cJ0_length_8abf5 9 = .ok (.ishr, 1) := by decide +kernel
theorem dJ0_length_8abf5_10 : decode cJ0_length_8abf5 10 = .ok (.ireturn, 1) := by decide +kernel
theorem dJ0_charAt_5068e_0 : decode cJ0_charAt_5068e 0 = .ok (.aload_n 0, 1) := by decide +kernel
theorem dJ0_charAt_5068e_1 : decode cJ0_charAt_5068e 1 = .ok (.invokevirtual 492, 3) := by decide +kernel
theorem dJ0_charAt_5068e_4 : decode cJ0_charAt_5068e 4 = .ok (.ifCond .eq 12, 3) := by decide +kernel
theorem dJ0_charAt_5068e_7 : decode cJ0_charAt_5068e 7 = .ok (.aload_n 0, 1) := by decide +kernel
theorem dJ0_charAt_5068e_8 : decode cJ0_charAt_5068e 8 = .ok (.getfield 9, 3) := by decide +kernel
theorem dJ0_charAt_5068e_11 : decode cJ0_charAt_5068e 11 = .ok (.iload_n 1, 1) := by decide +kernel
theorem dJ0_charAt_5068e_12 : decode cJ0_charAt_5068e 12 = .ok (.invokestatic 495, 3) := by decide +kernel
theorem dJ0_charAt_5068e_15 : decode cJ0_charAt_5068e 15 = .ok (.ireturn, 1) := by decide +kernel
theorem dJ0_charAt_5068e_16 : decode cJ0_charAt_5068e 16 = .ok (.aload_n 0, 1) := by decide +kernel
theorem dJ0_charAt_5068e_17 : decode cJ0_charAt_5068e 17 = .ok (.getfield 9, 3) := by decide +kernel
theorem dJ0_charAt_5068e_20 : decode cJ0_charAt_5068e 20 = .ok (.iload_n 1, 1) := by decide +kernel
theorem dJ0_charAt_5068e_21 : decode cJ0_charAt_5068e 21 = .ok (.invokestatic 498, 3) := by decide +kernel
theorem dJ0_charAt_5068e_24 : decode cJ0_charAt_5068e 24 = .ok (.ireturn, 1) := by decide +kernel
theorem dJ0_coder_7d493_0 : decode cJ0_coder_7d493 0 = .ok (.getstatic 38, 3) := by decide +kernel
theorem dJ0_coder_7d493_3 : decode cJ0_coder_7d493 3 = .ok (.ifCond .eq 10, 3) := by decide +kernel
theorem dJ0_coder_7d493_6 : decode cJ0_coder_7d493 6 = .ok (.aload_n 0, 1) := by decide +kernel
theorem dJ0_coder_7d493_7 : decode cJ0_coder_7d493 7 = .ok (.getfield 15, 3) := by decide +kernel
theorem dJ0_coder_7d493_10 : decode cJ0_coder_7d493 10 = .ok (.goto 4, 3) := by decide +kernel
theorem dJ0_coder_7d493_13 : decode cJ0_coder_7d493 13 = .ok (.iconst 1, 1) := by decide +kernel
theorem dJ0_coder_7d493_14 : decode cJ0_coder_7d493 14 = .ok (.ireturn, 1) := by decide +kernel
theorem dJ0_isLatin1_aae02_0 : decode cJ0_isLatin1_aae02 0 = .ok (.getstatic 38, 3) := by decide +kernel
theorem dJ0_isLatin1_aae02_3 : decode cJ0_isLatin1_aae02 3 = .ok (.ifCond .eq 14, 3) := by decide +kernel
theorem dJ0_isLatin1_aae02_6 : decode cJ0_isLatin1_aae02 6 = .ok (.aload_n 0, 1) := by decide +kernel
theorem dJ0_isLatin1_aae02_7 : decode cJ0_isLatin1_aae02 7 = .ok (.getfield 15, 3) := by decide +kernel
theorem dJ0_isLatin1_aae02_10 : decode cJ0_isLatin1_aae02 10 = .ok (.ifCond .ne 7, 3) := by decide +kernel
theorem dJ0_isLatin1_aae02_13 : decode cJ0_isLatin1_aae02 13 = .ok (.iconst 1, 1) := by decide +kernel
theorem dJ0_isLatin1_aae02_14 : decode cJ0_isLatin1_aae02 14 = .ok (.goto 4, 3) := by decide +kernel
theorem dJ0_isLatin1_aae02_17 : decode cJ0_isLatin1_aae02 17 = .ok (.iconst 0, 1) := by decide +kernel
theorem dJ0_isLatin1_aae02_18 : decode cJ0_isLatin1_aae02 18 = .ok (.ireturn, 1) := by decide +kernel
theorem dJ0_checkIndex_df160_0 : decode cJ0_checkIndex_df160 0 = .ok (.iload_n 0, 1) := by decide +kernel
theorem dJ0_checkIndex_df160_1 : decode cJ0_checkIndex_df160 1 = .ok (.iload_n 1, 1) := by decide +kernel
theorem dJ0_checkIndex_df160_2 : decode cJ0_checkIndex_df160 2 = .ok (.getstatic 1053, 3) := by decide +kernel
theorem dJ0_checkIndex_df160_5 : decode cJ0_checkIndex_df160 5 = .ok (.invokestatic 1059, 3) := by decide +kernel
theorem dJ0_checkIndex_df160_8 : decode cJ0_checkIndex_df160 8 = .ok (.pop, 1) := by decide +kernel
theorem dJ0_checkIndex_df160_9 : decode cJ0_checkIndex_df160 9 = .ok (.return_, 1) := by decide +kernel
theorem dJ1_charAt_3b067_0 : decode cJ1_charAt_3b067 0 = .ok (.iload_n 1, 1) := by decide +kernel
theorem dJ1_charAt_3b067_1 : decode cJ1_charAt_3b067 1 = .ok (.aload_n 0, 1) := by decide +kernel
theorem dJ1_charAt_3b067_2 : decode cJ1_charAt_3b067 2 = .ok (.arraylength, 1) := by decide +kernel
theorem dJ1_charAt_3b067_3 : decode cJ1_charAt_3b067 3 = .ok (.invokestatic 9, 3) := by decide +kernel
theorem dJ1_charAt_3b067_6 : decode cJ1_charAt_3b067 6 = .ok (.aload_n 0, 1) := by decide +kernel
theorem dJ1_charAt_3b067_7 : decode cJ1_charAt_3b067 7 = .ok (.iload_n 1, 1) := by decide +kernel
theorem dJ1_charAt_3b067_8 : decode cJ1_charAt_3b067 8 = .ok (.baload, 1) := by decide +kernel
theorem dJ1_charAt_3b067_9 : decode cJ1_charAt_3b067 9 = .ok (.sipush 255, 3) := by decide +kernel
theorem dJ1_charAt_3b067_12 : decode cJ1_charAt_3b067 12 = .ok (.iand, 1) := by decide +kernel
theorem dJ1_charAt_3b067_13 : decode cJ1_charAt_3b067 13 = .ok (.i2c, 1) := by decide +kernel
theorem dJ1_charAt_3b067_14 : decode cJ1_charAt_3b067 14 = .ok (.ireturn, 1) := by decide +kernel
theorem dJ2_getChar_3b067_0 : decode cJ2_getChar_3b067 0 = .ok (.getstatic 44, 3) := by decide +kernel
theorem dJ2_getChar_3b067_3 : decode cJ2_getChar_3b067 3 = .ok (.ifCond .ne 25, 3) := by decide +kernel
theorem dJ2_getChar_3b067_6 : decode cJ2_getChar_3b067 6 = .ok (.iload_n 1, 1) := by decide +kernel
theorem dJ2_getChar_3b067_7 : decode cJ2_getChar_3b067 7 = .ok (.ifCond .lt 11, 3) := by decide +kernel
theorem dJ2_getChar_3b067_10 : decode cJ2_getChar_3b067 10 = .ok (.iload_n 1, 1) := by decide +kernel
theorem dJ2_getChar_3b067_11 : decode cJ2_getChar_3b067 11 = .ok (.aload_n 0, 1) := by decide +kernel
theorem dJ2_getChar_3b067_12 : decode cJ2_getChar_3b067 12 = .ok (.invokestatic 48, 3) := by decide +kernel
theorem dJ2_getChar_3b067_15 : decode cJ2_getChar_3b067 15 = .ok (.if_icmp .lt 13, 3) := by decide +kernel
theorem dJ2_getChar_3b067_18 : decode cJ2_getChar_3b067 18 = .ok (.new 52, 3) := by decide +kernel
theorem dJ2_getChar_3b067_21 : decode cJ2_getChar_3b067 21 = .ok (.dup, 1) := by decide +kernel
theorem dJ2_getChar_3b067_22 : decode cJ2_getChar_3b067 22 = .ok (.ldc 54, 2) := by decide +kernel
theorem dJ2_getChar_3b067_24 : decode cJ2_getChar_3b067 24 = .ok (.invokespecial 56, 3) := by decide +kernel
theorem dJ2_getChar_3b067_27 : decode cJ2_getChar_3b067 27 = .ok (.athrow, 1) := by decide +kernel
theorem dJ2_getChar_3b067_28 : decode cJ2_getChar_3b067 28 = .ok (.iload_n 1, 1) := by decide +kernel
theorem dJ2_getChar_3b067_29 : decode cJ2_getChar_3b067 29 = .ok (.iconst 1, 1) := by decide +kernel
theorem dJ2_getChar_3b067_30 : decode cJ2_getChar_3b067 30 = .ok (.ishl, 1) := by decide +kernel
theorem dJ2_getChar_3b067_31 : decode cJ2_getChar_3b067 31 = .ok (.istore_n 1, 1) := by decide +kernel
theorem dJ2_getChar_3b067_32 : decode cJ2_getChar_3b067 32 = .ok (.aload_n 0, 1) := by decide +kernel
theorem dJ2_getChar_3b067_33 : decode cJ2_getChar_3b067 33 = .ok (.iload_n 1, 1) := by decide +kernel
theorem dJ2_getChar_3b067_34 : decode cJ2_getChar_3b067 34 = .ok (.iinc 1 1, 3) := by decide +kernel
theorem dJ2_getChar_3b067_37 : decode cJ2_getChar_3b067 37 = .ok (.baload, 1) := by decide +kernel
theorem dJ2_getChar_3b067_38 : decode cJ2_getChar_3b067 38 = .ok (.sipush 255, 3) := by decide +kernel
theorem dJ2_getChar_3b067_41 : decode cJ2_getChar_3b067 41 = .ok (.iand, 1) := by decide +kernel
theorem dJ2_getChar_3b067_42 : decode cJ2_getChar_3b067 42 = .ok (.getstatic 59, 3) := by decide +kernel
theorem dJ2_getChar_3b067_45 : decode cJ2_getChar_3b067 45 = .ok (.ishl, 1) := by decide +kernel
theorem dJ2_getChar_3b067_46 : decode cJ2_getChar_3b067 46 = .ok (.aload_n 0, 1) := by decide +kernel
theorem dJ2_getChar_3b067_47 : decode cJ2_getChar_3b067 47 = .ok (.iload_n 1, 1) := by decide +kernel
theorem dJ2_getChar_3b067_48 : decode cJ2_getChar_3b067 48 = .ok (.baload, 1) := by decide +kernel
theorem dJ2_getChar_3b067_49 : decode cJ2_getChar_3b067 49 = .ok (.sipush 255, 3) := by decide +kernel
theorem dJ2_getChar_3b067_52 : decode cJ2_getChar_3b067 52 = .ok (.iand, 1) := by decide +kernel
theorem dJ2_getChar_3b067_53 : decode cJ2_getChar_3b067 53 = .ok (.getstatic 63, 3) := by decide +kernel
theorem dJ2_getChar_3b067_56 : decode cJ2_getChar_3b067 56 = .ok (.ishl, 1) := by decide +kernel
theorem dJ2_getChar_3b067_57 : decode cJ2_getChar_3b067 57 = .ok (.ior, 1) := by decide +kernel
theorem dJ2_getChar_3b067_58 : decode cJ2_getChar_3b067 58 = .ok (.i2c, 1) := by decide +kernel
theorem dJ2_getChar_3b067_59 : decode cJ2_getChar_3b067 59 = .ok (.ireturn, 1) := by decide +kernel
theorem dJ2_length_9d52b_0 : decode cJ2_length_9d52b 0 = .ok (.aload_n 0, 1) := by decide +kernel
theorem dJ2_length_9d52b_1 : decode cJ2_length_9d52b 1 = .ok (.arraylength, 1) := by decide +kernel
theorem dJ2_length_9d52b_2 : decode cJ2_length_9d52b 2 = .ok (.iconst 1, 1) := by decide +kernel
theorem dJ2_length_9d52b_3 : decode cJ2_length_9d52b 3 = .ok (.ishr, 1) := by decide +kernel
theorem dJ2_length_9d52b_4 : decode cJ2_length_9d52b 4 = .ok (.ireturn, 1) := by decide +kernel
theorem dJ2_charAt_3b067_0 : decode cJ2_charAt_3b067 0 = .ok (.iload_n 1, 1) := by decide +kernel
theorem dJ2_charAt_3b067_1 : decode cJ2_charAt_3b067 1 = .ok (.aload_n 0, 1) := by decide +kernel
theorem dJ2_charAt_3b067_2 : decode cJ2_charAt_3b067 2 = .ok (.invokestatic 67, 3) := by decide +kernel
theorem dJ2_charAt_3b067_5 : decode cJ2_charAt_3b067 5 = .ok (.aload_n 0, 1) := by decide +kernel
theorem dJ2_charAt_3b067_6 : decode cJ2_charAt_3b067 6 = .ok (.iload_n 1, 1) := by decide +kernel
theorem dJ2_charAt_3b067_7 : decode cJ2_charAt_3b067 7 = .ok (.invokestatic 71, 3) := by decide +kernel
theorem dJ2_charAt_3b067_10 : decode cJ2_charAt_3b067 10 = .ok (.ireturn, 1) := by decide +kernel
theorem dJ2_checkIndex_2214a_0 : decode cJ2_checkIndex_2214a 0 = .ok (.iload_n 0, 1) := by decide +kernel
theorem dJ2_checkIndex_2214a_1 : decode cJ2_checkIndex_2214a 1 = .ok (.aload_n 1, 1) := by decide +kernel
theorem dJ2_checkIndex_2214a_2 : decode cJ2_checkIndex_2214a 2 = .ok (.invokestatic 48, 3) := by decide +kernel
theorem dJ2_checkIndex_2214a_5 : decode cJ2_checkIndex_2214a 5 = .ok (.invokestatic 414, 3) := by decide +kernel
theorem dJ2_checkIndex_2214a_8 : decode cJ2_checkIndex_2214a 8 = .ok (.return_, 1) := by decide +kernel
theorem dJ3_checkIndex_8e157_0 : decode cJ3_checkIndex_8e157 0 = .ok (.iload_n 0, 1) := by decide +kernel
theorem dJ3_checkIndex_8e157_1 : decode cJ3_checkIndex_8e157 1 = .ok (.ifCond .lt 8, 3) := by decide +kernel
theorem dJ3_checkIndex_8e157_4 : decode cJ3_checkIndex_8e157 4 = .ok (.iload_n 0, 1) := by decide +kernel
theorem dJ3_checkIndex_8e157_5 : decode cJ3_checkIndex_8e157 5 = .ok (.iload_n 1, 1) := by decide +kernel
theorem dJ3_checkIndex_8e157_6 : decode cJ3_checkIndex_8e157 6 = .ok (.if_icmp .lt 10, 3) := by decide +kernel
theorem dJ3_checkIndex_8e157_9 : decode cJ3_checkIndex_8e157 9 = .ok (.aload_n 2, 1) := by decide +kernel
theorem dJ3_checkIndex_8e157_10 : decode cJ3_checkIndex_8e157 10 = .ok (.iload_n 0, 1) := by decide +kernel
theorem dJ3_checkIndex_8e157_11 : decode cJ3_checkIndex_8e157 11 = .ok (.iload_n 1, 1) := by decide +kernel
theorem dJ3_checkIndex_8e157_12 : decode cJ3_checkIndex_8e157 12 = .ok (.invokestatic 95, 3) := by decide +kernel
theorem dJ3_checkIndex_8e157_15 : decode cJ3_checkIndex_8e157 15 = .ok (.athrow, 1) := by decide +kernel
theorem dJ3_checkIndex_8e157_16 : decode cJ3_checkIndex_8e157 16 = .ok (.iload_n 0, 1) := by decide +kernel
theorem dJ3_checkIndex_8e157_17 : decode cJ3_checkIndex_8e157 17 = .ok (.ireturn, 1) := by decide +kernel
theorem dL_text_0 : decode cL_text 0 = .ok (.aload_n 2, 1) := by decide +kernel
theorem dL_text_1 : decode cL_text 1 = .ok (.iconst 0, 1) := by decide +kernel
theorem dL_text_2 : decode cL_text 2 = .ok (.aload_n 0, 1) := by decide +kernel
theorem dL_text_3 : decode cL_text 3 = .ok (.iload_n 1, 1) := by decide +kernel
theorem dL_text_4 : decode cL_text 4 = .ok (.invokevirtual 7, 3) := by decide +kernel
theorem dL_text_7 : decode cL_text 7 = .ok (.i2l, 1) := by decide +kernel
theorem dL_text_8 : decode cL_text 8 = .ok (.lastore, 1) := by decide +kernel
theorem dL_text_9 : decode cL_text 9 = .ok (.goto 6, 3) := by decide +kernel
theorem dL_text_12 : decode cL_text 12 = .ok (.astore_n 3, 1) := by decide +kernel
theorem dL_text_13 : decode cL_text 13 = .ok (.iconst 1, 1) := by decide +kernel
theorem dL_text_14 : decode cL_text 14 = .ok (.ireturn, 1) := by decide +kernel
theorem dL_text_15 : decode cL_text 15 = .ok (.iconst 0, 1) := by decide +kernel
theorem dL_text_16 : decode cL_text 16 = .ok (.ireturn, 1) := by decide +kernel
theorem dL_value_0 : decode cL_value 0 = .ok (.aload 4, 2) := by decide +kernel
theorem dL_value_2 : decode cL_value 2 = .ok (.iconst 0, 1) := by decide +kernel
theorem dL_value_3 : decode cL_value 3 = .ok (.aload_n 0, 1) := by decide +kernel
theorem dL_value_4 : decode cL_value 4 = .ok (.iload_n 1, 1) := by decide +kernel
theorem dL_value_5 : decode cL_value 5 = .ok (.iload_n 2, 1) := by decide +kernel
theorem dL_value_6 : decode cL_value 6 = .ok (.iload_n 3, 1) := by decide +kernel
theorem dL_value_7 : decode cL_value 7 = .ok (.invokevirtual 15, 3) := by decide +kernel
theorem dL_value_10 : decode cL_value 10 = .ok (.i2l, 1) := by decide +kernel
theorem dL_value_11 : decode cL_value 11 = .ok (.lastore, 1) := by decide +kernel
theorem dL_value_12 : decode cL_value 12 = .ok (.goto 7, 3) := by decide +kernel
theorem dL_value_15 : decode cL_value 15 = .ok (.astore 5, 2) := by decide +kernel
theorem dL_value_17 : decode cL_value 17 = .ok (.iconst 1, 1) := by decide +kernel
theorem dL_value_18 : decode cL_value 18 = .ok (.ireturn, 1) := by decide +kernel
theorem dL_value_19 : decode cL_value 19 = .ok (.iconst 0, 1) := by decide +kernel
theorem dL_value_20 : decode cL_value 20 = .ok (.ireturn, 1) := by decide +kernel
theorem dL_after_0 : decode cL_after 0 = .ok (.aload_n 3, 1) := by decide +kernel
theorem dL_after_1 : decode cL_after 1 = .ok (.iconst 0, 1) := by decide +kernel
theorem dL_after_2 : decode cL_after 2 = .ok (.aload_n 0, 1) := by decide +kernel
theorem dL_after_3 : decode cL_after 3 = .ok (.iload_n 1, 1) := by decide +kernel
theorem dL_after_4 : decode cL_after 4 = .ok (.iload_n 2, 1) := by decide +kernel
theorem dL_after_5 : decode cL_after 5 = .ok (.invokevirtual 21, 3) := by decide +kernel
theorem dL_after_8 : decode cL_after 8 = .ok (.i2l, 1) := by decide +kernel
theorem dL_after_9 : decode cL_after 9 = .ok (.lastore, 1) := by decide +kernel
theorem dL_after_10 : decode cL_after 10 = .ok (.goto 11, 3) := by decide +kernel
theorem dL_after_13 : decode cL_after 13 = .ok (.astore 4, 2) := by decide +kernel
theorem dL_after_15 : decode cL_after 15 = .ok (.iconst 1, 1) := by decide +kernel
theorem dL_after_16 : decode cL_after 16 = .ok (.ireturn, 1) := by decide +kernel
theorem dL_after_17 : decode cL_after 17 = .ok (.astore 4, 2) := by decide +kernel
theorem dL_after_19 : decode cL_after 19 = .ok (.iconst 2, 1) := by decide +kernel
theorem dL_after_20 : decode cL_after 20 = .ok (.ireturn, 1) := by decide +kernel
theorem dL_after_21 : decode cL_after 21 = .ok (.iconst 0, 1) := by decide +kernel
theorem dL_after_22 : decode cL_after 22 = .ok (.ireturn, 1) := by decide +kernel
theorem dL_again_0 : decode cL_again 0 = .ok (.aload_n 3, 1) := by decide +kernel
theorem dL_again_1 : decode cL_again 1 = .ok (.iconst 0, 1) := by decide +kernel
theorem dL_again_2 : decode cL_again 2 = .ok (.aload_n 0, 1) := by decide +kernel
theorem dL_again_3 : decode cL_again 3 = .ok (.iload_n 1, 1) := by decide +kernel
theorem dL_again_4 : decode cL_again 4 = .ok (.iload_n 2, 1) := by decide +kernel
theorem dL_again_5 : decode cL_again 5 = .ok (.invokevirtual 27, 3) := by decide +kernel
theorem dL_again_8 : decode cL_again 8 = .ok (.i2l, 1) := by decide +kernel
theorem dL_again_9 : decode cL_again 9 = .ok (.lastore, 1) := by decide +kernel
theorem dL_again_10 : decode cL_again 10 = .ok (.goto 15, 3) := by decide +kernel
theorem dL_again_13 : decode cL_again 13 = .ok (.astore 4, 2) := by decide +kernel
theorem dL_again_15 : decode cL_again 15 = .ok (.iconst 1, 1) := by decide +kernel
theorem dL_again_16 : decode cL_again 16 = .ok (.ireturn, 1) := by decide +kernel
theorem dL_again_17 : decode cL_again 17 = .ok (.astore 4, 2) := by decide +kernel
theorem dL_again_19 : decode cL_again 19 = .ok (.iconst 2, 1) := by decide +kernel
theorem dL_again_20 : decode cL_again 20 = .ok (.ireturn, 1) := by decide +kernel
theorem dL_again_21 : decode cL_again 21 = .ok (.astore 4, 2) := by decide +kernel
theorem dL_again_23 : decode cL_again 23 = .ok (.iconst 3, 1) := by decide +kernel
theorem dL_again_24 : decode cL_again 24 = .ok (.ireturn, 1) := by decide +kernel
theorem dL_again_25 : decode cL_again 25 = .ok (.iconst 0, 1) := by decide +kernel
theorem dL_again_26 : decode cL_again 26 = .ok (.ireturn, 1) := by decide +kernel
theorem dL_back_0 : decode cL_back 0 = .ok (.aload_n 2, 1) := by decide +kernel
theorem dL_back_1 : decode cL_back 1 = .ok (.iconst 0, 1) := by decide +kernel
theorem dL_back_2 : decode cL_back 2 = .ok (.aload_n 0, 1) := by decide +kernel
theorem dL_back_3 : decode cL_back 3 = .ok (.iload_n 1, 1) := by decide +kernel
theorem dL_back_4 : decode cL_back 4 = .ok (.invokevirtual 30, 3) := by decide +kernel
theorem dL_back_7 : decode cL_back 7 = .ok (.i2l, 1) := by decide +kernel
theorem dL_back_8 : decode cL_back 8 = .ok (.lastore, 1) := by decide +kernel
theorem dL_back_9 : decode cL_back 9 = .ok (.goto 9, 3) := by decide +kernel
theorem dL_back_12 : decode cL_back 12 = .ok (.astore_n 3, 1) := by decide +kernel
theorem dL_back_13 : decode cL_back 13 = .ok (.iconst 1, 1) := by decide +kernel
theorem dL_back_14 : decode cL_back 14 = .ok (.ireturn, 1) := by decide +kernel
theorem dL_back_15 : decode cL_back 15 = .ok (.astore_n 3, 1) := by decide +kernel
theorem dL_back_16 : decode cL_back 16 = .ok (.iconst 2, 1) := by decide +kernel
theorem dL_back_17 : decode cL_back 17 = .ok (.ireturn, 1) := by decide +kernel
theorem dL_back_18 : decode cL_back 18 = .ok (.iconst 0, 1) := by decide +kernel
theorem dL_back_19 : decode cL_back 19 = .ok (.ireturn, 1) := by decide +kernel
theorem dL_drop_0 : decode cL_drop 0 = .ok (.aload_n 2, 1) := by decide +kernel
theorem dL_drop_1 : decode cL_drop 1 = .ok (.iconst 0, 1) := by decide +kernel
theorem dL_drop_2 : decode cL_drop 2 = .ok (.aload_n 0, 1) := by decide +kernel
theorem dL_drop_3 : decode cL_drop 3 = .ok (.iload_n 1, 1) := by decide +kernel
theorem dL_drop_4 : decode cL_drop 4 = .ok (.invokevirtual 33, 3) := by decide +kernel
theorem dL_drop_7 : decode cL_drop 7 = .ok (.i2l, 1) := by decide +kernel
theorem dL_drop_8 : decode cL_drop 8 = .ok (.lastore, 1) := by decide +kernel
theorem dL_drop_9 : decode cL_drop 9 = .ok (.goto 6, 3) := by decide +kernel
theorem dL_drop_12 : decode cL_drop 12 = .ok (.astore_n 3, 1) := by decide +kernel
theorem dL_drop_13 : decode cL_drop 13 = .ok (.iconst 1, 1) := by decide +kernel
theorem dL_drop_14 : decode cL_drop 14 = .ok (.ireturn, 1) := by decide +kernel
theorem dL_drop_15 : decode cL_drop 15 = .ok (.iconst 0, 1) := by decide +kernel
theorem dL_drop_16 : decode cL_drop 16 = .ok (.ireturn, 1) := by decide +kernel
theorem dL_told_0 : decode cL_told 0 = .ok (.aload_n 2, 1) := by decide +kernel
theorem dL_told_1 : decode cL_told 1 = .ok (.iconst 0, 1) := by decide +kernel
theorem dL_told_2 : decode cL_told 2 = .ok (.aload_n 0, 1) := by decide +kernel
theorem dL_told_3 : decode cL_told 3 = .ok (.iload_n 1, 1) := by decide +kernel
theorem dL_told_4 : decode cL_told 4 = .ok (.invokevirtual 36, 3) := by decide +kernel
theorem dL_told_7 : decode cL_told 7 = .ok (.i2l, 1) := by decide +kernel
theorem dL_told_8 : decode cL_told 8 = .ok (.lastore, 1) := by decide +kernel
theorem dL_told_9 : decode cL_told 9 = .ok (.goto 6, 3) := by decide +kernel
theorem dL_told_12 : decode cL_told 12 = .ok (.astore_n 3, 1) := by decide +kernel
theorem dL_told_13 : decode cL_told 13 = .ok (.iconst 1, 1) := by decide +kernel
theorem dL_told_14 : decode cL_told 14 = .ok (.ireturn, 1) := by decide +kernel
theorem dL_told_15 : decode cL_told 15 = .ok (.iconst 0, 1) := by decide +kernel
theorem dL_told_16 : decode cL_told 16 = .ok (.ireturn, 1) := by decide +kernel
theorem dL_points_0 : decode cL_points 0 = .ok (.aload 4, 2) := by decide +kernel
theorem dL_points_2 : decode cL_points 2 = .ok (.iconst 0, 1) := by decide +kernel
theorem dL_points_3 : decode cL_points 3 = .ok (.aload_n 0, 1) := by decide +kernel
theorem dL_points_4 : decode cL_points 4 = .ok (.iload_n 1, 1) := by decide +kernel
theorem dL_points_5 : decode cL_points 5 = .ok (.iload_n 2, 1) := by decide +kernel
theorem dL_points_6 : decode cL_points 6 = .ok (.iload_n 3, 1) := by decide +kernel
theorem dL_points_7 : decode cL_points 7 = .ok (.invokevirtual 39, 3) := by decide +kernel
theorem dL_points_10 : decode cL_points 10 = .ok (.i2l, 1) := by decide +kernel
theorem dL_points_11 : decode cL_points 11 = .ok (.lastore, 1) := by decide +kernel
theorem dL_points_12 : decode cL_points 12 = .ok (.goto 11, 3) := by decide +kernel
theorem dL_points_15 : decode cL_points 15 = .ok (.astore 5, 2) := by decide +kernel
theorem dL_points_17 : decode cL_points 17 = .ok (.iconst 1, 1) := by decide +kernel
theorem dL_points_18 : decode cL_points 18 = .ok (.ireturn, 1) := by decide +kernel
theorem dL_points_19 : decode cL_points 19 = .ok (.astore 5, 2) := by decide +kernel
theorem dL_points_21 : decode cL_points 21 = .ok (.iconst 2, 1) := by decide +kernel
theorem dL_points_22 : decode cL_points 22 = .ok (.ireturn, 1) := by decide +kernel
theorem dL_points_23 : decode cL_points 23 = .ok (.iconst 0, 1) := by decide +kernel
theorem dL_points_24 : decode cL_points 24 = .ok (.ireturn, 1) := by decide +kernel
theorem dL_at_0 : decode cL_at 0 = .ok (.aload_n 3, 1) := by decide +kernel
theorem dL_at_1 : decode cL_at 1 = .ok (.iconst 0, 1) := by decide +kernel
theorem dL_at_2 : decode cL_at 2 = .ok (.aload_n 0, 1) := by decide +kernel
theorem dL_at_3 : decode cL_at 3 = .ok (.iload_n 1, 1) := by decide +kernel
theorem dL_at_4 : decode cL_at 4 = .ok (.iload_n 2, 1) := by decide +kernel
theorem dL_at_5 : decode cL_at 5 = .ok (.invokevirtual 42, 3) := by decide +kernel
theorem dL_at_8 : decode cL_at 8 = .ok (.i2l, 1) := by decide +kernel
theorem dL_at_9 : decode cL_at 9 = .ok (.lastore, 1) := by decide +kernel
theorem dL_at_10 : decode cL_at 10 = .ok (.goto 7, 3) := by decide +kernel
theorem dL_at_13 : decode cL_at 13 = .ok (.astore 4, 2) := by decide +kernel
theorem dL_at_15 : decode cL_at 15 = .ok (.iconst 1, 1) := by decide +kernel
theorem dL_at_16 : decode cL_at 16 = .ok (.ireturn, 1) := by decide +kernel
theorem dL_at_17 : decode cL_at 17 = .ok (.iconst 0, 1) := by decide +kernel
theorem dL_at_18 : decode cL_at 18 = .ok (.ireturn, 1) := by decide +kernel
theorem dL_coefficient_0 : decode cL_coefficient 0 = .ok (.aload_n 3, 1) := by decide +kernel
theorem dL_coefficient_1 : decode cL_coefficient 1 = .ok (.iconst 0, 1) := by decide +kernel
theorem dL_coefficient_2 : decode cL_coefficient 2 = .ok (.aload_n 0, 1) := by decide +kernel
theorem dL_coefficient_3 : decode cL_coefficient 3 = .ok (.iload_n 1, 1) := by decide +kernel
theorem dL_coefficient_4 : decode cL_coefficient 4 = .ok (.iload_n 2, 1) := by decide +kernel
theorem dL_coefficient_5 : decode cL_coefficient 5 = .ok (.invokevirtual 45, 3) := by decide +kernel
theorem dL_coefficient_8 : decode cL_coefficient 8 = .ok (.i2l, 1) := by decide +kernel
theorem dL_coefficient_9 : decode cL_coefficient 9 = .ok (.lastore, 1) := by decide +kernel
theorem dL_coefficient_10 : decode cL_coefficient 10 = .ok (.goto 11, 3) := by decide +kernel
theorem dL_coefficient_13 : decode cL_coefficient 13 = .ok (.astore 4, 2) := by decide +kernel
theorem dL_coefficient_15 : decode cL_coefficient 15 = .ok (.iconst 1, 1) := by decide +kernel
theorem dL_coefficient_16 : decode cL_coefficient 16 = .ok (.ireturn, 1) := by decide +kernel
theorem dL_coefficient_17 : decode cL_coefficient 17 = .ok (.astore 4, 2) := by decide +kernel
theorem dL_coefficient_19 : decode cL_coefficient 19 = .ok (.iconst 2, 1) := by decide +kernel
theorem dL_coefficient_20 : decode cL_coefficient 20 = .ok (.ireturn, 1) := by decide +kernel
theorem dL_coefficient_21 : decode cL_coefficient 21 = .ok (.iconst 0, 1) := by decide +kernel
theorem dL_coefficient_22 : decode cL_coefficient 22 = .ok (.ireturn, 1) := by decide +kernel
theorem dL_degree_0 : decode cL_degree 0 = .ok (.aload_n 2, 1) := by decide +kernel
theorem dL_degree_1 : decode cL_degree 1 = .ok (.iconst 0, 1) := by decide +kernel
theorem dL_degree_2 : decode cL_degree 2 = .ok (.aload_n 0, 1) := by decide +kernel
theorem dL_degree_3 : decode cL_degree 3 = .ok (.iload_n 1, 1) := by decide +kernel
theorem dL_degree_4 : decode cL_degree 4 = .ok (.invokevirtual 48, 3) := by decide +kernel
theorem dL_degree_7 : decode cL_degree 7 = .ok (.i2l, 1) := by decide +kernel
theorem dL_degree_8 : decode cL_degree 8 = .ok (.lastore, 1) := by decide +kernel
theorem dL_degree_9 : decode cL_degree 9 = .ok (.goto 6, 3) := by decide +kernel
theorem dL_degree_12 : decode cL_degree 12 = .ok (.astore_n 3, 1) := by decide +kernel
theorem dL_degree_13 : decode cL_degree 13 = .ok (.iconst 1, 1) := by decide +kernel
theorem dL_degree_14 : decode cL_degree 14 = .ok (.ireturn, 1) := by decide +kernel
theorem dL_degree_15 : decode cL_degree 15 = .ok (.iconst 0, 1) := by decide +kernel
theorem dL_degree_16 : decode cL_degree 16 = .ok (.ireturn, 1) := by decide +kernel
theorem dL_taken_0 : decode cL_taken 0 = .ok (.aload_n 3, 1) := by decide +kernel
theorem dL_taken_1 : decode cL_taken 1 = .ok (.iconst 0, 1) := by decide +kernel
theorem dL_taken_2 : decode cL_taken 2 = .ok (.aload_n 0, 1) := by decide +kernel
theorem dL_taken_3 : decode cL_taken 3 = .ok (.iload_n 1, 1) := by decide +kernel
theorem dL_taken_4 : decode cL_taken 4 = .ok (.iload_n 2, 1) := by decide +kernel
theorem dL_taken_5 : decode cL_taken 5 = .ok (.invokevirtual 51, 3) := by decide +kernel
theorem dL_taken_8 : decode cL_taken 8 = .ok (.i2l, 1) := by decide +kernel
theorem dL_taken_9 : decode cL_taken 9 = .ok (.lastore, 1) := by decide +kernel
theorem dL_taken_10 : decode cL_taken 10 = .ok (.goto 7, 3) := by decide +kernel
theorem dL_taken_13 : decode cL_taken 13 = .ok (.astore 4, 2) := by decide +kernel
theorem dL_taken_15 : decode cL_taken 15 = .ok (.iconst 1, 1) := by decide +kernel
theorem dL_taken_16 : decode cL_taken 16 = .ok (.ireturn, 1) := by decide +kernel
theorem dL_taken_17 : decode cL_taken 17 = .ok (.iconst 0, 1) := by decide +kernel
theorem dL_taken_18 : decode cL_taken 18 = .ok (.ireturn, 1) := by decide +kernel
theorem dL_image_0 : decode cL_image 0 = .ok (.aload_n 2, 1) := by decide +kernel
theorem dL_image_1 : decode cL_image 1 = .ok (.iconst 0, 1) := by decide +kernel
theorem dL_image_2 : decode cL_image 2 = .ok (.aload_n 0, 1) := by decide +kernel
theorem dL_image_3 : decode cL_image 3 = .ok (.iload_n 1, 1) := by decide +kernel
theorem dL_image_4 : decode cL_image 4 = .ok (.invokevirtual 54, 3) := by decide +kernel
theorem dL_image_7 : decode cL_image 7 = .ok (.i2l, 1) := by decide +kernel
theorem dL_image_8 : decode cL_image 8 = .ok (.lastore, 1) := by decide +kernel
theorem dL_image_9 : decode cL_image 9 = .ok (.goto 6, 3) := by decide +kernel
theorem dL_image_12 : decode cL_image 12 = .ok (.astore_n 3, 1) := by decide +kernel
theorem dL_image_13 : decode cL_image 13 = .ok (.iconst 1, 1) := by decide +kernel
theorem dL_image_14 : decode cL_image 14 = .ok (.ireturn, 1) := by decide +kernel
theorem dL_image_15 : decode cL_image 15 = .ok (.iconst 0, 1) := by decide +kernel
theorem dL_image_16 : decode cL_image 16 = .ok (.ireturn, 1) := by decide +kernel
theorem dL_permutes_0 : decode cL_permutes 0 = .ok (.aload_n 2, 1) := by decide +kernel
theorem dL_permutes_1 : decode cL_permutes 1 = .ok (.iconst 0, 1) := by decide +kernel
theorem dL_permutes_2 : decode cL_permutes 2 = .ok (.aload_n 0, 1) := by decide +kernel
theorem dL_permutes_3 : decode cL_permutes 3 = .ok (.iload_n 1, 1) := by decide +kernel
theorem dL_permutes_4 : decode cL_permutes 4 = .ok (.invokevirtual 57, 3) := by decide +kernel
theorem dL_permutes_7 : decode cL_permutes 7 = .ok (.i2l, 1) := by decide +kernel
theorem dL_permutes_8 : decode cL_permutes 8 = .ok (.lastore, 1) := by decide +kernel
theorem dL_permutes_9 : decode cL_permutes 9 = .ok (.goto 6, 3) := by decide +kernel
theorem dL_permutes_12 : decode cL_permutes 12 = .ok (.astore_n 3, 1) := by decide +kernel
theorem dL_permutes_13 : decode cL_permutes 13 = .ok (.iconst 1, 1) := by decide +kernel
theorem dL_permutes_14 : decode cL_permutes 14 = .ok (.ireturn, 1) := by decide +kernel
theorem dL_permutes_15 : decode cL_permutes 15 = .ok (.iconst 0, 1) := by decide +kernel
theorem dL_permutes_16 : decode cL_permutes 16 = .ok (.ireturn, 1) := by decide +kernel
theorem dL_powers_0 : decode cL_powers 0 = .ok (.aload_n 2, 1) := by decide +kernel
theorem dL_powers_1 : decode cL_powers 1 = .ok (.iconst 0, 1) := by decide +kernel
theorem dL_powers_2 : decode cL_powers 2 = .ok (.aload_n 0, 1) := by decide +kernel
theorem dL_powers_3 : decode cL_powers 3 = .ok (.iload_n 1, 1) := by decide +kernel
theorem dL_powers_4 : decode cL_powers 4 = .ok (.invokevirtual 60, 3) := by decide +kernel
theorem dL_powers_7 : decode cL_powers 7 = .ok (.i2l, 1) := by decide +kernel
theorem dL_powers_8 : decode cL_powers 8 = .ok (.lastore, 1) := by decide +kernel
theorem dL_powers_9 : decode cL_powers 9 = .ok (.goto 6, 3) := by decide +kernel
theorem dL_powers_12 : decode cL_powers 12 = .ok (.astore_n 3, 1) := by decide +kernel
theorem dL_powers_13 : decode cL_powers 13 = .ok (.iconst 1, 1) := by decide +kernel
theorem dL_powers_14 : decode cL_powers 14 = .ok (.ireturn, 1) := by decide +kernel
theorem dL_powers_15 : decode cL_powers 15 = .ok (.iconst 0, 1) := by decide +kernel
theorem dL_powers_16 : decode cL_powers 16 = .ok (.ireturn, 1) := by decide +kernel
theorem dL_cycles_0 : decode cL_cycles 0 = .ok (.aload_n 3, 1) := by decide +kernel
theorem dL_cycles_1 : decode cL_cycles 1 = .ok (.iconst 0, 1) := by decide +kernel
theorem dL_cycles_2 : decode cL_cycles 2 = .ok (.aload_n 0, 1) := by decide +kernel
theorem dL_cycles_3 : decode cL_cycles 3 = .ok (.iload_n 1, 1) := by decide +kernel
theorem dL_cycles_4 : decode cL_cycles 4 = .ok (.iload_n 2, 1) := by decide +kernel
theorem dL_cycles_5 : decode cL_cycles 5 = .ok (.invokevirtual 63, 3) := by decide +kernel
theorem dL_cycles_8 : decode cL_cycles 8 = .ok (.i2l, 1) := by decide +kernel
theorem dL_cycles_9 : decode cL_cycles 9 = .ok (.lastore, 1) := by decide +kernel
theorem dL_cycles_10 : decode cL_cycles 10 = .ok (.goto 15, 3) := by decide +kernel
theorem dL_cycles_13 : decode cL_cycles 13 = .ok (.astore 4, 2) := by decide +kernel
theorem dL_cycles_15 : decode cL_cycles 15 = .ok (.iconst 1, 1) := by decide +kernel
theorem dL_cycles_16 : decode cL_cycles 16 = .ok (.ireturn, 1) := by decide +kernel
theorem dL_cycles_17 : decode cL_cycles 17 = .ok (.astore 4, 2) := by decide +kernel
theorem dL_cycles_19 : decode cL_cycles 19 = .ok (.iconst 2, 1) := by decide +kernel
theorem dL_cycles_20 : decode cL_cycles 20 = .ok (.ireturn, 1) := by decide +kernel
theorem dL_cycles_21 : decode cL_cycles 21 = .ok (.astore 4, 2) := by decide +kernel
theorem dL_cycles_23 : decode cL_cycles 23 = .ok (.iconst 3, 1) := by decide +kernel
theorem dL_cycles_24 : decode cL_cycles 24 = .ok (.ireturn, 1) := by decide +kernel
theorem dL_cycles_25 : decode cL_cycles 25 = .ok (.iconst 0, 1) := by decide +kernel
theorem dL_cycles_26 : decode cL_cycles 26 = .ok (.ireturn, 1) := by decide +kernel
theorem dL_order_0 : decode cL_order 0 = .ok (.aload_n 2, 1) := by decide +kernel
theorem dL_order_1 : decode cL_order 1 = .ok (.iconst 0, 1) := by decide +kernel
theorem dL_order_2 : decode cL_order 2 = .ok (.aload_n 0, 1) := by decide +kernel
theorem dL_order_3 : decode cL_order 3 = .ok (.iload_n 1, 1) := by decide +kernel
theorem dL_order_4 : decode cL_order 4 = .ok (.invokevirtual 66, 3) := by decide +kernel
theorem dL_order_7 : decode cL_order 7 = .ok (.i2l, 1) := by decide +kernel
theorem dL_order_8 : decode cL_order 8 = .ok (.lastore, 1) := by decide +kernel
theorem dL_order_9 : decode cL_order 9 = .ok (.goto 9, 3) := by decide +kernel
theorem dL_order_12 : decode cL_order 12 = .ok (.astore_n 3, 1) := by decide +kernel
theorem dL_order_13 : decode cL_order 13 = .ok (.iconst 1, 1) := by decide +kernel
theorem dL_order_14 : decode cL_order 14 = .ok (.ireturn, 1) := by decide +kernel
theorem dL_order_15 : decode cL_order 15 = .ok (.astore_n 3, 1) := by decide +kernel
theorem dL_order_16 : decode cL_order 16 = .ok (.iconst 2, 1) := by decide +kernel
theorem dL_order_17 : decode cL_order 17 = .ok (.ireturn, 1) := by decide +kernel
theorem dL_order_18 : decode cL_order 18 = .ok (.iconst 0, 1) := by decide +kernel
theorem dL_order_19 : decode cL_order 19 = .ok (.ireturn, 1) := by decide +kernel
theorem dL_even_0 : decode cL_even 0 = .ok (.aload_n 2, 1) := by decide +kernel
theorem dL_even_1 : decode cL_even 1 = .ok (.iconst 0, 1) := by decide +kernel
theorem dL_even_2 : decode cL_even 2 = .ok (.aload_n 0, 1) := by decide +kernel
theorem dL_even_3 : decode cL_even 3 = .ok (.iload_n 1, 1) := by decide +kernel
theorem dL_even_4 : decode cL_even 4 = .ok (.invokevirtual 69, 3) := by decide +kernel
theorem dL_even_7 : decode cL_even 7 = .ok (.i2l, 1) := by decide +kernel
theorem dL_even_8 : decode cL_even 8 = .ok (.lastore, 1) := by decide +kernel
theorem dL_even_9 : decode cL_even 9 = .ok (.goto 9, 3) := by decide +kernel
theorem dL_even_12 : decode cL_even 12 = .ok (.astore_n 3, 1) := by decide +kernel
theorem dL_even_13 : decode cL_even 13 = .ok (.iconst 1, 1) := by decide +kernel
theorem dL_even_14 : decode cL_even 14 = .ok (.ireturn, 1) := by decide +kernel
theorem dL_even_15 : decode cL_even 15 = .ok (.astore_n 3, 1) := by decide +kernel
theorem dL_even_16 : decode cL_even 16 = .ok (.iconst 2, 1) := by decide +kernel
theorem dL_even_17 : decode cL_even 17 = .ok (.ireturn, 1) := by decide +kernel
theorem dL_even_18 : decode cL_even 18 = .ok (.iconst 0, 1) := by decide +kernel
theorem dL_even_19 : decode cL_even 19 = .ok (.ireturn, 1) := by decide +kernel
theorem dL_orbit_0 : decode cL_orbit 0 = .ok (.aload_n 2, 1) := by decide +kernel
theorem dL_orbit_1 : decode cL_orbit 1 = .ok (.iconst 0, 1) := by decide +kernel
theorem dL_orbit_2 : decode cL_orbit 2 = .ok (.aload_n 0, 1) := by decide +kernel
theorem dL_orbit_3 : decode cL_orbit 3 = .ok (.iload_n 1, 1) := by decide +kernel
theorem dL_orbit_4 : decode cL_orbit 4 = .ok (.invokevirtual 72, 3) := by decide +kernel
theorem dL_orbit_7 : decode cL_orbit 7 = .ok (.i2l, 1) := by decide +kernel
theorem dL_orbit_8 : decode cL_orbit 8 = .ok (.lastore, 1) := by decide +kernel
theorem dL_orbit_9 : decode cL_orbit 9 = .ok (.goto 6, 3) := by decide +kernel
theorem dL_orbit_12 : decode cL_orbit 12 = .ok (.astore_n 3, 1) := by decide +kernel
theorem dL_orbit_13 : decode cL_orbit 13 = .ok (.iconst 1, 1) := by decide +kernel
theorem dL_orbit_14 : decode cL_orbit 14 = .ok (.ireturn, 1) := by decide +kernel
theorem dL_orbit_15 : decode cL_orbit 15 = .ok (.iconst 0, 1) := by decide +kernel
theorem dL_orbit_16 : decode cL_orbit 16 = .ok (.ireturn, 1) := by decide +kernel
theorem dL_spread_0 : decode cL_spread 0 = .ok (.aload_n 2, 1) := by decide +kernel
theorem dL_spread_1 : decode cL_spread 1 = .ok (.iconst 0, 1) := by decide +kernel
theorem dL_spread_2 : decode cL_spread 2 = .ok (.aload_n 0, 1) := by decide +kernel
theorem dL_spread_3 : decode cL_spread 3 = .ok (.iload_n 1, 1) := by decide +kernel
theorem dL_spread_4 : decode cL_spread 4 = .ok (.invokevirtual 75, 3) := by decide +kernel
theorem dL_spread_7 : decode cL_spread 7 = .ok (.i2l, 1) := by decide +kernel
theorem dL_spread_8 : decode cL_spread 8 = .ok (.lastore, 1) := by decide +kernel
theorem dL_spread_9 : decode cL_spread 9 = .ok (.goto 6, 3) := by decide +kernel
theorem dL_spread_12 : decode cL_spread 12 = .ok (.astore_n 3, 1) := by decide +kernel
theorem dL_spread_13 : decode cL_spread 13 = .ok (.iconst 1, 1) := by decide +kernel
theorem dL_spread_14 : decode cL_spread 14 = .ok (.ireturn, 1) := by decide +kernel
theorem dL_spread_15 : decode cL_spread 15 = .ok (.iconst 0, 1) := by decide +kernel
theorem dL_spread_16 : decode cL_spread 16 = .ok (.ireturn, 1) := by decide +kernel
theorem dL_dicksons_0 : decode cL_dicksons 0 = .ok (.aload_n 2, 1) := by decide +kernel
theorem dL_dicksons_1 : decode cL_dicksons 1 = .ok (.iconst 0, 1) := by decide +kernel
theorem dL_dicksons_2 : decode cL_dicksons 2 = .ok (.aload_n 0, 1) := by decide +kernel
theorem dL_dicksons_3 : decode cL_dicksons 3 = .ok (.iload_n 1, 1) := by decide +kernel
theorem dL_dicksons_4 : decode cL_dicksons 4 = .ok (.invokevirtual 78, 3) := by decide +kernel
theorem dL_dicksons_7 : decode cL_dicksons 7 = .ok (.lastore, 1) := by decide +kernel
theorem dL_dicksons_8 : decode cL_dicksons 8 = .ok (.goto 6, 3) := by decide +kernel
theorem dL_dicksons_11 : decode cL_dicksons 11 = .ok (.astore_n 3, 1) := by decide +kernel
theorem dL_dicksons_12 : decode cL_dicksons 12 = .ok (.iconst 1, 1) := by decide +kernel
theorem dL_dicksons_13 : decode cL_dicksons 13 = .ok (.ireturn, 1) := by decide +kernel
theorem dL_dicksons_14 : decode cL_dicksons 14 = .ok (.iconst 0, 1) := by decide +kernel
theorem dL_dicksons_15 : decode cL_dicksons 15 = .ok (.ireturn, 1) := by decide +kernel
theorem dL_binomials_0 : decode cL_binomials 0 = .ok (.aload_n 2, 1) := by decide +kernel
theorem dL_binomials_1 : decode cL_binomials 1 = .ok (.iconst 0, 1) := by decide +kernel
theorem dL_binomials_2 : decode cL_binomials 2 = .ok (.aload_n 0, 1) := by decide +kernel
theorem dL_binomials_3 : decode cL_binomials 3 = .ok (.iload_n 1, 1) := by decide +kernel
theorem dL_binomials_4 : decode cL_binomials 4 = .ok (.invokevirtual 82, 3) := by decide +kernel
theorem dL_binomials_7 : decode cL_binomials 7 = .ok (.i2l, 1) := by decide +kernel
theorem dL_binomials_8 : decode cL_binomials 8 = .ok (.lastore, 1) := by decide +kernel
theorem dL_binomials_9 : decode cL_binomials 9 = .ok (.goto 6, 3) := by decide +kernel
theorem dL_binomials_12 : decode cL_binomials 12 = .ok (.astore_n 3, 1) := by decide +kernel
theorem dL_binomials_13 : decode cL_binomials 13 = .ok (.iconst 1, 1) := by decide +kernel
theorem dL_binomials_14 : decode cL_binomials 14 = .ok (.ireturn, 1) := by decide +kernel
theorem dL_binomials_15 : decode cL_binomials 15 = .ok (.iconst 0, 1) := by decide +kernel
theorem dL_binomials_16 : decode cL_binomials 16 = .ok (.ireturn, 1) := by decide +kernel
theorem dL_law_0 : decode cL_law 0 = .ok (.new 8, 3) := by decide +kernel
theorem dL_law_3 : decode cL_law 3 = .ok (.dup, 1) := by decide +kernel
theorem dL_law_4 : decode cL_law 4 = .ok (.invokespecial 85, 3) := by decide +kernel
theorem dL_law_7 : decode cL_law 7 = .ok (.astore_n 1, 1) := by decide +kernel
theorem dL_law_8 : decode cL_law 8 = .ok (.new 86, 3) := by decide +kernel
theorem dL_law_11 : decode cL_law 11 = .ok (.dup, 1) := by decide +kernel
theorem dL_law_12 : decode cL_law 12 = .ok (.invokespecial 88, 3) := by decide +kernel
theorem dL_law_15 : decode cL_law 15 = .ok (.astore_n 2, 1) := by decide +kernel
theorem dL_law_16 : decode cL_law 16 = .ok (.iconst 1, 1) := by decide +kernel
theorem dL_law_17 : decode cL_law 17 = .ok (.newarray .long, 2) := by decide +kernel
theorem dL_law_19 : decode cL_law 19 = .ok (.astore_n 3, 1) := by decide +kernel
theorem dL_law_20 : decode cL_law 20 = .ok (.iconst 0, 1) := by decide +kernel
theorem dL_law_21 : decode cL_law 21 = .ok (.istore 4, 2) := by decide +kernel
theorem dL_law_23 : decode cL_law 23 = .ok (.iload 4, 2) := by decide +kernel
theorem dL_law_25 : decode cL_law 25 = .ok (.aload_n 0, 1) := by decide +kernel
theorem dL_law_26 : decode cL_law 26 = .ok (.arraylength, 1) := by decide +kernel
theorem dL_law_27 : decode cL_law 27 = .ok (.bipush 6, 2) := by decide +kernel
theorem dL_law_29 : decode cL_law 29 = .ok (.isub, 1) := by decide +kernel
theorem dL_law_30 : decode cL_law 30 = .ok (.if_icmp .gt 1664, 3) := by decide +kernel
theorem dL_law_33 : decode cL_law 33 = .ok (.aload_n 0, 1) := by decide +kernel
theorem dL_law_34 : decode cL_law 34 = .ok (.iload 4, 2) := by decide +kernel
theorem dL_law_36 : decode cL_law 36 = .ok (.iaload, 1) := by decide +kernel
theorem dL_law_37 : decode cL_law 37 = .ok (.bipush 31, 2) := by decide +kernel
theorem dL_law_39 : decode cL_law 39 = .ok (.iand, 1) := by decide +kernel
theorem dL_law_40 : decode cL_law 40 = .ok (.tableswitch 1648 0 28 #[132, 205, 261, 274, 354, 422, 490, 546, 602, 615, 671, 751, 819, 887, 943, 1011, 1067, 1123, 1179, 1247, 1303, 1359, 1415, 1428, 1484, 1498, 1553, 1609, 1623], 132) := by decide +kernel
theorem dL_law_172 : decode cL_law 172 = .ok (.aload_n 1, 1) := by decide +kernel
theorem dL_law_173 : decode cL_law 173 = .ok (.aload_n 0, 1) := by decide +kernel
theorem dL_law_174 : decode cL_law 174 = .ok (.iload 4, 2) := by decide +kernel
theorem dL_law_176 : decode cL_law 176 = .ok (.iconst 1, 1) := by decide +kernel
theorem dL_law_177 : decode cL_law 177 = .ok (.iadd, 1) := by decide +kernel
theorem dL_law_178 : decode cL_law 178 = .ok (.iaload, 1) := by decide +kernel
theorem dL_law_179 : decode cL_law 179 = .ok (.aload_n 0, 1) := by decide +kernel
theorem dL_law_180 : decode cL_law 180 = .ok (.iload 4, 2) := by decide +kernel
theorem dL_law_182 : decode cL_law 182 = .ok (.iconst 2, 1) := by decide +kernel
theorem dL_law_183 : decode cL_law 183 = .ok (.iadd, 1) := by decide +kernel
theorem dL_law_184 : decode cL_law 184 = .ok (.iaload, 1) := by decide +kernel
theorem dL_law_185 : decode cL_law 185 = .ok (.aload_n 0, 1) := by decide +kernel
theorem dL_law_186 : decode cL_law 186 = .ok (.iload 4, 2) := by decide +kernel
theorem dL_law_188 : decode cL_law 188 = .ok (.iconst 3, 1) := by decide +kernel
theorem dL_law_189 : decode cL_law 189 = .ok (.iadd, 1) := by decide +kernel
theorem dL_law_190 : decode cL_law 190 = .ok (.iaload, 1) := by decide +kernel
theorem dL_law_191 : decode cL_law 191 = .ok (.aload_n 0, 1) := by decide +kernel
theorem dL_law_192 : decode cL_law 192 = .ok (.iload 4, 2) := by decide +kernel
theorem dL_law_194 : decode cL_law 194 = .ok (.iconst 4, 1) := by decide +kernel
theorem dL_law_195 : decode cL_law 195 = .ok (.iadd, 1) := by decide +kernel
theorem dL_law_196 : decode cL_law 196 = .ok (.iaload, 1) := by decide +kernel
theorem dL_law_197 : decode cL_law 197 = .ok (.aload_n 0, 1) := by decide +kernel
theorem dL_law_198 : decode cL_law 198 = .ok (.iload 4, 2) := by decide +kernel
theorem dL_law_200 : decode cL_law 200 = .ok (.iconst 5, 1) := by decide +kernel
theorem dL_law_201 : decode cL_law 201 = .ok (.iadd, 1) := by decide +kernel
theorem dL_law_202 : decode cL_law 202 = .ok (.iaload, 1) := by decide +kernel
theorem dL_law_203 : decode cL_law 203 = .ok (.invokevirtual 89, 3) := by decide +kernel
theorem dL_law_206 : decode cL_law 206 = .ok (.aload_n 2, 1) := by decide +kernel
theorem dL_law_207 : decode cL_law 207 = .ok (.aload_n 0, 1) := by decide +kernel
theorem dL_law_208 : decode cL_law 208 = .ok (.iload 4, 2) := by decide +kernel
theorem dL_law_210 : decode cL_law 210 = .ok (.iconst 1, 1) := by decide +kernel
theorem dL_law_211 : decode cL_law 211 = .ok (.iadd, 1) := by decide +kernel
theorem dL_law_212 : decode cL_law 212 = .ok (.iaload, 1) := by decide +kernel
theorem dL_law_213 : decode cL_law 213 = .ok (.aload_n 0, 1) := by decide +kernel
theorem dL_law_214 : decode cL_law 214 = .ok (.iload 4, 2) := by decide +kernel
theorem dL_law_216 : decode cL_law 216 = .ok (.iconst 2, 1) := by decide +kernel
theorem dL_law_217 : decode cL_law 217 = .ok (.iadd, 1) := by decide +kernel
theorem dL_law_218 : decode cL_law 218 = .ok (.iaload, 1) := by decide +kernel
theorem dL_law_219 : decode cL_law 219 = .ok (.aload_n 0, 1) := by decide +kernel
theorem dL_law_220 : decode cL_law 220 = .ok (.iload 4, 2) := by decide +kernel
theorem dL_law_222 : decode cL_law 222 = .ok (.iconst 3, 1) := by decide +kernel
theorem dL_law_223 : decode cL_law 223 = .ok (.iadd, 1) := by decide +kernel
theorem dL_law_224 : decode cL_law 224 = .ok (.iaload, 1) := by decide +kernel
theorem dL_law_225 : decode cL_law 225 = .ok (.aload_n 0, 1) := by decide +kernel
theorem dL_law_226 : decode cL_law 226 = .ok (.iload 4, 2) := by decide +kernel
theorem dL_law_228 : decode cL_law 228 = .ok (.iconst 4, 1) := by decide +kernel
theorem dL_law_229 : decode cL_law 229 = .ok (.iadd, 1) := by decide +kernel
theorem dL_law_230 : decode cL_law 230 = .ok (.iaload, 1) := by decide +kernel
theorem dL_law_231 : decode cL_law 231 = .ok (.aload_n 0, 1) := by decide +kernel
theorem dL_law_232 : decode cL_law 232 = .ok (.iload 4, 2) := by decide +kernel
theorem dL_law_234 : decode cL_law 234 = .ok (.iconst 5, 1) := by decide +kernel
theorem dL_law_235 : decode cL_law 235 = .ok (.iadd, 1) := by decide +kernel
theorem dL_law_236 : decode cL_law 236 = .ok (.iaload, 1) := by decide +kernel
theorem dL_law_237 : decode cL_law 237 = .ok (.invokevirtual 93, 3) := by decide +kernel
theorem dL_law_240 : decode cL_law 240 = .ok (.if_icmp .eq 1448, 3) := by decide +kernel
theorem dL_law_243 : decode cL_law 243 = .ok (.iconst 0, 1) := by decide +kernel
theorem dL_law_244 : decode cL_law 244 = .ok (.ireturn, 1) := by decide +kernel
theorem dL_law_245 : decode cL_law 245 = .ok (.aload_n 1, 1) := by decide +kernel
theorem dL_law_246 : decode cL_law 246 = .ok (.aload_n 0, 1) := by decide +kernel
theorem dL_law_247 : decode cL_law 247 = .ok (.iload 4, 2) := by decide +kernel
theorem dL_law_249 : decode cL_law 249 = .ok (.iconst 1, 1) := by decide +kernel
theorem dL_law_250 : decode cL_law 250 = .ok (.iadd, 1) := by decide +kernel
theorem dL_law_251 : decode cL_law 251 = .ok (.iaload, 1) := by decide +kernel
theorem dL_law_252 : decode cL_law 252 = .ok (.aload_n 3, 1) := by decide +kernel
theorem dL_law_253 : decode cL_law 253 = .ok (.invokestatic 94, 3) := by decide +kernel
theorem dL_law_256 : decode cL_law 256 = .ok (.istore 5, 2) := by decide +kernel
theorem dL_law_258 : decode cL_law 258 = .ok (.aload_n 2, 1) := by decide +kernel
theorem dL_law_259 : decode cL_law 259 = .ok (.aload_n 0, 1) := by decide +kernel
theorem dL_law_260 : decode cL_law 260 = .ok (.iload 4, 2) := by decide +kernel
theorem dL_law_262 : decode cL_law 262 = .ok (.iconst 1, 1) := by decide +kernel
theorem dL_law_263 : decode cL_law 263 = .ok (.iadd, 1) := by decide +kernel
theorem dL_law_264 : decode cL_law 264 = .ok (.iaload, 1) := by decide +kernel
theorem dL_law_265 : decode cL_law 265 = .ok (.invokevirtual 99, 3) := by decide +kernel
theorem dL_law_268 : decode cL_law 268 = .ok (.istore 6, 2) := by decide +kernel
theorem dL_law_270 : decode cL_law 270 = .ok (.aload_n 2, 1) := by decide +kernel
theorem dL_law_271 : decode cL_law 271 = .ok (.invokevirtual 100, 3) := by decide +kernel
theorem dL_law_274 : decode cL_law 274 = .ok (.iload 5, 2) := by decide +kernel
theorem dL_law_276 : decode cL_law 276 = .ok (.if_icmp .eq 5, 3) := by decide +kernel
theorem dL_law_279 : decode cL_law 279 = .ok (.iconst 0, 1) := by decide +kernel
theorem dL_law_280 : decode cL_law 280 = .ok (.ireturn, 1) := by decide +kernel
theorem dL_law_281 : decode cL_law 281 = .ok (.iload 5, 2) := by decide +kernel
theorem dL_law_283 : decode cL_law 283 = .ok (.ifCond .ne 15, 3) := by decide +kernel
theorem dL_law_286 : decode cL_law 286 = .ok (.aload_n 3, 1) := by decide +kernel
theorem dL_law_287 : decode cL_law 287 = .ok (.iconst 0, 1) := by decide +kernel
theorem dL_law_288 : decode cL_law 288 = .ok (.laload, 1) := by decide +kernel
theorem dL_law_289 : decode cL_law 289 = .ok (.iload 6, 2) := by decide +kernel
theorem dL_law_291 : decode cL_law 291 = .ok (.i2l, 1) := by decide +kernel
theorem dL_law_292 : decode cL_law 292 = .ok (.lcmp, 1) := by decide +kernel
theorem dL_law_293 : decode cL_law 293 = .ok (.ifCond .eq 5, 3) := by decide +kernel
theorem dL_law_296 : decode cL_law 296 = .ok (.iconst 0, 1) := by decide +kernel
theorem dL_law_297 : decode cL_law 297 = .ok (.ireturn, 1) := by decide +kernel
theorem dL_law_298 : decode cL_law 298 = .ok (.goto 1390, 3) := by decide +kernel
theorem dL_law_301 : decode cL_law 301 = .ok (.aload_n 1, 1) := by decide +kernel
theorem dL_law_302 : decode cL_law 302 = .ok (.invokevirtual 104, 3) := by decide +kernel
theorem dL_law_305 : decode cL_law 305 = .ok (.aload_n 2, 1) := by decide +kernel
theorem dL_law_306 : decode cL_law 306 = .ok (.invokevirtual 107, 3) := by decide +kernel
theorem dL_law_309 : decode cL_law 309 = .ok (.if_icmp .eq 1379, 3) := by decide +kernel
theorem dL_law_312 : decode cL_law 312 = .ok (.iconst 0, 1) := by decide +kernel
theorem dL_law_313 : decode cL_law 313 = .ok (.ireturn, 1) := by decide +kernel
theorem dL_law_314 : decode cL_law 314 = .ok (.aload_n 1, 1) := by decide +kernel
theorem dL_law_315 : decode cL_law 315 = .ok (.aload_n 0, 1) := by decide +kernel
theorem dL_law_316 : decode cL_law 316 = .ok (.iload 4, 2) := by decide +kernel
theorem dL_law_318 : decode cL_law 318 = .ok (.iconst 1, 1) := by decide +kernel
theorem dL_law_319 : decode cL_law 319 = .ok (.iadd, 1) := by decide +kernel
theorem dL_law_320 : decode cL_law 320 = .ok (.iaload, 1) := by decide +kernel
theorem dL_law_321 : decode cL_law 321 = .ok (.aload_n 0, 1) := by decide +kernel
theorem dL_law_322 : decode cL_law 322 = .ok (.iload 4, 2) := by decide +kernel
theorem dL_law_324 : decode cL_law 324 = .ok (.iconst 2, 1) := by decide +kernel
theorem dL_law_325 : decode cL_law 325 = .ok (.iadd, 1) := by decide +kernel
theorem dL_law_326 : decode cL_law 326 = .ok (.iaload, 1) := by decide +kernel
theorem dL_law_327 : decode cL_law 327 = .ok (.aload_n 0, 1) := by decide +kernel
theorem dL_law_328 : decode cL_law 328 = .ok (.iload 4, 2) := by decide +kernel
theorem dL_law_330 : decode cL_law 330 = .ok (.iconst 3, 1) := by decide +kernel
theorem dL_law_331 : decode cL_law 331 = .ok (.iadd, 1) := by decide +kernel
theorem dL_law_332 : decode cL_law 332 = .ok (.iaload, 1) := by decide +kernel
theorem dL_law_333 : decode cL_law 333 = .ok (.aload_n 3, 1) := by decide +kernel
theorem dL_law_334 : decode cL_law 334 = .ok (.invokestatic 108, 3) := by decide +kernel
theorem dL_law_337 : decode cL_law 337 = .ok (.istore 5, 2) := by decide +kernel
theorem dL_law_339 : decode cL_law 339 = .ok (.aload_n 2, 1) := by decide +kernel
theorem dL_law_340 : decode cL_law 340 = .ok (.aload_n 0, 1) := by decide +kernel
theorem dL_law_341 : decode cL_law 341 = .ok (.iload 4, 2) := by decide +kernel
theorem dL_law_343 : decode cL_law 343 = .ok (.iconst 1, 1) := by decide +kernel
theorem dL_law_344 : decode cL_law 344 = .ok (.iadd, 1) := by decide +kernel
theorem dL_law_345 : decode cL_law 345 = .ok (.iaload, 1) := by decide +kernel
theorem dL_law_346 : decode cL_law 346 = .ok (.aload_n 0, 1) := by decide +kernel
theorem dL_law_347 : decode cL_law 347 = .ok (.iload 4, 2) := by decide +kernel
theorem dL_law_349 : decode cL_law 349 = .ok (.iconst 2, 1) := by decide +kernel
theorem dL_law_350 : decode cL_law 350 = .ok (.iadd, 1) := by decide +kernel
theorem dL_law_351 : decode cL_law 351 = .ok (.iaload, 1) := by decide +kernel
theorem dL_law_352 : decode cL_law 352 = .ok (.aload_n 0, 1) := by decide +kernel
theorem dL_law_353 : decode cL_law 353 = .ok (.iload 4, 2) := by decide +kernel
theorem dL_law_355 : decode cL_law 355 = .ok (.iconst 3, 1) := by decide +kernel
theorem dL_law_356 : decode cL_law 356 = .ok (.iadd, 1) := by decide +kernel
theorem dL_law_357 : decode cL_law 357 = .ok (.iaload, 1) := by decide +kernel
theorem dL_law_358 : decode cL_law 358 = .ok (.invokevirtual 111, 3) := by decide +kernel
theorem dL_law_361 : decode cL_law 361 = .ok (.istore 6, 2) := by decide +kernel
theorem dL_law_363 : decode cL_law 363 = .ok (.aload_n 2, 1) := by decide +kernel
theorem dL_law_364 : decode cL_law 364 = .ok (.invokevirtual 100, 3) := by decide +kernel
theorem dL_law_367 : decode cL_law 367 = .ok (.iload 5, 2) := by decide +kernel
theorem dL_law_369 : decode cL_law 369 = .ok (.if_icmp .eq 5, 3) := by decide +kernel
theorem dL_law_372 : decode cL_law 372 = .ok (.iconst 0, 1) := by decide +kernel
theorem dL_law_373 : decode cL_law 373 = .ok (.ireturn, 1) := by decide +kernel
theorem dL_law_374 : decode cL_law 374 = .ok (.iload 5, 2) := by decide +kernel
theorem dL_law_376 : decode cL_law 376 = .ok (.ifCond .ne 15, 3) := by decide +kernel
theorem dL_law_379 : decode cL_law 379 = .ok (.aload_n 3, 1) := by decide +kernel
theorem dL_law_380 : decode cL_law 380 = .ok (.iconst 0, 1) := by decide +kernel
theorem dL_law_381 : decode cL_law 381 = .ok (.laload, 1) := by decide +kernel
theorem dL_law_382 : decode cL_law 382 = .ok (.iload 6, 2) := by decide +kernel
theorem dL_law_384 : decode cL_law 384 = .ok (.i2l, 1) := by decide +kernel
theorem dL_law_385 : decode cL_law 385 = .ok (.lcmp, 1) := by decide +kernel
theorem dL_law_386 : decode cL_law 386 = .ok (.ifCond .eq 5, 3) := by decide +kernel
theorem dL_law_389 : decode cL_law 389 = .ok (.iconst 0, 1) := by decide +kernel
theorem dL_law_390 : decode cL_law 390 = .ok (.ireturn, 1) := by decide +kernel
theorem dL_law_391 : decode cL_law 391 = .ok (.goto 1297, 3) := by decide +kernel
theorem dL_law_394 : decode cL_law 394 = .ok (.aload_n 1, 1) := by decide +kernel
theorem dL_law_395 : decode cL_law 395 = .ok (.aload_n 0, 1) := by decide +kernel
theorem dL_law_396 : decode cL_law 396 = .ok (.iload 4, 2) := by decide +kernel
theorem dL_law_398 : decode cL_law 398 = .ok (.iconst 1, 1) := by decide +kernel
theorem dL_law_399 : decode cL_law 399 = .ok (.iadd, 1) := by decide +kernel
theorem dL_law_400 : decode cL_law 400 = .ok (.iaload, 1) := by decide +kernel
theorem dL_law_401 : decode cL_law 401 = .ok (.aload_n 0, 1) := by decide +kernel
theorem dL_law_402 : decode cL_law 402 = .ok (.iload 4, 2) := by decide +kernel
theorem dL_law_404 : decode cL_law 404 = .ok (.iconst 2, 1) := by decide +kernel
theorem dL_law_405 : decode cL_law 405 = .ok (.iadd, 1) := by decide +kernel
theorem dL_law_406 : decode cL_law 406 = .ok (.iaload, 1) := by decide +kernel
theorem dL_law_407 : decode cL_law 407 = .ok (.aload_n 3, 1) := by decide +kernel
theorem dL_law_408 : decode cL_law 408 = .ok (.invokestatic 112, 3) := by decide +kernel
theorem dL_law_411 : decode cL_law 411 = .ok (.istore 5, 2) := by decide +kernel
theorem dL_law_413 : decode cL_law 413 = .ok (.aload_n 2, 1) := by decide +kernel
theorem dL_law_414 : decode cL_law 414 = .ok (.aload_n 0, 1) := by decide +kernel
theorem dL_law_415 : decode cL_law 415 = .ok (.iload 4, 2) := by decide +kernel
theorem dL_law_417 : decode cL_law 417 = .ok (.iconst 1, 1) := by decide +kernel
theorem dL_law_418 : decode cL_law 418 = .ok (.iadd, 1) := by decide +kernel
theorem dL_law_419 : decode cL_law 419 = .ok (.iaload, 1) := by decide +kernel
theorem dL_law_420 : decode cL_law 420 = .ok (.aload_n 0, 1) := by decide +kernel
theorem dL_law_421 : decode cL_law 421 = .ok (.iload 4, 2) := by decide +kernel
theorem dL_law_423 : decode cL_law 423 = .ok (.iconst 2, 1) := by decide +kernel
theorem dL_law_424 : decode cL_law 424 = .ok (.iadd, 1) := by decide +kernel
theorem dL_law_425 : decode cL_law 425 = .ok (.iaload, 1) := by decide +kernel
theorem dL_law_426 : decode cL_law 426 = .ok (.invokevirtual 115, 3) := by decide +kernel
theorem dL_law_429 : decode cL_law 429 = .ok (.istore 6, 2) := by decide +kernel
theorem dL_law_431 : decode cL_law 431 = .ok (.aload_n 2, 1) := by decide +kernel
theorem dL_law_432 : decode cL_law 432 = .ok (.invokevirtual 100, 3) := by decide +kernel
theorem dL_law_435 : decode cL_law 435 = .ok (.iload 5, 2) := by decide +kernel
theorem dL_law_437 : decode cL_law 437 = .ok (.if_icmp .eq 5, 3) := by decide +kernel
theorem dL_law_440 : decode cL_law 440 = .ok (.iconst 0, 1) := by decide +kernel
theorem dL_law_441 : decode cL_law 441 = .ok (.ireturn, 1) := by decide +kernel
theorem dL_law_442 : decode cL_law 442 = .ok (.iload 5, 2) := by decide +kernel
theorem dL_law_444 : decode cL_law 444 = .ok (.ifCond .ne 15, 3) := by decide +kernel
theorem dL_law_447 : decode cL_law 447 = .ok (.aload_n 3, 1) := by decide +kernel
theorem dL_law_448 : decode cL_law 448 = .ok (.iconst 0, 1) := by decide +kernel
theorem dL_law_449 : decode cL_law 449 = .ok (.laload, 1) := by decide +kernel
theorem dL_law_450 : decode cL_law 450 = .ok (.iload 6, 2) := by decide +kernel
theorem dL_law_452 : decode cL_law 452 = .ok (.i2l, 1) := by decide +kernel
theorem dL_law_453 : decode cL_law 453 = .ok (.lcmp, 1) := by decide +kernel
theorem dL_law_454 : decode cL_law 454 = .ok (.ifCond .eq 5, 3) := by decide +kernel
theorem dL_law_457 : decode cL_law 457 = .ok (.iconst 0, 1) := by decide +kernel
theorem dL_law_458 : decode cL_law 458 = .ok (.ireturn, 1) := by decide +kernel
theorem dL_law_459 : decode cL_law 459 = .ok (.goto 1229, 3) := by decide +kernel
theorem dL_law_462 : decode cL_law 462 = .ok (.aload_n 1, 1) := by decide +kernel
theorem dL_law_463 : decode cL_law 463 = .ok (.aload_n 0, 1) := by decide +kernel
theorem dL_law_464 : decode cL_law 464 = .ok (.iload 4, 2) := by decide +kernel
theorem dL_law_466 : decode cL_law 466 = .ok (.iconst 1, 1) := by decide +kernel
theorem dL_law_467 : decode cL_law 467 = .ok (.iadd, 1) := by decide +kernel
theorem dL_law_468 : decode cL_law 468 = .ok (.iaload, 1) := by decide +kernel
theorem dL_law_469 : decode cL_law 469 = .ok (.aload_n 0, 1) := by decide +kernel
theorem dL_law_470 : decode cL_law 470 = .ok (.iload 4, 2) := by decide +kernel
theorem dL_law_472 : decode cL_law 472 = .ok (.iconst 2, 1) := by decide +kernel
theorem dL_law_473 : decode cL_law 473 = .ok (.iadd, 1) := by decide +kernel
theorem dL_law_474 : decode cL_law 474 = .ok (.iaload, 1) := by decide +kernel
theorem dL_law_475 : decode cL_law 475 = .ok (.aload_n 3, 1) := by decide +kernel
theorem dL_law_476 : decode cL_law 476 = .ok (.invokestatic 116, 3) := by decide +kernel
theorem dL_law_479 : decode cL_law 479 = .ok (.istore 5, 2) := by decide +kernel
theorem dL_law_481 : decode cL_law 481 = .ok (.aload_n 2, 1) := by decide +kernel
theorem dL_law_482 : decode cL_law 482 = .ok (.aload_n 0, 1) := by decide +kernel
theorem dL_law_483 : decode cL_law 483 = .ok (.iload 4, 2) := by decide +kernel
theorem dL_law_485 : decode cL_law 485 = .ok (.iconst 1, 1) := by decide +kernel
theorem dL_law_486 : decode cL_law 486 = .ok (.iadd, 1) := by decide +kernel
theorem dL_law_487 : decode cL_law 487 = .ok (.iaload, 1) := by decide +kernel
theorem dL_law_488 : decode cL_law 488 = .ok (.aload_n 0, 1) := by decide +kernel
theorem dL_law_489 : decode cL_law 489 = .ok (.iload 4, 2) := by decide +kernel
theorem dL_law_491 : decode cL_law 491 = .ok (.iconst 2, 1) := by decide +kernel
theorem dL_law_492 : decode cL_law 492 = .ok (.iadd, 1) := by decide +kernel
theorem dL_law_493 : decode cL_law 493 = .ok (.iaload, 1) := by decide +kernel
theorem dL_law_494 : decode cL_law 494 = .ok (.invokevirtual 118, 3) := by decide +kernel
theorem dL_law_497 : decode cL_law 497 = .ok (.istore 6, 2) := by decide +kernel
theorem dL_law_499 : decode cL_law 499 = .ok (.aload_n 2, 1) := by decide +kernel
theorem dL_law_500 : decode cL_law 500 = .ok (.invokevirtual 100, 3) := by decide +kernel
theorem dL_law_503 : decode cL_law 503 = .ok (.iload 5, 2) := by decide +kernel
theorem dL_law_505 : decode cL_law 505 = .ok (.if_icmp .eq 5, 3) := by decide +kernel
theorem dL_law_508 : decode cL_law 508 = .ok (.iconst 0, 1) := by decide +kernel
theorem dL_law_509 : decode cL_law 509 = .ok (.ireturn, 1) := by decide +kernel
theorem dL_law_510 : decode cL_law 510 = .ok (.iload 5, 2) := by decide +kernel
theorem dL_law_512 : decode cL_law 512 = .ok (.ifCond .ne 15, 3) := by decide +kernel
theorem dL_law_515 : decode cL_law 515 = .ok (.aload_n 3, 1) := by decide +kernel
theorem dL_law_516 : decode cL_law 516 = .ok (.iconst 0, 1) := by decide +kernel
theorem dL_law_517 : decode cL_law 517 = .ok (.laload, 1) := by decide +kernel
theorem dL_law_518 : decode cL_law 518 = .ok (.iload 6, 2) := by decide +kernel
theorem dL_law_520 : decode cL_law 520 = .ok (.i2l, 1) := by decide +kernel
theorem dL_law_521 : decode cL_law 521 = .ok (.lcmp, 1) := by decide +kernel
theorem dL_law_522 : decode cL_law 522 = .ok (.ifCond .eq 5, 3) := by decide +kernel
theorem dL_law_525 : decode cL_law 525 = .ok (.iconst 0, 1) := by decide +kernel
theorem dL_law_526 : decode cL_law 526 = .ok (.ireturn, 1) := by decide +kernel
theorem dL_law_527 : decode cL_law 527 = .ok (.goto 1161, 3) := by decide +kernel
theorem dL_law_530 : decode cL_law 530 = .ok (.aload_n 1, 1) := by decide +kernel
theorem dL_law_531 : decode cL_law 531 = .ok (.aload_n 0, 1) := by decide +kernel
theorem dL_law_532 : decode cL_law 532 = .ok (.iload 4, 2) := by decide +kernel
theorem dL_law_534 : decode cL_law 534 = .ok (.iconst 1, 1) := by decide +kernel
theorem dL_law_535 : decode cL_law 535 = .ok (.iadd, 1) := by decide +kernel
theorem dL_law_536 : decode cL_law 536 = .ok (.iaload, 1) := by decide +kernel
theorem dL_law_537 : decode cL_law 537 = .ok (.aload_n 3, 1) := by decide +kernel
theorem dL_law_538 : decode cL_law 538 = .ok (.invokestatic 119, 3) := by decide +kernel
theorem dL_law_541 : decode cL_law 541 = .ok (.istore 5, 2) := by decide +kernel
theorem dL_law_543 : decode cL_law 543 = .ok (.aload_n 2, 1) := by decide +kernel
theorem dL_law_544 : decode cL_law 544 = .ok (.aload_n 0, 1) := by decide +kernel
theorem dL_law_545 : decode cL_law 545 = .ok (.iload 4, 2) := by decide +kernel
theorem dL_law_547 : decode cL_law 547 = .ok (.iconst 1, 1) := by decide +kernel
theorem dL_law_548 : decode cL_law 548 = .ok (.iadd, 1) := by decide +kernel
theorem dL_law_549 : decode cL_law 549 = .ok (.iaload, 1) := by decide +kernel
theorem dL_law_550 : decode cL_law 550 = .ok (.invokevirtual 121, 3) := by decide +kernel
theorem dL_law_553 : decode cL_law 553 = .ok (.istore 6, 2) := by decide +kernel
theorem dL_law_555 : decode cL_law 555 = .ok (.aload_n 2, 1) := by decide +kernel
theorem dL_law_556 : decode cL_law 556 = .ok (.invokevirtual 100, 3) := by decide +kernel
theorem dL_law_559 : decode cL_law 559 = .ok (.iload 5, 2) := by decide +kernel
theorem dL_law_561 : decode cL_law 561 = .ok (.if_icmp .eq 5, 3) := by decide +kernel
theorem dL_law_564 : decode cL_law 564 = .ok (.iconst 0, 1) := by decide +kernel
theorem dL_law_565 : decode cL_law 565 = .ok (.ireturn, 1) := by decide +kernel
theorem dL_law_566 : decode cL_law 566 = .ok (.iload 5, 2) := by decide +kernel
theorem dL_law_568 : decode cL_law 568 = .ok (.ifCond .ne 15, 3) := by decide +kernel
theorem dL_law_571 : decode cL_law 571 = .ok (.aload_n 3, 1) := by decide +kernel
theorem dL_law_572 : decode cL_law 572 = .ok (.iconst 0, 1) := by decide +kernel
theorem dL_law_573 : decode cL_law 573 = .ok (.laload, 1) := by decide +kernel
theorem dL_law_574 : decode cL_law 574 = .ok (.iload 6, 2) := by decide +kernel
theorem dL_law_576 : decode cL_law 576 = .ok (.i2l, 1) := by decide +kernel
theorem dL_law_577 : decode cL_law 577 = .ok (.lcmp, 1) := by decide +kernel
theorem dL_law_578 : decode cL_law 578 = .ok (.ifCond .eq 5, 3) := by decide +kernel
theorem dL_law_581 : decode cL_law 581 = .ok (.iconst 0, 1) := by decide +kernel
theorem dL_law_582 : decode cL_law 582 = .ok (.ireturn, 1) := by decide +kernel
theorem dL_law_583 : decode cL_law 583 = .ok (.goto 1105, 3) := by decide +kernel
theorem dL_law_586 : decode cL_law 586 = .ok (.aload_n 1, 1) := by decide +kernel
theorem dL_law_587 : decode cL_law 587 = .ok (.aload_n 0, 1) := by decide +kernel
theorem dL_law_588 : decode cL_law 588 = .ok (.iload 4, 2) := by decide +kernel
theorem dL_law_590 : decode cL_law 590 = .ok (.iconst 1, 1) := by decide +kernel
theorem dL_law_591 : decode cL_law 591 = .ok (.iadd, 1) := by decide +kernel
theorem dL_law_592 : decode cL_law 592 = .ok (.iaload, 1) := by decide +kernel
theorem dL_law_593 : decode cL_law 593 = .ok (.aload_n 3, 1) := by decide +kernel
theorem dL_law_594 : decode cL_law 594 = .ok (.invokestatic 122, 3) := by decide +kernel
theorem dL_law_597 : decode cL_law 597 = .ok (.istore 5, 2) := by decide +kernel
theorem dL_law_599 : decode cL_law 599 = .ok (.aload_n 2, 1) := by decide +kernel
theorem dL_law_600 : decode cL_law 600 = .ok (.aload_n 0, 1) := by decide +kernel
theorem dL_law_601 : decode cL_law 601 = .ok (.iload 4, 2) := by decide +kernel
theorem dL_law_603 : decode cL_law 603 = .ok (.iconst 1, 1) := by decide +kernel
theorem dL_law_604 : decode cL_law 604 = .ok (.iadd, 1) := by decide +kernel
theorem dL_law_605 : decode cL_law 605 = .ok (.iaload, 1) := by decide +kernel
theorem dL_law_606 : decode cL_law 606 = .ok (.invokevirtual 124, 3) := by decide +kernel
theorem dL_law_609 : decode cL_law 609 = .ok (.istore 6, 2) := by decide +kernel
theorem dL_law_611 : decode cL_law 611 = .ok (.aload_n 2, 1) := by decide +kernel
theorem dL_law_612 : decode cL_law 612 = .ok (.invokevirtual 100, 3) := by decide +kernel
theorem dL_law_615 : decode cL_law 615 = .ok (.iload 5, 2) := by decide +kernel
theorem dL_law_617 : decode cL_law 617 = .ok (.if_icmp .eq 5, 3) := by decide +kernel
theorem dL_law_620 : decode cL_law 620 = .ok (.iconst 0, 1) := by decide +kernel
theorem dL_law_621 : decode cL_law 621 = .ok (.ireturn, 1) := by decide +kernel
theorem dL_law_622 : decode cL_law 622 = .ok (.iload 5, 2) := by decide +kernel
theorem dL_law_624 : decode cL_law 624 = .ok (.ifCond .ne 15, 3) := by decide +kernel
theorem dL_law_627 : decode cL_law 627 = .ok (.aload_n 3, 1) := by decide +kernel
theorem dL_law_628 : decode cL_law 628 = .ok (.iconst 0, 1) := by decide +kernel
theorem dL_law_629 : decode cL_law 629 = .ok (.laload, 1) := by decide +kernel
theorem dL_law_630 : decode cL_law 630 = .ok (.iload 6, 2) := by decide +kernel
theorem dL_law_632 : decode cL_law 632 = .ok (.i2l, 1) := by decide +kernel
theorem dL_law_633 : decode cL_law 633 = .ok (.lcmp, 1) := by decide +kernel
theorem dL_law_634 : decode cL_law 634 = .ok (.ifCond .eq 5, 3) := by decide +kernel
theorem dL_law_637 : decode cL_law 637 = .ok (.iconst 0, 1) := by decide +kernel
theorem dL_law_638 : decode cL_law 638 = .ok (.ireturn, 1) := by decide +kernel
theorem dL_law_639 : decode cL_law 639 = .ok (.goto 1049, 3) := by decide +kernel
theorem dL_law_642 : decode cL_law 642 = .ok (.aload_n 1, 1) := by decide +kernel
theorem dL_law_643 : decode cL_law 643 = .ok (.invokevirtual 125, 3) := by decide +kernel
theorem dL_law_646 : decode cL_law 646 = .ok (.aload_n 2, 1) := by decide +kernel
theorem dL_law_647 : decode cL_law 647 = .ok (.invokevirtual 128, 3) := by decide +kernel
theorem dL_law_650 : decode cL_law 650 = .ok (.if_icmp .eq 1038, 3) := by decide +kernel
theorem dL_law_653 : decode cL_law 653 = .ok (.iconst 0, 1) := by decide +kernel
theorem dL_law_654 : decode cL_law 654 = .ok (.ireturn, 1) := by decide +kernel
theorem dL_law_655 : decode cL_law 655 = .ok (.aload_n 1, 1) := by decide +kernel
theorem dL_law_656 : decode cL_law 656 = .ok (.aload_n 0, 1) := by decide +kernel
theorem dL_law_657 : decode cL_law 657 = .ok (.iload 4, 2) := by decide +kernel
theorem dL_law_659 : decode cL_law 659 = .ok (.iconst 1, 1) := by decide +kernel
theorem dL_law_660 : decode cL_law 660 = .ok (.iadd, 1) := by decide +kernel
theorem dL_law_661 : decode cL_law 661 = .ok (.iaload, 1) := by decide +kernel
theorem dL_law_662 : decode cL_law 662 = .ok (.aload_n 3, 1) := by decide +kernel
theorem dL_law_663 : decode cL_law 663 = .ok (.invokestatic 129, 3) := by decide +kernel
theorem dL_law_666 : decode cL_law 666 = .ok (.istore 5, 2) := by decide +kernel
theorem dL_law_668 : decode cL_law 668 = .ok (.aload_n 2, 1) := by decide +kernel
theorem dL_law_669 : decode cL_law 669 = .ok (.aload_n 0, 1) := by decide +kernel
theorem dL_law_670 : decode cL_law 670 = .ok (.iload 4, 2) := by decide +kernel
theorem dL_law_672 : decode cL_law 672 = .ok (.iconst 1, 1) := by decide +kernel
theorem dL_law_673 : decode cL_law 673 = .ok (.iadd, 1) := by decide +kernel
theorem dL_law_674 : decode cL_law 674 = .ok (.iaload, 1) := by decide +kernel
theorem dL_law_675 : decode cL_law 675 = .ok (.invokevirtual 131, 3) := by decide +kernel
theorem dL_law_678 : decode cL_law 678 = .ok (.istore 6, 2) := by decide +kernel
theorem dL_law_680 : decode cL_law 680 = .ok (.aload_n 2, 1) := by decide +kernel
theorem dL_law_681 : decode cL_law 681 = .ok (.invokevirtual 100, 3) := by decide +kernel
theorem dL_law_684 : decode cL_law 684 = .ok (.iload 5, 2) := by decide +kernel
theorem dL_law_686 : decode cL_law 686 = .ok (.if_icmp .eq 5, 3) := by decide +kernel
theorem dL_law_689 : decode cL_law 689 = .ok (.iconst 0, 1) := by decide +kernel
theorem dL_law_690 : decode cL_law 690 = .ok (.ireturn, 1) := by decide +kernel
theorem dL_law_691 : decode cL_law 691 = .ok (.iload 5, 2) := by decide +kernel
theorem dL_law_693 : decode cL_law 693 = .ok (.ifCond .ne 15, 3) := by decide +kernel
theorem dL_law_696 : decode cL_law 696 = .ok (.aload_n 3, 1) := by decide +kernel
theorem dL_law_697 : decode cL_law 697 = .ok (.iconst 0, 1) := by decide +kernel
theorem dL_law_698 : decode cL_law 698 = .ok (.laload, 1) := by decide +kernel
theorem dL_law_699 : decode cL_law 699 = .ok (.iload 6, 2) := by decide +kernel
theorem dL_law_701 : decode cL_law 701 = .ok (.i2l, 1) := by decide +kernel
theorem dL_law_702 : decode cL_law 702 = .ok (.lcmp, 1) := by decide +kernel
theorem dL_law_703 : decode cL_law 703 = .ok (.ifCond .eq 5, 3) := by decide +kernel
theorem dL_law_706 : decode cL_law 706 = .ok (.iconst 0, 1) := by decide +kernel
theorem dL_law_707 : decode cL_law 707 = .ok (.ireturn, 1) := by decide +kernel
theorem dL_law_708 : decode cL_law 708 = .ok (.goto 980, 3) := by decide +kernel
theorem dL_law_711 : decode cL_law 711 = .ok (.aload_n 1, 1) := by decide +kernel
theorem dL_law_712 : decode cL_law 712 = .ok (.aload_n 0, 1) := by decide +kernel
theorem dL_law_713 : decode cL_law 713 = .ok (.iload 4, 2) := by decide +kernel
theorem dL_law_715 : decode cL_law 715 = .ok (.iconst 1, 1) := by decide +kernel
theorem dL_law_716 : decode cL_law 716 = .ok (.iadd, 1) := by decide +kernel
theorem dL_law_717 : decode cL_law 717 = .ok (.iaload, 1) := by decide +kernel
theorem dL_law_718 : decode cL_law 718 = .ok (.aload_n 0, 1) := by decide +kernel
theorem dL_law_719 : decode cL_law 719 = .ok (.iload 4, 2) := by decide +kernel
theorem dL_law_721 : decode cL_law 721 = .ok (.iconst 2, 1) := by decide +kernel
theorem dL_law_722 : decode cL_law 722 = .ok (.iadd, 1) := by decide +kernel
theorem dL_law_723 : decode cL_law 723 = .ok (.iaload, 1) := by decide +kernel
theorem dL_law_724 : decode cL_law 724 = .ok (.aload_n 0, 1) := by decide +kernel
theorem dL_law_725 : decode cL_law 725 = .ok (.iload 4, 2) := by decide +kernel
theorem dL_law_727 : decode cL_law 727 = .ok (.iconst 3, 1) := by decide +kernel
theorem dL_law_728 : decode cL_law 728 = .ok (.iadd, 1) := by decide +kernel
theorem dL_law_729 : decode cL_law 729 = .ok (.iaload, 1) := by decide +kernel
theorem dL_law_730 : decode cL_law 730 = .ok (.aload_n 3, 1) := by decide +kernel
theorem dL_law_731 : decode cL_law 731 = .ok (.invokestatic 132, 3) := by decide +kernel
theorem dL_law_734 : decode cL_law 734 = .ok (.istore 5, 2) := by decide +kernel
theorem dL_law_736 : decode cL_law 736 = .ok (.aload_n 2, 1) := by decide +kernel
theorem dL_law_737 : decode cL_law 737 = .ok (.aload_n 0, 1) := by decide +kernel
theorem dL_law_738 : decode cL_law 738 = .ok (.iload 4, 2) := by decide +kernel
theorem dL_law_740 : decode cL_law 740 = .ok (.iconst 1, 1) := by decide +kernel
theorem dL_law_741 : decode cL_law 741 = .ok (.iadd, 1) := by decide +kernel
theorem dL_law_742 : decode cL_law 742 = .ok (.iaload, 1) := by decide +kernel
theorem dL_law_743 : decode cL_law 743 = .ok (.aload_n 0, 1) := by decide +kernel
theorem dL_law_744 : decode cL_law 744 = .ok (.iload 4, 2) := by decide +kernel
theorem dL_law_746 : decode cL_law 746 = .ok (.iconst 2, 1) := by decide +kernel
theorem dL_law_747 : decode cL_law 747 = .ok (.iadd, 1) := by decide +kernel
theorem dL_law_748 : decode cL_law 748 = .ok (.iaload, 1) := by decide +kernel
theorem dL_law_749 : decode cL_law 749 = .ok (.aload_n 0, 1) := by decide +kernel
theorem dL_law_750 : decode cL_law 750 = .ok (.iload 4, 2) := by decide +kernel
theorem dL_law_752 : decode cL_law 752 = .ok (.iconst 3, 1) := by decide +kernel
theorem dL_law_753 : decode cL_law 753 = .ok (.iadd, 1) := by decide +kernel
theorem dL_law_754 : decode cL_law 754 = .ok (.iaload, 1) := by decide +kernel
theorem dL_law_755 : decode cL_law 755 = .ok (.invokevirtual 134, 3) := by decide +kernel
theorem dL_law_758 : decode cL_law 758 = .ok (.istore 6, 2) := by decide +kernel
theorem dL_law_760 : decode cL_law 760 = .ok (.aload_n 2, 1) := by decide +kernel
theorem dL_law_761 : decode cL_law 761 = .ok (.invokevirtual 100, 3) := by decide +kernel
theorem dL_law_764 : decode cL_law 764 = .ok (.iload 5, 2) := by decide +kernel
theorem dL_law_766 : decode cL_law 766 = .ok (.if_icmp .eq 5, 3) := by decide +kernel
theorem dL_law_769 : decode cL_law 769 = .ok (.iconst 0, 1) := by decide +kernel
theorem dL_law_770 : decode cL_law 770 = .ok (.ireturn, 1) := by decide +kernel
theorem dL_law_771 : decode cL_law 771 = .ok (.iload 5, 2) := by decide +kernel
theorem dL_law_773 : decode cL_law 773 = .ok (.ifCond .ne 15, 3) := by decide +kernel
theorem dL_law_776 : decode cL_law 776 = .ok (.aload_n 3, 1) := by decide +kernel
theorem dL_law_777 : decode cL_law 777 = .ok (.iconst 0, 1) := by decide +kernel
theorem dL_law_778 : decode cL_law 778 = .ok (.laload, 1) := by decide +kernel
theorem dL_law_779 : decode cL_law 779 = .ok (.iload 6, 2) := by decide +kernel
theorem dL_law_781 : decode cL_law 781 = .ok (.i2l, 1) := by decide +kernel
theorem dL_law_782 : decode cL_law 782 = .ok (.lcmp, 1) := by decide +kernel
theorem dL_law_783 : decode cL_law 783 = .ok (.ifCond .eq 5, 3) := by decide +kernel
theorem dL_law_786 : decode cL_law 786 = .ok (.iconst 0, 1) := by decide +kernel
theorem dL_law_787 : decode cL_law 787 = .ok (.ireturn, 1) := by decide +kernel
theorem dL_law_788 : decode cL_law 788 = .ok (.goto 900, 3) := by decide +kernel
theorem dL_law_791 : decode cL_law 791 = .ok (.aload_n 1, 1) := by decide +kernel
theorem dL_law_792 : decode cL_law 792 = .ok (.aload_n 0, 1) := by decide +kernel
theorem dL_law_793 : decode cL_law 793 = .ok (.iload 4, 2) := by decide +kernel
theorem dL_law_795 : decode cL_law 795 = .ok (.iconst 1, 1) := by decide +kernel
theorem dL_law_796 : decode cL_law 796 = .ok (.iadd, 1) := by decide +kernel
theorem dL_law_797 : decode cL_law 797 = .ok (.iaload, 1) := by decide +kernel
theorem dL_law_798 : decode cL_law 798 = .ok (.aload_n 0, 1) := by decide +kernel
theorem dL_law_799 : decode cL_law 799 = .ok (.iload 4, 2) := by decide +kernel
theorem dL_law_801 : decode cL_law 801 = .ok (.iconst 2, 1) := by decide +kernel
theorem dL_law_802 : decode cL_law 802 = .ok (.iadd, 1) := by decide +kernel
theorem dL_law_803 : decode cL_law 803 = .ok (.iaload, 1) := by decide +kernel
theorem dL_law_804 : decode cL_law 804 = .ok (.aload_n 3, 1) := by decide +kernel
theorem dL_law_805 : decode cL_law 805 = .ok (.invokestatic 135, 3) := by decide +kernel
theorem dL_law_808 : decode cL_law 808 = .ok (.istore 5, 2) := by decide +kernel
theorem dL_law_810 : decode cL_law 810 = .ok (.aload_n 2, 1) := by decide +kernel
theorem dL_law_811 : decode cL_law 811 = .ok (.aload_n 0, 1) := by decide +kernel
theorem dL_law_812 : decode cL_law 812 = .ok (.iload 4, 2) := by decide +kernel
theorem dL_law_814 : decode cL_law 814 = .ok (.iconst 1, 1) := by decide +kernel
theorem dL_law_815 : decode cL_law 815 = .ok (.iadd, 1) := by decide +kernel
theorem dL_law_816 : decode cL_law 816 = .ok (.iaload, 1) := by decide +kernel
theorem dL_law_817 : decode cL_law 817 = .ok (.aload_n 0, 1) := by decide +kernel
theorem dL_law_818 : decode cL_law 818 = .ok (.iload 4, 2) := by decide +kernel
theorem dL_law_820 : decode cL_law 820 = .ok (.iconst 2, 1) := by decide +kernel
theorem dL_law_821 : decode cL_law 821 = .ok (.iadd, 1) := by decide +kernel
theorem dL_law_822 : decode cL_law 822 = .ok (.iaload, 1) := by decide +kernel
theorem dL_law_823 : decode cL_law 823 = .ok (.invokevirtual 137, 3) := by decide +kernel
theorem dL_law_826 : decode cL_law 826 = .ok (.istore 6, 2) := by decide +kernel
theorem dL_law_828 : decode cL_law 828 = .ok (.aload_n 2, 1) := by decide +kernel
theorem dL_law_829 : decode cL_law 829 = .ok (.invokevirtual 100, 3) := by decide +kernel
theorem dL_law_832 : decode cL_law 832 = .ok (.iload 5, 2) := by decide +kernel
theorem dL_law_834 : decode cL_law 834 = .ok (.if_icmp .eq 5, 3) := by decide +kernel
theorem dL_law_837 : decode cL_law 837 = .ok (.iconst 0, 1) := by decide +kernel
theorem dL_law_838 : decode cL_law 838 = .ok (.ireturn, 1) := by decide +kernel
theorem dL_law_839 : decode cL_law 839 = .ok (.iload 5, 2) := by decide +kernel
theorem dL_law_841 : decode cL_law 841 = .ok (.ifCond .ne 15, 3) := by decide +kernel
theorem dL_law_844 : decode cL_law 844 = .ok (.aload_n 3, 1) := by decide +kernel
theorem dL_law_845 : decode cL_law 845 = .ok (.iconst 0, 1) := by decide +kernel
theorem dL_law_846 : decode cL_law 846 = .ok (.laload, 1) := by decide +kernel
theorem dL_law_847 : decode cL_law 847 = .ok (.iload 6, 2) := by decide +kernel
theorem dL_law_849 : decode cL_law 849 = .ok (.i2l, 1) := by decide +kernel
theorem dL_law_850 : decode cL_law 850 = .ok (.lcmp, 1) := by decide +kernel
theorem dL_law_851 : decode cL_law 851 = .ok (.ifCond .eq 5, 3) := by decide +kernel
theorem dL_law_854 : decode cL_law 854 = .ok (.iconst 0, 1) := by decide +kernel
theorem dL_law_855 : decode cL_law 855 = .ok (.ireturn, 1) := by decide +kernel
theorem dL_law_856 : decode cL_law 856 = .ok (.goto 832, 3) := by decide +kernel
theorem dL_law_859 : decode cL_law 859 = .ok (.aload_n 1, 1) := by decide +kernel
theorem dL_law_860 : decode cL_law 860 = .ok (.aload_n 0, 1) := by decide +kernel
theorem dL_law_861 : decode cL_law 861 = .ok (.iload 4, 2) := by decide +kernel
theorem dL_law_863 : decode cL_law 863 = .ok (.iconst 1, 1) := by decide +kernel
theorem dL_law_864 : decode cL_law 864 = .ok (.iadd, 1) := by decide +kernel
theorem dL_law_865 : decode cL_law 865 = .ok (.iaload, 1) := by decide +kernel
theorem dL_law_866 : decode cL_law 866 = .ok (.aload_n 0, 1) := by decide +kernel
theorem dL_law_867 : decode cL_law 867 = .ok (.iload 4, 2) := by decide +kernel
theorem dL_law_869 : decode cL_law 869 = .ok (.iconst 2, 1) := by decide +kernel
theorem dL_law_870 : decode cL_law 870 = .ok (.iadd, 1) := by decide +kernel
theorem dL_law_871 : decode cL_law 871 = .ok (.iaload, 1) := by decide +kernel
theorem dL_law_872 : decode cL_law 872 = .ok (.aload_n 3, 1) := by decide +kernel
theorem dL_law_873 : decode cL_law 873 = .ok (.invokestatic 138, 3) := by decide +kernel
theorem dL_law_876 : decode cL_law 876 = .ok (.istore 5, 2) := by decide +kernel
theorem dL_law_878 : decode cL_law 878 = .ok (.aload_n 2, 1) := by decide +kernel
theorem dL_law_879 : decode cL_law 879 = .ok (.aload_n 0, 1) := by decide +kernel
theorem dL_law_880 : decode cL_law 880 = .ok (.iload 4, 2) := by decide +kernel
theorem dL_law_882 : decode cL_law 882 = .ok (.iconst 1, 1) := by decide +kernel
theorem dL_law_883 : decode cL_law 883 = .ok (.iadd, 1) := by decide +kernel
theorem dL_law_884 : decode cL_law 884 = .ok (.iaload, 1) := by decide +kernel
theorem dL_law_885 : decode cL_law 885 = .ok (.aload_n 0, 1) := by decide +kernel
theorem dL_law_886 : decode cL_law 886 = .ok (.iload 4, 2) := by decide +kernel
theorem dL_law_888 : decode cL_law 888 = .ok (.iconst 2, 1) := by decide +kernel
theorem dL_law_889 : decode cL_law 889 = .ok (.iadd, 1) := by decide +kernel
theorem dL_law_890 : decode cL_law 890 = .ok (.iaload, 1) := by decide +kernel
theorem dL_law_891 : decode cL_law 891 = .ok (.invokevirtual 140, 3) := by decide +kernel
theorem dL_law_894 : decode cL_law 894 = .ok (.istore 6, 2) := by decide +kernel
theorem dL_law_896 : decode cL_law 896 = .ok (.aload_n 2, 1) := by decide +kernel
theorem dL_law_897 : decode cL_law 897 = .ok (.invokevirtual 100, 3) := by decide +kernel
theorem dL_law_900 : decode cL_law 900 = .ok (.iload 5, 2) := by decide +kernel
theorem dL_law_902 : decode cL_law 902 = .ok (.if_icmp .eq 5, 3) := by decide +kernel
theorem dL_law_905 : decode cL_law 905 = .ok (.iconst 0, 1) := by decide +kernel
theorem dL_law_906 : decode cL_law 906 = .ok (.ireturn, 1) := by decide +kernel
theorem dL_law_907 : decode cL_law 907 = .ok (.iload 5, 2) := by decide +kernel
theorem dL_law_909 : decode cL_law 909 = .ok (.ifCond .ne 15, 3) := by decide +kernel
theorem dL_law_912 : decode cL_law 912 = .ok (.aload_n 3, 1) := by decide +kernel
theorem dL_law_913 : decode cL_law 913 = .ok (.iconst 0, 1) := by decide +kernel
theorem dL_law_914 : decode cL_law 914 = .ok (.laload, 1) := by decide +kernel
theorem dL_law_915 : decode cL_law 915 = .ok (.iload 6, 2) := by decide +kernel
theorem dL_law_917 : decode cL_law 917 = .ok (.i2l, 1) := by decide +kernel
theorem dL_law_918 : decode cL_law 918 = .ok (.lcmp, 1) := by decide +kernel
theorem dL_law_919 : decode cL_law 919 = .ok (.ifCond .eq 5, 3) := by decide +kernel
theorem dL_law_922 : decode cL_law 922 = .ok (.iconst 0, 1) := by decide +kernel
theorem dL_law_923 : decode cL_law 923 = .ok (.ireturn, 1) := by decide +kernel
theorem dL_law_924 : decode cL_law 924 = .ok (.goto 764, 3) := by decide +kernel
theorem dL_law_927 : decode cL_law 927 = .ok (.aload_n 1, 1) := by decide +kernel
theorem dL_law_928 : decode cL_law 928 = .ok (.aload_n 0, 1) := by decide +kernel
theorem dL_law_929 : decode cL_law 929 = .ok (.iload 4, 2) := by decide +kernel
theorem dL_law_931 : decode cL_law 931 = .ok (.iconst 1, 1) := by decide +kernel
theorem dL_law_932 : decode cL_law 932 = .ok (.iadd, 1) := by decide +kernel
theorem dL_law_933 : decode cL_law 933 = .ok (.iaload, 1) := by decide +kernel
theorem dL_law_934 : decode cL_law 934 = .ok (.aload_n 3, 1) := by decide +kernel
theorem dL_law_935 : decode cL_law 935 = .ok (.invokestatic 141, 3) := by decide +kernel
theorem dL_law_938 : decode cL_law 938 = .ok (.istore 5, 2) := by decide +kernel
theorem dL_law_940 : decode cL_law 940 = .ok (.aload_n 2, 1) := by decide +kernel
theorem dL_law_941 : decode cL_law 941 = .ok (.aload_n 0, 1) := by decide +kernel
theorem dL_law_942 : decode cL_law 942 = .ok (.iload 4, 2) := by decide +kernel
theorem dL_law_944 : decode cL_law 944 = .ok (.iconst 1, 1) := by decide +kernel
theorem dL_law_945 : decode cL_law 945 = .ok (.iadd, 1) := by decide +kernel
theorem dL_law_946 : decode cL_law 946 = .ok (.iaload, 1) := by decide +kernel
theorem dL_law_947 : decode cL_law 947 = .ok (.invokevirtual 143, 3) := by decide +kernel
theorem dL_law_950 : decode cL_law 950 = .ok (.istore 6, 2) := by decide +kernel
theorem dL_law_952 : decode cL_law 952 = .ok (.aload_n 2, 1) := by decide +kernel
theorem dL_law_953 : decode cL_law 953 = .ok (.invokevirtual 100, 3) := by decide +kernel
theorem dL_law_956 : decode cL_law 956 = .ok (.iload 5, 2) := by decide +kernel
theorem dL_law_958 : decode cL_law 958 = .ok (.if_icmp .eq 5, 3) := by decide +kernel
theorem dL_law_961 : decode cL_law 961 = .ok (.iconst 0, 1) := by decide +kernel
theorem dL_law_962 : decode cL_law 962 = .ok (.ireturn, 1) := by decide +kernel
theorem dL_law_963 : decode cL_law 963 = .ok (.iload 5, 2) := by decide +kernel
theorem dL_law_965 : decode cL_law 965 = .ok (.ifCond .ne 15, 3) := by decide +kernel
theorem dL_law_968 : decode cL_law 968 = .ok (.aload_n 3, 1) := by decide +kernel
theorem dL_law_969 : decode cL_law 969 = .ok (.iconst 0, 1) := by decide +kernel
theorem dL_law_970 : decode cL_law 970 = .ok (.laload, 1) := by decide +kernel
theorem dL_law_971 : decode cL_law 971 = .ok (.iload 6, 2) := by decide +kernel
theorem dL_law_973 : decode cL_law 973 = .ok (.i2l, 1) := by decide +kernel
theorem dL_law_974 : decode cL_law 974 = .ok (.lcmp, 1) := by decide +kernel
theorem dL_law_975 : decode cL_law 975 = .ok (.ifCond .eq 5, 3) := by decide +kernel
theorem dL_law_978 : decode cL_law 978 = .ok (.iconst 0, 1) := by decide +kernel
theorem dL_law_979 : decode cL_law 979 = .ok (.ireturn, 1) := by decide +kernel
theorem dL_law_980 : decode cL_law 980 = .ok (.goto 708, 3) := by decide +kernel
theorem dL_law_983 : decode cL_law 983 = .ok (.aload_n 1, 1) := by decide +kernel
theorem dL_law_984 : decode cL_law 984 = .ok (.aload_n 0, 1) := by decide +kernel
theorem dL_law_985 : decode cL_law 985 = .ok (.iload 4, 2) := by decide +kernel
theorem dL_law_987 : decode cL_law 987 = .ok (.iconst 1, 1) := by decide +kernel
theorem dL_law_988 : decode cL_law 988 = .ok (.iadd, 1) := by decide +kernel
theorem dL_law_989 : decode cL_law 989 = .ok (.iaload, 1) := by decide +kernel
theorem dL_law_990 : decode cL_law 990 = .ok (.aload_n 0, 1) := by decide +kernel
theorem dL_law_991 : decode cL_law 991 = .ok (.iload 4, 2) := by decide +kernel
theorem dL_law_993 : decode cL_law 993 = .ok (.iconst 2, 1) := by decide +kernel
theorem dL_law_994 : decode cL_law 994 = .ok (.iadd, 1) := by decide +kernel
theorem dL_law_995 : decode cL_law 995 = .ok (.iaload, 1) := by decide +kernel
theorem dL_law_996 : decode cL_law 996 = .ok (.aload_n 3, 1) := by decide +kernel
theorem dL_law_997 : decode cL_law 997 = .ok (.invokestatic 144, 3) := by decide +kernel
theorem dL_law_1000 : decode cL_law 1000 = .ok (.istore 5, 2) := by decide +kernel
theorem dL_law_1002 : decode cL_law 1002 = .ok (.aload_n 2, 1) := by decide +kernel
theorem dL_law_1003 : decode cL_law 1003 = .ok (.aload_n 0, 1) := by decide +kernel
theorem dL_law_1004 : decode cL_law 1004 = .ok (.iload 4, 2) := by decide +kernel
theorem dL_law_1006 : decode cL_law 1006 = .ok (.iconst 1, 1) := by decide +kernel
theorem dL_law_1007 : decode cL_law 1007 = .ok (.iadd, 1) := by decide +kernel
theorem dL_law_1008 : decode cL_law 1008 = .ok (.iaload, 1) := by decide +kernel
theorem dL_law_1009 : decode cL_law 1009 = .ok (.aload_n 0, 1) := by decide +kernel
theorem dL_law_1010 : decode cL_law 1010 = .ok (.iload 4, 2) := by decide +kernel
theorem dL_law_1012 : decode cL_law 1012 = .ok (.iconst 2, 1) := by decide +kernel
theorem dL_law_1013 : decode cL_law 1013 = .ok (.iadd, 1) := by decide +kernel
theorem dL_law_1014 : decode cL_law 1014 = .ok (.iaload, 1) := by decide +kernel
theorem dL_law_1015 : decode cL_law 1015 = .ok (.invokevirtual 146, 3) := by decide +kernel
theorem dL_law_1018 : decode cL_law 1018 = .ok (.istore 6, 2) := by decide +kernel
theorem dL_law_1020 : decode cL_law 1020 = .ok (.aload_n 2, 1) := by decide +kernel
theorem dL_law_1021 : decode cL_law 1021 = .ok (.invokevirtual 100, 3) := by decide +kernel
theorem dL_law_1024 : decode cL_law 1024 = .ok (.iload 5, 2) := by decide +kernel
theorem dL_law_1026 : decode cL_law 1026 = .ok (.if_icmp .eq 5, 3) := by decide +kernel
theorem dL_law_1029 : decode cL_law 1029 = .ok (.iconst 0, 1) := by decide +kernel
theorem dL_law_1030 : decode cL_law 1030 = .ok (.ireturn, 1) := by decide +kernel
theorem dL_law_1031 : decode cL_law 1031 = .ok (.iload 5, 2) := by decide +kernel
theorem dL_law_1033 : decode cL_law 1033 = .ok (.ifCond .ne 15, 3) := by decide +kernel
theorem dL_law_1036 : decode cL_law 1036 = .ok (.aload_n 3, 1) := by decide +kernel
theorem dL_law_1037 : decode cL_law 1037 = .ok (.iconst 0, 1) := by decide +kernel
theorem dL_law_1038 : decode cL_law 1038 = .ok (.laload, 1) := by decide +kernel
theorem dL_law_1039 : decode cL_law 1039 = .ok (.iload 6, 2) := by decide +kernel
theorem dL_law_1041 : decode cL_law 1041 = .ok (.i2l, 1) := by decide +kernel
theorem dL_law_1042 : decode cL_law 1042 = .ok (.lcmp, 1) := by decide +kernel
theorem dL_law_1043 : decode cL_law 1043 = .ok (.ifCond .eq 5, 3) := by decide +kernel
theorem dL_law_1046 : decode cL_law 1046 = .ok (.iconst 0, 1) := by decide +kernel
theorem dL_law_1047 : decode cL_law 1047 = .ok (.ireturn, 1) := by decide +kernel
theorem dL_law_1048 : decode cL_law 1048 = .ok (.goto 640, 3) := by decide +kernel
theorem dL_law_1051 : decode cL_law 1051 = .ok (.aload_n 1, 1) := by decide +kernel
theorem dL_law_1052 : decode cL_law 1052 = .ok (.aload_n 0, 1) := by decide +kernel
theorem dL_law_1053 : decode cL_law 1053 = .ok (.iload 4, 2) := by decide +kernel
theorem dL_law_1055 : decode cL_law 1055 = .ok (.iconst 1, 1) := by decide +kernel
theorem dL_law_1056 : decode cL_law 1056 = .ok (.iadd, 1) := by decide +kernel
theorem dL_law_1057 : decode cL_law 1057 = .ok (.iaload, 1) := by decide +kernel
theorem dL_law_1058 : decode cL_law 1058 = .ok (.aload_n 3, 1) := by decide +kernel
theorem dL_law_1059 : decode cL_law 1059 = .ok (.invokestatic 147, 3) := by decide +kernel
theorem dL_law_1062 : decode cL_law 1062 = .ok (.istore 5, 2) := by decide +kernel
theorem dL_law_1064 : decode cL_law 1064 = .ok (.aload_n 2, 1) := by decide +kernel
theorem dL_law_1065 : decode cL_law 1065 = .ok (.aload_n 0, 1) := by decide +kernel
theorem dL_law_1066 : decode cL_law 1066 = .ok (.iload 4, 2) := by decide +kernel
theorem dL_law_1068 : decode cL_law 1068 = .ok (.iconst 1, 1) := by decide +kernel
theorem dL_law_1069 : decode cL_law 1069 = .ok (.iadd, 1) := by decide +kernel
theorem dL_law_1070 : decode cL_law 1070 = .ok (.iaload, 1) := by decide +kernel
theorem dL_law_1071 : decode cL_law 1071 = .ok (.invokevirtual 149, 3) := by decide +kernel
theorem dL_law_1074 : decode cL_law 1074 = .ok (.istore 6, 2) := by decide +kernel
theorem dL_law_1076 : decode cL_law 1076 = .ok (.aload_n 2, 1) := by decide +kernel
theorem dL_law_1077 : decode cL_law 1077 = .ok (.invokevirtual 100, 3) := by decide +kernel
theorem dL_law_1080 : decode cL_law 1080 = .ok (.iload 5, 2) := by decide +kernel
theorem dL_law_1082 : decode cL_law 1082 = .ok (.if_icmp .eq 5, 3) := by decide +kernel
theorem dL_law_1085 : decode cL_law 1085 = .ok (.iconst 0, 1) := by decide +kernel
theorem dL_law_1086 : decode cL_law 1086 = .ok (.ireturn, 1) := by decide +kernel
theorem dL_law_1087 : decode cL_law 1087 = .ok (.iload 5, 2) := by decide +kernel
theorem dL_law_1089 : decode cL_law 1089 = .ok (.ifCond .ne 15, 3) := by decide +kernel
theorem dL_law_1092 : decode cL_law 1092 = .ok (.aload_n 3, 1) := by decide +kernel
theorem dL_law_1093 : decode cL_law 1093 = .ok (.iconst 0, 1) := by decide +kernel
theorem dL_law_1094 : decode cL_law 1094 = .ok (.laload, 1) := by decide +kernel
theorem dL_law_1095 : decode cL_law 1095 = .ok (.iload 6, 2) := by decide +kernel
theorem dL_law_1097 : decode cL_law 1097 = .ok (.i2l, 1) := by decide +kernel
theorem dL_law_1098 : decode cL_law 1098 = .ok (.lcmp, 1) := by decide +kernel
theorem dL_law_1099 : decode cL_law 1099 = .ok (.ifCond .eq 5, 3) := by decide +kernel
theorem dL_law_1102 : decode cL_law 1102 = .ok (.iconst 0, 1) := by decide +kernel
theorem dL_law_1103 : decode cL_law 1103 = .ok (.ireturn, 1) := by decide +kernel
theorem dL_law_1104 : decode cL_law 1104 = .ok (.goto 584, 3) := by decide +kernel
theorem dL_law_1107 : decode cL_law 1107 = .ok (.aload_n 1, 1) := by decide +kernel
theorem dL_law_1108 : decode cL_law 1108 = .ok (.aload_n 0, 1) := by decide +kernel
theorem dL_law_1109 : decode cL_law 1109 = .ok (.iload 4, 2) := by decide +kernel
theorem dL_law_1111 : decode cL_law 1111 = .ok (.iconst 1, 1) := by decide +kernel
theorem dL_law_1112 : decode cL_law 1112 = .ok (.iadd, 1) := by decide +kernel
theorem dL_law_1113 : decode cL_law 1113 = .ok (.iaload, 1) := by decide +kernel
theorem dL_law_1114 : decode cL_law 1114 = .ok (.aload_n 3, 1) := by decide +kernel
theorem dL_law_1115 : decode cL_law 1115 = .ok (.invokestatic 150, 3) := by decide +kernel
theorem dL_law_1118 : decode cL_law 1118 = .ok (.istore 5, 2) := by decide +kernel
theorem dL_law_1120 : decode cL_law 1120 = .ok (.aload_n 2, 1) := by decide +kernel
theorem dL_law_1121 : decode cL_law 1121 = .ok (.aload_n 0, 1) := by decide +kernel
theorem dL_law_1122 : decode cL_law 1122 = .ok (.iload 4, 2) := by decide +kernel
theorem dL_law_1124 : decode cL_law 1124 = .ok (.iconst 1, 1) := by decide +kernel
theorem dL_law_1125 : decode cL_law 1125 = .ok (.iadd, 1) := by decide +kernel
theorem dL_law_1126 : decode cL_law 1126 = .ok (.iaload, 1) := by decide +kernel
theorem dL_law_1127 : decode cL_law 1127 = .ok (.invokevirtual 152, 3) := by decide +kernel
theorem dL_law_1130 : decode cL_law 1130 = .ok (.istore 6, 2) := by decide +kernel
theorem dL_law_1132 : decode cL_law 1132 = .ok (.aload_n 2, 1) := by decide +kernel
theorem dL_law_1133 : decode cL_law 1133 = .ok (.invokevirtual 100, 3) := by decide +kernel
theorem dL_law_1136 : decode cL_law 1136 = .ok (.iload 5, 2) := by decide +kernel
theorem dL_law_1138 : decode cL_law 1138 = .ok (.if_icmp .eq 5, 3) := by decide +kernel
theorem dL_law_1141 : decode cL_law 1141 = .ok (.iconst 0, 1) := by decide +kernel
theorem dL_law_1142 : decode cL_law 1142 = .ok (.ireturn, 1) := by decide +kernel
theorem dL_law_1143 : decode cL_law 1143 = .ok (.iload 5, 2) := by decide +kernel
theorem dL_law_1145 : decode cL_law 1145 = .ok (.ifCond .ne 15, 3) := by decide +kernel
theorem dL_law_1148 : decode cL_law 1148 = .ok (.aload_n 3, 1) := by decide +kernel
theorem dL_law_1149 : decode cL_law 1149 = .ok (.iconst 0, 1) := by decide +kernel
theorem dL_law_1150 : decode cL_law 1150 = .ok (.laload, 1) := by decide +kernel
theorem dL_law_1151 : decode cL_law 1151 = .ok (.iload 6, 2) := by decide +kernel
theorem dL_law_1153 : decode cL_law 1153 = .ok (.i2l, 1) := by decide +kernel
theorem dL_law_1154 : decode cL_law 1154 = .ok (.lcmp, 1) := by decide +kernel
theorem dL_law_1155 : decode cL_law 1155 = .ok (.ifCond .eq 5, 3) := by decide +kernel
theorem dL_law_1158 : decode cL_law 1158 = .ok (.iconst 0, 1) := by decide +kernel
theorem dL_law_1159 : decode cL_law 1159 = .ok (.ireturn, 1) := by decide +kernel
theorem dL_law_1160 : decode cL_law 1160 = .ok (.goto 528, 3) := by decide +kernel
theorem dL_law_1163 : decode cL_law 1163 = .ok (.aload_n 1, 1) := by decide +kernel
theorem dL_law_1164 : decode cL_law 1164 = .ok (.aload_n 0, 1) := by decide +kernel
theorem dL_law_1165 : decode cL_law 1165 = .ok (.iload 4, 2) := by decide +kernel
theorem dL_law_1167 : decode cL_law 1167 = .ok (.iconst 1, 1) := by decide +kernel
theorem dL_law_1168 : decode cL_law 1168 = .ok (.iadd, 1) := by decide +kernel
theorem dL_law_1169 : decode cL_law 1169 = .ok (.iaload, 1) := by decide +kernel
theorem dL_law_1170 : decode cL_law 1170 = .ok (.aload_n 3, 1) := by decide +kernel
theorem dL_law_1171 : decode cL_law 1171 = .ok (.invokestatic 153, 3) := by decide +kernel
theorem dL_law_1174 : decode cL_law 1174 = .ok (.istore 5, 2) := by decide +kernel
theorem dL_law_1176 : decode cL_law 1176 = .ok (.aload_n 2, 1) := by decide +kernel
theorem dL_law_1177 : decode cL_law 1177 = .ok (.aload_n 0, 1) := by decide +kernel
theorem dL_law_1178 : decode cL_law 1178 = .ok (.iload 4, 2) := by decide +kernel
theorem dL_law_1180 : decode cL_law 1180 = .ok (.iconst 1, 1) := by decide +kernel
theorem dL_law_1181 : decode cL_law 1181 = .ok (.iadd, 1) := by decide +kernel
theorem dL_law_1182 : decode cL_law 1182 = .ok (.iaload, 1) := by decide +kernel
theorem dL_law_1183 : decode cL_law 1183 = .ok (.invokevirtual 155, 3) := by decide +kernel
theorem dL_law_1186 : decode cL_law 1186 = .ok (.istore 6, 2) := by decide +kernel
theorem dL_law_1188 : decode cL_law 1188 = .ok (.aload_n 2, 1) := by decide +kernel
theorem dL_law_1189 : decode cL_law 1189 = .ok (.invokevirtual 100, 3) := by decide +kernel
theorem dL_law_1192 : decode cL_law 1192 = .ok (.iload 5, 2) := by decide +kernel
theorem dL_law_1194 : decode cL_law 1194 = .ok (.if_icmp .eq 5, 3) := by decide +kernel
theorem dL_law_1197 : decode cL_law 1197 = .ok (.iconst 0, 1) := by decide +kernel
theorem dL_law_1198 : decode cL_law 1198 = .ok (.ireturn, 1) := by decide +kernel
theorem dL_law_1199 : decode cL_law 1199 = .ok (.iload 5, 2) := by decide +kernel
theorem dL_law_1201 : decode cL_law 1201 = .ok (.ifCond .ne 15, 3) := by decide +kernel
theorem dL_law_1204 : decode cL_law 1204 = .ok (.aload_n 3, 1) := by decide +kernel
theorem dL_law_1205 : decode cL_law 1205 = .ok (.iconst 0, 1) := by decide +kernel
theorem dL_law_1206 : decode cL_law 1206 = .ok (.laload, 1) := by decide +kernel
theorem dL_law_1207 : decode cL_law 1207 = .ok (.iload 6, 2) := by decide +kernel
theorem dL_law_1209 : decode cL_law 1209 = .ok (.i2l, 1) := by decide +kernel
theorem dL_law_1210 : decode cL_law 1210 = .ok (.lcmp, 1) := by decide +kernel
theorem dL_law_1211 : decode cL_law 1211 = .ok (.ifCond .eq 5, 3) := by decide +kernel
theorem dL_law_1214 : decode cL_law 1214 = .ok (.iconst 0, 1) := by decide +kernel
theorem dL_law_1215 : decode cL_law 1215 = .ok (.ireturn, 1) := by decide +kernel
theorem dL_law_1216 : decode cL_law 1216 = .ok (.goto 472, 3) := by decide +kernel
theorem dL_law_1219 : decode cL_law 1219 = .ok (.aload_n 1, 1) := by decide +kernel
theorem dL_law_1220 : decode cL_law 1220 = .ok (.aload_n 0, 1) := by decide +kernel
theorem dL_law_1221 : decode cL_law 1221 = .ok (.iload 4, 2) := by decide +kernel
theorem dL_law_1223 : decode cL_law 1223 = .ok (.iconst 1, 1) := by decide +kernel
theorem dL_law_1224 : decode cL_law 1224 = .ok (.iadd, 1) := by decide +kernel
theorem dL_law_1225 : decode cL_law 1225 = .ok (.iaload, 1) := by decide +kernel
theorem dL_law_1226 : decode cL_law 1226 = .ok (.aload_n 0, 1) := by decide +kernel
theorem dL_law_1227 : decode cL_law 1227 = .ok (.iload 4, 2) := by decide +kernel
theorem dL_law_1229 : decode cL_law 1229 = .ok (.iconst 2, 1) := by decide +kernel
theorem dL_law_1230 : decode cL_law 1230 = .ok (.iadd, 1) := by decide +kernel
theorem dL_law_1231 : decode cL_law 1231 = .ok (.iaload, 1) := by decide +kernel
theorem dL_law_1232 : decode cL_law 1232 = .ok (.aload_n 3, 1) := by decide +kernel
theorem dL_law_1233 : decode cL_law 1233 = .ok (.invokestatic 156, 3) := by decide +kernel
theorem dL_law_1236 : decode cL_law 1236 = .ok (.istore 5, 2) := by decide +kernel
theorem dL_law_1238 : decode cL_law 1238 = .ok (.aload_n 2, 1) := by decide +kernel
theorem dL_law_1239 : decode cL_law 1239 = .ok (.aload_n 0, 1) := by decide +kernel
theorem dL_law_1240 : decode cL_law 1240 = .ok (.iload 4, 2) := by decide +kernel
theorem dL_law_1242 : decode cL_law 1242 = .ok (.iconst 1, 1) := by decide +kernel
theorem dL_law_1243 : decode cL_law 1243 = .ok (.iadd, 1) := by decide +kernel
theorem dL_law_1244 : decode cL_law 1244 = .ok (.iaload, 1) := by decide +kernel
theorem dL_law_1245 : decode cL_law 1245 = .ok (.aload_n 0, 1) := by decide +kernel
theorem dL_law_1246 : decode cL_law 1246 = .ok (.iload 4, 2) := by decide +kernel
theorem dL_law_1248 : decode cL_law 1248 = .ok (.iconst 2, 1) := by decide +kernel
theorem dL_law_1249 : decode cL_law 1249 = .ok (.iadd, 1) := by decide +kernel
theorem dL_law_1250 : decode cL_law 1250 = .ok (.iaload, 1) := by decide +kernel
theorem dL_law_1251 : decode cL_law 1251 = .ok (.invokevirtual 158, 3) := by decide +kernel
theorem dL_law_1254 : decode cL_law 1254 = .ok (.istore 6, 2) := by decide +kernel
theorem dL_law_1256 : decode cL_law 1256 = .ok (.aload_n 2, 1) := by decide +kernel
theorem dL_law_1257 : decode cL_law 1257 = .ok (.invokevirtual 100, 3) := by decide +kernel
theorem dL_law_1260 : decode cL_law 1260 = .ok (.iload 5, 2) := by decide +kernel
theorem dL_law_1262 : decode cL_law 1262 = .ok (.if_icmp .eq 5, 3) := by decide +kernel
theorem dL_law_1265 : decode cL_law 1265 = .ok (.iconst 0, 1) := by decide +kernel
theorem dL_law_1266 : decode cL_law 1266 = .ok (.ireturn, 1) := by decide +kernel
theorem dL_law_1267 : decode cL_law 1267 = .ok (.iload 5, 2) := by decide +kernel
theorem dL_law_1269 : decode cL_law 1269 = .ok (.ifCond .ne 15, 3) := by decide +kernel
theorem dL_law_1272 : decode cL_law 1272 = .ok (.aload_n 3, 1) := by decide +kernel
theorem dL_law_1273 : decode cL_law 1273 = .ok (.iconst 0, 1) := by decide +kernel
theorem dL_law_1274 : decode cL_law 1274 = .ok (.laload, 1) := by decide +kernel
theorem dL_law_1275 : decode cL_law 1275 = .ok (.iload 6, 2) := by decide +kernel
theorem dL_law_1277 : decode cL_law 1277 = .ok (.i2l, 1) := by decide +kernel
theorem dL_law_1278 : decode cL_law 1278 = .ok (.lcmp, 1) := by decide +kernel
theorem dL_law_1279 : decode cL_law 1279 = .ok (.ifCond .eq 5, 3) := by decide +kernel
theorem dL_law_1282 : decode cL_law 1282 = .ok (.iconst 0, 1) := by decide +kernel
theorem dL_law_1283 : decode cL_law 1283 = .ok (.ireturn, 1) := by decide +kernel
theorem dL_law_1284 : decode cL_law 1284 = .ok (.goto 404, 3) := by decide +kernel
theorem dL_law_1287 : decode cL_law 1287 = .ok (.aload_n 1, 1) := by decide +kernel
theorem dL_law_1288 : decode cL_law 1288 = .ok (.aload_n 0, 1) := by decide +kernel
theorem dL_law_1289 : decode cL_law 1289 = .ok (.iload 4, 2) := by decide +kernel
theorem dL_law_1291 : decode cL_law 1291 = .ok (.iconst 1, 1) := by decide +kernel
theorem dL_law_1292 : decode cL_law 1292 = .ok (.iadd, 1) := by decide +kernel
theorem dL_law_1293 : decode cL_law 1293 = .ok (.iaload, 1) := by decide +kernel
theorem dL_law_1294 : decode cL_law 1294 = .ok (.aload_n 3, 1) := by decide +kernel
theorem dL_law_1295 : decode cL_law 1295 = .ok (.invokestatic 159, 3) := by decide +kernel
theorem dL_law_1298 : decode cL_law 1298 = .ok (.istore 5, 2) := by decide +kernel
theorem dL_law_1300 : decode cL_law 1300 = .ok (.aload_n 2, 1) := by decide +kernel
theorem dL_law_1301 : decode cL_law 1301 = .ok (.aload_n 0, 1) := by decide +kernel
theorem dL_law_1302 : decode cL_law 1302 = .ok (.iload 4, 2) := by decide +kernel
theorem dL_law_1304 : decode cL_law 1304 = .ok (.iconst 1, 1) := by decide +kernel
theorem dL_law_1305 : decode cL_law 1305 = .ok (.iadd, 1) := by decide +kernel
theorem dL_law_1306 : decode cL_law 1306 = .ok (.iaload, 1) := by decide +kernel
theorem dL_law_1307 : decode cL_law 1307 = .ok (.invokevirtual 161, 3) := by decide +kernel
theorem dL_law_1310 : decode cL_law 1310 = .ok (.istore 6, 2) := by decide +kernel
theorem dL_law_1312 : decode cL_law 1312 = .ok (.aload_n 2, 1) := by decide +kernel
theorem dL_law_1313 : decode cL_law 1313 = .ok (.invokevirtual 100, 3) := by decide +kernel
theorem dL_law_1316 : decode cL_law 1316 = .ok (.iload 5, 2) := by decide +kernel
theorem dL_law_1318 : decode cL_law 1318 = .ok (.if_icmp .eq 5, 3) := by decide +kernel
theorem dL_law_1321 : decode cL_law 1321 = .ok (.iconst 0, 1) := by decide +kernel
theorem dL_law_1322 : decode cL_law 1322 = .ok (.ireturn, 1) := by decide +kernel
theorem dL_law_1323 : decode cL_law 1323 = .ok (.iload 5, 2) := by decide +kernel
theorem dL_law_1325 : decode cL_law 1325 = .ok (.ifCond .ne 15, 3) := by decide +kernel
theorem dL_law_1328 : decode cL_law 1328 = .ok (.aload_n 3, 1) := by decide +kernel
theorem dL_law_1329 : decode cL_law 1329 = .ok (.iconst 0, 1) := by decide +kernel
theorem dL_law_1330 : decode cL_law 1330 = .ok (.laload, 1) := by decide +kernel
theorem dL_law_1331 : decode cL_law 1331 = .ok (.iload 6, 2) := by decide +kernel
theorem dL_law_1333 : decode cL_law 1333 = .ok (.i2l, 1) := by decide +kernel
theorem dL_law_1334 : decode cL_law 1334 = .ok (.lcmp, 1) := by decide +kernel
theorem dL_law_1335 : decode cL_law 1335 = .ok (.ifCond .eq 5, 3) := by decide +kernel
theorem dL_law_1338 : decode cL_law 1338 = .ok (.iconst 0, 1) := by decide +kernel
theorem dL_law_1339 : decode cL_law 1339 = .ok (.ireturn, 1) := by decide +kernel
theorem dL_law_1340 : decode cL_law 1340 = .ok (.goto 348, 3) := by decide +kernel
theorem dL_law_1343 : decode cL_law 1343 = .ok (.aload_n 1, 1) := by decide +kernel
theorem dL_law_1344 : decode cL_law 1344 = .ok (.aload_n 0, 1) := by decide +kernel
theorem dL_law_1345 : decode cL_law 1345 = .ok (.iload 4, 2) := by decide +kernel
theorem dL_law_1347 : decode cL_law 1347 = .ok (.iconst 1, 1) := by decide +kernel
theorem dL_law_1348 : decode cL_law 1348 = .ok (.iadd, 1) := by decide +kernel
theorem dL_law_1349 : decode cL_law 1349 = .ok (.iaload, 1) := by decide +kernel
theorem dL_law_1350 : decode cL_law 1350 = .ok (.aload_n 3, 1) := by decide +kernel
theorem dL_law_1351 : decode cL_law 1351 = .ok (.invokestatic 162, 3) := by decide +kernel
theorem dL_law_1354 : decode cL_law 1354 = .ok (.istore 5, 2) := by decide +kernel
theorem dL_law_1356 : decode cL_law 1356 = .ok (.aload_n 2, 1) := by decide +kernel
theorem dL_law_1357 : decode cL_law 1357 = .ok (.aload_n 0, 1) := by decide +kernel
theorem dL_law_1358 : decode cL_law 1358 = .ok (.iload 4, 2) := by decide +kernel
theorem dL_law_1360 : decode cL_law 1360 = .ok (.iconst 1, 1) := by decide +kernel
theorem dL_law_1361 : decode cL_law 1361 = .ok (.iadd, 1) := by decide +kernel
theorem dL_law_1362 : decode cL_law 1362 = .ok (.iaload, 1) := by decide +kernel
theorem dL_law_1363 : decode cL_law 1363 = .ok (.invokevirtual 164, 3) := by decide +kernel
theorem dL_law_1366 : decode cL_law 1366 = .ok (.istore 6, 2) := by decide +kernel
theorem dL_law_1368 : decode cL_law 1368 = .ok (.aload_n 2, 1) := by decide +kernel
theorem dL_law_1369 : decode cL_law 1369 = .ok (.invokevirtual 100, 3) := by decide +kernel
theorem dL_law_1372 : decode cL_law 1372 = .ok (.iload 5, 2) := by decide +kernel
theorem dL_law_1374 : decode cL_law 1374 = .ok (.if_icmp .eq 5, 3) := by decide +kernel
theorem dL_law_1377 : decode cL_law 1377 = .ok (.iconst 0, 1) := by decide +kernel
theorem dL_law_1378 : decode cL_law 1378 = .ok (.ireturn, 1) := by decide +kernel
theorem dL_law_1379 : decode cL_law 1379 = .ok (.iload 5, 2) := by decide +kernel
theorem dL_law_1381 : decode cL_law 1381 = .ok (.ifCond .ne 15, 3) := by decide +kernel
theorem dL_law_1384 : decode cL_law 1384 = .ok (.aload_n 3, 1) := by decide +kernel
theorem dL_law_1385 : decode cL_law 1385 = .ok (.iconst 0, 1) := by decide +kernel
theorem dL_law_1386 : decode cL_law 1386 = .ok (.laload, 1) := by decide +kernel
theorem dL_law_1387 : decode cL_law 1387 = .ok (.iload 6, 2) := by decide +kernel
theorem dL_law_1389 : decode cL_law 1389 = .ok (.i2l, 1) := by decide +kernel
theorem dL_law_1390 : decode cL_law 1390 = .ok (.lcmp, 1) := by decide +kernel
theorem dL_law_1391 : decode cL_law 1391 = .ok (.ifCond .eq 5, 3) := by decide +kernel
theorem dL_law_1394 : decode cL_law 1394 = .ok (.iconst 0, 1) := by decide +kernel
theorem dL_law_1395 : decode cL_law 1395 = .ok (.ireturn, 1) := by decide +kernel
theorem dL_law_1396 : decode cL_law 1396 = .ok (.goto 292, 3) := by decide +kernel
theorem dL_law_1399 : decode cL_law 1399 = .ok (.aload_n 1, 1) := by decide +kernel
theorem dL_law_1400 : decode cL_law 1400 = .ok (.aload_n 0, 1) := by decide +kernel
theorem dL_law_1401 : decode cL_law 1401 = .ok (.iload 4, 2) := by decide +kernel
theorem dL_law_1403 : decode cL_law 1403 = .ok (.iconst 1, 1) := by decide +kernel
theorem dL_law_1404 : decode cL_law 1404 = .ok (.iadd, 1) := by decide +kernel
theorem dL_law_1405 : decode cL_law 1405 = .ok (.iaload, 1) := by decide +kernel
theorem dL_law_1406 : decode cL_law 1406 = .ok (.aload_n 3, 1) := by decide +kernel
theorem dL_law_1407 : decode cL_law 1407 = .ok (.invokestatic 165, 3) := by decide +kernel
theorem dL_law_1410 : decode cL_law 1410 = .ok (.istore 5, 2) := by decide +kernel
theorem dL_law_1412 : decode cL_law 1412 = .ok (.aload_n 2, 1) := by decide +kernel
theorem dL_law_1413 : decode cL_law 1413 = .ok (.aload_n 0, 1) := by decide +kernel
theorem dL_law_1414 : decode cL_law 1414 = .ok (.iload 4, 2) := by decide +kernel
theorem dL_law_1416 : decode cL_law 1416 = .ok (.iconst 1, 1) := by decide +kernel
theorem dL_law_1417 : decode cL_law 1417 = .ok (.iadd, 1) := by decide +kernel
theorem dL_law_1418 : decode cL_law 1418 = .ok (.iaload, 1) := by decide +kernel
theorem dL_law_1419 : decode cL_law 1419 = .ok (.invokevirtual 167, 3) := by decide +kernel
theorem dL_law_1422 : decode cL_law 1422 = .ok (.istore 6, 2) := by decide +kernel
theorem dL_law_1424 : decode cL_law 1424 = .ok (.aload_n 2, 1) := by decide +kernel
theorem dL_law_1425 : decode cL_law 1425 = .ok (.invokevirtual 100, 3) := by decide +kernel
theorem dL_law_1428 : decode cL_law 1428 = .ok (.iload 5, 2) := by decide +kernel
theorem dL_law_1430 : decode cL_law 1430 = .ok (.if_icmp .eq 5, 3) := by decide +kernel
theorem dL_law_1433 : decode cL_law 1433 = .ok (.iconst 0, 1) := by decide +kernel
theorem dL_law_1434 : decode cL_law 1434 = .ok (.ireturn, 1) := by decide +kernel
theorem dL_law_1435 : decode cL_law 1435 = .ok (.iload 5, 2) := by decide +kernel
theorem dL_law_1437 : decode cL_law 1437 = .ok (.ifCond .ne 15, 3) := by decide +kernel
theorem dL_law_1440 : decode cL_law 1440 = .ok (.aload_n 3, 1) := by decide +kernel
theorem dL_law_1441 : decode cL_law 1441 = .ok (.iconst 0, 1) := by decide +kernel
theorem dL_law_1442 : decode cL_law 1442 = .ok (.laload, 1) := by decide +kernel
theorem dL_law_1443 : decode cL_law 1443 = .ok (.iload 6, 2) := by decide +kernel
theorem dL_law_1445 : decode cL_law 1445 = .ok (.i2l, 1) := by decide +kernel
theorem dL_law_1446 : decode cL_law 1446 = .ok (.lcmp, 1) := by decide +kernel
theorem dL_law_1447 : decode cL_law 1447 = .ok (.ifCond .eq 5, 3) := by decide +kernel
theorem dL_law_1450 : decode cL_law 1450 = .ok (.iconst 0, 1) := by decide +kernel
theorem dL_law_1451 : decode cL_law 1451 = .ok (.ireturn, 1) := by decide +kernel
theorem dL_law_1452 : decode cL_law 1452 = .ok (.goto 236, 3) := by decide +kernel
theorem dL_law_1455 : decode cL_law 1455 = .ok (.aload_n 1, 1) := by decide +kernel
theorem dL_law_1456 : decode cL_law 1456 = .ok (.invokevirtual 168, 3) := by decide +kernel
theorem dL_law_1459 : decode cL_law 1459 = .ok (.aload_n 2, 1) := by decide +kernel
theorem dL_law_1460 : decode cL_law 1460 = .ok (.invokevirtual 171, 3) := by decide +kernel
theorem dL_law_1463 : decode cL_law 1463 = .ok (.if_icmp .eq 225, 3) := by decide +kernel
theorem dL_law_1466 : decode cL_law 1466 = .ok (.iconst 0, 1) := by decide +kernel
theorem dL_law_1467 : decode cL_law 1467 = .ok (.ireturn, 1) := by decide +kernel
theorem dL_law_1468 : decode cL_law 1468 = .ok (.aload_n 1, 1) := by decide +kernel
theorem dL_law_1469 : decode cL_law 1469 = .ok (.aload_n 0, 1) := by decide +kernel
theorem dL_law_1470 : decode cL_law 1470 = .ok (.iload 4, 2) := by decide +kernel
theorem dL_law_1472 : decode cL_law 1472 = .ok (.iconst 1, 1) := by decide +kernel
theorem dL_law_1473 : decode cL_law 1473 = .ok (.iadd, 1) := by decide +kernel
theorem dL_law_1474 : decode cL_law 1474 = .ok (.iaload, 1) := by decide +kernel
theorem dL_law_1475 : decode cL_law 1475 = .ok (.aload_n 3, 1) := by decide +kernel
theorem dL_law_1476 : decode cL_law 1476 = .ok (.invokestatic 172, 3) := by decide +kernel
theorem dL_law_1479 : decode cL_law 1479 = .ok (.istore 5, 2) := by decide +kernel
theorem dL_law_1481 : decode cL_law 1481 = .ok (.aload_n 2, 1) := by decide +kernel
theorem dL_law_1482 : decode cL_law 1482 = .ok (.aload_n 0, 1) := by decide +kernel
theorem dL_law_1483 : decode cL_law 1483 = .ok (.iload 4, 2) := by decide +kernel
theorem dL_law_1485 : decode cL_law 1485 = .ok (.iconst 1, 1) := by decide +kernel
theorem dL_law_1486 : decode cL_law 1486 = .ok (.iadd, 1) := by decide +kernel
theorem dL_law_1487 : decode cL_law 1487 = .ok (.iaload, 1) := by decide +kernel
theorem dL_law_1488 : decode cL_law 1488 = .ok (.invokevirtual 174, 3) := by decide +kernel
theorem dL_law_1491 : decode cL_law 1491 = .ok (.istore 6, 2) := by decide +kernel
theorem dL_law_1493 : decode cL_law 1493 = .ok (.aload_n 2, 1) := by decide +kernel
theorem dL_law_1494 : decode cL_law 1494 = .ok (.invokevirtual 100, 3) := by decide +kernel
theorem dL_law_1497 : decode cL_law 1497 = .ok (.iload 5, 2) := by decide +kernel
theorem dL_law_1499 : decode cL_law 1499 = .ok (.if_icmp .eq 5, 3) := by decide +kernel
theorem dL_law_1502 : decode cL_law 1502 = .ok (.iconst 0, 1) := by decide +kernel
theorem dL_law_1503 : decode cL_law 1503 = .ok (.ireturn, 1) := by decide +kernel
theorem dL_law_1504 : decode cL_law 1504 = .ok (.iload 5, 2) := by decide +kernel
theorem dL_law_1506 : decode cL_law 1506 = .ok (.ifCond .ne 15, 3) := by decide +kernel
theorem dL_law_1509 : decode cL_law 1509 = .ok (.aload_n 3, 1) := by decide +kernel
theorem dL_law_1510 : decode cL_law 1510 = .ok (.iconst 0, 1) := by decide +kernel
theorem dL_law_1511 : decode cL_law 1511 = .ok (.laload, 1) := by decide +kernel
theorem dL_law_1512 : decode cL_law 1512 = .ok (.iload 6, 2) := by decide +kernel
theorem dL_law_1514 : decode cL_law 1514 = .ok (.i2l, 1) := by decide +kernel
theorem dL_law_1515 : decode cL_law 1515 = .ok (.lcmp, 1) := by decide +kernel
theorem dL_law_1516 : decode cL_law 1516 = .ok (.ifCond .eq 5, 3) := by decide +kernel
theorem dL_law_1519 : decode cL_law 1519 = .ok (.iconst 0, 1) := by decide +kernel
theorem dL_law_1520 : decode cL_law 1520 = .ok (.ireturn, 1) := by decide +kernel
theorem dL_law_1521 : decode cL_law 1521 = .ok (.goto 167, 3) := by decide +kernel
theorem dL_law_1524 : decode cL_law 1524 = .ok (.aload_n 1, 1) := by decide +kernel
theorem dL_law_1525 : decode cL_law 1525 = .ok (.invokevirtual 175, 3) := by decide +kernel
theorem dL_law_1528 : decode cL_law 1528 = .ok (.aload_n 2, 1) := by decide +kernel
theorem dL_law_1529 : decode cL_law 1529 = .ok (.invokevirtual 179, 3) := by decide +kernel
theorem dL_law_1532 : decode cL_law 1532 = .ok (.lcmp, 1) := by decide +kernel
theorem dL_law_1533 : decode cL_law 1533 = .ok (.ifCond .eq 155, 3) := by decide +kernel
theorem dL_law_1536 : decode cL_law 1536 = .ok (.iconst 0, 1) := by decide +kernel
theorem dL_law_1537 : decode cL_law 1537 = .ok (.ireturn, 1) := by decide +kernel
theorem dL_law_1538 : decode cL_law 1538 = .ok (.aload_n 1, 1) := by decide +kernel
theorem dL_law_1539 : decode cL_law 1539 = .ok (.aload_n 0, 1) := by decide +kernel
theorem dL_law_1540 : decode cL_law 1540 = .ok (.iload 4, 2) := by decide +kernel
theorem dL_law_1542 : decode cL_law 1542 = .ok (.iconst 1, 1) := by decide +kernel
theorem dL_law_1543 : decode cL_law 1543 = .ok (.iadd, 1) := by decide +kernel
theorem dL_law_1544 : decode cL_law 1544 = .ok (.iaload, 1) := by decide +kernel
theorem dL_law_1545 : decode cL_law 1545 = .ok (.aload_n 3, 1) := by decide +kernel
theorem dL_law_1546 : decode cL_law 1546 = .ok (.invokestatic 180, 3) := by decide +kernel
theorem dL_law_1549 : decode cL_law 1549 = .ok (.istore 5, 2) := by decide +kernel
theorem dL_law_1551 : decode cL_law 1551 = .ok (.aload_n 2, 1) := by decide +kernel
theorem dL_law_1552 : decode cL_law 1552 = .ok (.aload_n 0, 1) := by decide +kernel
theorem dL_law_1553 : decode cL_law 1553 = .ok (.iload 4, 2) := by decide +kernel
theorem dL_law_1555 : decode cL_law 1555 = .ok (.iconst 1, 1) := by decide +kernel
theorem dL_law_1556 : decode cL_law 1556 = .ok (.iadd, 1) := by decide +kernel
theorem dL_law_1557 : decode cL_law 1557 = .ok (.iaload, 1) := by decide +kernel
theorem dL_law_1558 : decode cL_law 1558 = .ok (.invokevirtual 182, 3) := by decide +kernel
theorem dL_law_1561 : decode cL_law 1561 = .ok (.lstore 6, 2) := by decide +kernel
theorem dL_law_1563 : decode cL_law 1563 = .ok (.aload_n 2, 1) := by decide +kernel
theorem dL_law_1564 : decode cL_law 1564 = .ok (.invokevirtual 100, 3) := by decide +kernel
theorem dL_law_1567 : decode cL_law 1567 = .ok (.iload 5, 2) := by decide +kernel
theorem dL_law_1569 : decode cL_law 1569 = .ok (.if_icmp .eq 5, 3) := by decide +kernel
theorem dL_law_1572 : decode cL_law 1572 = .ok (.iconst 0, 1) := by decide +kernel
theorem dL_law_1573 : decode cL_law 1573 = .ok (.ireturn, 1) := by decide +kernel
theorem dL_law_1574 : decode cL_law 1574 = .ok (.iload 5, 2) := by decide +kernel
theorem dL_law_1576 : decode cL_law 1576 = .ok (.ifCond .ne 14, 3) := by decide +kernel
theorem dL_law_1579 : decode cL_law 1579 = .ok (.aload_n 3, 1) := by decide +kernel
theorem dL_law_1580 : decode cL_law 1580 = .ok (.iconst 0, 1) := by decide +kernel
theorem dL_law_1581 : decode cL_law 1581 = .ok (.laload, 1) := by decide +kernel
theorem dL_law_1582 : decode cL_law 1582 = .ok (.lload 6, 2) := by decide +kernel
theorem dL_law_1584 : decode cL_law 1584 = .ok (.lcmp, 1) := by decide +kernel
theorem dL_law_1585 : decode cL_law 1585 = .ok (.ifCond .eq 5, 3) := by decide +kernel
theorem dL_law_1588 : decode cL_law 1588 = .ok (.iconst 0, 1) := by decide +kernel
theorem dL_law_1589 : decode cL_law 1589 = .ok (.ireturn, 1) := by decide +kernel
theorem dL_law_1590 : decode cL_law 1590 = .ok (.goto 98, 3) := by decide +kernel
theorem dL_law_1593 : decode cL_law 1593 = .ok (.aload_n 1, 1) := by decide +kernel
theorem dL_law_1594 : decode cL_law 1594 = .ok (.aload_n 0, 1) := by decide +kernel
theorem dL_law_1595 : decode cL_law 1595 = .ok (.iload 4, 2) := by decide +kernel
theorem dL_law_1597 : decode cL_law 1597 = .ok (.iconst 1, 1) := by decide +kernel
theorem dL_law_1598 : decode cL_law 1598 = .ok (.iadd, 1) := by decide +kernel
theorem dL_law_1599 : decode cL_law 1599 = .ok (.iaload, 1) := by decide +kernel
theorem dL_law_1600 : decode cL_law 1600 = .ok (.aload_n 3, 1) := by decide +kernel
theorem dL_law_1601 : decode cL_law 1601 = .ok (.invokestatic 183, 3) := by decide +kernel
theorem dL_law_1604 : decode cL_law 1604 = .ok (.istore 5, 2) := by decide +kernel
theorem dL_law_1606 : decode cL_law 1606 = .ok (.aload_n 2, 1) := by decide +kernel
theorem dL_law_1607 : decode cL_law 1607 = .ok (.aload_n 0, 1) := by decide +kernel
theorem dL_law_1608 : decode cL_law 1608 = .ok (.iload 4, 2) := by decide +kernel
theorem dL_law_1610 : decode cL_law 1610 = .ok (.iconst 1, 1) := by decide +kernel
theorem dL_law_1611 : decode cL_law 1611 = .ok (.iadd, 1) := by decide +kernel
theorem dL_law_1612 : decode cL_law 1612 = .ok (.iaload, 1) := by decide +kernel
theorem dL_law_1613 : decode cL_law 1613 = .ok (.invokevirtual 185, 3) := by decide +kernel
theorem dL_law_1616 : decode cL_law 1616 = .ok (.istore 6, 2) := by decide +kernel
theorem dL_law_1618 : decode cL_law 1618 = .ok (.aload_n 2, 1) := by decide +kernel
theorem dL_law_1619 : decode cL_law 1619 = .ok (.invokevirtual 100, 3) := by decide +kernel
theorem dL_law_1622 : decode cL_law 1622 = .ok (.iload 5, 2) := by decide +kernel
theorem dL_law_1624 : decode cL_law 1624 = .ok (.if_icmp .eq 5, 3) := by decide +kernel
theorem dL_law_1627 : decode cL_law 1627 = .ok (.iconst 0, 1) := by decide +kernel
theorem dL_law_1628 : decode cL_law 1628 = .ok (.ireturn, 1) := by decide +kernel
theorem dL_law_1629 : decode cL_law 1629 = .ok (.iload 5, 2) := by decide +kernel
theorem dL_law_1631 : decode cL_law 1631 = .ok (.ifCond .ne 15, 3) := by decide +kernel
theorem dL_law_1634 : decode cL_law 1634 = .ok (.aload_n 3, 1) := by decide +kernel
theorem dL_law_1635 : decode cL_law 1635 = .ok (.iconst 0, 1) := by decide +kernel
theorem dL_law_1636 : decode cL_law 1636 = .ok (.laload, 1) := by decide +kernel
theorem dL_law_1637 : decode cL_law 1637 = .ok (.iload 6, 2) := by decide +kernel
theorem dL_law_1639 : decode cL_law 1639 = .ok (.i2l, 1) := by decide +kernel
theorem dL_law_1640 : decode cL_law 1640 = .ok (.lcmp, 1) := by decide +kernel
theorem dL_law_1641 : decode cL_law 1641 = .ok (.ifCond .eq 5, 3) := by decide +kernel
theorem dL_law_1644 : decode cL_law 1644 = .ok (.iconst 0, 1) := by decide +kernel
theorem dL_law_1645 : decode cL_law 1645 = .ok (.ireturn, 1) := by decide +kernel
theorem dL_law_1646 : decode cL_law 1646 = .ok (.goto 42, 3) := by decide +kernel
theorem dL_law_1649 : decode cL_law 1649 = .ok (.aload_n 1, 1) := by decide +kernel
theorem dL_law_1650 : decode cL_law 1650 = .ok (.invokevirtual 186, 3) := by decide +kernel
theorem dL_law_1653 : decode cL_law 1653 = .ok (.aload_n 2, 1) := by decide +kernel
theorem dL_law_1654 : decode cL_law 1654 = .ok (.invokevirtual 189, 3) := by decide +kernel
theorem dL_law_1657 : decode cL_law 1657 = .ok (.lcmp, 1) := by decide +kernel
theorem dL_law_1658 : decode cL_law 1658 = .ok (.ifCond .eq 30, 3) := by decide +kernel
theorem dL_law_1661 : decode cL_law 1661 = .ok (.iconst 0, 1) := by decide +kernel
theorem dL_law_1662 : decode cL_law 1662 = .ok (.ireturn, 1) := by decide +kernel
theorem dL_law_1663 : decode cL_law 1663 = .ok (.aload_n 1, 1) := by decide +kernel
theorem dL_law_1664 : decode cL_law 1664 = .ok (.aload_n 0, 1) := by decide +kernel
theorem dL_law_1665 : decode cL_law 1665 = .ok (.iload 4, 2) := by decide +kernel
theorem dL_law_1667 : decode cL_law 1667 = .ok (.iconst 1, 1) := by decide +kernel
theorem dL_law_1668 : decode cL_law 1668 = .ok (.iadd, 1) := by decide +kernel
theorem dL_law_1669 : decode cL_law 1669 = .ok (.iaload, 1) := by decide +kernel
theorem dL_law_1670 : decode cL_law 1670 = .ok (.invokevirtual 190, 3) := by decide +kernel
theorem dL_law_1673 : decode cL_law 1673 = .ok (.aload_n 2, 1) := by decide +kernel
theorem dL_law_1674 : decode cL_law 1674 = .ok (.aload_n 0, 1) := by decide +kernel
theorem dL_law_1675 : decode cL_law 1675 = .ok (.iload 4, 2) := by decide +kernel
theorem dL_law_1677 : decode cL_law 1677 = .ok (.iconst 1, 1) := by decide +kernel
theorem dL_law_1678 : decode cL_law 1678 = .ok (.iadd, 1) := by decide +kernel
theorem dL_law_1679 : decode cL_law 1679 = .ok (.iaload, 1) := by decide +kernel
theorem dL_law_1680 : decode cL_law 1680 = .ok (.invokevirtual 193, 3) := by decide +kernel
theorem dL_law_1683 : decode cL_law 1683 = .ok (.if_icmp .eq 5, 3) := by decide +kernel
theorem dL_law_1686 : decode cL_law 1686 = .ok (.iconst 0, 1) := by decide +kernel
theorem dL_law_1687 : decode cL_law 1687 = .ok (.ireturn, 1) := by decide +kernel
theorem dL_law_1688 : decode cL_law 1688 = .ok (.iinc 4 6, 3) := by decide +kernel
theorem dL_law_1691 : decode cL_law 1691 = .ok (.goto (-1668), 3) := by decide +kernel
theorem dL_law_1694 : decode cL_law 1694 = .ok (.iconst 1, 1) := by decide +kernel
theorem dL_law_1695 : decode cL_law 1695 = .ok (.ireturn, 1) := by decide +kernel
end
section
section VXIA
variable {p : Program} {l : Launch} {e : Env} {R : Room} {s : State} {m : MethodId} {args : Array Value} {below : List Frame} {meth : Method} {c : Code} {T : State} {locs : List Loc} {cells slots : Nat}
theorem vx_callI (X : Stand p l e R s m args below meth c T locs cells slots) (hexec : p.tables.exec = Jvm.exec) {own : String} {index : Nat} {y : MethodName} {bytes : ByteArray} {maxL : Nat}
    (hown : s.vm.findClass own = some m.cls) (hy1 : y.name = "<init>") (hlink : (Cond.methodLink own index y).before args s = true) (hinst : (Cond.instanceMethod y).before args s = true)
    (hcode : (Cond.code y bytes maxL none).before args s = true) (hy : y.cls ≠ "java/lang/invoke/MethodHandle" ∧ y.cls ≠ "java/lang/invoke/VarHandle")
    {W9 : Nat} {Pre : Pt → Array Value → Prop} {Post : Pt → Array Value → Option Value → Pt → Prop} {PostX : Pt → Array Value → Addr → Pt → Prop} (hK : vx_Back l R p e below s args y 3 W9 Pre Post PostX)
    {g : JFrame} (hg : g.method = m) (hsize : g.locals.size = c.maxLocals) {a : Addr} {argsL rest : List Value} (hlen : ∀ sig, parseMethodDescriptor y.desc = some sig → argsL.length = sig.parameters.length)
    (hstack : g.stack = argsL.reverse ++ .ref a :: rest) (hW : 2 * g.monitorRoom + (rest.map fun v => v.category).sum ≤ W9) (hdg : decode c.code g.pc = .ok (.invokespecial index, 3))
    (hpre : ∀ vm₁, s.WarmedH vm₁ → Pre ⟨T.setVm vm₁, locs, cells, slots⟩ (Value.ref a :: argsL).toArray) :
    (∃ (v : Option Value) (vm₁ : Vm) (B : Pt), s.WarmedH vm₁ ∧ Stand p l e R s m args below meth c B.U B.locs B.cells B.slots ∧ Post ⟨T.setVm vm₁, locs, cells, slots⟩ (Value.ref a :: argsL).toArray v B ∧
      ∀ target, Steps p.tables e below (B.U.setTop { g with pc := g.pc + 3, stack := v.toList ++ rest }) target → Steps p.tables e below (T.setTop g) target) ∨
    (∃ (q : Addr) (vm₁ : Vm) (B : Pt), s.WarmedH vm₁ ∧ Stand p l e R s m args below meth c B.U B.locs B.cells B.slots ∧ PostX ⟨T.setVm vm₁, locs, cells, slots⟩ (Value.ref a :: argsL).toArray q B ∧
      Steps p.tables e below (T.setTop g) ((B.U.setTop { g with stack := rest }).pushFrame (.throwing q))) := by
  subst hg
  have hpl : e.platform.magicAccessors = ({} : Platform).magicAccessors := by rw [X.admits.platform]
  obtain ⟨mk, methM, cM, kP, vm₁, hnamed, hmethM, hcodeM, -, hlocalsM, -, hkP, -, hW₁, hstep₁⟩ := Steps.initColdArgs (e := e) X.here hexec X.warmed hpl hown hy1 hy hlink hinst hcode (f := g) rfl hlen hstack hdg
  have X₁ := X.noted hW₁
  rcases hK g.method meth c ⟨T.setVm vm₁, locs, cells, slots⟩ { g with stack := rest } (.invokespecial index) mk (Value.ref a :: argsL).toArray X₁ rfl hsize hdg hW (X₁.named hnamed) (hpre vm₁ X₁.warmed) with ⟨v, B, X', hpost, hsteps⟩ | ⟨q, B, X', hpost, hsteps⟩
  · exact Or.inl ⟨v, vm₁, B, X₁.warmed, X', hpost, fun target h => hstep₁ _ fun acts => by rw [doInvoke_state]; exact hsteps.trans h⟩
  · exact Or.inr ⟨q, vm₁, B, X₁.warmed, X', hpost, hstep₁ _ fun acts => by rw [doInvoke_state]; exact hsteps⟩
end VXIA
section VXIB
variable {p : Program} {l : Launch} {e : Env} {R : Room} {s : State} {m : MethodId} {args : Array Value} {below : List Frame} {meth : Method} {c : Code} {H : Heap} {locs : List Loc} {cells slots : Nat}
variable {y : MethodName} {bytes cc : ByteArray} {maxL nL mc ms n index : Nat} {ret : Option FieldType} {ws : List Cond} {rm : Room} {Pc : Array Value → State → Prop} {Qc : Array Value → State → Outcome → State → Prop} {XC : String → State → State → Prop} {free : Addr → Prop} {Ts : List Cond} {own C : String} {b : Addr} {As rest : List Value} {g : JFrame}
theorem vx_runI (S : CallFix p m c cc nL s args Ts own) (hM : vx_Met l y ws rm Pc Qc XC mc ms free) (cw : CallB R s args own index y bytes maxL none ws rm mc ms n ∧ y.name = "<init>" ∧ (Cond.instanceMethod y).before args s = true) (hp : PreS s H Pc (.ref b :: As))
    (hg : g.method = m) (hn : As.length = n) (hsize : g.locals.size = nL) (hstack : g.stack = As.reverse ++ .ref b :: rest) (hW : 2 * g.monitorRoom + (rest.map fun v => v.category).sum ≤ 8) (hdg : decode cc g.pc = .ok (.invokespecial index, 3)) (hf : cells + mc ≤ R.cells ∧ slots + ms ≤ R.slots) :
    vx_Run p l e R s m args below meth c H locs cells slots mc ms g rest (Qc (Value.ref b :: As).toArray) XC free := by
  have hK : vx_Back l R p e below s args y 3 8 (PreOf R mc ms Pc) (PostOf Qc mc ms free) (vx_Post XC mc ms free) := vx_callBack cw.1 hM hp.1
  obtain ⟨⟨-, -, -, -, -, -, hcode, -, hy, hlen, hl⟩, hy1, hin⟩ := cw
  obtain ⟨hx, hb, hml, ho, -⟩ := S
  have hPc := hp.2
  intro T hT X
  rcases vx_callI X hx (bytes := bytes) (maxL := maxL) ho hy1 hl hin hcode hy hK hg (hsize.trans hml.symm) (a := b) (argsL := As) (rest := rest) (fun sig h => hn.trans (hlen sig h)) hstack hW (by rw [hb]; exact hdg)
    (fun vm₁ hW₁ => ⟨hf.1, hf.2, hPc (T.setVm vm₁) hT hW₁⟩) with ⟨v, vm₁, ⟨U', l2, c2, s2⟩, hW₁, X', ⟨g', mk, t, L, e1, e2, hq, h1, hL, h2, h3⟩, st⟩ | ⟨q, vm₁, ⟨U', l2, c2, s2⟩, hW₁, X', ⟨g', mk, t, L, E, ce, e1, e2, hq, hce, hcv, hcl, h1, hL, h2, h3⟩, st⟩
  · dsimp only [Pt.U, Pt.locs, Pt.cells, Pt.slots] at X' e1 e2 h1 h2 h3 st
    subst h1; subst h2; subst h3
    exact Or.inl ⟨v, (T.setVm vm₁).calling g' mk (Value.ref b :: As).toArray, t, U', L, hT, X', hL, e1, e2, hq, st⟩
  · dsimp only [Pt.U, Pt.locs, Pt.cells, Pt.slots] at X' e1 e2 h1 h2 h3 st hcl
    subst h1; subst h2; subst h3
    exact Or.inr ⟨q, (T.setVm vm₁).calling g' mk (Value.ref b :: As).toArray, t, U', L, E, ce, hT, X', hL, e1, e2, hq, hce, hcv, vx_cls hW₁ hcl, st⟩
end VXIB
end
section
/-! OUR LAYER, part 1: an abstract heap, its partial steps, and what they say of the machine -/
abbrev aE : Type := (Nat × (Nat → Int32)) ⊕ ((Nat × (Nat → Int64)) ⊕ ((Nat × Nat × (Nat → Option Nat)) ⊕ (Nat × List Value)))
abbrev AH : Type := Nat × Nat × (Nat → Option aE)
abbrev Ot : Type := Option Value ⊕ Nat
abbrev RR : Type := Option (Ot × AH)
/-- numbers of kinds and slots, numbers of array kinds, where our cells begin, the texts' cells, their bytes' cells, the launch -/
abbrev VT : Type := va_G × (Nat → ClassId) × Nat × (Nat → Nat) × (Nat → Nat) × Launch
abbrev CT : Type := Program × Env × Room × State × MethodId × Array Value × List Frame × Method × Code
abbrev z_i (n : Nat) (f : Nat → Int32) : aE := .inl (n, f)
abbrev z_l (n : Nat) (f : Nat → Int64) : aE := .inr (.inl (n, f))
abbrev z_r (t n : Nat) (f : Nat → Option Nat) : aE := .inr (.inr (.inl (t, n, f)))
abbrev z_o (c : Nat) (fs : List Value) : aE := .inr (.inr (.inr (c, fs)))
def zput (h : AH) (a : Nat) (e : aE) : AH := (h.1, h.2.1, fun b => if b = a then some e else h.2.2 b)
def znew (h : AH) (k : Nat) (e : aE) : AH := (h.1 + 1, h.2.1 + k, fun b => if b = h.1 then some e else h.2.2 b)
def zjnk (h : AH) (k : Nat) : AH := (h.1 + 1, h.2.1 + k, h.2.2)
def zmul (h : AH) (n k : Nat) : AH := (h.1 + 1 + n, h.2.1 + n + n * k, fun b => if b = h.1 then some (z_r 2 n (fun i => if i < n then some (h.1 + 1 + i) else none)) else if h.1 < b ∧ b < h.1 + 1 + n then some (z_i k (fun _ => 0)) else h.2.2 b)
def ztv (V : VT) : Value → Value
  | .ref a => .ref (V.2.2.1 + a)
  | .float j => .ref (V.2.2.2.1 j.toNat)
  | v => v
def ztc (V : VT) : aE → va_E
  | .inl (n, f) => .inl (V.2.1 0, n, .inl f)
  | .inr (.inl (n, f)) => .inl (V.2.1 1, n, .inr (.inl f))
  | .inr (.inr (.inl (t, n, f))) => .inl (V.2.1 t, n, .inr (.inr (.inr (.inr (fun i => (f i).map (fun x => V.2.2.1 + x))))))
  | .inr (.inr (.inr (c, fs))) => .inr (c, fs.map (ztv V))
def zcl : List vw_C := [(RX0, TX0, 9), (RX1, TX1, 3), (RX2, TX2, 8), (RX3, TX3, 4), (RX4, TX4, 6), (RX5, TX5, 9), (RX6, TX6, 9), (RX7, TX7, 28)]
def zty (V : VT) : List (ClassId × FieldType) := [(V.2.1 0, .int), (V.2.1 1, .long), (V.2.1 2, .array .int), (V.2.1 3, .object "FieldPerms$State")]
def zA (V : VT) : Nat → Prop := fun q => V.2.2.1 ≤ q
def zRep (V : VT) (h : AH) (H : Heap) : Prop := H.size = V.2.2.1 + h.1 ∧ ∀ (a : Nat) (e : aE), h.2.2 a = some e → va_at V.1 zcl (V.2.2.1 + a, ztc V e) H
-- the words, all of them that stay
def zWU : List Cond := lw_tbl.filter goodWord
theorem zwm (i : Nat) {w : Cond} (h : lw_tbl[i]? = some w) (g : goodWord w = true) : w ∈ zWU := List.mem_filter.mpr ⟨List.mem_of_getElem? h, g⟩
theorem zgood {c : Cond} (big : List Cond) (hc : c ∈ zWU) (hb : ∀ w ∈ zWU, w ∈ big) : GoodIn big (c :: zWU) := fun w hw => by
  have h1 : w ∈ zWU := by
    rcases List.mem_cons.mp hw with h | h
    · rw [h]; exact hc
    · exact h
  exact ⟨hb w h1, good_of_word (List.mem_filter.mp h1).2⟩
-- the texts: whose entry, which text, its number (0 to 4 the words, 5 to 9 what is said)
def zstr : List (String × Nat × String × Nat) := [(RX5, 61, "x", 0), (RX5, 67, "f", 1), (RX5, 69, "poly", 2), (RX5, 71, "field", 3), (RX5, 73, "dickson", 4), (RX7, 172, "x", 0), (RX7, 188, "f", 1), (RX7, 222, "poly", 2), (RX7, 206, "field", 3), (RX7, 190, "dickson", 4), (RX6, 230, "no such polynomial", 5), (RX6, 235, "no such point", 6), (RX6, 239, "a number that is none such", 7), (RX6, 244, "there are six polynomials", 8), (RX6, 247, "it does not permute", 9)]
def zbyt : List (List Int32) := [[120], [102], [112, 111, 108, 121], [102, 105, 101, 108, 100], [100, 105, 99, 107, 115, 111, 110]]
def zex : Nat → String
  | 0 => "java/util/NoSuchElementException"
  | 1 => "java/lang/IllegalArgumentException"
  | _ => "java/lang/IllegalStateException"
def zAOA (U : State) : Prop := (Cond.arrayOver (.array .int)).before #[] U = true
/-- what stays: tables, texts, statics -/
def zE (V : VT) (U : State) (H : Heap) : Prop :=
  va_K V.1 zcl (zty V) U ∧ (∀ q ∈ zstr, vk_R q.1 q.2.1 q.2.2.1 (V.2.2.2.1 q.2.2.2) U) ∧
  (∀ i : Nat, i < 5 → va_O "java/lang/String" (V.2.2.2.1 i) (zA V) U H ∧ va_OF "java/lang/String" "coder" "B" (.int 0) (V.2.2.2.1 i) (zA V) U H ∧ va_OF "java/lang/String" "value" "[B" (.ref (V.2.2.2.2.1 i)) (V.2.2.2.1 i) (zA V) U H ∧ va_T .byte (V.2.2.2.2.1 i) (zbyt.getD i []).length (fun j => .int ((zbyt.getD i []).getD j 0)) (zA V) U H) ∧
  va_Z "java/lang/String" "COMPACT_STRINGS" "Z" (.int 1) (zA V) U H ∧
  vx_Zq Bundle.tN "UNASSIGNED_STACK" Bundle.steD (zA V) U H ∧ vx_Zq Bundle.tN "SUPPRESSED_SENTINEL" Bundle.listD (zA V) U H ∧
  va_AO "FieldPerms$State" U ∧ zAOA U ∧ (∀ i j : Nat, i < 3 → j < 3 → i ≠ j → va_Nc (zex i) (zex j) U)
theorem zAOA.moved {u U : State} (hvm : u.vm.Alike U.vm) (h : zAOA u) : zAOA U := by
  obtain ⟨comp, c, k, h1, h2, h3, h4, h5⟩ := arrayOverA_spec h
  obtain ⟨k', hk', he⟩ := hvm.2.2 _ _ h3
  have hkind : k'.kind = .array comp (.array .int) := by rw [he]; exact h4
  have f1 : U.vm.findClass (FieldType.array .int).toString = some comp := by rw [hvm.findClass]; exact h1
  have f2 : U.vm.findClass ("[" ++ (FieldType.array .int).toString) = some c := by rw [hvm.findClass]; exact h5
  unfold zAOA Cond.before Cond.holds
  simp only [Cond.value, f1, Option.bind_some, beq_iff_eq]
  rw [Option.bind_eq_some_iff]
  refine ⟨c, (hvm.findIdx?_eq _ (fun _ => rfl)).trans h2, ?_⟩
  simp [hk', hkind, f2]
theorem zNc.moved {C T : String} {u U : State} (hvm : u.vm.Alike U.vm) (h : va_Nc C T u) : va_Nc C T U := by
  first
    | exact va_Nc.moved hvm h
    | (obtain ⟨c, t, h1, h2, h3⟩ := h
       exact ⟨c, t, by rw [hvm.findClass]; exact h1, by rw [hvm.findClass]; exact h2, by rw [hvm.assignable]; exact h3⟩)
theorem zE.warm {V : VT} {s U : State} {H : Heap} (hW : s.WarmedH U.vm) (h : zE V s H) : zE V U H := by
  obtain ⟨h1, h2, h3, h4, h5, h6, h7, h8, h9⟩ := h
  exact ⟨va_K.moved hW.alike h1, fun q hq => vk_R.warm hW (h2 q hq), fun i hi => ⟨va_O.moved hW.alike (h3 i hi).1, va_OF.moved hW.alike (h3 i hi).2.1, va_OF.moved hW.alike (h3 i hi).2.2.1, va_T.moved hW.alike (h3 i hi).2.2.2⟩, va_Z.moved hW.alike h4, vx_Zq.moved hW.alike h5, vx_Zq.moved hW.alike h6, va_AO.moved hW.alike h7, zAOA.moved hW.alike h8, fun i j hi hj hij => zNc.moved hW.alike (h9 i j hi hj hij)⟩
theorem zE.kept {V : VT} {U : State} {H H1 : Heap} (hq : ∀ a : Nat, a < H.size → ¬ zA V a → H1[a]? = H[a]?) (h : zE V U H) : zE V U H1 := by
  obtain ⟨h1, h2, h3, h4, h5, h6, h7, h8, h9⟩ := h
  exact ⟨h1, h2, fun i hi => ⟨(h3 i hi).1.kept hq, (h3 i hi).2.1.kept hq, (h3 i hi).2.2.1.kept hq, (h3 i hi).2.2.2.kept hq⟩, h4.kept hq, h5.kept hq, h6.kept hq, h7, h8, h9⟩
-- the machine around a method
abbrev xp (X : CT) : Program := X.1
abbrev xe (X : CT) : Env := X.2.1
abbrev xR (X : CT) : Room := X.2.2.1
abbrev xs (X : CT) : State := X.2.2.2.1
abbrev xm (X : CT) : MethodId := X.2.2.2.2.1
abbrev xa (X : CT) : Array Value := X.2.2.2.2.2.1
abbrev xb (X : CT) : List Frame := X.2.2.2.2.2.2.1
abbrev xM (X : CT) : Method := X.2.2.2.2.2.2.2.1
abbrev xc (X : CT) : Code := X.2.2.2.2.2.2.2.2
abbrev zW (V : VT) (X : CT) (H : Heap) (locs : List Loc) (cells slots : Nat) (Q : State → Prop) (g : JFrame) : Prop := W (xp X) V.2.2.2.2.2 (xe X) (xR X) (xs X) (xm X) (xa X) (xb X) (xM X) (xc X) H locs cells slots Q g
def zC (X : CT) (V : VT) (own nm : String) (cc : ByteArray) (nL : Nat) (ret : Option FieldType) (d : Nat) : Prop :=
  (xp X).tables.exec = Jvm.exec ∧ (xc X).code = cc ∧ (xc X).maxLocals = nL ∧ (xs X).vm.findClass own = some (xm X).cls ∧ (∀ w ∈ zWU, w.before (xa X) (xs X) = true) ∧ (xM X).locks = false ∧
  ((xR X).frames = d ∧ (xR X).locals = 48 * d) ∧ (∀ x ∈ (xc X).exceptionTable.toList, False) ∧ zE V (xs X) (xs X).heap ∧ V.2.2.1 ≤ (xs X).heap.size ∧ (xM X).sig.returnType = ret ∧ (xM X).name = nm ∧ V.2.2.2.2.2.stackTraces = false
def zQ (V : VT) (r : Ot × AH) : Array Value → State → Outcome → State → Prop := fun _ st oc t => (∃ v, r.1 = .inl v ∧ oc = .returned (v.map (ztv V))) ∧ zRep V r.2 t.heap ∧ va_F (zA V) st t
def zXc (V : VT) (r : Ot × AH) : String → State → State → Prop := fun E st t => (∃ k, r.1 = .inr k ∧ k < 3 ∧ E = zex k) ∧ zRep V r.2 t.heap ∧ va_F (zA V) st t
abbrev ztl (V : VT) (lv : List (Nat × Value)) : List (Nat × Value) := lv.map (fun q => (q.1, ztv V q.2))
abbrev ztS (V : VT) (st : List Value) : List Value := st.map (ztv V)
def zG (X : CT) (V : VT) (own nm : String) (cc : ByteArray) (nL : Nat) (ret : Option FieldType) (d n0 k0 : Nat) (o : RR) (pc : Nat) (lv : List (Nat × Value)) (st : List Value) (h : AH) : Prop :=
  ∀ r, o = some r → (h.1 ≤ r.2.1 ∧ h.2.1 ≤ r.2.2.1) ∧ (zC X V own nm cc nL ret d → ∀ mc ms : Nat, r.2.1 = n0 + mc → r.2.2.1 = k0 + ms → mc ≤ (xR X).cells → ms ≤ (xR X).slots →
    ∀ (H : Heap) (locs : List Loc) (ls : Array Slot) (cells slots : Nat), h.1 = n0 + cells → h.2.1 = k0 + slots → zRep V h H → va_S (zA V) (xs X).heap H locs → lv_has ls nL (ztl V lv) →
      zW V X H locs cells slots (vx_MQ (xb X) (zQ V r) (zXc V r) (xa X) (xs X) mc ms (zA V)) (F0 (xm X) pc ls (ztS V st)))
theorem ztv_cat (V : VT) (v : Value) : (ztv V v).category = v.category := by cases v <;> rfl
section ZP
variable {X : CT} {V : VT} {own nm : String} {cc : ByteArray} {nL d n0 k0 : Nat} {ret : Option FieldType} {o : RR} {pc : Nat} {lv : List (Nat × Value)} {st : List Value} {h : AH}
theorem zstep {pc' : Nat} {lv' : List (Nat × Value)} {st' : List Value} (k : zG X V own nm cc nL ret d n0 k0 o pc' lv' st' h)
    (f : zC X V own nm cc nL ret d → ∀ (H : Heap) (locs : List Loc) (cells slots : Nat) (Q : State → Prop) (ls : Array Slot), va_S (zA V) (xs X).heap H locs → zRep V h H → lv_has ls nL (ztl V lv) → (∀ ls' : Array Slot, lv_has ls' nL (ztl V lv') → zW V X H locs cells slots Q (F0 (xm X) pc' ls' (ztS V st'))) → zW V X H locs cells slots Q (F0 (xm X) pc ls (ztS V st))) : zG X V own nm cc nL ret d n0 k0 o pc lv st h := by
  intro r hr
  obtain ⟨hm, hw⟩ := k r hr
  exact ⟨hm, fun C mc ms a b c e H locs ls cells slots e1 e2 e3 e4 e5 => f C H locs cells slots _ ls e4 e3 e5 (fun ls' h' => hw C mc ms a b c e H locs ls' cells slots e1 e2 e3 e4 h')⟩
theorem z_none : zG X V own nm cc nL ret d n0 k0 none pc lv st h := fun _ hr => by cases hr
theorem z_if {c : Prop} [Decidable c] {A B : RR} (ha : c → zG X V own nm cc nL ret d n0 k0 A pc lv st h) (hb : ¬ c → zG X V own nm cc nL ret d n0 k0 B pc lv st h) : zG X V own nm cc nL ret d n0 k0 (if c then A else B) pc lv st h := by
  by_cases q : c
  · rw [if_pos q]; exact ha q
  · rw [if_neg q]; exact hb q
theorem z_sub (ks : List Nat) {lv' : List (Nat × Value)} (hl : lv_pick lv ks = lv') (k : zG X V own nm cc nL ret d n0 k0 o pc lv' st h) : zG X V own nm cc nL ret d n0 k0 o pc lv st h := by
  refine zstep k (fun _ H locs cells slots Q ls _ _ hv kk => kk ls ?_)
  refine lv_sub hv ks ?_
  subst hl
  unfold lv_pick
  show List.filterMap (fun k => (lv.map (fun q => (q.1, ztv V q.2)))[k]?) ks = (List.filterMap (fun k => lv[k]?) ks).map (fun q => (q.1, ztv V q.2))
  rw [List.map_filterMap]
  congr 1
  funext i
  rw [List.getElem?_map]
theorem zlv {k i : Nat} {v : Value} (hk : lv[k]? = some (i, v)) : (ztl V lv)[k]? = some (i, ztv V v) := by
  rw [List.getElem?_map, hk]; rfl
theorem zfilt {p : Nat × Value → Bool} (hp : ∀ q : Nat × Value, p (q.1, ztv V q.2) = p q) : (ztl V lv).filter p = ztl V (lv.filter p) := by
  rw [List.filter_map]
  congr 2
  funext q
  exact hp q
end ZP
end
section
/-! OUR LAYER, part 2: a row an instruction -/
section ZR
variable {X : CT} {V : VT} {own nm : String} {cc : ByteArray} {nL d n0 k0 : Nat} {ret : Option FieldType} {o : RR} {pc : Nat} {lv : List (Nat × Value)} {st : List Value} {h : AH}
theorem z_iconst  {n : Int} {v : Int32}  (hv : Int32.ofInt n = v) (hd : decode cc pc = .ok (.iconst n, 1)) (k : zG X V own nm cc nL ret d n0 k0 o (pc + 1) lv (.int v :: st) h) : zG X V own nm cc nL ret d n0 k0 o pc lv st h := zstep k (fun C _ _ _ _ _ ls _ _ hl kk => lv_iconst C.1 C.2.1 hd hv (kk ls hl))
theorem z_bipush  {n : Int} {v : Int32}  (hv : (Int8.ofInt n).toInt32 = v) (hd : decode cc pc = .ok (.bipush n, 2)) (k : zG X V own nm cc nL ret d n0 k0 o (pc + 2) lv (.int v :: st) h) : zG X V own nm cc nL ret d n0 k0 o pc lv st h := zstep k (fun C _ _ _ _ _ ls _ _ hl kk => lv_bipush C.1 C.2.1 hd hv (kk ls hl))
theorem z_sipush  {n : Int} {v : Int32}  (hv : (Int16.ofInt n).toInt32 = v) (hd : decode cc pc = .ok (.sipush n, 3)) (k : zG X V own nm cc nL ret d n0 k0 o (pc + 3) lv (.int v :: st) h) : zG X V own nm cc nL ret d n0 k0 o pc lv st h := zstep k (fun C _ _ _ _ _ ls _ _ hl kk => lv_sipush C.1 C.2.1 hd hv (kk ls hl))
theorem z_lconst  {n : Fin 2} {v : Int64}  (hv : Int64.ofNat (n : Nat) = v) (hd : decode cc pc = .ok (.lconst n, 1)) (k : zG X V own nm cc nL ret d n0 k0 o (pc + 1) lv (.long v :: st) h) : zG X V own nm cc nL ret d n0 k0 o pc lv st h := zstep k (fun C _ _ _ _ _ ls _ _ hl kk => lv_lconst C.1 C.2.1 hd hv (kk ls hl))
theorem z_iadd  {x y : Int32} (hd : decode cc pc = .ok (.iadd, 1)) (k : zG X V own nm cc nL ret d n0 k0 o (pc + 1) lv (.int (x + y) :: st) h) : zG X V own nm cc nL ret d n0 k0 o pc lv (.int y :: .int x :: st) h := zstep k (fun C _ _ _ _ _ ls _ _ hl kk => lv_iadd C.1 C.2.1 hd  (kk ls hl))
theorem z_isub  {x y : Int32} (hd : decode cc pc = .ok (.isub, 1)) (k : zG X V own nm cc nL ret d n0 k0 o (pc + 1) lv (.int (x - y) :: st) h) : zG X V own nm cc nL ret d n0 k0 o pc lv (.int y :: .int x :: st) h := zstep k (fun C _ _ _ _ _ ls _ _ hl kk => lv_isub C.1 C.2.1 hd  (kk ls hl))
theorem z_imul  {x y : Int32} (hd : decode cc pc = .ok (.imul, 1)) (k : zG X V own nm cc nL ret d n0 k0 o (pc + 1) lv (.int (x * y) :: st) h) : zG X V own nm cc nL ret d n0 k0 o pc lv (.int y :: .int x :: st) h := zstep k (fun C _ _ _ _ _ ls _ _ hl kk => lv_imul C.1 C.2.1 hd  (kk ls hl))
theorem z_iand  {x y : Int32} (hd : decode cc pc = .ok (.iand, 1)) (k : zG X V own nm cc nL ret d n0 k0 o (pc + 1) lv (.int (x &&& y) :: st) h) : zG X V own nm cc nL ret d n0 k0 o pc lv (.int y :: .int x :: st) h := zstep k (fun C _ _ _ _ _ ls _ _ hl kk => lv_iand C.1 C.2.1 hd  (kk ls hl))
theorem z_ior  {x y : Int32} (hd : decode cc pc = .ok (.ior, 1)) (k : zG X V own nm cc nL ret d n0 k0 o (pc + 1) lv (.int (x ||| y) :: st) h) : zG X V own nm cc nL ret d n0 k0 o pc lv (.int y :: .int x :: st) h := zstep k (fun C _ _ _ _ _ ls _ _ hl kk => lv_ior C.1 C.2.1 hd  (kk ls hl))
theorem z_ishl  {x y : Int32} (hd : decode cc pc = .ok (.ishl, 1)) (k : zG X V own nm cc nL ret d n0 k0 o (pc + 1) lv (.int (x <<< (y &&& 31)) :: st) h) : zG X V own nm cc nL ret d n0 k0 o pc lv (.int y :: .int x :: st) h := zstep k (fun C _ _ _ _ _ ls _ _ hl kk => lv_ishl C.1 C.2.1 hd  (kk ls hl))
theorem z_ishr  {x y : Int32} (hd : decode cc pc = .ok (.ishr, 1)) (k : zG X V own nm cc nL ret d n0 k0 o (pc + 1) lv (.int (x >>> (y &&& 31)) :: st) h) : zG X V own nm cc nL ret d n0 k0 o pc lv (.int y :: .int x :: st) h := zstep k (fun C _ _ _ _ _ ls _ _ hl kk => lv_ishr C.1 C.2.1 hd  (kk ls hl))
theorem z_ladd  {x y : Int64} (hd : decode cc pc = .ok (.ladd, 1)) (k : zG X V own nm cc nL ret d n0 k0 o (pc + 1) lv (.long (x + y) :: st) h) : zG X V own nm cc nL ret d n0 k0 o pc lv (.long y :: .long x :: st) h := zstep k (fun C _ _ _ _ _ ls _ _ hl kk => lv_ladd C.1 C.2.1 hd  (kk ls hl))
theorem z_lsub  {x y : Int64} (hd : decode cc pc = .ok (.lsub, 1)) (k : zG X V own nm cc nL ret d n0 k0 o (pc + 1) lv (.long (x - y) :: st) h) : zG X V own nm cc nL ret d n0 k0 o pc lv (.long y :: .long x :: st) h := zstep k (fun C _ _ _ _ _ ls _ _ hl kk => lv_lsub C.1 C.2.1 hd  (kk ls hl))
theorem z_lmul  {x y : Int64} (hd : decode cc pc = .ok (.lmul, 1)) (k : zG X V own nm cc nL ret d n0 k0 o (pc + 1) lv (.long (x * y) :: st) h) : zG X V own nm cc nL ret d n0 k0 o pc lv (.long y :: .long x :: st) h := zstep k (fun C _ _ _ _ _ ls _ _ hl kk => lv_lmul C.1 C.2.1 hd  (kk ls hl))
theorem z_land  {x y : Int64} (hd : decode cc pc = .ok (.land, 1)) (k : zG X V own nm cc nL ret d n0 k0 o (pc + 1) lv (.long (x &&& y) :: st) h) : zG X V own nm cc nL ret d n0 k0 o pc lv (.long y :: .long x :: st) h := zstep k (fun C _ _ _ _ _ ls _ _ hl kk => lv_land C.1 C.2.1 hd  (kk ls hl))
theorem z_lor  {x y : Int64} (hd : decode cc pc = .ok (.lor, 1)) (k : zG X V own nm cc nL ret d n0 k0 o (pc + 1) lv (.long (x ||| y) :: st) h) : zG X V own nm cc nL ret d n0 k0 o pc lv (.long y :: .long x :: st) h := zstep k (fun C _ _ _ _ _ ls _ _ hl kk => lv_lor C.1 C.2.1 hd  (kk ls hl))
theorem z_iushr  {x y : Int32} (hd : decode cc pc = .ok (.iushr, 1)) (k : zG X V own nm cc nL ret d n0 k0 o (pc + 1) lv (.int ((x.toUInt32 >>> (y.toUInt32 &&& Int32.toUInt32 31)).toInt32) :: st) h) : zG X V own nm cc nL ret d n0 k0 o pc lv (.int y :: .int x :: st) h := zstep k (fun C _ _ _ _ _ ls _ _ hl kk => lv_iushr C.1 C.2.1 hd rfl (kk ls hl))
theorem z_lushr  {x : Int64} {y : Int32} (hd : decode cc pc = .ok (.lushr, 1)) (k : zG X V own nm cc nL ret d n0 k0 o (pc + 1) lv (.long ((x.toUInt64 >>> (y.toInt64.toUInt64 &&& Int64.toUInt64 63)).toInt64) :: st) h) : zG X V own nm cc nL ret d n0 k0 o pc lv (.int y :: .long x :: st) h := zstep k (fun C _ _ _ _ _ ls _ _ hl kk => lv_lushr C.1 C.2.1 hd rfl (kk ls hl))
theorem z_lshl  {x : Int64} {y : Int32} (hd : decode cc pc = .ok (.lshl, 1)) (k : zG X V own nm cc nL ret d n0 k0 o (pc + 1) lv (.long (x <<< (y.toInt64 &&& 63)) :: st) h) : zG X V own nm cc nL ret d n0 k0 o pc lv (.int y :: .long x :: st) h := zstep k (fun C _ _ _ _ _ ls _ _ hl kk => lv_lshl C.1 C.2.1 hd rfl (kk ls hl))
theorem z_lshr  {x : Int64} {y : Int32} (hd : decode cc pc = .ok (.lshr, 1)) (k : zG X V own nm cc nL ret d n0 k0 o (pc + 1) lv (.long (x >>> (y.toInt64 &&& 63)) :: st) h) : zG X V own nm cc nL ret d n0 k0 o pc lv (.int y :: .long x :: st) h := zstep k (fun C _ _ _ _ _ ls _ _ hl kk => lv_lshr C.1 C.2.1 hd rfl (kk ls hl))
theorem z_i2l  {x : Int32} (hd : decode cc pc = .ok (.i2l, 1)) (k : zG X V own nm cc nL ret d n0 k0 o (pc + 1) lv (.long x.toInt64 :: st) h) : zG X V own nm cc nL ret d n0 k0 o pc lv (.int x :: st) h := zstep k (fun C _ _ _ _ _ ls _ _ hl kk => lv_i2l C.1 C.2.1 hd rfl (kk ls hl))
theorem z_l2i  {x : Int64} (hd : decode cc pc = .ok (.l2i, 1)) (k : zG X V own nm cc nL ret d n0 k0 o (pc + 1) lv (.int x.toInt32 :: st) h) : zG X V own nm cc nL ret d n0 k0 o pc lv (.long x :: st) h := zstep k (fun C _ _ _ _ _ ls _ _ hl kk => lv_l2i C.1 C.2.1 hd rfl (kk ls hl))
theorem z_i2c  {x : Int32} (hd : decode cc pc = .ok (.i2c, 1)) (k : zG X V own nm cc nL ret d n0 k0 o (pc + 1) lv (.int ((x.toUInt32 % 65536).toInt32) :: st) h) : zG X V own nm cc nL ret d n0 k0 o pc lv (.int x :: st) h := zstep k (fun C _ _ _ _ _ ls _ _ hl kk => lv_i2c C.1 C.2.1 hd rfl (kk ls hl))
theorem z_null   (hd : decode cc pc = .ok (.aconst_null, 1)) (k : zG X V own nm cc nL ret d n0 k0 o (pc + 1) lv (.null :: st) h) : zG X V own nm cc nL ret d n0 k0 o pc lv st h := zstep k (fun C _ _ _ _ _ ls _ _ hl kk => lv_null C.1 C.2.1 hd  (kk ls hl))
theorem z_lcmp  {x y : Int64} (hd : decode cc pc = .ok (.lcmp, 1)) (k : zG X V own nm cc nL ret d n0 k0 o (pc + 1) lv (.int (lg_cmp x y) :: st) h) : zG X V own nm cc nL ret d n0 k0 o pc lv (.long y :: .long x :: st) h := zstep k (fun C _ _ _ _ _ ls _ _ hl kk => W.lcmp C.1 C.2.1 hd (kk ls hl))
theorem z_dup  {v : Value} (hc : v.category = 1) (hd : decode cc pc = .ok (.dup, 1)) (k : zG X V own nm cc nL ret d n0 k0 o (pc + 1) lv (v :: v :: st) h) : zG X V own nm cc nL ret d n0 k0 o pc lv (v :: st) h := zstep k (fun C _ _ _ _ _ ls _ _ hl kk => lv_dup C.1 C.2.1 hd ((ztv_cat V v).trans hc) (kk ls hl))
theorem z_pop  {v : Value} (hc : v.category = 1) (hd : decode cc pc = .ok (.pop, 1)) (k : zG X V own nm cc nL ret d n0 k0 o (pc + 1) lv st h) : zG X V own nm cc nL ret d n0 k0 o pc lv (v :: st) h := zstep k (fun C _ _ _ _ _ ls _ _ hl kk => lv_pop C.1 C.2.1 hd ((ztv_cat V v).trans hc) (kk ls hl))
theorem z_dup2  {v w : Value} (hc : v.category = 1) (hc2 : w.category = 1) (hd : decode cc pc = .ok (.dup2, 1)) (k : zG X V own nm cc nL ret d n0 k0 o (pc + 1) lv (v :: w :: v :: w :: st) h) : zG X V own nm cc nL ret d n0 k0 o pc lv (v :: w :: st) h := zstep k (fun C _ _ _ _ _ ls _ _ hl kk => lv_dup2_11 C.1 C.2.1 hd ((ztv_cat V v).trans hc) ((ztv_cat V w).trans hc2) (kk ls hl))
theorem z_iload_n  {k : Fin 4} {i : Nat} {x : Int32} (q : Nat) (hi : (k : Nat) = i) (hk : lv[q]? = some (i, .int x)) (hd : decode cc pc = .ok (.iload_n k, 1)) (kk : zG X V own nm cc nL ret d n0 k0 o (pc + 1) lv (.int x :: st) h) : zG X V own nm cc nL ret d n0 k0 o pc lv st h := zstep kk (fun C _ _ _ _ _ ls _ _ hl kk => lv_iload_n C.1 C.2.1 hd hi (lv_at hl q (zlv hk)) (kk ls hl))
theorem z_iload  {i : Nat} {x : Int32} (q : Nat) (hk : lv[q]? = some (i, .int x)) (hd : decode cc pc = .ok (.iload i, 2)) (kk : zG X V own nm cc nL ret d n0 k0 o (pc + 2) lv (.int x :: st) h) : zG X V own nm cc nL ret d n0 k0 o pc lv st h := zstep kk (fun C _ _ _ _ _ ls _ _ hl kk => lv_iload C.1 C.2.1 hd (lv_at hl q (zlv hk)) (kk ls hl))
theorem z_lload_n  {k : Fin 4} {i : Nat} {x : Int64} (q : Nat) (hi : (k : Nat) = i) (hk : lv[q]? = some (i, .long x)) (hd : decode cc pc = .ok (.lload_n k, 1)) (kk : zG X V own nm cc nL ret d n0 k0 o (pc + 1) lv (.long x :: st) h) : zG X V own nm cc nL ret d n0 k0 o pc lv st h := zstep kk (fun C _ _ _ _ _ ls _ _ hl kk => lv_lload_n C.1 C.2.1 hd hi (lv_at hl q (zlv hk)) (kk ls hl))
theorem z_lload  {i : Nat} {x : Int64} (q : Nat) (hk : lv[q]? = some (i, .long x)) (hd : decode cc pc = .ok (.lload i, 2)) (kk : zG X V own nm cc nL ret d n0 k0 o (pc + 2) lv (.long x :: st) h) : zG X V own nm cc nL ret d n0 k0 o pc lv st h := zstep kk (fun C _ _ _ _ _ ls _ _ hl kk => lv_lload C.1 C.2.1 hd (lv_at hl q (zlv hk)) (kk ls hl))
theorem z_aload_n  {k : Fin 4} {i : Nat} {x : Nat} (q : Nat) (hi : (k : Nat) = i) (hk : lv[q]? = some (i, .ref x)) (hd : decode cc pc = .ok (.aload_n k, 1)) (kk : zG X V own nm cc nL ret d n0 k0 o (pc + 1) lv (.ref x :: st) h) : zG X V own nm cc nL ret d n0 k0 o pc lv st h := zstep kk (fun C _ _ _ _ _ ls _ _ hl kk => lv_aload_n C.1 C.2.1 hd hi (lv_at hl q (zlv hk)) (kk ls hl))
theorem z_aload  {i : Nat} {x : Nat} (q : Nat) (hk : lv[q]? = some (i, .ref x)) (hd : decode cc pc = .ok (.aload i, 2)) (kk : zG X V own nm cc nL ret d n0 k0 o (pc + 2) lv (.ref x :: st) h) : zG X V own nm cc nL ret d n0 k0 o pc lv st h := zstep kk (fun C _ _ _ _ _ ls _ _ hl kk => lv_aload C.1 C.2.1 hd (lv_at hl q (zlv hk)) (kk ls hl))
theorem z_sload_n  {k : Fin 4} {i : Nat} {x : UInt32} (q : Nat) (hi : (k : Nat) = i) (hk : lv[q]? = some (i, .float x)) (hd : decode cc pc = .ok (.aload_n k, 1)) (kk : zG X V own nm cc nL ret d n0 k0 o (pc + 1) lv (.float x :: st) h) : zG X V own nm cc nL ret d n0 k0 o pc lv st h := zstep kk (fun C _ _ _ _ _ ls _ _ hl kk => lv_aload_n C.1 C.2.1 hd hi (lv_at hl q (zlv hk)) (kk ls hl))
theorem z_istore_n  {k : Fin 4} {i : Nat} {x : Int32} {lv' : List (Nat × Value)} (hi : (k : Nat) = i) (hn : i < nL) (hl' : (i, Value.int x) :: lv.filter (fun q => !(q.1 == i) && !(q.1 + 1 == i && q.2.category == 2)) = lv') (hd : decode cc pc = .ok (.istore_n k, 1)) (kk : zG X V own nm cc nL ret d n0 k0 o (pc + 1) lv' st h) : zG X V own nm cc nL ret d n0 k0 o pc lv (.int x :: st) h := by
  refine zstep kk (fun C _ _ _ _ _ ls _ _ hl kk => ?_)
  refine lv_istore_n C.1 C.2.1 hd hi hl hn rfl (fun ls hl => kk ls ?_)
  rw [zfilt (fun q => by simp only [ztv_cat])] at hl
  rw [← hl']
  exact hl
theorem z_istore  {i : Nat} {x : Int32} {lv' : List (Nat × Value)} (hn : i < nL) (hl' : (i, Value.int x) :: lv.filter (fun q => !(q.1 == i) && !(q.1 + 1 == i && q.2.category == 2)) = lv') (hd : decode cc pc = .ok (.istore i, 2)) (kk : zG X V own nm cc nL ret d n0 k0 o (pc + 2) lv' st h) : zG X V own nm cc nL ret d n0 k0 o pc lv (.int x :: st) h := by
  refine zstep kk (fun C _ _ _ _ _ ls _ _ hl kk => ?_)
  refine lv_istore C.1 C.2.1 hd hl hn rfl (fun ls hl => kk ls ?_)
  rw [zfilt (fun q => by simp only [ztv_cat])] at hl
  rw [← hl']
  exact hl
theorem z_lstore_n  {k : Fin 4} {i : Nat} {x : Int64} {lv' : List (Nat × Value)} (hi : (k : Nat) = i) (hn : i + 1 < nL) (hl' : (i, Value.long x) :: lv.filter (fun q => !(q.1 == i) && (!(q.1 == i + 1) && !(q.1 + 1 == i && q.2.category == 2))) = lv') (hd : decode cc pc = .ok (.lstore_n k, 1)) (kk : zG X V own nm cc nL ret d n0 k0 o (pc + 1) lv' st h) : zG X V own nm cc nL ret d n0 k0 o pc lv (.long x :: st) h := by
  refine zstep kk (fun C _ _ _ _ _ ls _ _ hl kk => ?_)
  refine lv_lstore_n C.1 C.2.1 hd hi hl hn rfl (fun ls hl => kk ls ?_)
  rw [zfilt (fun q => by simp only [ztv_cat])] at hl
  rw [← hl']
  exact hl
theorem z_lstore  {i : Nat} {x : Int64} {lv' : List (Nat × Value)} (hn : i + 1 < nL) (hl' : (i, Value.long x) :: lv.filter (fun q => !(q.1 == i) && (!(q.1 == i + 1) && !(q.1 + 1 == i && q.2.category == 2))) = lv') (hd : decode cc pc = .ok (.lstore i, 2)) (kk : zG X V own nm cc nL ret d n0 k0 o (pc + 2) lv' st h) : zG X V own nm cc nL ret d n0 k0 o pc lv (.long x :: st) h := by
  refine zstep kk (fun C _ _ _ _ _ ls _ _ hl kk => ?_)
  refine lv_lstore C.1 C.2.1 hd hl hn rfl (fun ls hl => kk ls ?_)
  rw [zfilt (fun q => by simp only [ztv_cat])] at hl
  rw [← hl']
  exact hl
theorem z_astore_n  {k : Fin 4} {i : Nat} {x : Nat} {lv' : List (Nat × Value)} (hi : (k : Nat) = i) (hn : i < nL) (hl' : (i, Value.ref x) :: lv.filter (fun q => !(q.1 == i) && !(q.1 + 1 == i && q.2.category == 2)) = lv') (hd : decode cc pc = .ok (.astore_n k, 1)) (kk : zG X V own nm cc nL ret d n0 k0 o (pc + 1) lv' st h) : zG X V own nm cc nL ret d n0 k0 o pc lv (.ref x :: st) h := by
  refine zstep kk (fun C _ _ _ _ _ ls _ _ hl kk => ?_)
  refine lv_astore_n C.1 C.2.1 hd hi hl hn rfl (fun ls hl => kk ls ?_)
  rw [zfilt (fun q => by simp only [ztv_cat])] at hl
  rw [← hl']
  exact hl
theorem z_astore  {i : Nat} {x : Nat} {lv' : List (Nat × Value)} (hn : i < nL) (hl' : (i, Value.ref x) :: lv.filter (fun q => !(q.1 == i) && !(q.1 + 1 == i && q.2.category == 2)) = lv') (hd : decode cc pc = .ok (.astore i, 2)) (kk : zG X V own nm cc nL ret d n0 k0 o (pc + 2) lv' st h) : zG X V own nm cc nL ret d n0 k0 o pc lv (.ref x :: st) h := by
  refine zstep kk (fun C _ _ _ _ _ ls _ _ hl kk => ?_)
  refine lv_astore C.1 C.2.1 hd hl hn rfl (fun ls hl => kk ls ?_)
  rw [zfilt (fun q => by simp only [ztv_cat])] at hl
  rw [← hl']
  exact hl
theorem z_iinc  {i : Nat} {n : Int} {x v : Int32} {lv' : List (Nat × Value)} (q : Nat) (hk : lv[q]? = some (i, .int x)) (hv : x + Int32.ofInt n = v) (hn : i < nL) (hl' : (i, Value.int v) :: lv.filter (fun q => !(q.1 == i) && !(q.1 + 1 == i && q.2.category == 2)) = lv') (hd : decode cc pc = .ok (.iinc i n, 3)) (kk : zG X V own nm cc nL ret d n0 k0 o (pc + 3) lv' st h) : zG X V own nm cc nL ret d n0 k0 o pc lv st h := by
  refine zstep kk (fun C _ _ _ _ _ ls _ _ hl kk => ?_)
  refine lv_iinc C.1 C.2.1 hd hl (zlv hk) hv hn rfl (fun ls hl => kk ls ?_)
  rw [zfilt (fun q => by simp only [ztv_cat])] at hl
  rw [← hl']
  exact hl
theorem z_if_eq  {x : Int32} {off : Int} {A B : RR} (tgt : Nat) (ht : (pc : Int) + off = (tgt : Int)) (hd : decode cc pc = .ok (.ifCond .eq off, 3)) (ka : zG X V own nm cc nL ret d n0 k0 A tgt lv st h) (kb : zG X V own nm cc nL ret d n0 k0 B (pc + 3) lv st h) : zG X V own nm cc nL ret d n0 k0 (if x = 0 then A else B) pc lv (.int x :: st) h := by
  by_cases q : x = 0
  · rw [if_pos q]
    exact zstep ka (fun C _ _ _ _ _ ls _ _ hl kk => lv_if_eq C.1 C.2.1 hd ht (fun _ => kk ls hl) (fun n => absurd q n))
  · rw [if_neg q]
    exact zstep kb (fun C _ _ _ _ _ ls _ _ hl kk => lv_if_eq C.1 C.2.1 hd ht (fun n => absurd n q) (fun _ => kk ls hl))
theorem z_icmp_eq  {x y : Int32} {off : Int} {A B : RR} (tgt : Nat) (ht : (pc : Int) + off = (tgt : Int)) (hd : decode cc pc = .ok (.if_icmp .eq off, 3)) (ka : zG X V own nm cc nL ret d n0 k0 A tgt lv st h) (kb : zG X V own nm cc nL ret d n0 k0 B (pc + 3) lv st h) : zG X V own nm cc nL ret d n0 k0 (if x = y then A else B) pc lv (.int y :: .int x :: st) h := by
  by_cases q : x = y
  · rw [if_pos q]
    exact zstep ka (fun C _ _ _ _ _ ls _ _ hl kk => lv_icmp_eq C.1 C.2.1 hd ht (fun _ => kk ls hl) (fun n => absurd q n))
  · rw [if_neg q]
    exact zstep kb (fun C _ _ _ _ _ ls _ _ hl kk => lv_icmp_eq C.1 C.2.1 hd ht (fun n => absurd n q) (fun _ => kk ls hl))
theorem z_if_ne  {x : Int32} {off : Int} {A B : RR} (tgt : Nat) (ht : (pc : Int) + off = (tgt : Int)) (hd : decode cc pc = .ok (.ifCond .ne off, 3)) (ka : zG X V own nm cc nL ret d n0 k0 A (pc + 3) lv st h) (kb : zG X V own nm cc nL ret d n0 k0 B tgt lv st h) : zG X V own nm cc nL ret d n0 k0 (if x = 0 then A else B) pc lv (.int x :: st) h := by
  by_cases q : x = 0
  · rw [if_pos q]
    exact zstep ka (fun C _ _ _ _ _ ls _ _ hl kk => lv_if_ne C.1 C.2.1 hd ht (fun n => absurd q n) (fun _ => kk ls hl))
  · rw [if_neg q]
    exact zstep kb (fun C _ _ _ _ _ ls _ _ hl kk => lv_if_ne C.1 C.2.1 hd ht (fun _ => kk ls hl) (fun n => absurd n q))
theorem z_icmp_ne  {x y : Int32} {off : Int} {A B : RR} (tgt : Nat) (ht : (pc : Int) + off = (tgt : Int)) (hd : decode cc pc = .ok (.if_icmp .ne off, 3)) (ka : zG X V own nm cc nL ret d n0 k0 A (pc + 3) lv st h) (kb : zG X V own nm cc nL ret d n0 k0 B tgt lv st h) : zG X V own nm cc nL ret d n0 k0 (if x = y then A else B) pc lv (.int y :: .int x :: st) h := by
  by_cases q : x = y
  · rw [if_pos q]
    exact zstep ka (fun C _ _ _ _ _ ls _ _ hl kk => lv_icmp_ne C.1 C.2.1 hd ht (fun n => absurd q n) (fun _ => kk ls hl))
  · rw [if_neg q]
    exact zstep kb (fun C _ _ _ _ _ ls _ _ hl kk => lv_icmp_ne C.1 C.2.1 hd ht (fun _ => kk ls hl) (fun n => absurd n q))
theorem z_if_lt  {x : Int32} {off : Int} {A B : RR} (tgt : Nat) (ht : (pc : Int) + off = (tgt : Int)) (hd : decode cc pc = .ok (.ifCond .lt off, 3)) (ka : zG X V own nm cc nL ret d n0 k0 A tgt lv st h) (kb : zG X V own nm cc nL ret d n0 k0 B (pc + 3) lv st h) : zG X V own nm cc nL ret d n0 k0 (if x < 0 then A else B) pc lv (.int x :: st) h := by
  by_cases q : x < 0
  · rw [if_pos q]
    exact zstep ka (fun C _ _ _ _ _ ls _ _ hl kk => lv_if_lt C.1 C.2.1 hd ht (fun _ => kk ls hl) (fun n => absurd q n))
  · rw [if_neg q]
    exact zstep kb (fun C _ _ _ _ _ ls _ _ hl kk => lv_if_lt C.1 C.2.1 hd ht (fun n => absurd n q) (fun _ => kk ls hl))
theorem z_icmp_lt  {x y : Int32} {off : Int} {A B : RR} (tgt : Nat) (ht : (pc : Int) + off = (tgt : Int)) (hd : decode cc pc = .ok (.if_icmp .lt off, 3)) (ka : zG X V own nm cc nL ret d n0 k0 A tgt lv st h) (kb : zG X V own nm cc nL ret d n0 k0 B (pc + 3) lv st h) : zG X V own nm cc nL ret d n0 k0 (if x < y then A else B) pc lv (.int y :: .int x :: st) h := by
  by_cases q : x < y
  · rw [if_pos q]
    exact zstep ka (fun C _ _ _ _ _ ls _ _ hl kk => lv_icmp_lt C.1 C.2.1 hd ht (fun _ => kk ls hl) (fun n => absurd q n))
  · rw [if_neg q]
    exact zstep kb (fun C _ _ _ _ _ ls _ _ hl kk => lv_icmp_lt C.1 C.2.1 hd ht (fun n => absurd n q) (fun _ => kk ls hl))
theorem z_if_ge  {x : Int32} {off : Int} {A B : RR} (tgt : Nat) (ht : (pc : Int) + off = (tgt : Int)) (hd : decode cc pc = .ok (.ifCond .ge off, 3)) (ka : zG X V own nm cc nL ret d n0 k0 A tgt lv st h) (kb : zG X V own nm cc nL ret d n0 k0 B (pc + 3) lv st h) : zG X V own nm cc nL ret d n0 k0 (if 0 ≤ x then A else B) pc lv (.int x :: st) h := by
  by_cases q : 0 ≤ x
  · rw [if_pos q]
    exact zstep ka (fun C _ _ _ _ _ ls _ _ hl kk => lv_if_ge C.1 C.2.1 hd ht (fun _ => kk ls hl) (fun n => absurd q n))
  · rw [if_neg q]
    exact zstep kb (fun C _ _ _ _ _ ls _ _ hl kk => lv_if_ge C.1 C.2.1 hd ht (fun n => absurd n q) (fun _ => kk ls hl))
theorem z_icmp_ge  {x y : Int32} {off : Int} {A B : RR} (tgt : Nat) (ht : (pc : Int) + off = (tgt : Int)) (hd : decode cc pc = .ok (.if_icmp .ge off, 3)) (ka : zG X V own nm cc nL ret d n0 k0 A tgt lv st h) (kb : zG X V own nm cc nL ret d n0 k0 B (pc + 3) lv st h) : zG X V own nm cc nL ret d n0 k0 (if y ≤ x then A else B) pc lv (.int y :: .int x :: st) h := by
  by_cases q : y ≤ x
  · rw [if_pos q]
    exact zstep ka (fun C _ _ _ _ _ ls _ _ hl kk => lv_icmp_ge C.1 C.2.1 hd ht (fun _ => kk ls hl) (fun n => absurd q n))
  · rw [if_neg q]
    exact zstep kb (fun C _ _ _ _ _ ls _ _ hl kk => lv_icmp_ge C.1 C.2.1 hd ht (fun n => absurd n q) (fun _ => kk ls hl))
theorem z_if_gt  {x : Int32} {off : Int} {A B : RR} (tgt : Nat) (ht : (pc : Int) + off = (tgt : Int)) (hd : decode cc pc = .ok (.ifCond .gt off, 3)) (ka : zG X V own nm cc nL ret d n0 k0 A tgt lv st h) (kb : zG X V own nm cc nL ret d n0 k0 B (pc + 3) lv st h) : zG X V own nm cc nL ret d n0 k0 (if 0 < x then A else B) pc lv (.int x :: st) h := by
  by_cases q : 0 < x
  · rw [if_pos q]
    exact zstep ka (fun C _ _ _ _ _ ls _ _ hl kk => lv_if_gt C.1 C.2.1 hd ht (fun _ => kk ls hl) (fun n => absurd q n))
  · rw [if_neg q]
    exact zstep kb (fun C _ _ _ _ _ ls _ _ hl kk => lv_if_gt C.1 C.2.1 hd ht (fun n => absurd n q) (fun _ => kk ls hl))
theorem z_icmp_gt  {x y : Int32} {off : Int} {A B : RR} (tgt : Nat) (ht : (pc : Int) + off = (tgt : Int)) (hd : decode cc pc = .ok (.if_icmp .gt off, 3)) (ka : zG X V own nm cc nL ret d n0 k0 A tgt lv st h) (kb : zG X V own nm cc nL ret d n0 k0 B (pc + 3) lv st h) : zG X V own nm cc nL ret d n0 k0 (if y < x then A else B) pc lv (.int y :: .int x :: st) h := by
  by_cases q : y < x
  · rw [if_pos q]
    exact zstep ka (fun C _ _ _ _ _ ls _ _ hl kk => lv_icmp_gt C.1 C.2.1 hd ht (fun _ => kk ls hl) (fun n => absurd q n))
  · rw [if_neg q]
    exact zstep kb (fun C _ _ _ _ _ ls _ _ hl kk => lv_icmp_gt C.1 C.2.1 hd ht (fun n => absurd n q) (fun _ => kk ls hl))
theorem z_if_le  {x : Int32} {off : Int} {A B : RR} (tgt : Nat) (ht : (pc : Int) + off = (tgt : Int)) (hd : decode cc pc = .ok (.ifCond .le off, 3)) (ka : zG X V own nm cc nL ret d n0 k0 A tgt lv st h) (kb : zG X V own nm cc nL ret d n0 k0 B (pc + 3) lv st h) : zG X V own nm cc nL ret d n0 k0 (if x ≤ 0 then A else B) pc lv (.int x :: st) h := by
  by_cases q : x ≤ 0
  · rw [if_pos q]
    exact zstep ka (fun C _ _ _ _ _ ls _ _ hl kk => lv_if_le C.1 C.2.1 hd ht (fun _ => kk ls hl) (fun n => absurd q n))
  · rw [if_neg q]
    exact zstep kb (fun C _ _ _ _ _ ls _ _ hl kk => lv_if_le C.1 C.2.1 hd ht (fun n => absurd n q) (fun _ => kk ls hl))
theorem z_icmp_le  {x y : Int32} {off : Int} {A B : RR} (tgt : Nat) (ht : (pc : Int) + off = (tgt : Int)) (hd : decode cc pc = .ok (.if_icmp .le off, 3)) (ka : zG X V own nm cc nL ret d n0 k0 A tgt lv st h) (kb : zG X V own nm cc nL ret d n0 k0 B (pc + 3) lv st h) : zG X V own nm cc nL ret d n0 k0 (if x ≤ y then A else B) pc lv (.int y :: .int x :: st) h := by
  by_cases q : x ≤ y
  · rw [if_pos q]
    exact zstep ka (fun C _ _ _ _ _ ls _ _ hl kk => lv_icmp_le C.1 C.2.1 hd ht (fun _ => kk ls hl) (fun n => absurd q n))
  · rw [if_neg q]
    exact zstep kb (fun C _ _ _ _ _ ls _ _ hl kk => lv_icmp_le C.1 C.2.1 hd ht (fun n => absurd n q) (fun _ => kk ls hl))
theorem z_goto  {off : Int} (tgt : Nat) (ht : (pc : Int) + off = (tgt : Int)) (hd : decode cc pc = .ok (.goto off, 3)) (k : zG X V own nm cc nL ret d n0 k0 o tgt lv st h) : zG X V own nm cc nL ret d n0 k0 o pc lv st h := zstep k (fun C _ _ _ _ _ ls _ _ hl kk => lv_goto C.1 C.2.1 hd ht (kk ls hl))
theorem z_idiv  {x y : Int32} {A : RR} (hd : decode cc pc = .ok (.idiv, 1)) (k : zG X V own nm cc nL ret d n0 k0 A (pc + 1) lv (.int (x / y) :: st) h) : zG X V own nm cc nL ret d n0 k0 (if y = 0 then none else A) pc lv (.int y :: .int x :: st) h := by
  by_cases q : y = 0
  · rw [if_pos q]; exact z_none
  · rw [if_neg q]
    exact zstep k (fun C _ _ _ _ _ ls _ _ hl kk => lv_idiv C.1 C.2.1 hd q (kk ls hl))
theorem z_irem  {x y : Int32} {A : RR} (hd : decode cc pc = .ok (.irem, 1)) (k : zG X V own nm cc nL ret d n0 k0 A (pc + 1) lv (.int (x - x / y * y) :: st) h) : zG X V own nm cc nL ret d n0 k0 (if y = 0 then none else A) pc lv (.int y :: .int x :: st) h := by
  by_cases q : y = 0
  · rw [if_pos q]; exact z_none
  · rw [if_neg q]
    exact zstep k (fun C _ _ _ _ _ ls _ _ hl kk => lv_irem C.1 C.2.1 hd q (kk ls hl))
theorem z_ldc  {index : Nat} {v : Int32} (hw : Cond.constant own index v ∈ zWU) (hd : decode cc pc = .ok (.ldc index, 2)) (k : zG X V own nm cc nL ret d n0 k0 o (pc + 2) lv (.int v :: st) h) : zG X V own nm cc nL ret d n0 k0 o pc lv st h := zstep k (fun C _ _ _ _ _ ls _ _ hl kk => lv_ldc C.1 C.2.1 C.2.2.2.1 (C.2.2.2.2.1 _ hw) hd (kk ls hl))
theorem z_ldc2  {index : Nat} {v : Int64} (hw : Cond.constantLong own index v ∈ zWU) (hd : decode cc pc = .ok (.ldc2_w index, 3)) (k : zG X V own nm cc nL ret d n0 k0 o (pc + 3) lv (.long v :: st) h) : zG X V own nm cc nL ret d n0 k0 o pc lv st h := zstep k (fun C _ _ _ _ _ ls _ _ hl kk => lv_ldc2 C.1 C.2.1 C.2.2.2.1 (C.2.2.2.2.1 _ hw) hd (kk ls hl))
theorem z_ldcw  {index : Nat} {v : Int32} (hw : Cond.constant own index v ∈ zWU) (hd : decode cc pc = .ok (.ldc_w index, 3)) (k : zG X V own nm cc nL ret d n0 k0 o (pc + 3) lv (.int v :: st) h) : zG X V own nm cc nL ret d n0 k0 o pc lv st h := zstep k (fun C _ _ _ _ _ ls _ _ hl kk => lv_ldcw C.1 C.2.1 C.2.2.2.1 (C.2.2.2.2.1 _ hw) hd (kk ls hl))
theorem z_ldcs  {index : Nat} {tx : String} (j : Nat) (hj : (UInt32.ofNat j).toNat = j) (hq : (own, index, tx, j) ∈ zstr) (hd : decode cc pc = .ok (.ldc index, 2)) (k : zG X V own nm cc nL ret d n0 k0 o (pc + 2) lv (.float (UInt32.ofNat j) :: st) h) : zG X V own nm cc nL ret d n0 k0 o pc lv st h := by
  refine zstep k (fun C _ _ _ _ _ ls _ _ hl kk => ?_)
  have e : ztS V (.float (UInt32.ofNat j) :: st) = .ref (V.2.2.2.1 j) :: ztS V st := by
    show Value.ref (V.2.2.2.1 (UInt32.ofNat j).toNat) :: _ = _
    rw [hj]
  have kk9 := kk ls hl
  rw [e] at kk9
  exact va_ldcS C.1 C.2.1 C.2.2.2.1 (C.2.2.2.2.2.2.2.2.1.2.1 _ hq) hd kk9
end ZR
end
section
/-! OUR LAYER, part 3: cells -/
def zfd (h : AH) (a ci k : Nat) : Option Value := match h.2.2 a with
  | some (.inr (.inr (.inr (c, fs)))) => if c = ci then fs[k]? else none
  | _ => none
def zgI (h : AH) (a ci k : Nat) : Option Int32 := match zfd h a ci k with
  | some (.int x) => some x
  | _ => none
def zgR (h : AH) (a ci k : Nat) : Option Nat := match zfd h a ci k with
  | some (.ref x) => some x
  | _ => none
def zpf (h : AH) (a ci k : Nat) (v : Value) : Option AH := match h.2.2 a with
  | some (.inr (.inr (.inr (c, fs)))) => if c = ci ∧ k < fs.length then some (zput h a (z_o ci (fs.set k v))) else none
  | _ => none
def zob (h : AH) (a ci : Nat) : Bool := match h.2.2 a with
  | some (.inr (.inr (.inr (c, _)))) => c == ci
  | _ => false
def zlen (h : AH) (a : Nat) : Option Nat := match h.2.2 a with
  | some (.inl (n, _)) => some n
  | some (.inr (.inl (n, _))) => some n
  | _ => none
def zai (h : AH) (a : Nat) (i : Int32) : Option Int32 := match h.2.2 a with
  | some (.inl (n, f)) => if i < 0 ∨ n ≤ i.toNatClampNeg then none else some (f i.toNatClampNeg)
  | _ => none
def zal (h : AH) (a : Nat) (i : Int32) : Option Int64 := match h.2.2 a with
  | some (.inr (.inl (n, f))) => if i < 0 ∨ n ≤ i.toNatClampNeg then none else some (f i.toNatClampNeg)
  | _ => none
def zar (h : AH) (a : Nat) (i : Int32) : Option Nat := match h.2.2 a with
  | some (.inr (.inr (.inl (t, n, f)))) => if (t = 2 ∨ t = 3) ∧ ¬ (i < 0 ∨ n ≤ i.toNatClampNeg) then f i.toNatClampNeg else none
  | _ => none
def zsi (h : AH) (a : Nat) (i x : Int32) : Option AH := match h.2.2 a with
  | some (.inl (n, f)) => if i < 0 ∨ n ≤ i.toNatClampNeg then none else some (zput h a (z_i n (va_up f i.toNatClampNeg x)))
  | _ => none
def zsl (h : AH) (a : Nat) (i : Int32) (x : Int64) : Option AH := match h.2.2 a with
  | some (.inr (.inl (n, f))) => if i < 0 ∨ n ≤ i.toNatClampNeg then none else some (zput h a (z_l n (va_up f i.toNatClampNeg x)))
  | _ => none
def zsr (h : AH) (a : Nat) (i : Int32) (b : Nat) : Option AH := match h.2.2 a with
  | some (.inr (.inr (.inl (t, n, f)))) => if t = 3 ∧ zob h b 3 = true ∧ ¬ (i < 0 ∨ n ≤ i.toNatClampNeg) then some (zput h a (z_r 3 n (va_up f i.toNatClampNeg (some b)))) else none
  | _ => none
def znI (h : AH) (n : Int32) : Option (Nat × AH) := if n < 0 ∨ 100000 < n.toNatClampNeg then none else some (h.1, znew h n.toNatClampNeg (z_i n.toNatClampNeg (fun _ => 0)))
def znJ (h : AH) (n : Int32) : Option (Nat × AH) := if n < 0 ∨ 100000 < n.toNatClampNeg then none else some (h.1, znew h n.toNatClampNeg (z_l n.toNatClampNeg (fun _ => 0)))
def znS (h : AH) (n : Int32) : Option (Nat × AH) := if n < 0 ∨ 100000 < n.toNatClampNeg then none else some (h.1, znew h n.toNatClampNeg (z_r 3 n.toNatClampNeg (fun _ => none)))
def znM (h : AH) (n k : Int32) : Option (Nat × AH) := if n < 0 ∨ k < 0 ∨ 100000 < n.toNatClampNeg ∨ 100000 < k.toNatClampNeg then none else some (h.1, zmul h n.toNatClampNeg k.toNatClampNeg)
def zdf : Nat → List Value
  | 0 => [.int 0, .int 0, .int 0, .int 0, .null, .null, .null, .null, .null]
  | 1 => [.int 0, .int 0, .null]
  | 2 => [.int 0, .int 0, .null, .null, .null, .null, .null, .null]
  | 3 => [.int 0, .int 0, .int 0, .null]
  | 4 => [.int 0, .null, .null, .null, .null, .null]
  | 5 => [.int 0, .int 0, .int 0, .int 0, .null, .null, .null, .null, .int 0]
  | 6 => [.null, .null, .null, .null, .null, .null, .null, .null, .int 0]
  | _ => [.int 0, .null, .int 0, .int 0, .int 0, .int 0, .int 0, .int 0, .null, .null, .null, .null, .int 0, .int 0, .int 0, .int 0, .int 0, .null, .null, .null, .null, .null, .int 0, .int 0, .null, .null, .null, .null]
def znO (h : AH) (ci : Nat) : Option (Nat × AH) := some (h.1, znew h (zdf ci).length (z_o ci (zdf ci)))
-- arraycopy of ints
def zcp (h : AH) (a0 : Nat) (sp : Int32) (a1 : Nat) (dp n : Int32) : Option AH := match h.2.2 a0, h.2.2 a1 with
  | some (.inl (n0, f)), some (.inl (n1, g)) => if sp < 0 ∨ dp < 0 ∨ n < 0 ∨ n0 < sp.toNatClampNeg + n.toNatClampNeg ∨ n1 < dp.toNatClampNeg + n.toNatClampNeg then none else some (zput h a1 (z_i n1 (va_cpy f g sp.toNatClampNeg dp.toNatClampNeg n.toNatClampNeg)))
  | _, _ => none
-- what they say
theorem zfd_spec {h : AH} {a ci k : Nat} {v : Value} (e : zfd h a ci k = some v) : ∃ fs, h.2.2 a = some (z_o ci fs) ∧ fs[k]? = some v := by
  unfold zfd at e
  split at e
  · next c fs hh =>
    split at e
    · next hc => exact ⟨fs, by rw [hh, hc], e⟩
    · cases e
  · cases e
theorem zgI_spec {h : AH} {a ci k : Nat} {x : Int32} (e : zgI h a ci k = some x) : ∃ fs, h.2.2 a = some (z_o ci fs) ∧ fs[k]? = some (.int x) := by
  unfold zgI at e
  split at e
  · next y hh => cases e; exact zfd_spec hh
  · cases e
theorem zgR_spec {h : AH} {a ci k x : Nat} (e : zgR h a ci k = some x) : ∃ fs, h.2.2 a = some (z_o ci fs) ∧ fs[k]? = some (.ref x) := by
  unfold zgR at e
  split at e
  · next y hh => cases e; exact zfd_spec hh
  · cases e
theorem zpf_spec {h h' : AH} {a ci k : Nat} {v : Value} (e : zpf h a ci k v = some h') : ∃ fs, h.2.2 a = some (z_o ci fs) ∧ k < fs.length ∧ h' = zput h a (z_o ci (fs.set k v)) := by
  unfold zpf at e
  split at e
  · next c fs hh =>
    split at e
    · next hc => cases e; exact ⟨fs, by rw [hh, hc.1], hc.2, rfl⟩
    · cases e
  · cases e
theorem zob_spec {h : AH} {a ci : Nat} (e : zob h a ci = true) : ∃ fs, h.2.2 a = some (z_o ci fs) := by
  unfold zob at e
  split at e
  · next c fs hh => exact ⟨fs, by rw [hh, beq_iff_eq.mp e]⟩
  · cases e
theorem zai_spec {h : AH} {a : Nat} {i x : Int32} (e : zai h a i = some x) : ∃ n f, h.2.2 a = some (z_i n f) ∧ vp_in i n ∧ x = f i.toNatClampNeg := by
  unfold zai at e
  split at e
  · next n f hh =>
    split at e
    · cases e
    · next hc => exact ⟨n, f, hh, hc, (Option.some.inj e).symm⟩
  · cases e
theorem zal_spec {h : AH} {a : Nat} {i : Int32} {x : Int64} (e : zal h a i = some x) : ∃ n f, h.2.2 a = some (z_l n f) ∧ vp_in i n ∧ x = f i.toNatClampNeg := by
  unfold zal at e
  split at e
  · next n f hh =>
    split at e
    · cases e
    · next hc => exact ⟨n, f, hh, hc, (Option.some.inj e).symm⟩
  · cases e
theorem zar_spec {h : AH} {a x : Nat} {i : Int32} (e : zar h a i = some x) : ∃ t n f, h.2.2 a = some (z_r t n f) ∧ (t = 2 ∨ t = 3) ∧ vp_in i n ∧ f i.toNatClampNeg = some x := by
  unfold zar at e
  split at e
  · next t n f hh =>
    split at e
    · next hc => exact ⟨t, n, f, hh, hc.1, hc.2, e⟩
    · cases e
  · cases e
theorem zsi_spec {h h' : AH} {a : Nat} {i x : Int32} (e : zsi h a i x = some h') : ∃ n f, h.2.2 a = some (z_i n f) ∧ vp_in i n ∧ h' = zput h a (z_i n (va_up f i.toNatClampNeg x)) := by
  unfold zsi at e
  split at e
  · next n f hh =>
    split at e
    · cases e
    · next hc => exact ⟨n, f, hh, hc, (Option.some.inj e).symm⟩
  · cases e
theorem zsl_spec {h h' : AH} {a : Nat} {i : Int32} {x : Int64} (e : zsl h a i x = some h') : ∃ n f, h.2.2 a = some (z_l n f) ∧ vp_in i n ∧ h' = zput h a (z_l n (va_up f i.toNatClampNeg x)) := by
  unfold zsl at e
  split at e
  · next n f hh =>
    split at e
    · cases e
    · next hc => exact ⟨n, f, hh, hc, (Option.some.inj e).symm⟩
  · cases e
theorem zsr_spec {h h' : AH} {a b : Nat} {i : Int32} (e : zsr h a i b = some h') : ∃ n f, h.2.2 a = some (z_r 3 n f) ∧ zob h b 3 = true ∧ vp_in i n ∧ h' = zput h a (z_r 3 n (va_up f i.toNatClampNeg (some b))) := by
  unfold zsr at e
  split at e
  · next t n f hh =>
    split at e
    · next hc => exact ⟨n, f, by rw [hh, hc.1], hc.2.1, hc.2.2, (Option.some.inj e).symm⟩
    · cases e
  · cases e
theorem zcp_spec {h h' : AH} {a0 a1 : Nat} {sp dp n : Int32} (e : zcp h a0 sp a1 dp n = some h') : ∃ n0 f n1 g, h.2.2 a0 = some (z_i n0 f) ∧ h.2.2 a1 = some (z_i n1 g) ∧ ¬ (sp < 0 ∨ dp < 0 ∨ n < 0 ∨ n0 < sp.toNatClampNeg + n.toNatClampNeg ∨ n1 < dp.toNatClampNeg + n.toNatClampNeg) ∧ h' = zput h a1 (z_i n1 (va_cpy f g sp.toNatClampNeg dp.toNatClampNeg n.toNatClampNeg)) := by
  unfold zcp at e
  split at e
  · next n0 f n1 g h1 h2 =>
    split at e
    · cases e
    · next hc => exact ⟨n0, f, n1, g, h1, h2, hc, (Option.some.inj e).symm⟩
  · cases e
-- the kinds of cells, and their words
theorem zin_all : ∀ q ∈ zcl, ∀ w ∈ u_ws q.1 q.2.1 q.2.2, w ∈ zWU := by decide +kernel
def zfty (ci : Nat) : Nat → FieldType := match ci with
  | 0 => tyX0
  | 1 => tyX1
  | 2 => tyX2
  | 3 => tyX3
  | 4 => tyX4
  | 5 => tyX5
  | 6 => tyX6
  | _ => tyX7
theorem zty_ok : ∀ (ci : Nat) (q : vw_C), zcl[ci]? = some q → (∀ k, k < q.2.2 → parseFieldDescriptor (q.2.1 k).2.2.1 = some (zfty ci k)) ∧ (∀ a, a < q.2.2 → ∀ b, b < q.2.2 → a ≠ b → (q.2.1 a).2.1 ≠ (q.2.1 b).2.1) ∧ (∀ w ∈ u_ws q.1 q.2.1 q.2.2, w ∈ zWU) ∧ (zdf ci).length = q.2.2 ∧ (∀ j, j < q.2.2 → defaultValue (zfty ci j) = vp_V (zdf ci) j) := by
  intro ci q hq
  have hm := zin_all q (List.mem_of_getElem? hq)
  match ci, hq with
  | 0, hq => cases hq; exact ⟨tyX0_ok, nmX0, hm, rfl, by decide +kernel⟩
  | 1, hq => cases hq; exact ⟨tyX1_ok, nmX1, hm, rfl, by decide +kernel⟩
  | 2, hq => cases hq; exact ⟨tyX2_ok, nmX2, hm, rfl, by decide +kernel⟩
  | 3, hq => cases hq; exact ⟨tyX3_ok, nmX3, hm, rfl, by decide +kernel⟩
  | 4, hq => cases hq; exact ⟨tyX4_ok, nmX4, hm, rfl, by decide +kernel⟩
  | 5, hq => cases hq; exact ⟨tyX5_ok, nmX5, hm, rfl, by decide +kernel⟩
  | 6, hq => cases hq; exact ⟨tyX6_ok, nmX6, hm, rfl, by decide +kernel⟩
  | 7, hq => cases hq; exact ⟨tyX7_ok, nmX7, hm, rfl, by decide +kernel⟩
  | n + 8, hq => simp [zcl] at hq
/-- a field's entry of a pool: whose cells, which place -/
def zFL (own : String) (idx ci k : Nat) : Prop := ∃ q : vw_C, zcl[ci]? = some q ∧ k < q.2.2 ∧ Cond.fieldLink own idx (q.2.1 k).1 (q.2.1 k).2.1 (q.2.1 k).2.2.1 ∈ zWU
/-- who may write there -/
def zFW (own nm : String) (ci k : Nat) : Prop := ∃ q : vw_C, zcl[ci]? = some q ∧ ((q.2.1 k).2.2.2 = false ∨ ((q.2.1 k).2.2.2 = true ∧ nm = "<init>" ∧ (q.2.1 k).1 = own))
theorem zput_at {h : AH} {a b : Nat} {e : aE} : (zput h a e).2.2 b = if b = a then some e else h.2.2 b := rfl
theorem zRep.put {V : VT} {h : AH} {H H1 : Heap} {a : Nat} {e : aE} (hR : zRep V h H) (z : H1.size = H.size) (he : va_at V.1 zcl (V.2.2.1 + a, ztc V e) H1) (oq : ∀ q : Nat, q ≠ V.2.2.1 + a → H1[q]? = H[q]?) : zRep V (zput h a e) H1 := by
  refine ⟨z.trans hR.1, fun b e' hb => ?_⟩
  rw [zput_at] at hb
  split at hb
  · next hab => cases hb; rw [hab]; exact he
  · next hab => exact (hR.2 b e' hb).kept (oq _ (by show V.2.2.1 + b ≠ V.2.2.1 + a; omega))
section ZH
variable {X : CT} {V : VT} {own nm : String} {cc : ByteArray} {nL d n0 k0 : Nat} {ret : Option FieldType} {pc : Nat} {lv : List (Nat × Value)} {st : List Value} {h : AH} {H : Heap} {locs : List Loc} {cells slots : Nat} {Q : State → Prop} {ls : Array Slot} {rest : List Value} {a ci idx k : Nat}
theorem zone {e : va_E} {q : Nat} {D : va_G} {cl : List vw_C} (hh : va_at D cl (q, e) H) : va_P D cl [(q, e)] H := fun i p hp => by
  have h0 : i < 1 := (List.getElem?_eq_some_iff.mp hp).1
  rw [show i = 0 by omega] at hp
  cases hp
  exact hh
theorem zgetW (C : zC X V own nm cc nL ret d) (hF : zFL own idx ci k) (hd : decode cc pc = .ok (.getfield idx, 3)) {fs : List Value} {v : Value} (hR : zRep V h H) (hh : h.2.2 a = some (z_o ci fs)) (hv : fs[k]? = some v)
    (kk : zW V X H locs cells slots Q (F0 (xm X) (pc + 3) ls (ztv V v :: rest))) : zW V X H locs cells slots Q (F0 (xm X) pc ls (.ref (V.2.2.1 + a) :: rest)) := by
  obtain ⟨⟨Cn, T, N⟩, hc, hk, hl⟩ := hF
  exact va_get (D := V.1) (cl := zcl) (tys := zty V) (ws := [(V.2.2.1 + a, .inr (ci, fs.map (ztv V)))]) C.1 C.2.1 C.2.2.2.2.1 (zty_ok ci _ hc).2.2.1 C.2.2.2.1 C.2.2.2.2.2.2.2.2.1.1 (zone (hR.2 a _ hh)) 0 rfl hc k hk (C.2.2.2.2.1 _ hl) (fun _ q => q) (by rw [List.getElem?_map, hv]; rfl) hd kk
theorem zputW (C : zC X V own nm cc nL ret d) (hF : zFL own idx ci k) (hw : zFW own nm ci k) (hd : decode cc pc = .ok (.putfield idx, 3)) {fs : List Value} {v : Value} (hn : narrow (zfty ci k) (ztv V v) = ztv V v) (hfit : fits (zfty ci k) (ztv V v) = true) (hR : zRep V h H) (hS0 : va_S (zA V) (xs X).heap H locs) (hh : h.2.2 a = some (z_o ci fs)) (hl : k < fs.length)
    (kk : ∀ (H1 : Heap) (locs1 : List Loc), zRep V (zput h a (z_o ci (fs.set k v))) H1 → va_S (zA V) (xs X).heap H1 locs1 → zW V X H1 locs1 cells slots Q (F0 (xm X) (pc + 3) ls rest)) : zW V X H locs cells slots Q (F0 (xm X) pc ls (ztv V v :: .ref (V.2.2.1 + a) :: rest)) := by
  obtain ⟨⟨Cn, T, N⟩, hc, hk, hlk⟩ := hF
  obtain ⟨q9, hc9, hw9⟩ := hw
  cases Option.some.inj (hc.symm.trans hc9)
  obtain ⟨o1, o2, o3, -, -⟩ := zty_ok ci _ hc
  have hts := C.2.2.2.2.1
  have hown := C.2.2.2.1
  have hK := C.2.2.2.2.2.2.2.2.1.1
  have hap := va_apart (own := own) hts o3 (zfty ci) o1 o2 hK hc
  obtain ⟨r, h1, cell, q1, q2, q3, q4⟩ := hR.2 a _ hh
  have hr : r = (Cn, T, N) := Option.some.inj (h1.symm.trans hc)
  subst hr
  obtain ⟨hS, hfc, kC, hkC, hkind⟩ := hK.1 ci _ hc
  obtain ⟨cf, kf, fi, f, hi, hsl⟩ := hS k hk
  have hlay := hts _ (o3 _ (u_in_lay hk))
  unfold u_lay at hlay
  have hst := (u_facts hfc hkC (u_lays hts o3 hk) hi).1
  have hlM : k < (fs.map (ztv V)).length := by rw [List.length_map]; exact hl
  have key : ∀ H' : Heap, H'[V.2.2.1 + a]? = some (cell.setSlot (V.1.2 ci k) (ztv V v)) → H'.size = H.size → (∀ q, q ≠ V.2.2.1 + a → H'[q]? = H[q]?) → ∀ j : Nat, zW V X H' (locs ++ [⟨V.2.2.1 + a, j⟩]) cells slots Q (F0 (xm X) (pc + 3) ls rest) := by
    intro H' e1 e2 e3 j
    refine kk H' _ (hR.put e2 ?_ e3) (hS0.put e2 e3 (Nat.le_add_right _ _))
    show va_at V.1 zcl (V.2.2.1 + a, .inr (ci, (fs.set k v).map (ztv V))) H'
    rw [List.map_set]
    exact ⟨_, hc, t_OB.to (V := updV (vp_V (fs.map (ztv V))) k (ztv V v)) ⟨_, e1, q2, q3, t_set q4 hap hk (ztv V v)⟩ (fun j _ => vp_updV_set hlM (ztv V v) j)⟩
  rcases hw9 with hfin | ⟨hfin, hin2, hdecl⟩
  · rw [if_neg (by rw [hfin]; decide)] at hlay
    have h6 := u_store hfc hkC hkind hlay hi (o1 k hk) hn hfit
    refine W.putK C.1 C.2.1 (f := f) ⟨hown, hts _ hlk, ⟨_, _, _, hi⟩, hst⟩ (by rw [q2]; exact h6) q1 q3 (by rw [hsl]; exact k2_hasslot (q4 k hk)) rfl rfl hd fun H' e1 e2 e3 => ?_
    rw [hsl] at e1
    exact key H' e1 e2 e3 _
  · rw [if_pos hfin] at hlay
    have hcf : (xm X).cls = cf := by
      obtain ⟨_, _, c', _, _, _, -, -, hf', -, -, -, hown2, -⟩ := Cond.laysFinal_spec hlay
      have e1 : c' = cf := by have := hi.symm.trans hf'; simp at this; exact this.1.symm
      have hown3 : (xs X).vm.findClass own = some c' := by rw [← hdecl]; exact hown2
      rw [← e1]; exact Option.some.inj (hown.symm.trans hown3)
    have h6 := u_fits hfc hkC hkind (Or.inr hlay) hi (o1 k hk) hn hfit
    refine W.putFinK C.1 C.2.1 hown (hts _ hlk) hi hst hcf (by rw [C.2.2.2.2.2.2.2.2.2.2.2.1]; exact hin2) (by rw [q2]; exact h6) q1 q3 (by rw [hsl]; exact k2_hasslot (q4 k hk)) rfl rfl hd fun H' e1 e2 e3 => ?_
    rw [hsl] at e1
    exact key H' e1 e2 e3 _
end ZH
end
section
/-! OUR LAYER, part 4: rows over cells, ends -/
section ZK
variable {X : CT} {V : VT} {own nm : String} {cc : ByteArray} {nL d n0 k0 : Nat} {ret : Option FieldType} {o : RR} {pc : Nat} {lv : List (Nat × Value)} {st : List Value} {h : AH} {a ci idx k : Nat}
theorem z_gI (hF : zFL own idx ci k) (hd : decode cc pc = .ok (.getfield idx, 3)) {K : Int32 → RR} (kk : ∀ x, zG X V own nm cc nL ret d n0 k0 (K x) (pc + 3) lv (.int x :: st) h) : zG X V own nm cc nL ret d n0 k0 ((zgI h a ci k).bind K) pc lv (.ref a :: st) h := by
  intro r hr
  cases hz : zgI h a ci k with
  | none => rw [hz] at hr; cases hr
  | some x =>
    rw [hz] at hr
    obtain ⟨fs, hh, hv⟩ := zgI_spec hz
    obtain ⟨hm, hw⟩ := kk x r hr
    exact ⟨hm, fun C mc ms a1 a2 a3 a4 H locs ls cells slots e1 e2 e3 e4 e5 => zgetW C hF hd e3 hh hv (hw C mc ms a1 a2 a3 a4 H locs ls cells slots e1 e2 e3 e4 e5)⟩
theorem z_gR (hF : zFL own idx ci k) (hd : decode cc pc = .ok (.getfield idx, 3)) {K : Nat → RR} (kk : ∀ x, zG X V own nm cc nL ret d n0 k0 (K x) (pc + 3) lv (.ref x :: st) h) : zG X V own nm cc nL ret d n0 k0 ((zgR h a ci k).bind K) pc lv (.ref a :: st) h := by
  intro r hr
  cases hz : zgR h a ci k with
  | none => rw [hz] at hr; cases hr
  | some x =>
    rw [hz] at hr
    obtain ⟨fs, hh, hv⟩ := zgR_spec hz
    obtain ⟨hm, hw⟩ := kk x r hr
    exact ⟨hm, fun C mc ms a1 a2 a3 a4 H locs ls cells slots e1 e2 e3 e4 e5 => zgetW C hF hd e3 hh hv (hw C mc ms a1 a2 a3 a4 H locs ls cells slots e1 e2 e3 e4 e5)⟩
theorem z_pI (hF : zFL own idx ci k) (hW : zFW own nm ci k) (hty : zfty ci k = .int) (hd : decode cc pc = .ok (.putfield idx, 3)) {x : Int32} {K : AH → RR} (kk : ∀ h', zG X V own nm cc nL ret d n0 k0 (K h') (pc + 3) lv st h') : zG X V own nm cc nL ret d n0 k0 ((zpf h a ci k (.int x)).bind K) pc lv (.int x :: .ref a :: st) h := by
  intro r hr
  cases hz : zpf h a ci k (.int x) with
  | none => rw [hz] at hr; cases hr
  | some h' =>
    rw [hz] at hr
    obtain ⟨fs, hh, hl, rfl⟩ := zpf_spec hz
    obtain ⟨hm, hw⟩ := kk _ r hr
    exact ⟨hm, fun C mc ms a1 a2 a3 a4 H locs ls cells slots e1 e2 e3 e4 e5 => zputW C hF hW hd (v := .int x) (by rw [hty]; exact vp_nar_int x) (by rw [hty]; rfl) e3 e4 hh hl (fun H1 locs1 r1 s1 => hw C mc ms a1 a2 a3 a4 H1 locs1 ls cells slots e1 e2 r1 s1 e5)⟩
theorem zref_ok {t : FieldType} (ht : (∃ n, t = .object n) ∨ ∃ u, t = .array u) (b : Nat) : narrow t (.ref b) = .ref b ∧ fits t (.ref b) = true := by
  rcases ht with ⟨n, rfl⟩ | ⟨u, rfl⟩ <;> exact ⟨rfl, rfl⟩
theorem z_pR (hF : zFL own idx ci k) (hW : zFW own nm ci k) (hty : (∃ n, zfty ci k = .object n) ∨ ∃ u, zfty ci k = .array u) (hd : decode cc pc = .ok (.putfield idx, 3)) {x : Nat} {K : AH → RR} (kk : ∀ h', zG X V own nm cc nL ret d n0 k0 (K h') (pc + 3) lv st h') : zG X V own nm cc nL ret d n0 k0 ((zpf h a ci k (.ref x)).bind K) pc lv (.ref x :: .ref a :: st) h := by
  intro r hr
  cases hz : zpf h a ci k (.ref x) with
  | none => rw [hz] at hr; cases hr
  | some h' =>
    rw [hz] at hr
    obtain ⟨fs, hh, hl, rfl⟩ := zpf_spec hz
    obtain ⟨hm, hw⟩ := kk _ r hr
    exact ⟨hm, fun C mc ms a1 a2 a3 a4 H locs ls cells slots e1 e2 e3 e4 e5 => zputW C hF hW hd (v := .ref x) (zref_ok hty _).1 (zref_ok hty _).2 e3 e4 hh hl (fun H1 locs1 r1 s1 => hw C mc ms a1 a2 a3 a4 H1 locs1 ls cells slots e1 e2 r1 s1 e5)⟩
theorem z_aI {i : Int32} (hd : decode cc pc = .ok (.iaload, 1)) {K : Int32 → RR} (kk : ∀ x, zG X V own nm cc nL ret d n0 k0 (K x) (pc + 1) lv (.int x :: st) h) : zG X V own nm cc nL ret d n0 k0 ((zai h a i).bind K) pc lv (.int i :: .ref a :: st) h := by
  intro r hr
  cases hz : zai h a i with
  | none => rw [hz] at hr; cases hr
  | some x =>
    rw [hz] at hr
    obtain ⟨n, f, hh, hin, rfl⟩ := zai_spec hz
    obtain ⟨hm, hw⟩ := kk _ r hr
    exact ⟨hm, fun C mc ms a1 a2 a3 a4 H locs ls cells slots e1 e2 e3 e4 e5 => va_iald (D := V.1) (cl := zcl) (tys := zty V) (ws := [(V.2.2.1 + a, _)]) C.1 C.2.1 C.2.2.2.2.2.2.2.2.1.1 (zone (e3.2 a _ hh)) 0 0 rfl rfl hin hd (hw C mc ms a1 a2 a3 a4 H locs ls cells slots e1 e2 e3 e4 e5)⟩
theorem z_aJ {i : Int32} (hd : decode cc pc = .ok (.laload, 1)) {K : Int64 → RR} (kk : ∀ x, zG X V own nm cc nL ret d n0 k0 (K x) (pc + 1) lv (.long x :: st) h) : zG X V own nm cc nL ret d n0 k0 ((zal h a i).bind K) pc lv (.int i :: .ref a :: st) h := by
  intro r hr
  cases hz : zal h a i with
  | none => rw [hz] at hr; cases hr
  | some x =>
    rw [hz] at hr
    obtain ⟨n, f, hh, hin, rfl⟩ := zal_spec hz
    obtain ⟨hm, hw⟩ := kk _ r hr
    exact ⟨hm, fun C mc ms a1 a2 a3 a4 H locs ls cells slots e1 e2 e3 e4 e5 => va_lald (D := V.1) (cl := zcl) (tys := zty V) (ws := [(V.2.2.1 + a, _)]) C.1 C.2.1 C.2.2.2.2.2.2.2.2.1.1 (zone (e3.2 a _ hh)) 0 1 rfl rfl hin hd (hw C mc ms a1 a2 a3 a4 H locs ls cells slots e1 e2 e3 e4 e5)⟩
theorem z_aR {i : Int32} (hd : decode cc pc = .ok (.aaload, 1)) {K : Nat → RR} (kk : ∀ x, zG X V own nm cc nL ret d n0 k0 (K x) (pc + 1) lv (.ref x :: st) h) : zG X V own nm cc nL ret d n0 k0 ((zar h a i).bind K) pc lv (.int i :: .ref a :: st) h := by
  intro r hr
  cases hz : zar h a i with
  | none => rw [hz] at hr; cases hr
  | some x =>
    rw [hz] at hr
    obtain ⟨t, n, f, hh, ht, hin, hf⟩ := zar_spec hz
    obtain ⟨hm, hw⟩ := kk _ r hr
    refine ⟨hm, fun C mc ms a1 a2 a3 a4 H locs ls cells slots e1 e2 e3 e4 e5 => ?_⟩
    have hlt : i.toNatClampNeg < n := Nat.not_le.mp fun q => hin (Or.inr q)
    have hcell : H[V.2.2.1 + a]? = some (arrV (V.2.1 t) n (fun j => va_rf ((f j).map (fun x => V.2.2.1 + x)))) := e3.2 a _ hh
    have hK := C.2.2.2.2.2.2.2.2.1.1
    have hv : va_rf ((f i.toNatClampNeg).map (fun x => V.2.2.1 + x)) = .ref (V.2.2.1 + x) := by rw [hf]; rfl
    have hA : ∃ ty : FieldType, ty.isReference = true ∧ ArrOfT (xs X) (V.2.1 t) ty := by
      rcases ht with rfl | rfl
      · exact ⟨_, rfl, (hK.2 2 _ rfl).1⟩
      · exact ⟨_, rfl, (hK.2 3 _ rfl).1⟩
    obtain ⟨ty, t1, t2⟩ := hA
    exact W.aald (v := .ref (V.2.2.1 + x)) (ty := ty) C.1 C.2.1 hcell (t2 n _) t1 (fun q => by cases q) (by rw [arrV_size]; exact hin) (by rw [arrV_read _ _ hlt, hv]) rfl rfl hd (hw C mc ms a1 a2 a3 a4 H locs ls cells slots e1 e2 e3 e4 e5)
theorem z_sI {i : Int32} {x : Int32} (hd : decode cc pc = .ok (.iastore, 1)) {K : AH → RR} (kk : ∀ h', zG X V own nm cc nL ret d n0 k0 (K h') (pc + 1) lv st h') : zG X V own nm cc nL ret d n0 k0 ((zsi h a i x).bind K) pc lv (.int x :: .int i :: .ref a :: st) h := by
  intro r hr
  cases hz : zsi h a i x with
  | none => rw [hz] at hr; cases hr
  | some h' =>
    rw [hz] at hr
    obtain ⟨n, f, hh, hin, rfl⟩ := zsi_spec hz
    obtain ⟨hm, hw⟩ := kk _ r hr
    refine ⟨hm, fun C mc ms a1 a2 a3 a4 H locs ls cells slots e1 e2 e3 e4 e5 => ?_⟩
    have hK := C.2.2.2.2.2.2.2.2.1.1
    have hcell : H[V.2.2.1 + a]? = some (arrV (V.2.1 0) n (fun j => .int (f j))) := e3.2 a _ hh
    refine W.iast C.1 C.2.1 hcell ((hK.2 0 _ rfl).1 n _) (fun q => by cases q) (by rw [arrV_size]; exact hin) rfl rfl hd fun H1 e z oq => ?_
    refine hw C mc ms a1 a2 a3 a4 H1 _ ls cells slots e1 e2 (e3.put z ?_ oq) (e4.put z oq (Nat.le_add_right _ _)) e5
    show H1[V.2.2.1 + a]? = some (vp_cell _ _)
    rw [e, vp_cell_i, arrV_store]
    congr 2
    funext q
    by_cases hq : q = i.toNatClampNeg
    · subst hq; simp [updV, va_up]
    · simp [updV, va_up, hq]
theorem z_sJ {i : Int32} {x : Int64} (hd : decode cc pc = .ok (.lastore, 1)) {K : AH → RR} (kk : ∀ h', zG X V own nm cc nL ret d n0 k0 (K h') (pc + 1) lv st h') : zG X V own nm cc nL ret d n0 k0 ((zsl h a i x).bind K) pc lv (.long x :: .int i :: .ref a :: st) h := by
  intro r hr
  cases hz : zsl h a i x with
  | none => rw [hz] at hr; cases hr
  | some h' =>
    rw [hz] at hr
    obtain ⟨n, f, hh, hin, rfl⟩ := zsl_spec hz
    obtain ⟨hm, hw⟩ := kk _ r hr
    refine ⟨hm, fun C mc ms a1 a2 a3 a4 H locs ls cells slots e1 e2 e3 e4 e5 => ?_⟩
    have hK := C.2.2.2.2.2.2.2.2.1.1
    have hcell : H[V.2.2.1 + a]? = some (arrV (V.2.1 1) n (fun j => .long (f j))) := e3.2 a _ hh
    refine W.last C.1 C.2.1 hcell ((hK.2 1 _ rfl).1 n _) (fun q => by cases q) (by rw [arrV_size]; exact hin) rfl rfl hd fun H1 e z oq => ?_
    refine hw C mc ms a1 a2 a3 a4 H1 _ ls cells slots e1 e2 (e3.put z ?_ oq) (e4.put z oq (Nat.le_add_right _ _)) e5
    show H1[V.2.2.1 + a]? = some (vp_cell _ _)
    rw [e, vp_cell_l, arrV_store]
    congr 2
    funext q
    by_cases hq : q = i.toNatClampNeg
    · subst hq; simp [updV, va_up]
    · simp [updV, va_up, hq]
theorem z_sR {i : Int32} {b : Nat} (hd : decode cc pc = .ok (.aastore, 1)) {K : AH → RR} (kk : ∀ h', zG X V own nm cc nL ret d n0 k0 (K h') (pc + 1) lv st h') : zG X V own nm cc nL ret d n0 k0 ((zsr h a i b).bind K) pc lv (.ref b :: .int i :: .ref a :: st) h := by
  intro r hr
  cases hz : zsr h a i b with
  | none => rw [hz] at hr; cases hr
  | some h' =>
    rw [hz] at hr
    obtain ⟨n, f, hh, hb, hin, rfl⟩ := zsr_spec hz
    obtain ⟨fs, hfs⟩ := zob_spec hb
    obtain ⟨hm, hw⟩ := kk _ r hr
    refine ⟨hm, fun C mc ms a1 a2 a3 a4 H locs ls cells slots e1 e2 e3 e4 e5 => ?_⟩
    have hK := C.2.2.2.2.2.2.2.2.1.1
    have hlt : i.toNatClampNeg < n := Nat.not_le.mp fun q => hin (Or.inr q)
    have h0 : ¬ i < 0 := fun q => hin (Or.inl q)
    have hcell : H[V.2.2.1 + a]? = some (arrV (V.2.1 3) n (fun j => va_rf ((f j).map (fun x => V.2.2.1 + x)))) := e3.2 a _ hh
    obtain ⟨r', hr', cellV, g1, g2, g3, -⟩ := e3.2 b _ hfs
    have hcls := (hK.1 3 _ rfl).2
    obtain ⟨kA, comp, k1, k2, k3, -⟩ := (hK.2 3 _ rfl).2
    have hcomp : comp = V.1.1 3 := Option.some.inj (k3.symm.trans hcls.1)
    subst hcomp
    obtain ⟨kC, hkC, -⟩ := id hcls.2
    refine W.aast C.1 C.2.1 hcell (fun q h => by cases h) (fun h => by cases h) k1 k2 rfl hkC ⟨h0, by rw [arrV_size]; exact hlt⟩ g1 (fun q h => by rw [g3] at h; cases h) (by rw [g2]; exact hkC) (by rw [g2]; exact va_assign hcls) rfl rfl hd fun H1 e z oq => ?_
    refine hw C mc ms a1 a2 a3 a4 H1 _ ls cells slots e1 e2 (e3.put z ?_ oq) (e4.put z oq (Nat.le_add_right _ _)) e5
    show H1[V.2.2.1 + a]? = some (vp_cell _ _)
    rw [e, vp_cell_q, arrV_store]
    congr 2
    funext q
    by_cases hq : q = i.toNatClampNeg
    · subst hq; simp [updV, va_up, va_rf]
    · simp [updV, va_up, hq]
theorem z_len (hd : decode cc pc = .ok (.arraylength, 1)) {K : Nat → RR} (kk : ∀ n, zG X V own nm cc nL ret d n0 k0 (K n) (pc + 1) lv (.int (Int32.ofNat n) :: st) h) : zG X V own nm cc nL ret d n0 k0 ((zlen h a).bind K) pc lv (.ref a :: st) h := by
  intro r hr
  cases hz : zlen h a with
  | none => rw [hz] at hr; cases hr
  | some n =>
    rw [hz] at hr
    obtain ⟨hm, hw⟩ := kk n r hr
    refine ⟨hm, fun C mc ms a1 a2 a3 a4 H locs ls cells slots e1 e2 e3 e4 e5 => ?_⟩
    have hK := C.2.2.2.2.2.2.2.2.1.1
    unfold zlen at hz
    split at hz
    · next n' f hh =>
      cases hz
      exact va_alen (D := V.1) (cl := zcl) (tys := zty V) (ws := [(V.2.2.1 + a, _)]) C.1 C.2.1 hK (zone (e3.2 a _ hh)) 0 0 rfl rfl rfl hd (hw C mc ms a1 a2 a3 a4 H locs ls cells slots e1 e2 e3 e4 e5)
    · next n' f hh =>
      cases hz
      exact va_alen (D := V.1) (cl := zcl) (tys := zty V) (ws := [(V.2.2.1 + a, _)]) C.1 C.2.1 hK (zone (e3.2 a _ hh)) 0 1 rfl rfl rfl hd (hw C mc ms a1 a2 a3 a4 H locs ls cells slots e1 e2 e3 e4 e5)
    · cases hz
theorem z_iret {x : Int32} (hret : ret = some .int) (hd : decode cc pc = .ok (.ireturn, 1)) : zG X V own nm cc nL ret d n0 k0 (some (.inl (some (.int x)), h)) pc lv [.int x] h := by
  intro r hr
  cases hr
  refine ⟨⟨Nat.le_refl _, Nat.le_refl _⟩, fun C mc ms a1 a2 a3 a4 H locs ls cells slots e1 e2 e3 e4 e5 => ?_⟩
  have em : mc = cells := Nat.add_left_cancel (a1.symm.trans e1)
  have es : ms = slots := Nat.add_left_cancel (a2.symm.trans e2)
  subst em; subst es
  exact vx_ret (W.iret C.1 C.2.1 (C.2.2.2.2.2.2.2.2.2.2.1.trans hret) (fun t ht hW => ⟨⟨_, rfl, rfl⟩, by rw [ht]; exact e3, e4.F ht⟩) e4.2.2 hd C.2.2.2.2.2.1)
theorem z_lret {x : Int64} (hret : ret = some .long) (hd : decode cc pc = .ok (.lreturn, 1)) : zG X V own nm cc nL ret d n0 k0 (some (.inl (some (.long x)), h)) pc lv [.long x] h := by
  intro r hr
  cases hr
  refine ⟨⟨Nat.le_refl _, Nat.le_refl _⟩, fun C mc ms a1 a2 a3 a4 H locs ls cells slots e1 e2 e3 e4 e5 => ?_⟩
  have em : mc = cells := Nat.add_left_cancel (a1.symm.trans e1)
  have es : ms = slots := Nat.add_left_cancel (a2.symm.trans e2)
  subst em; subst es
  exact vx_ret (W.lret C.1 C.2.1 (C.2.2.2.2.2.2.2.2.2.2.1.trans hret) (fun t ht hW => ⟨⟨_, rfl, rfl⟩, by rw [ht]; exact e3, e4.F ht⟩) e4.2.2 hd C.2.2.2.2.2.1)
theorem z_vret (hret : ret = none) (hd : decode cc pc = .ok (.return_, 1)) : zG X V own nm cc nL ret d n0 k0 (some (.inl none, h)) pc lv [] h := by
  intro r hr
  cases hr
  refine ⟨⟨Nat.le_refl _, Nat.le_refl _⟩, fun C mc ms a1 a2 a3 a4 H locs ls cells slots e1 e2 e3 e4 e5 => ?_⟩
  have em : mc = cells := Nat.add_left_cancel (a1.symm.trans e1)
  have es : ms = slots := Nat.add_left_cancel (a2.symm.trans e2)
  subst em; subst es
  exact vx_ret (W.vret C.1 C.2.1 (C.2.2.2.2.2.2.2.2.2.2.1.trans hret) (fun t ht hW => ⟨⟨_, rfl, rfl⟩, by rw [ht]; exact e3, e4.F ht⟩) e4.2.2 hd C.2.2.2.2.2.1)
theorem z_aret {x : Nat} {rt : FieldType} (hret : ret = some rt) (hrt : (∃ n, rt = .object n) ∨ ∃ t, rt = .array t) (hd : decode cc pc = .ok (.areturn, 1)) : zG X V own nm cc nL ret d n0 k0 (some (.inl (some (.ref x)), h)) pc lv [.ref x] h := by
  intro r hr
  cases hr
  refine ⟨⟨Nat.le_refl _, Nat.le_refl _⟩, fun C mc ms a1 a2 a3 a4 H locs ls cells slots e1 e2 e3 e4 e5 => ?_⟩
  have em : mc = cells := Nat.add_left_cancel (a1.symm.trans e1)
  have es : ms = slots := Nat.add_left_cancel (a2.symm.trans e2)
  subst em; subst es
  exact vx_ret (W.aret C.1 C.2.1 (C.2.2.2.2.2.2.2.2.2.2.1.trans hret) hrt (Or.inr ⟨_, rfl⟩) (fun t ht hW => ⟨⟨_, rfl, rfl⟩, by rw [ht]; exact e3, e4.F ht⟩) e4.2.2 hd C.2.2.2.2.2.1)
theorem z_nret {rt : FieldType} (hret : ret = some rt) (hrt : (∃ n, rt = .object n) ∨ ∃ t, rt = .array t) (hd : decode cc pc = .ok (.areturn, 1)) : zG X V own nm cc nL ret d n0 k0 (some (.inl (some .null), h)) pc lv [.null] h := by
  intro r hr
  cases hr
  refine ⟨⟨Nat.le_refl _, Nat.le_refl _⟩, fun C mc ms a1 a2 a3 a4 H locs ls cells slots e1 e2 e3 e4 e5 => ?_⟩
  have em : mc = cells := Nat.add_left_cancel (a1.symm.trans e1)
  have es : ms = slots := Nat.add_left_cancel (a2.symm.trans e2)
  subst em; subst es
  exact vx_ret (W.aret C.1 C.2.1 (C.2.2.2.2.2.2.2.2.2.2.1.trans hret) hrt (Or.inl rfl) (fun t ht hW => ⟨⟨_, rfl, rfl⟩, by rw [ht]; exact e3, e4.F ht⟩) e4.2.2 hd C.2.2.2.2.2.1)
def zbr (x : Int32) (h : AH) : RR := if x = 0 ∨ x = 1 then some (.inl (some (.int x)), h) else none
theorem z_zret {x : Int32} (hret : ret = some .boolean) (hd : decode cc pc = .ok (.ireturn, 1)) : zG X V own nm cc nL ret d n0 k0 (zbr x h) pc lv [.int x] h := by
  unfold zbr
  by_cases q : x = 0 ∨ x = 1
  · rw [if_pos q]
    have hn : narrow .boolean (.int x) = .int x := by rcases q with rfl | rfl <;> rfl
    intro r hr
    cases hr
    refine ⟨⟨Nat.le_refl _, Nat.le_refl _⟩, fun C mc ms a1 a2 a3 a4 H locs ls cells slots e1 e2 e3 e4 e5 => ?_⟩
    have em : mc = cells := Nat.add_left_cancel (a1.symm.trans e1)
    have es : ms = slots := Nat.add_left_cancel (a2.symm.trans e2)
    subst em; subst es
    exact vx_ret (W.zret C.1 C.2.1 (C.2.2.2.2.2.2.2.2.2.2.1.trans hret) hn (fun t ht hW => ⟨⟨_, rfl, rfl⟩, by rw [ht]; exact e3, e4.F ht⟩) e4.2.2 hd C.2.2.2.2.2.1)
  · rw [if_neg q]; exact z_none
end ZK
end
section
/-! OUR LAYER, part 5: making cells, throwing, calls, bodies -/
def zb2 (o : Option (Nat × AH)) (K : Nat → AH → RR) : RR := match o with
  | some (a, h) => K a h
  | none => none
def zca (o : RR) (K : Option Value → AH → RR) : RR := match o with
  | some (.inl v, h) => K v h
  | some (.inr e, h) => some (.inr e, h)
  | none => none
def zvi (v : Option Value) (K : Int32 → RR) : RR := match v with
  | some (.int x) => K x
  | _ => none
def zvj (v : Option Value) (K : Int64 → RR) : RR := match v with
  | some (.long x) => K x
  | _ => none
def zvr (v : Option Value) (K : Nat → RR) : RR := match v with
  | some (.ref x) => K x
  | _ => none
def zvq (v : Option Value) (K : Option Nat → RR) : RR := match v with
  | some (.ref x) => K (some x)
  | some .null => K none
  | _ => none
def zvn (v : Option Value) (K : RR) : RR := match v with
  | none => K
  | _ => none
/-- a method: what it comes to, by the machine -/
def zM (V : VT) (y : MethodName) (cc : ByteArray) (nL : Nat) (ret : Option FieldType) (d : Nat) (args : List Value) (h : AH) (o : RR) : Prop :=
  ∀ (_ : CT) (r : Ot × AH), o = some r → (h.1 ≤ r.2.1 ∧ h.2.1 ≤ r.2.2.1) ∧ vx_Met V.2.2.2.2.2 y (Cond.code y cc nL ret :: zWU) { frames := d, cells := r.2.1 - h.1, slots := r.2.2.1 - h.2.1, locals := 48 * d }
    (va_Pc (args.map (ztv V)) (fun U => zE V U U.heap ∧ V.2.2.1 ≤ U.heap.size ∧ zRep V h U.heap)) (zQ V r) (zXc V r) (r.2.1 - h.1) (r.2.2.1 - h.2.1) (zA V)
/-- calls: what the words say of a callee -/
def zKB (own : String) (idx : Nat) (y : MethodName) (cc : ByteArray) (nL : Nat) (ret : Option FieldType) (n : Nat) : Prop :=
  Cond.methodLink own idx y ∈ zWU ∧ Cond.initialized y.cls ∈ zWU ∧ Cond.code y cc nL ret ∈ zWU ∧ (y.cls ≠ "java/lang/invoke/MethodHandle" ∧ y.cls ≠ "java/lang/invoke/VarHandle" ∧ (parseMethodDescriptor y.desc).map (fun d => d.parameters.length) = some n) ∧ nL ≤ 29
def zKV (own : String) (idx : Nat) (y : MethodName) (cc : ByteArray) (nL : Nat) (ret : Option FieldType) (ci n : Nat) : Prop :=
  zKB own idx y cc nL ret n ∧ Cond.instanceMethod y ∈ zWU ∧ Cond.selects y.cls y y ∈ zWU ∧ ∃ q : vw_C, zcl[ci]? = some q ∧ q.1 = y.cls
def zKS (own : String) (idx : Nat) (y : MethodName) (cc : ByteArray) (nL : Nat) (ret : Option FieldType) (n : Nat) : Prop :=
  zKB own idx y cc nL ret n ∧ Cond.static y ∈ zWU
def zKI (own : String) (idx : Nat) (y : MethodName) (cc : ByteArray) (nL : Nat) (n : Nat) : Prop :=
  zKB own idx y cc nL none n ∧ Cond.instanceMethod y ∈ zWU ∧ y.name = "<init>"
theorem zRep.push {V : VT} {h : AH} {H H1 : Heap} {k : Nat} {e : aE} (hR : zRep V h H) (z : H1.size = H.size + 1) (he : va_at V.1 zcl (V.2.2.1 + h.1, ztc V e) H1) (oq : ∀ q : Nat, q < H.size → H1[q]? = H[q]?) : zRep V (znew h k e) H1 := by
  refine ⟨by rw [z, hR.1]; rfl, fun b e' hb => ?_⟩
  have hb' : (if b = h.1 then some e else h.2.2 b) = some e' := hb
  split at hb'
  · next hab => cases hb'; rw [hab]; exact he
  · next hab => exact (hR.2 b e' hb').kept (oq _ (hR.2 b e' hb').lt)
theorem zRep.junk {V : VT} {h : AH} {H H1 : Heap} {k : Nat} (hR : zRep V h H) (z : H1.size = H.size + 1) (oq : ∀ q : Nat, q < H.size → H1[q]? = H[q]?) : zRep V (zjnk h k) H1 :=
  ⟨by rw [z, hR.1]; rfl, fun b e' hb => (hR.2 b e' hb).kept (oq _ (hR.2 b e' hb).lt)⟩
theorem zS.push {V : VT} {H0 H H1 : Heap} {locs : List Loc} (hS : va_S (zA V) H0 H locs) (z : H.size ≤ H1.size) (oq : ∀ q : Nat, q < H.size → H1[q]? = H[q]?) : va_S (zA V) H0 H1 locs :=
  ⟨Nat.le_trans hS.1 z, fun x h1 h2 => (oq x (Nat.lt_of_lt_of_le h1 hS.1)).trans (hS.2.1 x h1 h2), hS.2.2⟩
section ZN
variable {X : CT} {V : VT} {own nm : String} {cc : ByteArray} {nL d n0 k0 : Nat} {ret : Option FieldType} {o : RR} {pc : Nat} {lv : List (Nat × Value)} {st : List Value} {h : AH} {a ci idx k : Nat}
theorem z_vi {v : Option Value} {K : Int32 → RR} (kk : ∀ x, zG X V own nm cc nL ret d n0 k0 (K x) pc lv (.int x :: st) h) : zG X V own nm cc nL ret d n0 k0 (zvi v K) pc lv (v.toList ++ st) h := by
  unfold zvi; split
  · exact kk _
  · exact z_none
theorem z_vj {v : Option Value} {K : Int64 → RR} (kk : ∀ x, zG X V own nm cc nL ret d n0 k0 (K x) pc lv (.long x :: st) h) : zG X V own nm cc nL ret d n0 k0 (zvj v K) pc lv (v.toList ++ st) h := by
  unfold zvj; split
  · exact kk _
  · exact z_none
theorem z_vr {v : Option Value} {K : Nat → RR} (kk : ∀ x, zG X V own nm cc nL ret d n0 k0 (K x) pc lv (.ref x :: st) h) : zG X V own nm cc nL ret d n0 k0 (zvr v K) pc lv (v.toList ++ st) h := by
  unfold zvr; split
  · exact kk _
  · exact z_none
theorem z_vn {v : Option Value} {K : RR} (kk : zG X V own nm cc nL ret d n0 k0 K pc lv st h) : zG X V own nm cc nL ret d n0 k0 (zvn v K) pc lv (v.toList ++ st) h := by
  unfold zvn; split
  · exact kk
  · exact z_none
theorem z_vq {v : Option Value} {K : Option Nat → RR} (k1 : ∀ x, zG X V own nm cc nL ret d n0 k0 (K (some x)) pc lv (.ref x :: st) h) (k2 : zG X V own nm cc nL ret d n0 k0 (K none) pc lv (.null :: st) h) : zG X V own nm cc nL ret d n0 k0 (zvq v K) pc lv (v.toList ++ st) h := by
  unfold zvq; split
  · exact k1 _
  · exact k2
  · exact z_none
theorem z_nI {n : Int32} (hw : Cond.arrayClass .int ∈ zWU) (hd : decode cc pc = .ok (.newarray .int, 2)) {K : Nat → AH → RR} (kk : ∀ b h', zG X V own nm cc nL ret d n0 k0 (K b h') (pc + 2) lv (.ref b :: st) h') : zG X V own nm cc nL ret d n0 k0 (zb2 (znI h n) K) pc lv (.int n :: st) h := by
  unfold znI
  by_cases q : n < 0 ∨ 100000 < n.toNatClampNeg
  · rw [if_pos q]; exact z_none
  · rw [if_neg q]
    intro r hr
    obtain ⟨hm, hg⟩ := kk h.1 (znew h n.toNatClampNeg (z_i n.toNatClampNeg (fun _ => 0))) r hr
    have hm1 : h.1 + 1 ≤ r.2.1 := hm.1
    have hm2 : h.2.1 + n.toNatClampNeg ≤ r.2.2.1 := hm.2
    refine ⟨⟨by omega, by omega⟩, fun C mc ms a1 a2 a3 a4 H locs ls cells slots e1 e2 e3 e4 e5 => ?_⟩
    have hK := C.2.2.2.2.2.2.2.2.1.1
    refine va_newaK C.1 C.2.1 (atype := .int) (C.2.2.2.2.1 _ hw) rfl hd rfl (fun z => q (Or.inl z)) rfl (by have h9 : componentBytes (newarray.typeOf .int) = 4 := rfl; rw [h9]; omega) (by omega) (by omega) rfl fun H1 cA f1 z1 o1 hAr hNm => ?_
    have hcA : V.2.1 0 = cA := Option.some.inj ((hK.2 0 _ rfl).2.symm.trans hNm)
    have hat : va_at V.1 zcl (V.2.2.1 + h.1, ztc V (z_i n.toNatClampNeg (fun _ => 0))) H1 := by
      show H1[V.2.2.1 + h.1]? = some (vp_cell _ _)
      rw [← e3.1, f1, hcA]; rfl
    have hg9 := hg C mc ms a1 a2 a3 a4 H1 locs ls (cells + 1) (slots + n.toNatClampNeg) (show h.1 + 1 = _ by omega) (show h.2.1 + n.toNatClampNeg = _ by omega) (e3.push z1 hat o1) (zS.push e4 (by omega) o1) e5
    rw [e3.1]
    exact hg9
theorem z_nJ {n : Int32} (hw : Cond.arrayClass .long ∈ zWU) (hd : decode cc pc = .ok (.newarray .long, 2)) {K : Nat → AH → RR} (kk : ∀ b h', zG X V own nm cc nL ret d n0 k0 (K b h') (pc + 2) lv (.ref b :: st) h') : zG X V own nm cc nL ret d n0 k0 (zb2 (znJ h n) K) pc lv (.int n :: st) h := by
  unfold znJ
  by_cases q : n < 0 ∨ 100000 < n.toNatClampNeg
  · rw [if_pos q]; exact z_none
  · rw [if_neg q]
    intro r hr
    obtain ⟨hm, hg⟩ := kk h.1 (znew h n.toNatClampNeg (z_l n.toNatClampNeg (fun _ => 0))) r hr
    have hm1 : h.1 + 1 ≤ r.2.1 := hm.1
    have hm2 : h.2.1 + n.toNatClampNeg ≤ r.2.2.1 := hm.2
    refine ⟨⟨by omega, by omega⟩, fun C mc ms a1 a2 a3 a4 H locs ls cells slots e1 e2 e3 e4 e5 => ?_⟩
    have hK := C.2.2.2.2.2.2.2.2.1.1
    refine va_newaK C.1 C.2.1 (atype := .long) (C.2.2.2.2.1 _ hw) rfl hd rfl (fun z => q (Or.inl z)) rfl (by have h9 : componentBytes (newarray.typeOf .long) = 8 := rfl; rw [h9]; omega) (by omega) (by omega) rfl fun H1 cA f1 z1 o1 hAr hNm => ?_
    have hcA : V.2.1 1 = cA := Option.some.inj ((hK.2 1 _ rfl).2.symm.trans hNm)
    have hat : va_at V.1 zcl (V.2.2.1 + h.1, ztc V (z_l n.toNatClampNeg (fun _ => 0))) H1 := by
      show H1[V.2.2.1 + h.1]? = some (vp_cell _ _)
      rw [← e3.1, f1, hcA]; rfl
    have hg9 := hg C mc ms a1 a2 a3 a4 H1 locs ls (cells + 1) (slots + n.toNatClampNeg) (show h.1 + 1 = _ by omega) (show h.2.1 + n.toNatClampNeg = _ by omega) (e3.push z1 hat o1) (zS.push e4 (by omega) o1) e5
    rw [e3.1]
    exact hg9
theorem z_nS {n : Int32} (hw : Cond.classLink own idx "FieldPerms$State" ∈ zWU) (hd : decode cc pc = .ok (.anewarray idx, 3)) {K : Nat → AH → RR} (kk : ∀ b h', zG X V own nm cc nL ret d n0 k0 (K b h') (pc + 3) lv (.ref b :: st) h') : zG X V own nm cc nL ret d n0 k0 (zb2 (znS h n) K) pc lv (.int n :: st) h := by
  unfold znS
  by_cases q : n < 0 ∨ 100000 < n.toNatClampNeg
  · rw [if_pos q]; exact z_none
  · rw [if_neg q]
    intro r hr
    obtain ⟨hm, hg⟩ := kk h.1 (znew h n.toNatClampNeg (z_r 3 n.toNatClampNeg (fun _ => none))) r hr
    have hm1 : h.1 + 1 ≤ r.2.1 := hm.1
    have hm2 : h.2.1 + n.toNatClampNeg ≤ r.2.2.1 := hm.2
    refine ⟨⟨by omega, by omega⟩, fun C mc ms a1 a2 a3 a4 H locs ls cells slots e1 e2 e3 e4 e5 => ?_⟩
    have hK := C.2.2.2.2.2.2.2.2.1.1
    refine W.anew C.1 C.2.1 C.2.2.2.1 (C.2.2.2.2.1 _ hw) C.2.2.2.2.2.2.2.2.1.2.2.2.2.2.2.1 rfl hd rfl (fun z => q (Or.inl z)) (by omega) (by omega) (by omega) fun cA kA comp g1 g2 g3 g4 => ?_
    obtain ⟨kA', comp', -, -, -, k4⟩ := (hK.2 3 _ rfl).2
    have hcA : V.2.1 3 = cA := Option.some.inj (k4.symm.trans g1)
    have z1 : (H.push ({ cls := cA, slots := Array.replicate n.toNatClampNeg .null, vm := .none } : Cell)).size = H.size + 1 := by simp
    have o1 : ∀ q : Nat, q < H.size → (H.push ({ cls := cA, slots := Array.replicate n.toNatClampNeg .null, vm := .none } : Cell))[q]? = H[q]? := fun q hq => by rw [Array.getElem?_push, if_neg (Nat.ne_of_lt hq)]
    have hat : va_at V.1 zcl (V.2.2.1 + h.1, ztc V (z_r 3 n.toNatClampNeg (fun _ => none))) (H.push ({ cls := cA, slots := Array.replicate n.toNatClampNeg .null, vm := .none } : Cell)) := by
      show (H.push _)[V.2.2.1 + h.1]? = some (vp_cell _ _)
      rw [← e3.1, vp_cell_q, hcA, arrV_new]
      simp [va_rf]
    have hg9 := hg C mc ms a1 a2 a3 a4 _ locs ls (cells + 1) (slots + n.toNatClampNeg) (show h.1 + 1 = _ by omega) (show h.2.1 + n.toNatClampNeg = _ by omega) (e3.push z1 hat o1) (zS.push e4 (by omega) o1) e5
    show zW V X _ _ _ _ _ (F0 (xm X) (pc + 3) ls (.ref H.size :: ztS V st))
    rw [e3.1]
    exact hg9
/-- an object's kind: what the words say -/
def zNO (own : String) (idx ci : Nat) : Prop := ∃ q : vw_C, zcl[ci]? = some q ∧ Cond.classLink own idx q.1 ∈ zWU ∧ Cond.instantiable q.1 q.2.2 ∈ zWU ∧ Cond.initialized q.1 ∈ zWU
theorem z_nO (hw : zNO own idx ci) (hd : decode cc pc = .ok (.new idx, 3)) {K : Nat → AH → RR} (kk : ∀ b h', zG X V own nm cc nL ret d n0 k0 (K b h') (pc + 3) lv (.ref b :: st) h') : zG X V own nm cc nL ret d n0 k0 (zb2 (znO h ci) K) pc lv st h := by
  obtain ⟨⟨Cn, T, N⟩, hc, w1, w2, w3⟩ := hw
  obtain ⟨o1, o2, o3, o4, o5⟩ := zty_ok ci _ hc
  intro r hr
  obtain ⟨hm, hg⟩ := kk h.1 (znew h (zdf ci).length (z_o ci (zdf ci))) r hr
  have hm1 : h.1 + 1 ≤ r.2.1 := hm.1
  have hm2 : h.2.1 + (zdf ci).length ≤ r.2.2.1 := hm.2
  have o4' : (zdf ci).length = N := o4
  refine ⟨⟨by omega, by omega⟩, fun C mc ms a1 a2 a3 a4 H locs ls cells slots e1 e2 e3 e4 e5 => ?_⟩
  have hK := C.2.2.2.2.2.2.2.2.1.1
  have hts := C.2.2.2.2.1
  have hKn := hK.1 ci _ hc
  refine W.newcK C.1 C.2.1 C.2.2.2.1 (hts _ w1) (hts _ w2) (hts _ w3) rfl hd (by omega) (by show slots + N ≤ _; omega) hKn.2.1 rfl fun H1 kC hkC f1 z1 p1 => ?_
  have hat : va_at V.1 zcl (V.2.2.1 + h.1, ztc V (z_o ci (zdf ci))) H1 := by
    refine ⟨_, hc, ?_⟩
    show t_OB (V.2.2.1 + h.1) _ _ _ H1 (vp_V ((zdf ci).map (ztv V)))
    rw [← e3.1]
    refine (u_born (zfty ci) hts o3 hKn hkC f1 o1).to (fun j hj => ?_)
    rw [o5 j hj]
    have hj' : j < (zdf ci).length := by rw [o4]; exact hj
    show (zdf ci).getD j .null = ((zdf ci).map (ztv V)).getD j .null
    rw [List.getD_eq_getElem?_getD, List.getD_eq_getElem?_getD, List.getElem?_map, List.getElem?_eq_getElem hj']
    show (zdf ci)[j] = ztv V ((zdf ci)[j])
    have hall : ∀ v ∈ zdf ci, ztv V v = v := by
      intro v hv
      have hv2 : v = .int 0 ∨ v = .null := by
        have hx : ∀ ci, ∀ v ∈ zdf ci, v = .int 0 ∨ v = .null := by
          intro ci
          unfold zdf
          split <;> decide
        exact hx ci v hv
      rcases hv2 with rfl | rfl <;> rfl
    exact (hall _ (List.getElem_mem hj')).symm
  have hg9 := hg C mc ms a1 a2 a3 a4 H1 locs ls (cells + 1) (slots + (zdf ci).length) (show h.1 + 1 = _ by omega) (show h.2.1 + (zdf ci).length = _ by omega) (e3.push z1 hat p1) (zS.push e4 (by omega) p1) e5
  rw [o4] at hg9
  show zW V X _ _ _ _ _ (F0 (xm X) (pc + 3) ls (.ref H.size :: ztS V st))
  rw [e3.1]
  exact hg9
end ZN
end
section
/-! OUR LAYER, part 6: grids, copies, throwing, calls, bodies -/
theorem zouter (c : ClassId) (N h0 : Nat) : ∀ i : Nat, Jvm.Free.Multi.outerC c N h0 i = arrV c N (fun j => va_rf (if j < i then some (h0 + 1 + j) else none))
  | 0 => by
    show ({ cls := c, slots := Array.replicate N .null, vm := .none } : Cell) = _
    rw [arrV_new]
    refine congrArg (arrV c N) (funext fun j => ?_)
    simp [va_rf]
  | i + 1 => by
    show (Jvm.Free.Multi.outerC c N h0 i).setSlot i (.ref (h0 + 1 + i)) = _
    rw [zouter c N h0 i, arrV_store]
    refine congrArg (arrV c N) (funext fun j => ?_)
    by_cases e : j = i
    · subst e
      simp [updV, va_rf]
    · by_cases h : j < i
      · simp [updV, e, h, Nat.lt_succ_of_lt h]
      · simp [updV, e, h, show ¬ j < i + 1 by omega]
theorem zmul_at {h : AH} {n k b : Nat} : (zmul h n k).2.2 b = if b = h.1 then some (z_r 2 n (fun i => if i < n then some (h.1 + 1 + i) else none)) else if h.1 < b ∧ b < h.1 + 1 + n then some (z_i k (fun _ => 0)) else h.2.2 b := rfl
section ZM
variable {X : CT} {V : VT} {own nm : String} {cc : ByteArray} {nL d n0 k0 : Nat} {ret : Option FieldType} {o : RR} {pc : Nat} {lv : List (Nat × Value)} {st : List Value} {h : AH} {a ci idx k : Nat}
theorem z_nM {n k : Int32} (hw : Cond.classLink own idx "[[I" ∈ zWU) (hw2 : Cond.arrayClass .int ∈ zWU) (hd : decode cc pc = .ok (.multianewarray idx 2, 4)) {K : Nat → AH → RR} (kk : ∀ b h', zG X V own nm cc nL ret d n0 k0 (K b h') (pc + 4) lv (.ref b :: st) h') : zG X V own nm cc nL ret d n0 k0 (zb2 (znM h n k) K) pc lv (.int k :: .int n :: st) h := by
  unfold znM
  by_cases q : n < 0 ∨ k < 0 ∨ 100000 < n.toNatClampNeg ∨ 100000 < k.toNatClampNeg
  · rw [if_pos q]; exact z_none
  · rw [if_neg q]
    have q1 : ¬ n < 0 := fun z => q (Or.inl z)
    have q2 : ¬ k < 0 := fun z => q (Or.inr (Or.inl z))
    have q3 : n.toNatClampNeg ≤ 100000 := Nat.not_lt.mp fun z => q (Or.inr (Or.inr (Or.inl z)))
    have q4 : k.toNatClampNeg ≤ 100000 := Nat.not_lt.mp fun z => q (Or.inr (Or.inr (Or.inr z)))
    generalize hN : n.toNatClampNeg = N' at *
    generalize hKk : k.toNatClampNeg = K' at *
    intro r hr
    obtain ⟨hm, hg⟩ := kk h.1 (zmul h N' K') r hr
    have hm1 : h.1 + 1 + N' ≤ r.2.1 := hm.1
    have hm2 : h.2.1 + N' + N' * K' ≤ r.2.2.1 := hm.2
    refine ⟨⟨by omega, by omega⟩, fun C mc ms a1 a2 a3 a4 H locs ls cells slots e1 e2 e3 e4 e5 => ?_⟩
    have hK := C.2.2.2.2.2.2.2.2.1.1
    have hts := C.2.2.2.2.1
    intro T hT Xs
    obtain ⟨vm₁, cA, comp, -, fA, fC, hO, -, X', step⟩ := Xs.multianewarray2F C.1 (ty := .int) C.2.2.2.1 (hts _ hw) C.2.2.2.2.2.2.2.2.1.2.2.2.2.2.2.2.1 (hts _ hw2) (g := F0 (xm X) pc ls (.int k :: .int n :: ztS V st)) rfl (by rw [C.2.1]; exact hd) rfl q1 q2 (by rw [hN]; omega) (by rw [hKk]; show K' * 4 ≤ _; omega) (by rw [hKk]; omega) rfl rfl (by rw [hN]; omega) (by rw [hN, hKk]; omega)
    rw [hN, hKk] at X' step
    generalize hF : Jvm.Free.Multi.fill (T.setVm vm₁) cA comp N' K' (defaultValue .int) N' = F at X' step
    have hTh : (T.setVm vm₁).heap = H := hT
    obtain ⟨f1, f2, -, -⟩ := Jvm.Free.Multi.fill_facts (T.setVm vm₁) cA comp N' K' (defaultValue .int) N'
    rw [hF, hTh] at f1 f2
    have hold : ∀ x : Nat, x < H.size → F.heap[x]? = H[x]? := fun x hx => by
      have := Jvm.Free.Multi.fill_old (T.setVm vm₁) cA comp N' K' (defaultValue .int) (a := x) (by rw [hTh]; exact hx) N'
      rw [hF, hTh] at this
      exact this
    have hrow : ∀ j : Nat, j < N' → F.heap[H.size + 1 + j]? = some (arrV comp K' (fun _ => .int 0)) := fun j hj => by
      have := Jvm.Free.Multi.fill_inner (T.setVm vm₁) cA comp N' K' (defaultValue .int) N' j hj
      rw [hF, hTh] at this
      rw [this]
      exact congrArg some (arrV_new comp K' (.int 0))
    rw [zouter] at f2
    have hcA : V.2.1 2 = cA := Option.some.inj ((hK.2 2 _ rfl).2.symm.trans fA)
    have hcC : V.2.1 0 = comp := Option.some.inj ((hK.2 0 _ rfl).2.symm.trans fC)
    have hrep : zRep V (zmul h N' K') F.heap := by
      refine ⟨by rw [f1, e3.1]; show _ = V.2.2.1 + (h.1 + 1 + N'); omega, fun b e' hb => ?_⟩
      rw [zmul_at] at hb
      split at hb
      · next hb0 =>
        cases hb
        show F.heap[V.2.2.1 + b]? = some (vp_cell _ _)
        rw [hb0, ← e3.1, f2, vp_cell_q, hcA]
        congr 2
        funext j
        by_cases hj : j < N'
        · simp only [hj, if_true, Option.map_some]
          congr 2
          rw [e3.1]; omega
        · simp [hj]
      · next hb0 =>
        split at hb
        · next hb1 =>
          cases hb
          show F.heap[V.2.2.1 + b]? = some (vp_cell _ _)
          have := hrow (b - h.1 - 1) (by omega)
          rw [show H.size + 1 + (b - h.1 - 1) = V.2.2.1 + b by rw [e3.1]; omega] at this
          rw [this, hcC]
          rfl
        · exact (e3.2 b e' hb).kept (hold _ (e3.2 b e' hb).lt)
    obtain ⟨t, b1, b2⟩ := hg C mc ms a1 a2 a3 a4 F.heap locs ls (cells + 1 + N') (slots + N' + N' * K') (show h.1 + 1 + N' = _ by omega) (show h.2.1 + N' + N' * K' = _ by omega) hrep (zS.push e4 (by rw [f1]; omega) hold) e5 F rfl X'
    refine ⟨t, step t ?_, b2⟩
    have e : T.heap.size = V.2.2.1 + h.1 := by rw [hT, e3.1]
    rw [e]
    exact b1
theorem z_cp {a0 a1 : Nat} {sp dp n : Int32} (hw : Cond.methodLink own idx arraycopyName ∈ zWU) (hw2 : Cond.native arraycopyName ∈ zWU) (hw3 : Cond.static arraycopyName ∈ zWU) (hw4 : Cond.initialized "java/lang/System" ∈ zWU) (hst : (st.map fun v => v.category).sum ≤ 8) (hd9 : 1 ≤ d) (hd : decode cc pc = .ok (.invokestatic idx, 3)) {K : AH → RR} (kk : ∀ h', zG X V own nm cc nL ret d n0 k0 (K h') (pc + 3) lv st h') : zG X V own nm cc nL ret d n0 k0 ((zcp h a0 sp a1 dp n).bind K) pc lv (.int n :: .int dp :: .ref a1 :: .int sp :: .ref a0 :: st) h := by
  intro r hr
  cases hz : zcp h a0 sp a1 dp n with
  | none => rw [hz] at hr; cases hr
  | some h' =>
    rw [hz] at hr
    obtain ⟨c0, f, c1, g, hh0, hh1, hc, rfl⟩ := zcp_spec hz
    obtain ⟨hm, hg⟩ := kk _ r hr
    refine ⟨hm, fun C mc ms b1 b2 b3 b4 H locs ls cells slots e1 e2 e3 e4 e5 => ?_⟩
    have hK := C.2.2.2.2.2.2.2.2.1.1
    have hts := C.2.2.2.2.1
    have h1 : ¬ sp < 0 := fun z => hc (Or.inl z)
    have h2 : ¬ dp < 0 := fun z => hc (Or.inr (Or.inl z))
    have h3 : ¬ n < 0 := fun z => hc (Or.inr (Or.inr (Or.inl z)))
    have h4 : sp.toNatClampNeg + n.toNatClampNeg ≤ c0 := Nat.not_lt.mp fun z => hc (Or.inr (Or.inr (Or.inr (Or.inl z))))
    have h5 : dp.toNatClampNeg + n.toNatClampNeg ≤ c1 := Nat.not_lt.mp fun z => hc (Or.inr (Or.inr (Or.inr (Or.inr z))))
    have nn : ∀ z : Int32, ¬ z < 0 → z.toInt = (z.toNatClampNeg : Int) := by
      intro z hz
      have hz0 : (0 : Int) ≤ z.toInt := by
        have := Int32.not_lt.mp hz
        simpa using Int32.le_iff_toInt_le.mp this
      show z.toInt = ((z.toInt.toNat : Nat) : Int)
      omega
    intro T hT Xs
    have hc0 : H[V.2.2.1 + a0]? = some (vp_cell (V.2.1 0) (c0, .inl f)) := e3.2 a0 _ hh0
    have hc1 : H[V.2.2.1 + a1]? = some (vp_cell (V.2.1 0) (c1, .inl g)) := e3.2 a1 _ hh1
    obtain ⟨-, kk0, hk0, cm0, hkk0⟩ := (hK.2 0 _ rfl).1 c0 (fun j => .int (f j))
    obtain ⟨-, kk1, hk1, cm1, hkk1⟩ := (hK.2 0 _ rfl).1 c1 (fun j => .int (g j))
    obtain ⟨vm', X', step⟩ := Xs.arraycopy C.1 C.2.2.2.1 (hts _ hw) (hts _ hw2) (hts _ hw3) (hts _ hw4) (src := V.2.2.1 + a0) (dst := V.2.2.1 + a1) (cs := vp_cell (V.2.1 0) (c0, .inl f)) (cd := vp_cell (V.2.1 0) (c1, .inl g)) (srcPos := sp) (destPos := dp) (n := n) (by rw [hT]; exact hc0) (by rw [hT]; exact hc1)
      (fun _ h => by cases h) (fun _ h => by cases h) (fun h => by cases h) (fun h => by cases h) hk0 hk1 hkk0 hkk1 (by rfl) h1 h2 h3
      (by rw [nn sp h1, nn n h3]; show ¬ _ > ((arrV (V.2.1 0) c0 (fun j => .int (f j))).slots.size : Int); rw [arrV_size]; omega)
      (by rw [nn dp h2, nn n h3]; show ¬ _ > ((arrV (V.2.1 0) c1 (fun j => .int (g j))).slots.size : Int); rw [arrV_size]; omega)
      (fun vm₁ _ i hi => by
        have e : (vp_cell (V.2.1 0) (c0, .inl f)).slots.getD (sp.toNatClampNeg + i) .null = .int (f (sp.toNatClampNeg + i)) := by
          show (arrV (V.2.1 0) c0 (fun j => .int (f j))).slots.getD _ _ = _
          rw [Array.getD_eq_getD_getElem?, arrV_read _ _ (by omega)]
          rfl
        refine ⟨?_, ?_⟩
        · rw [e]; rfl
        · rw [e]; exact trivial)
      (g := F0 (xm X) pc ls (.int n :: .int dp :: .ref (V.2.2.1 + a1) :: .int sp :: .ref (V.2.2.1 + a0) :: ztS V st)) rfl (by show ls.size = _; rw [e5.1, C.2.2.1]) (rest := ztS V st) rfl (by rw [C.2.1]; exact hd) (by rw [C.2.2.2.2.2.2.1.1]; exact hd9)
      (by
        have hs : ((ztS V st).map fun v => v.category).sum = (st.map fun v => v.category).sum := by
          rw [List.map_map]; congr 1; apply List.map_congr_left; intro v _; exact ztv_cat V v
        have hnf : nativeFrameWords "java/lang/System" "arraycopy" 5 + 11 ≤ 40 := by decide +kernel
        rw [C.2.2.2.2.2.2.1.2]
        show 2 * 0 + _ + _ ≤ _
        omega)
    have x1 : copied (vp_cell (V.2.1 0) (c0, .inl f)) (vp_cell (V.2.1 0) (c1, .inl g)) sp dp n = vp_cell (V.2.1 0) (c1, .inl (va_cpy f g sp.toNatClampNeg dp.toNatClampNeg n.toNatClampNeg)) := va_copied (fun z => .int z) (V.2.1 0) (V.2.1 0) f g h4
    rw [x1] at X' step
    have hl : V.2.2.1 + a1 < H.size := (Array.getElem?_eq_some_iff.mp hc1).1
    have hheap : ((T.setVm vm').setCell (V.2.2.1 + a1) (vp_cell (V.2.1 0) (c1, .inl (va_cpy f g sp.toNatClampNeg dp.toNatClampNeg n.toNatClampNeg)))).heap = H.setIfInBounds (V.2.2.1 + a1) (vp_cell (V.2.1 0) (c1, .inl (va_cpy f g sp.toNatClampNeg dp.toNatClampNeg n.toNatClampNeg))) := by rw [← hT]; rfl
    have oq : ∀ q : Nat, q ≠ V.2.2.1 + a1 → (H.setIfInBounds (V.2.2.1 + a1) (vp_cell (V.2.1 0) (c1, .inl (va_cpy f g sp.toNatClampNeg dp.toNatClampNeg n.toNatClampNeg))))[q]? = H[q]? := fun q hq => by simp [Array.getElem?_setIfInBounds, Ne.symm hq]
    obtain ⟨t, t1, t2⟩ := hg C mc ms b1 b2 b3 b4 _ _ ls cells slots e1 e2 (e3.put (H1 := H.setIfInBounds (V.2.2.1 + a1) (vp_cell (V.2.1 0) (c1, .inl (va_cpy f g sp.toNatClampNeg dp.toNatClampNeg n.toNatClampNeg)))) (by simp) (show (H.setIfInBounds (V.2.2.1 + a1) _)[V.2.2.1 + a1]? = some _ by simp [Array.getElem?_setIfInBounds, hl]) oq) ⟨by simp; exact e4.1, fun q g1 g2 => by
        rw [oq q (fun e => g2 (by rw [e]; exact Nat.le_add_right _ _))]
        exact e4.2.1 q g1 g2, fun q hq => by
        rcases List.mem_append.mp hq with h | h
        · exact e4.2.2 q h
        · obtain ⟨z, -, hz⟩ := List.mem_map.mp h
          rw [← hz]
          exact Nat.le_add_right _ _⟩ e5 _ hheap X'
    exact ⟨t, step t t1, t2⟩
theorem z_objInit (hw : Cond.methodLink own idx Lib.objectInit ∈ zWU) (hw2 : Cond.instanceMethod Lib.objectInit ∈ zWU) (hw3 : Cond.code Lib.objectInit ⟨#[0xb1]⟩ 1 none ∈ zWU) (hst : (st.map fun v => v.category).sum ≤ 8) (hd9 : 1 ≤ d) (hd : decode cc pc = .ok (.invokespecial idx, 3)) (kk : zG X V own nm cc nL ret d n0 k0 o (pc + 3) lv st h) : zG X V own nm cc nL ret d n0 k0 o pc lv (.ref a :: st) h := by
  refine zstep kk (fun C H locs cells slots Q ls _ _ hl kk => ?_)
  have hts := C.2.2.2.2.1
  have hs : ((ztS V st).map fun v => v.category).sum = (st.map fun v => v.category).sum := by
    rw [List.map_map]; congr 1; apply List.map_congr_left; intro v _; exact ztv_cat V v
  exact W.objInit C.1 C.2.1 C.2.2.2.1 (hts _ hw) (hts _ hw2) (hts _ hw3) rfl (by rw [C.2.2.1]; exact hl.1) rfl hd (by rw [C.2.2.2.2.2.2.1.1]; exact hd9) (by rw [C.2.2.2.2.2.2.1.2]; show 2 * 0 + ((ztS V st).map fun v => v.category).sum + 12 ≤ _; omega) (kk ls hl)
end ZM
end
section
/-! OUR LAYER, part 7: throwing, calls, bodies -/
section ZT
variable {p : Program} {l : Launch} {e : Env} {R : Room} {s : State} {m : MethodId} {args : Array Value} {below : List Frame} {meth : Method} {c : Code} {H : Heap} {locs : List Loc} {cells slots : Nat} {ls : Array Slot} {rest : List Value} {free : Addr → Prop} {Qc : Array Value → State → Outcome → State → Prop} {XC : String → State → State → Prop}
/-- 'throw new E("text")', as the kit has it, with the heap's size behind it -/
theorem zthrowS {cc : ByteArray} {pc : Nat} (hexec : p.tables.exec = Jvm.exec) (hb : c.code = cc) (hl : l.stackTraces = false) {own cls text : String} {names : List String} {ik is ic mc ms sa : Nat} {A : Nat → Prop}
    (hown : s.vm.findClass own = some m.cls) (hcls : Bundle.fit cls = true) (hnames : ∀ n ∈ names, Bundle.fit n = true)
    (hk : (Cond.classLink own ik cls).before args s = true) (hini : (Cond.initialized cls).before args s = true) (hstr : vk_R own is text sa s) (hat : ∀ w ∈ vx_atS own ic cls names, w.before args s = true)
    (hgood : ∀ w ∈ Cond.classLink own ik cls :: Cond.initialized cls :: vx_atS own ic cls names, vx_ot w = true)
    (hU : vx_Zq Bundle.tN "UNASSIGNED_STACK" Bundle.steD A s s.heap) (hN : vx_Zq Bundle.tN "SUPPRESSED_SENTINEL" Bundle.listD A s s.heap) (hS : va_S A s.heap H locs) (hsize : ls.size = c.maxLocals)
    (d0 : decode cc pc = .ok (.new ik, 3)) (d3 : decode cc (pc + 3) = .ok (.dup, 1)) (d4 : decode cc (pc + 4) = .ok (.ldc is, 2)) (d6 : decode cc (pc + 6) = .ok (.invokespecial ic, 3)) (d9 : decode cc (pc + 9) = .ok (.athrow, 1))
    (hout : ∀ x ∈ c.exceptionTable.toList, covers x (pc + 9) = false)
    (hRframes : names.length + 3 < R.frames) (hRlocals : (rest.map fun v => v.category).sum + (13 * (names.length + 1) + 43) ≤ R.locals) (hRcells : cells + 1 ≤ R.cells) (hRslots : slots + 6 ≤ R.slots) (hlocks : meth.locks = false)
    (hx : ∀ t : State, s.vm.Alike t.vm → t.heap.size = H.size + 1 → (∀ q : Nat, q < H.size → t.heap[q]? = H[q]?) → XC cls s t)
    (hf : ∀ z ∈ locs, free z.base) (hc : cells + 1 ≤ mc) (hs : slots + 6 ≤ ms) :
    W p l e R s m args below meth c H locs cells slots (vx_MQ below Qc XC args s mc ms free) (F0 m pc ls rest) := by
  intro T hT X
  have htr : e.platform.stackTraces = false := (show e.platform.stackTraces = l.stackTraces by rw [X.admits.platform]).trans hl
  have Y := vx_rebase X (R' := { frames := R.frames, locals := R.locals, cells := 1, slots := 6 }) (Nat.le_refl _) (Nat.le_refl _) hRcells hRslots
  obtain ⟨s', hA⟩ : ∃ z, z = (T.setVm s.vm).setFrames (.invoking m args :: below) := ⟨_, rfl⟩
  rw [← hA] at Y
  have hvm : s'.vm = s.vm := by rw [hA]; rfl
  have hhp : s'.heap = H := by rw [hA]; exact hT
  have hW0 : s.WarmedH s'.vm := by rw [hvm]; exact State.WarmedH.refl s
  have hat' : ∀ w ∈ vx_atS own ic cls names, w.before args s' = true := fun w hw => vx_ot_at hW0 hvm.symm (hgood w (List.mem_cons_of_mem _ (List.mem_cons_of_mem _ hw))) (hat w hw)
  have hk' : (Cond.classLink own ik cls).before args s' = true := vx_ot_at hW0 hvm.symm (hgood _ List.mem_cons_self) hk
  have hini' : (Cond.initialized cls).before args s' = true := vx_ot_at hW0 hvm.symm (hgood _ (List.mem_cons_of_mem _ List.mem_cons_self)) hini
  have hU' : vx_Zq Bundle.tN "UNASSIGNED_STACK" Bundle.steD A s' s'.heap := by rw [hhp]; exact vx_Zq.moved hW0.alike (hU.kept hS.2.1)
  have hN' : vx_Zq Bundle.tN "SUPPRESSED_SENTINEL" Bundle.listD A s' s'.heap := by rw [hhp]; exact vx_Zq.moved hW0.alike (hN.kept hS.2.1)
  have h : ∀ w ∈ Bundle.ownAtoms own ic cls names, w.before args s' = true := vx_own hat' (vx_isRefq hU'.1) (vx_isRefq hN'.1) hU'.2.word hN'.2.word
  have hown' : s'.vm.findClass own = some m.cls := by rw [hvm]; exact hown
  have hins : (Cond.instantiable cls 6).before args s' = true := h _ (by simp [Bundle.ownAtoms])
  obtain ⟨vm₁, cX, kX, hfX, hkX, -, -, X₁, st1⟩ := Y.newCold hexec (own := own) (C := cls) (index := ik) (n := 6) hown' hk' hins hini'
    (g := F0 m pc ls rest) rfl (by rw [hb]; exact d0) (Nat.le_refl _) (Nat.le_refl _)
  generalize hT1 : (T.setVm vm₁).pushCell { cls := cX, slots := kX.instanceTypes.map defaultValue, vm := .none } = T1 at X₁ st1
  have hcat : (Value.ref T.heap.size).category = 1 := rfl
  have hcellA : T1.heap[T.heap.size]? = some (freshCell cX kX) := by rw [← hT1]; exact State.heap_pushCell_size _ _
  have d3' : decode c.code (pc + 3) = .ok (.dup, 1) := by rw [hb]; exact d3
  have d4' : decode c.code (pc + 4) = .ok (.ldc is, 2) := by rw [hb]; exact d4
  have hstr' : vk_R own is text sa s' := vk_R.warm hW0 hstr
  obtain ⟨U, hsteps, hrun, hend, hW, hsame, ce, hce, hO⟩ := X₁.ctorThrowS hexec htr (own := own) (cls := cls) (names := names) (ic := ic) hown' hcls hnames h (fun x hx => nomatch hx) hfX hkX hcellA (by rw [hhp, hT]; exact Nat.le_refl _) (msg := .ref sa) rfl
    (g := { method := m, pc := pc + 6, locals := ls, stack := .ref sa :: .ref T.heap.size :: .ref T.heap.size :: rest, locked := none }) rfl hsize rfl rfl (rest := rest) rfl
    (by rw [hb]; exact d6) (by rw [hb]; exact d9) hout hRframes (by simp only [List.map_cons, List.sum_cons, hcat]; omega) hlocks
  obtain ⟨f1, f2⟩ := vx_frame hsame
  have f3 : U.heap.size ≤ s'.heap.size + (0 + 1) := hsame.2.2.1
  rw [hhp] at f1 f2 f3
  have f4 : H.size < U.heap.size := by
    have := (Array.getElem?_eq_some_iff.mp hce).1
    rw [hT] at this
    exact this
  have hWs : s.WarmedH U.vm := State.WarmedH.trans hW0 hW
  have hcl : s.vm.findClass cls = some ce.cls := by
    have h9 := hO.cls
    rw [hvm] at h9
    exact h9
  have hall : s.sameButNew ({ U with vm := s.vm } : State) locs mc ms := by
    subst hA
    obtain ⟨e1, e2⟩ := hsame
    rw [State.setFrames_setFrames] at e1
    have h2 : (T.setVm s.vm).sameButNew ({ U with vm := s.vm } : State) [] (0 + 1) (0 + 6) := ⟨e1, e2⟩
    have h3 := X.same.trans h2
    rw [List.append_nil] at h3
    exact h3.mono hc hs
  refine ⟨U, ?_, .threw T.heap.size, hrun, hend, Or.inr ⟨T.heap.size, rfl, cls, ce, locs, hx U hWs.alike (by omega) (fun q hq => f2 q hq (fun z hz => nomatch hz)), hce, hO.vm, hcl, hWs, hall, hf⟩⟩
  refine st1 _ ?_
  show Steps p.tables e below (T1.setTop { method := m, pc := pc + 3, locals := ls, stack := .ref T.heap.size :: rest, locked := none }) _
  jvm_step X₁.here [X₁.here.top, hexec, d3', Value.category]
  exact X₁.ldcString hexec (own := own) (text := text) (index := is) (a := sa) hown' hstr'.1 hstr'.2
    (g := { method := m, pc := pc + 4, locals := ls, stack := .ref T.heap.size :: .ref T.heap.size :: rest, locked := none }) rfl d4' _ hsteps
end ZT
def zRT : List String := ["java/lang/RuntimeException", "java/lang/Exception"]
/-- the words of a throw -/
def zTW (own : String) (ik ic : Nat) (cls : String) : Prop := Bundle.fit cls = true ∧ (∀ n ∈ zRT, Bundle.fit n = true) ∧ Cond.classLink own ik cls ∈ zWU ∧ Cond.initialized cls ∈ zWU ∧ (∀ w ∈ (vx_atS own ic cls zRT).filter goodWord, w ∈ zWU) ∧ (∀ w ∈ (vx_atS own ic cls zRT).filter (fun w => !goodWord w), w ∈ ([] : List Cond)) ∧ ∀ w ∈ Cond.classLink own ik cls :: Cond.initialized cls :: vx_atS own ic cls zRT, vx_ot w = true
section ZX
variable {X : CT} {V : VT} {own nm : String} {cc : ByteArray} {nL d n0 k0 : Nat} {ret : Option FieldType} {o : RR} {pc : Nat} {lv : List (Nat × Value)} {st : List Value} {h : AH} {a ci idx k : Nat}
theorem zcats (V : VT) (st : List Value) : ((ztS V st).map fun v => v.category).sum = (st.map fun v => v.category).sum := by
  rw [List.map_map]; congr 1; apply List.map_congr_left; intro v _; exact ztv_cat V v
theorem z_throw (e : Nat) (he : e < 3) {ik is ic : Nat} (tx : String) (j : Nat) (hq : (own, is, tx, j) ∈ zstr) (hw : zTW own ik ic (zex e)) (hst : (st.map fun v => v.category).sum ≤ 8) (hd9 : 6 ≤ d)
    (d0 : decode cc pc = .ok (.new ik, 3)) (d3 : decode cc (pc + 3) = .ok (.dup, 1)) (d4 : decode cc (pc + 4) = .ok (.ldc is, 2)) (d6 : decode cc (pc + 6) = .ok (.invokespecial ic, 3)) (d9 : decode cc (pc + 9) = .ok (.athrow, 1)) : zG X V own nm cc nL ret d n0 k0 (some (.inr e, zjnk h 6)) pc lv st h := by
  intro r hr
  cases hr
  refine ⟨⟨Nat.le_succ _, Nat.le_add_right _ _⟩, fun C mc ms a1 a2 a3 a4 H locs ls cells slots e1 e2 e3 e4 e5 => ?_⟩
  obtain ⟨w1, w2, w3, w4, w5, w6, w7⟩ := hw
  have hts := C.2.2.2.2.1
  have hE := C.2.2.2.2.2.2.2.2.1
  have b1 : h.1 + 1 = n0 + mc := a1
  have b2 : h.2.1 + 6 = k0 + ms := a2
  have hR1 := C.2.2.2.2.2.2.1.1
  have hR2 := C.2.2.2.2.2.2.1.2
  exact zthrowS (text := tx) (names := zRT) C.1 C.2.1 C.2.2.2.2.2.2.2.2.2.2.2.2 C.2.2.2.1 w1 w2 (hts _ w3) (hts _ w4) (hE.2.1 _ hq) (vx_hat (fun w hw => hts _ (w5 w hw)) w6 vx_n) w7 hE.2.2.2.2.1 hE.2.2.2.2.2.1 e4 (by rw [C.2.2.1]; exact e5.1) d0 d3 d4 d6 d9 (fun x hx => absurd hx (fun q => C.2.2.2.2.2.2.2.1 x q)) (by rw [hR1]; show 2 + 3 < d; omega) (by rw [hR2, zcats]; show _ + (13 * (2 + 1) + 43) ≤ _; omega) (by omega) (by omega) C.2.2.2.2.2.1
    (fun t hal hz hq9 => ⟨⟨e, rfl, he, rfl⟩, e3.junk hz hq9, (zS.push e4 (by omega) hq9).F rfl⟩) e4.2.2 (by omega) (by omega)
theorem zpre {args : List Value} : FrameBlind (va_Pc (args.map (ztv V)) (fun U => zE V U U.heap ∧ V.2.2.1 ≤ U.heap.size ∧ zRep V h U.heap)) := fun _ U _ _ q => ⟨q.1, zE.warm (State.WarmedH.refl U) q.2.1, q.2.2⟩
theorem zEat (C : zC X V own nm cc nL ret d) {H : Heap} {locs : List Loc} (e3 : zRep V h H) (e4 : va_S (zA V) (xs X).heap H locs) {U : State} (hU : U.heap = H) (hW : (xs X).WarmedH U.vm) : zE V U U.heap ∧ V.2.2.1 ≤ U.heap.size ∧ zRep V h U.heap := by
  rw [hU]
  exact ⟨zE.warm hW (zE.kept e4.2.1 C.2.2.2.2.2.2.2.2.1), by rw [e3.1]; exact Nat.le_add_right _ _, e3⟩
/-- what comes behind a call, out of what it comes to -/
theorem zcall_end {y : MethodName} {args : List Value} {r' r : Ot × AH} {K : Option Value → AH → RR} {rest : List Value} (hm' : h.1 ≤ r'.2.1 ∧ h.2.1 ≤ r'.2.2.1)
    (kk : ∀ v h', zG X V own nm cc nL ret d n0 k0 (K v h') (pc + 3) lv (v.toList ++ st) h') (hr : zca (some r') K = some r) {st0 : List Value}
    (run : zC X V own nm cc nL ret d → ∀ (H : Heap) (locs : List Loc) (ls : Array Slot) (cells slots : Nat), zRep V h H → va_S (zA V) (xs X).heap H locs → lv_has ls nL (ztl V lv) → cells + (r'.2.1 - h.1) ≤ (xR X).cells → slots + (r'.2.2.1 - h.2.1) ≤ (xR X).slots →
      ∃ aa, vx_Run (xp X) V.2.2.2.2.2 (xe X) (xR X) (xs X) (xm X) (xa X) (xb X) (xM X) (xc X) H locs cells slots (r'.2.1 - h.1) (r'.2.2.1 - h.2.1) (F0 (xm X) pc ls (ztS V st0)) (ztS V st) (zQ V r' aa) (zXc V r') (zA V)) :
    (h.1 ≤ r.2.1 ∧ h.2.1 ≤ r.2.2.1) ∧ (zC X V own nm cc nL ret d → ∀ mc ms : Nat, r.2.1 = n0 + mc → r.2.2.1 = k0 + ms → mc ≤ (xR X).cells → ms ≤ (xR X).slots →
    ∀ (H : Heap) (locs : List Loc) (ls : Array Slot) (cells slots : Nat), h.1 = n0 + cells → h.2.1 = k0 + slots → zRep V h H → va_S (zA V) (xs X).heap H locs → lv_has ls nL (ztl V lv) →
      zW V X H locs cells slots (vx_MQ (xb X) (zQ V r) (zXc V r) (xa X) (xs X) mc ms (zA V)) (F0 (xm X) pc ls (ztS V st0))) := by
  obtain ⟨ot, h'⟩ := r'
  have hm1 : h.1 ≤ h'.1 := hm'.1
  have hm2 : h.2.1 ≤ h'.2.1 := hm'.2
  cases ot with
  | inl v =>
    obtain ⟨hm, hw⟩ := kk v h' r hr
    refine ⟨⟨by omega, by omega⟩, fun C mc ms a1 a2 a3 a4 H locs ls cells slots e1 e2 e3 e4 e5 => ?_⟩
    obtain ⟨aa, hrun⟩ := run C H locs ls cells slots e3 e4 e5 (show cells + (h'.1 - h.1) ≤ _ by omega) (show slots + (h'.2.1 - h.2.1) ≤ _ by omega)
    intro T hT Xs
    rcases hrun T hT Xs with ⟨v', st₀, t, T', L, h0, X', hL, f1, f2, ⟨⟨v9, hv9, hoc⟩, hrep, hF⟩, hgo⟩ | ⟨q, st₀, t, T', L, E, ce, h0, X', hL, f1, f2, ⟨⟨k9, hk9, -⟩, -⟩, -⟩
    · cases hv9
      cases hoc
      obtain ⟨-, -, k3⟩ := vx_keep h0 f1 e4 (fun _ _ q => q) (fun _ q => q) hL hF
      obtain ⟨t2, t3, t4⟩ := hw C mc ms a1 a2 a3 a4 T'.heap (locs ++ L) ls (cells + (h'.1 - h.1)) (slots + (h'.2.1 - h.2.1)) (by omega) (by omega) (by rw [f1]; exact hrep) k3 e5 T' rfl X'
      refine ⟨t2, hgo t2 ?_, t4⟩
      have e9 : ztS V (v.toList ++ st) = (v.map (ztv V)).toList ++ ztS V st := by cases v <;> rfl
      rw [e9] at t3
      exact t3
    · cases hk9
  | inr e =>
    cases hr
    refine ⟨⟨hm1, hm2⟩, fun C mc ms a1 a2 a3 a4 H locs ls cells slots e1 e2 e3 e4 e5 => ?_⟩
    have b1 : h'.1 = n0 + mc := a1
    have b2 : h'.2.1 = k0 + ms := a2
    obtain ⟨aa, hrun⟩ := run C H locs ls cells slots e3 e4 e5 (show cells + (h'.1 - h.1) ≤ _ by omega) (show slots + (h'.2.1 - h.2.1) ≤ _ by omega)
    intro T hT Xs
    rcases hrun T hT Xs with ⟨v', st₀, t, T', L, h0, X', hL, f1, f2, ⟨⟨v9, hv9, -⟩, -⟩, -⟩ | ⟨q, st₀, t, T', L, E, ce, h0, X', hL, f1, f2, ⟨hk9, hrep, hF⟩, hce, hcv, hcl, hgo⟩
    · cases hv9
    · obtain ⟨-, -, k3⟩ := vx_keep h0 f1 e4 (fun _ _ q => q) (fun _ q => q) hL hF
      obtain ⟨t2, t3, t4⟩ := vx_out (p := xp X) (l := V.2.2.2.2.2) (e := xe X) (R := xR X) (s := xs X) (m := xm X) (args := xa X) (below := xb X) (meth := xM X) (c := xc X) (H := T'.heap) (locs := locs ++ L) (cells := cells + (h'.1 - h.1)) (slots := slots + (h'.2.1 - h.2.1)) (free := zA V) (ls := ls) (rest := ztS V st) (Qc := zQ V (.inr e, h')) (XC := zXc V (.inr e, h')) (pc := pc) (E := E) (ce := ce) (q := q) (mc := mc) (ms := ms) (fun x hx => absurd hx (fun q => C.2.2.2.2.2.2.2.1 x q)) C.2.2.2.2.2.1 (by rw [f1]; exact hce) hcv hcl
        (fun t' ht' hal => ⟨hk9, by rw [ht', f1]; exact hrep, k3.F ht'⟩) k3.2.2 (by omega) (by omega) T' rfl X'
      exact ⟨t2, hgo.trans t3, t4⟩
theorem z_callV {y : MethodName} {cc' : ByteArray} {nL' n : Nat} {ret' : Option FieldType} {As : List Value} (hK : zKV own idx y cc' nL' ret' ci n) (hn : As.length = n) (hst : (st.map fun v => v.category).sum ≤ 8) (hd : decode cc pc = .ok (.invokevirtual idx, 3)) {o' : RR} {K : Option Value → AH → RR}
    (hM : zM V y cc' nL' ret' d (.ref a :: As) h o') (kk : ∀ v h', zG X V own nm cc nL ret (d + 1) n0 k0 (K v h') (pc + 3) lv (v.toList ++ st) h') : zG X V own nm cc nL ret (d + 1) n0 k0 (if zob h a ci = true then zca o' K else none) pc lv (As.reverse ++ .ref a :: st) h := by
  by_cases q : zob h a ci = true
  · rw [if_pos q]
    obtain ⟨fs, hfs⟩ := zob_spec q
    intro r hr
    cases ho : o' with
    | none => rw [ho] at hr; cases hr
    | some r' =>
      rw [ho] at hr
      obtain ⟨hm', hMet⟩ := hM X r' ho
      refine zcall_end (y := y) (args := []) (rest := []) hm' kk hr (fun C H locs ls cells slots e3 e4 e5 b1 b2 => ?_)
      obtain ⟨⟨w1, w2, w3, w4, w5⟩, w6, w7, ⟨Cn, T, N⟩, hc, hCn⟩ := hK
      have hts := C.2.2.2.2.1
      have hrec := va_recv (q0 := 0) C.2.2.2.2.2.2.2.2.1.1 (zone (e3.2 a _ hfs)) hc rfl
      have hCn' : Cn = y.cls := hCn
      rw [show ((Cn, T, N) : vw_C).1 = y.cls from hCn'] at hrec
      refine ⟨_, vx_runV (As := ztS V As) (rest := ztS V st) (nL := nL) (Ts := zWU) (C := y.cls) (b := V.2.2.1 + a) ⟨C.1, C.2.1, C.2.2.1, C.2.2.2.1, hts⟩ hMet ⟨callB_of n hts (zgood zWU w3 (fun _ h => h)) rfl rfl rfl (hts _ w2) (hts _ w1) w4 ⟨by rw [C.2.2.2.2.2.2.1.1]; exact Nat.le_refl _, by rw [C.2.2.2.2.2.2.1.2]; show 8 + (nL' + 11) + 48 * d ≤ 48 * (d + 1); omega⟩, hts _ w6, hts _ w7⟩ ⟨zpre, hrec, fun U hU hW => ⟨rfl, zEat C e3 e4 hU hW⟩⟩ rfl (by rw [List.length_map]; exact hn) e5.1 ?_ (lv_room (by rw [zcats]; exact hst)) hd ⟨b1, b2⟩⟩
      show (As.reverse ++ Value.ref a :: st).map (ztv V) = _
      rw [List.map_append, List.map_reverse]; rfl
  · rw [if_neg q]; exact z_none
theorem z_callS {y : MethodName} {cc' : ByteArray} {nL' n : Nat} {ret' : Option FieldType} {As : List Value} (hK : zKS own idx y cc' nL' ret' n) (hn : As.length = n) (hst : (st.map fun v => v.category).sum ≤ 8) (hd : decode cc pc = .ok (.invokestatic idx, 3)) {o' : RR} {K : Option Value → AH → RR}
    (hM : zM V y cc' nL' ret' d As h o') (kk : ∀ v h', zG X V own nm cc nL ret (d + 1) n0 k0 (K v h') (pc + 3) lv (v.toList ++ st) h') : zG X V own nm cc nL ret (d + 1) n0 k0 (zca o' K) pc lv (As.reverse ++ st) h := by
  intro r hr
  cases ho : o' with
  | none => rw [ho] at hr; cases hr
  | some r' =>
    rw [ho] at hr
    obtain ⟨hm', hMet⟩ := hM X r' ho
    refine zcall_end (y := y) (args := []) (rest := []) hm' kk hr (fun C H locs ls cells slots e3 e4 e5 b1 b2 => ?_)
    obtain ⟨⟨w1, w2, w3, w4, w5⟩, w6⟩ := hK
    have hts := C.2.2.2.2.1
    refine ⟨_, vx_runS (As := ztS V As) (rest := ztS V st) (nL := nL) (Ts := zWU) ⟨C.1, C.2.1, C.2.2.1, C.2.2.2.1, hts⟩ hMet ⟨callB_of n hts (zgood zWU w3 (fun _ h => h)) rfl rfl rfl (hts _ w2) (hts _ w1) w4 ⟨by rw [C.2.2.2.2.2.2.1.1]; exact Nat.le_refl _, by rw [C.2.2.2.2.2.2.1.2]; show 8 + (nL' + 11) + 48 * d ≤ 48 * (d + 1); omega⟩, hts _ w6⟩ ⟨zpre, fun U hU hW => ⟨rfl, zEat C e3 e4 hU hW⟩⟩ rfl (by rw [List.length_map]; exact hn) e5.1 ?_ (lv_room (by rw [zcats]; exact hst)) hd ⟨b1, b2⟩⟩
    show (As.reverse ++ st).map (ztv V) = _
    rw [List.map_append, List.map_reverse]
theorem z_callI {y : MethodName} {cc' : ByteArray} {nL' n : Nat} {As : List Value} (hK : zKI own idx y cc' nL' n) (hn : As.length = n) (hst : (st.map fun v => v.category).sum ≤ 8) (hd : decode cc pc = .ok (.invokespecial idx, 3)) {o' : RR} {K : Option Value → AH → RR}
    (hM : zM V y cc' nL' none d (.ref a :: As) h o') (kk : ∀ v h', zG X V own nm cc nL ret (d + 1) n0 k0 (K v h') (pc + 3) lv (v.toList ++ st) h') : zG X V own nm cc nL ret (d + 1) n0 k0 (zca o' K) pc lv (As.reverse ++ .ref a :: st) h := by
  intro r hr
  cases ho : o' with
  | none => rw [ho] at hr; cases hr
  | some r' =>
    rw [ho] at hr
    obtain ⟨hm', hMet⟩ := hM X r' ho
    refine zcall_end (y := y) (args := []) (rest := []) hm' kk hr (fun C H locs ls cells slots e3 e4 e5 b1 b2 => ?_)
    obtain ⟨⟨w1, w2, w3, w4, w5⟩, w6, w7⟩ := hK
    have hts := C.2.2.2.2.1
    refine ⟨_, vx_runI (As := ztS V As) (rest := ztS V st) (nL := nL) (Ts := zWU) (b := V.2.2.1 + a) ⟨C.1, C.2.1, C.2.2.1, C.2.2.2.1, hts⟩ hMet ⟨callB_of n hts (zgood zWU w3 (fun _ h => h)) rfl rfl rfl (hts _ w2) (hts _ w1) w4 ⟨by rw [C.2.2.2.2.2.2.1.1]; exact Nat.le_refl _, by rw [C.2.2.2.2.2.2.1.2]; show 8 + (nL' + 11) + 48 * d ≤ 48 * (d + 1); omega⟩, w7, hts _ w6⟩ ⟨zpre, fun U hU hW => ⟨rfl, zEat C e3 e4 hU hW⟩⟩ rfl (by rw [List.length_map]; exact hn) e5.1 ?_ (lv_room (by rw [zcats]; exact hst)) hd ⟨b1, b2⟩⟩
    show (As.reverse ++ Value.ref a :: st).map (ztv V) = _
    rw [List.map_append, List.map_reverse]; rfl
end ZX
theorem zlv_args (V : VT) : ∀ (vs : List Value) (i : Nat), lv_args i (vs.map (ztv V)) = ztl V (lv_args i vs)
  | [], _ => rfl
  | v :: vs, i => by
    have ih := zlv_args V vs
    simp only [List.map_cons, lv_args, ztv_cat]
    first | rw [ih] | simp [ih]
theorem zlg_sl (V : VT) : ∀ vs : List Value, (lg_sl (vs.map (ztv V))).length = (lg_sl vs).length
  | [] => rfl
  | v :: vs => by
    have ih := zlg_sl V vs
    unfold lg_sl at ih ⊢
    rw [List.map_cons, List.flatMap_cons, List.flatMap_cons, List.length_append, List.length_append, ih, ztv_cat]
    split <;> rfl
/-- a body gives its method -/
theorem z_meth {V : VT} {y : MethodName} {cc : ByteArray} {nL d : Nat} {ret : Option FieldType} {args : List Value} {h : AH} {o : RR} (hV : V.2.2.2.2.2.stackTraces = false) (hy : plainName y.cls = true) (ha : (lg_sl args).length ≤ nL) (lv0 : List (Nat × Value)) (hlv : lv_args 0 args = lv0)
    (body : ∀ X : CT, zG X V y.cls y.name cc nL ret d h.1 h.2.1 o 0 lv0 [] h) : zM V y cc nL ret d args h o := by
  intro X0 r hr
  refine ⟨(body X0 r hr).1, ?_⟩
  have hm := (body X0 r hr).1
  refine vx_ofW (cc := cc) (maxL := nL) (ret := ret) hy rfl ?_
  intro p e s m args' below meth c s₁ B hml htab hP
  obtain ⟨rfl, hE, hbs, hR⟩ := hP
  have hts : ∀ w ∈ zWU, w.before (args.map (ztv V)).toArray s = true := fun w hw => atoms_spec (ws := Cond.code y cc nL ret :: zWU) B.pre w (List.mem_cons_of_mem _ hw)
  have hC : zC (p, e, (headSpec (Cond.code y cc nL ret :: zWU) { frames := d, cells := r.2.1 - h.1, slots := r.2.2.1 - h.2.1, locals := 48 * d }).room, s, m, (args.map (ztv V)).toArray, below, meth, c) V y.cls y.name cc nL ret d :=
    ⟨B.exec, B.bytes, hml, findClass_of_methodNamed B.named, hts, B.notSynchronized, ⟨rfl, rfl⟩, htab, hE, hbs, B.returns, (name_of_methodNamed B.named B.method).1, hV⟩
  have hl := lv_entry (args.map (ztv V)) (n := nL) (by rw [zlg_sl]; exact ha)
  rw [zlv_args, hlv] at hl
  rw [lg_entry_eq]
  exact (body _ r hr).2 hC (r.2.1 - h.1) (r.2.2.1 - h.2.1) (by omega) (by omega) (Nat.le_refl _) (Nat.le_refl _) s.heap [] _ 0 0 rfl rfl hR va_S.rf hl
end
