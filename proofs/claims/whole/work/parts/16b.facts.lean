/-! words, by their places -/
set_option maxRecDepth 20000 in
theorem zw_539 : Cond.fieldLink RJ0 38 "java/lang/String" "COMPACT_STRINGS" "Z" ∈ zWU := zwm 539 (by decide +kernel) (by decide +kernel)
set_option maxRecDepth 20000 in
theorem zw_555 : Cond.fieldLink RJ0 1053 "jdk/internal/util/Preconditions" "SIOOBE_FORMATTER" "Ljava/util/function/BiFunction;" ∈ zWU := zwm 555 (by decide +kernel) (by decide +kernel)
set_option maxRecDepth 20000 in
theorem zw_1387 : Cond.fieldLink RJ0 9 "java/lang/String" "value" "[B" ∈ zWU := zwm 1387 (by decide +kernel) (by decide +kernel)
set_option maxRecDepth 20000 in
theorem zw_1388 : Cond.fieldLink RJ0 15 "java/lang/String" "coder" "B" ∈ zWU := zwm 1388 (by decide +kernel) (by decide +kernel)
set_option maxRecDepth 20000 in
theorem zw_557 : Cond.methodLink RJ0 1059 yJ3_checkIndex_8e157 ∈ zWU := zwm 557 (by decide +kernel) (by decide +kernel)
set_option maxRecDepth 20000 in
theorem zw_86 : Cond.initialized RJ3 ∈ zWU := zwm 86 (by decide +kernel) (by decide +kernel)
set_option maxRecDepth 20000 in
theorem zw_559 : Cond.code yJ3_checkIndex_8e157 cJ3_checkIndex_8e157 3 (some .int) ∈ zWU := zwm 559 (by decide +kernel) (by decide +kernel)
set_option maxRecDepth 20000 in
theorem zw_558 : Cond.static yJ3_checkIndex_8e157 ∈ zWU := zwm 558 (by decide +kernel) (by decide +kernel)
set_option maxRecDepth 20000 in
theorem zk_RJ0_1059 : zKS RJ0 1059 yJ3_checkIndex_8e157 cJ3_checkIndex_8e157 3 (some .int) 3 := ⟨⟨zw_557, zw_86, zw_559, by decide +kernel, by decide⟩, zw_558⟩
set_option maxRecDepth 20000 in
theorem zw_552 : Cond.methodLink RJ1 9 yJ0_checkIndex_df160 ∈ zWU := zwm 552 (by decide +kernel) (by decide +kernel)
set_option maxRecDepth 20000 in
theorem zw_84 : Cond.initialized RJ0 ∈ zWU := zwm 84 (by decide +kernel) (by decide +kernel)
set_option maxRecDepth 20000 in
theorem zw_554 : Cond.code yJ0_checkIndex_df160 cJ0_checkIndex_df160 2 none ∈ zWU := zwm 554 (by decide +kernel) (by decide +kernel)
set_option maxRecDepth 20000 in
theorem zw_553 : Cond.static yJ0_checkIndex_df160 ∈ zWU := zwm 553 (by decide +kernel) (by decide +kernel)
set_option maxRecDepth 20000 in
theorem zk_RJ1_9 : zKS RJ1 9 yJ0_checkIndex_df160 cJ0_checkIndex_df160 2 none 2 := ⟨⟨zw_552, zw_84, zw_554, by decide +kernel, by decide⟩, zw_553⟩
set_option maxRecDepth 20000 in
theorem zw_549 : Cond.methodLink RJ0 495 yJ1_charAt_3b067 ∈ zWU := zwm 549 (by decide +kernel) (by decide +kernel)
set_option maxRecDepth 20000 in
theorem zw_85 : Cond.initialized RJ1 ∈ zWU := zwm 85 (by decide +kernel) (by decide +kernel)
set_option maxRecDepth 20000 in
theorem zw_551 : Cond.code yJ1_charAt_3b067 cJ1_charAt_3b067 2 (some .char) ∈ zWU := zwm 551 (by decide +kernel) (by decide +kernel)
set_option maxRecDepth 20000 in
theorem zw_550 : Cond.static yJ1_charAt_3b067 ∈ zWU := zwm 550 (by decide +kernel) (by decide +kernel)
set_option maxRecDepth 20000 in
theorem zk_RJ0_495 : zKS RJ0 495 yJ1_charAt_3b067 cJ1_charAt_3b067 2 (some .char) 2 := ⟨⟨zw_549, zw_85, zw_551, by decide +kernel, by decide⟩, zw_550⟩
set_option maxRecDepth 20000 in
theorem zw_535 : Cond.methodLink RJ0 335 yJ0_coder_7d493 ∈ zWU := zwm 535 (by decide +kernel) (by decide +kernel)
set_option maxRecDepth 20000 in
theorem zw_538 : Cond.code yJ0_coder_7d493 cJ0_coder_7d493 1 (some .byte) ∈ zWU := zwm 538 (by decide +kernel) (by decide +kernel)
set_option maxRecDepth 20000 in
theorem zw_536 : Cond.instanceMethod yJ0_coder_7d493 ∈ zWU := zwm 536 (by decide +kernel) (by decide +kernel)
set_option maxRecDepth 20000 in
theorem zw_537 : Cond.selects RJ0 yJ0_coder_7d493 yJ0_coder_7d493 ∈ zWU := zwm 537 (by decide +kernel) (by decide +kernel)
set_option maxRecDepth 20000 in
theorem zks_RJ0_335 : zKVs RJ0 335 yJ0_coder_7d493 cJ0_coder_7d493 1 (some .byte) 0 := ⟨⟨zw_535, zw_84, zw_538, by decide +kernel, by decide⟩, zw_536, zw_537⟩
set_option maxRecDepth 20000 in
theorem zw_545 : Cond.methodLink RJ0 492 yJ0_isLatin1_aae02 ∈ zWU := zwm 545 (by decide +kernel) (by decide +kernel)
set_option maxRecDepth 20000 in
theorem zw_548 : Cond.code yJ0_isLatin1_aae02 cJ0_isLatin1_aae02 1 (some .boolean) ∈ zWU := zwm 548 (by decide +kernel) (by decide +kernel)
set_option maxRecDepth 20000 in
theorem zw_546 : Cond.instanceMethod yJ0_isLatin1_aae02 ∈ zWU := zwm 546 (by decide +kernel) (by decide +kernel)
set_option maxRecDepth 20000 in
theorem zw_547 : Cond.selects RJ0 yJ0_isLatin1_aae02 yJ0_isLatin1_aae02 ∈ zWU := zwm 547 (by decide +kernel) (by decide +kernel)
set_option maxRecDepth 20000 in
theorem zks_RJ0_492 : zKVs RJ0 492 yJ0_isLatin1_aae02 cJ0_isLatin1_aae02 1 (some .boolean) 0 := ⟨⟨zw_545, zw_84, zw_548, by decide +kernel, by decide⟩, zw_546, zw_547⟩
set_option maxRecDepth 20000 in
theorem zw_147 : Cond.fieldLink RX0 9 (TX0 4).1 (TX0 4).2.1 (TX0 4).2.2.1 ∈ zWU := zwm 147 (by decide +kernel) (by decide +kernel)
set_option maxRecDepth 20000 in
theorem zf_RX0_9 : zFL RX0 9 0 4 := ⟨_, rfl, by decide, zw_147⟩
set_option maxRecDepth 20000 in
theorem zw_120 : Cond.methodLink RX0 61 yX0_sum ∈ zWU := zwm 120 (by decide +kernel) (by decide +kernel)
set_option maxRecDepth 20000 in
theorem zw_72 : Cond.initialized RX0 ∈ zWU := zwm 72 (by decide +kernel) (by decide +kernel)
set_option maxRecDepth 20000 in
theorem zw_123 : Cond.code yX0_sum cX0_sum 3 (some .int) ∈ zWU := zwm 123 (by decide +kernel) (by decide +kernel)
set_option maxRecDepth 20000 in
theorem zw_121 : Cond.instanceMethod yX0_sum ∈ zWU := zwm 121 (by decide +kernel) (by decide +kernel)
set_option maxRecDepth 20000 in
theorem zw_122 : Cond.selects RX0 yX0_sum yX0_sum ∈ zWU := zwm 122 (by decide +kernel) (by decide +kernel)
set_option maxRecDepth 20000 in
theorem zk_RX0_61 : zKV RX0 61 yX0_sum cX0_sum 3 (some .int) 0 2 := ⟨⟨zw_120, zw_72, zw_123, by decide +kernel, by decide⟩, zw_121, zw_122, _, rfl, rfl⟩
set_option maxRecDepth 20000 in
theorem zw_149 : Cond.fieldLink RX0 18 (TX0 6).1 (TX0 6).2.1 (TX0 6).2.2.1 ∈ zWU := zwm 149 (by decide +kernel) (by decide +kernel)
set_option maxRecDepth 20000 in
theorem zf_RX0_18 : zFL RX0 18 0 6 := ⟨_, rfl, by decide, zw_149⟩
set_option maxRecDepth 20000 in
theorem zw_153 : Cond.fieldLink RX0 24 (TX0 8).1 (TX0 8).2.1 (TX0 8).2.2.1 ∈ zWU := zwm 153 (by decide +kernel) (by decide +kernel)
set_option maxRecDepth 20000 in
theorem zf_RX0_24 : zFL RX0 24 0 8 := ⟨_, rfl, by decide, zw_153⟩
set_option maxRecDepth 20000 in
theorem zw_145 : Cond.fieldLink RX0 49 (TX0 3).1 (TX0 3).2.1 (TX0 3).2.2.1 ∈ zWU := zwm 145 (by decide +kernel) (by decide +kernel)
set_option maxRecDepth 20000 in
theorem zf_RX0_49 : zFL RX0 49 0 3 := ⟨_, rfl, by decide, zw_145⟩
set_option maxRecDepth 20000 in
theorem zw_148 : Cond.fieldLink RX0 15 (TX0 5).1 (TX0 5).2.1 (TX0 5).2.2.1 ∈ zWU := zwm 148 (by decide +kernel) (by decide +kernel)
set_option maxRecDepth 20000 in
theorem zf_RX0_15 : zFL RX0 15 0 5 := ⟨_, rfl, by decide, zw_148⟩
set_option maxRecDepth 20000 in
theorem zw_151 : Cond.fieldLink RX0 21 (TX0 7).1 (TX0 7).2.1 (TX0 7).2.2.1 ∈ zWU := zwm 151 (by decide +kernel) (by decide +kernel)
set_option maxRecDepth 20000 in
theorem zf_RX0_21 : zFL RX0 21 0 7 := ⟨_, rfl, by decide, zw_151⟩
set_option maxRecDepth 20000 in
theorem zw_132 : Cond.methodLink RX0 64 yX0_product ∈ zWU := zwm 132 (by decide +kernel) (by decide +kernel)
set_option maxRecDepth 20000 in
theorem zw_135 : Cond.code yX0_product cX0_product 3 (some .int) ∈ zWU := zwm 135 (by decide +kernel) (by decide +kernel)
set_option maxRecDepth 20000 in
theorem zw_133 : Cond.instanceMethod yX0_product ∈ zWU := zwm 133 (by decide +kernel) (by decide +kernel)
set_option maxRecDepth 20000 in
theorem zw_134 : Cond.selects RX0 yX0_product yX0_product ∈ zWU := zwm 134 (by decide +kernel) (by decide +kernel)
set_option maxRecDepth 20000 in
theorem zk_RX0_64 : zKV RX0 64 yX0_product cX0_product 3 (some .int) 0 2 := ⟨⟨zw_132, zw_72, zw_135, by decide +kernel, by decide⟩, zw_133, zw_134, _, rfl, rfl⟩
set_option maxRecDepth 20000 in
theorem zw_110 : Cond.methodLink RX0 38 yX0_sizeOf ∈ zWU := zwm 110 (by decide +kernel) (by decide +kernel)
set_option maxRecDepth 20000 in
theorem zw_112 : Cond.code yX0_sizeOf cX0_sizeOf 4 (some .int) ∈ zWU := zwm 112 (by decide +kernel) (by decide +kernel)
set_option maxRecDepth 20000 in
theorem zw_111 : Cond.static yX0_sizeOf ∈ zWU := zwm 111 (by decide +kernel) (by decide +kernel)
set_option maxRecDepth 20000 in
theorem zk_RX0_38 : zKS RX0 38 yX0_sizeOf cX0_sizeOf 4 (some .int) 2 := ⟨⟨zw_110, zw_72, zw_112, by decide +kernel, by decide⟩, zw_111⟩
set_option maxRecDepth 20000 in
theorem zw_136 : Cond.fieldLink RX0 31 (TX0 0).1 (TX0 0).2.1 (TX0 0).2.2.1 ∈ zWU := zwm 136 (by decide +kernel) (by decide +kernel)
set_option maxRecDepth 20000 in
theorem zf_RX0_31 : zFL RX0 31 0 0 := ⟨_, rfl, by decide, zw_136⟩
set_option maxRecDepth 20000 in
theorem zq_0_0 {own nm : String} : zFW own nm 0 0 := ⟨_, rfl, Or.inl rfl⟩
set_option maxRecDepth 20000 in
theorem zw_139 : Cond.fieldLink RX0 35 (TX0 1).1 (TX0 1).2.1 (TX0 1).2.2.1 ∈ zWU := zwm 139 (by decide +kernel) (by decide +kernel)
set_option maxRecDepth 20000 in
theorem zf_RX0_35 : zFL RX0 35 0 1 := ⟨_, rfl, by decide, zw_139⟩
set_option maxRecDepth 20000 in
theorem zq_0_1 {own nm : String} : zFW own nm 0 1 := ⟨_, rfl, Or.inl rfl⟩
set_option maxRecDepth 20000 in
theorem zw_142 : Cond.fieldLink RX0 42 (TX0 2).1 (TX0 2).2.1 (TX0 2).2.2.1 ∈ zWU := zwm 142 (by decide +kernel) (by decide +kernel)
set_option maxRecDepth 20000 in
theorem zf_RX0_42 : zFL RX0 42 0 2 := ⟨_, rfl, by decide, zw_142⟩
set_option maxRecDepth 20000 in
theorem zq_0_2 {own nm : String} : zFW own nm 0 2 := ⟨_, rfl, Or.inl rfl⟩
set_option maxRecDepth 20000 in
theorem zw_113 : Cond.methodLink RX0 45 yX0_leastModulus ∈ zWU := zwm 113 (by decide +kernel) (by decide +kernel)
set_option maxRecDepth 20000 in
theorem zw_115 : Cond.code yX0_leastModulus cX0_leastModulus 1 (some .int) ∈ zWU := zwm 115 (by decide +kernel) (by decide +kernel)
set_option maxRecDepth 20000 in
theorem zw_114 : Cond.static yX0_leastModulus ∈ zWU := zwm 114 (by decide +kernel) (by decide +kernel)
set_option maxRecDepth 20000 in
theorem zk_RX0_45 : zKS RX0 45 yX0_leastModulus cX0_leastModulus 1 (some .int) 1 := ⟨⟨zw_113, zw_72, zw_115, by decide +kernel, by decide⟩, zw_114⟩
set_option maxRecDepth 20000 in
theorem zq_0_3 {own nm : String} : zFW own nm 0 3 := ⟨_, rfl, Or.inl rfl⟩
set_option maxRecDepth 20000 in
theorem zw_116 : Cond.methodLink RX0 52 yX0_fillSums ∈ zWU := zwm 116 (by decide +kernel) (by decide +kernel)
set_option maxRecDepth 20000 in
theorem zw_119 : Cond.code yX0_fillSums cX0_fillSums 5 none ∈ zWU := zwm 119 (by decide +kernel) (by decide +kernel)
set_option maxRecDepth 20000 in
theorem zw_118 : Cond.instanceMethod yX0_fillSums ∈ zWU := zwm 118 (by decide +kernel) (by decide +kernel)
set_option maxRecDepth 20000 in
theorem zw_0 : Cond.selects RX0 yX0_fillSums yX0_fillSums ∈ zWU := zwm 0 (by decide +kernel) (by decide +kernel)
set_option maxRecDepth 20000 in
theorem zk_RX0_52 : zKV RX0 52 yX0_fillSums cX0_fillSums 5 none 0 2 := ⟨⟨zw_116, zw_72, zw_119, by decide +kernel, by decide⟩, zw_118, zw_0, _, rfl, rfl⟩
set_option maxRecDepth 20000 in
theorem zw_124 : Cond.methodLink RX0 55 yX0_fillRisen ∈ zWU := zwm 124 (by decide +kernel) (by decide +kernel)
set_option maxRecDepth 20000 in
theorem zw_127 : Cond.code yX0_fillRisen cX0_fillRisen 5 none ∈ zWU := zwm 127 (by decide +kernel) (by decide +kernel)
set_option maxRecDepth 20000 in
theorem zw_126 : Cond.instanceMethod yX0_fillRisen ∈ zWU := zwm 126 (by decide +kernel) (by decide +kernel)
set_option maxRecDepth 20000 in
theorem zw_1 : Cond.selects RX0 yX0_fillRisen yX0_fillRisen ∈ zWU := zwm 1 (by decide +kernel) (by decide +kernel)
set_option maxRecDepth 20000 in
theorem zk_RX0_55 : zKV RX0 55 yX0_fillRisen cX0_fillRisen 5 none 0 2 := ⟨⟨zw_124, zw_72, zw_127, by decide +kernel, by decide⟩, zw_126, zw_1, _, rfl, rfl⟩
set_option maxRecDepth 20000 in
theorem zw_128 : Cond.methodLink RX0 58 yX0_fillProducts ∈ zWU := zwm 128 (by decide +kernel) (by decide +kernel)
set_option maxRecDepth 20000 in
theorem zw_131 : Cond.code yX0_fillProducts cX0_fillProducts 6 none ∈ zWU := zwm 131 (by decide +kernel) (by decide +kernel)
set_option maxRecDepth 20000 in
theorem zw_130 : Cond.instanceMethod yX0_fillProducts ∈ zWU := zwm 130 (by decide +kernel) (by decide +kernel)
set_option maxRecDepth 20000 in
theorem zw_2 : Cond.selects RX0 yX0_fillProducts yX0_fillProducts ∈ zWU := zwm 2 (by decide +kernel) (by decide +kernel)
set_option maxRecDepth 20000 in
theorem zk_RX0_58 : zKV RX0 58 yX0_fillProducts cX0_fillProducts 6 none 0 2 := ⟨⟨zw_128, zw_72, zw_131, by decide +kernel, by decide⟩, zw_130, zw_2, _, rfl, rfl⟩
set_option maxRecDepth 20000 in
theorem zw_105 : Cond.methodLink RX0 3 Lib.objectInit ∈ zWU := zwm 105 (by decide +kernel) (by decide +kernel)
set_option maxRecDepth 20000 in
theorem zw_98 : Cond.instanceMethod Lib.objectInit ∈ zWU := zwm 98 (by decide +kernel) (by decide +kernel)
set_option maxRecDepth 20000 in
theorem zw_99 : Cond.code Lib.objectInit ⟨#[0xb1]⟩ 1 none ∈ zWU := zwm 99 (by decide +kernel) (by decide +kernel)
set_option maxRecDepth 20000 in
theorem zw_173 : Cond.arrayClass .int ∈ zWU := zwm 173 (by decide +kernel) (by decide +kernel)
set_option maxRecDepth 20000 in
theorem zq_0_4 : zFW RX0 "<init>" 0 4 := ⟨_, rfl, Or.inr ⟨rfl, rfl, rfl⟩⟩
set_option maxRecDepth 20000 in
theorem zq_0_5 : zFW RX0 "<init>" 0 5 := ⟨_, rfl, Or.inr ⟨rfl, rfl, rfl⟩⟩
set_option maxRecDepth 20000 in
theorem zq_0_6 : zFW RX0 "<init>" 0 6 := ⟨_, rfl, Or.inr ⟨rfl, rfl, rfl⟩⟩
set_option maxRecDepth 20000 in
theorem zq_0_7 : zFW RX0 "<init>" 0 7 := ⟨_, rfl, Or.inr ⟨rfl, rfl, rfl⟩⟩
set_option maxRecDepth 20000 in
theorem zq_0_8 : zFW RX0 "<init>" 0 8 := ⟨_, rfl, Or.inr ⟨rfl, rfl, rfl⟩⟩
set_option maxRecDepth 20000 in
theorem zw_106 : Cond.methodLink RX0 27 yX0_tune ∈ zWU := zwm 106 (by decide +kernel) (by decide +kernel)
set_option maxRecDepth 20000 in
theorem zw_109 : Cond.code yX0_tune cX0_tune 4 none ∈ zWU := zwm 109 (by decide +kernel) (by decide +kernel)
set_option maxRecDepth 20000 in
theorem zw_107 : Cond.instanceMethod yX0_tune ∈ zWU := zwm 107 (by decide +kernel) (by decide +kernel)
set_option maxRecDepth 20000 in
theorem zw_108 : Cond.selects RX0 yX0_tune yX0_tune ∈ zWU := zwm 108 (by decide +kernel) (by decide +kernel)
set_option maxRecDepth 20000 in
theorem zk_RX0_27 : zKV RX0 27 yX0_tune cX0_tune 4 none 0 2 := ⟨⟨zw_106, zw_72, zw_109, by decide +kernel, by decide⟩, zw_107, zw_108, _, rfl, rfl⟩
set_option maxRecDepth 20000 in
theorem zw_653 : Cond.methodLink RX0 67 yX0_difference ∈ zWU := zwm 653 (by decide +kernel) (by decide +kernel)
set_option maxRecDepth 20000 in
theorem zw_656 : Cond.code yX0_difference cX0_difference 3 (some .int) ∈ zWU := zwm 656 (by decide +kernel) (by decide +kernel)
set_option maxRecDepth 20000 in
theorem zw_654 : Cond.instanceMethod yX0_difference ∈ zWU := zwm 654 (by decide +kernel) (by decide +kernel)
set_option maxRecDepth 20000 in
theorem zw_655 : Cond.selects RX0 yX0_difference yX0_difference ∈ zWU := zwm 655 (by decide +kernel) (by decide +kernel)
set_option maxRecDepth 20000 in
theorem zk_RX0_67 : zKV RX0 67 yX0_difference cX0_difference 3 (some .int) 0 2 := ⟨⟨zw_653, zw_72, zw_656, by decide +kernel, by decide⟩, zw_654, zw_655, _, rfl, rfl⟩
set_option maxRecDepth 20000 in
theorem zw_179 : Cond.methodLink RX3 3 Lib.objectInit ∈ zWU := zwm 179 (by decide +kernel) (by decide +kernel)
set_option maxRecDepth 20000 in
theorem zw_182 : Cond.fieldLink RX3 9 (TX3 0).1 (TX3 0).2.1 (TX3 0).2.2.1 ∈ zWU := zwm 182 (by decide +kernel) (by decide +kernel)
set_option maxRecDepth 20000 in
theorem zf_RX3_9 : zFL RX3 9 3 0 := ⟨_, rfl, by decide, zw_182⟩
set_option maxRecDepth 20000 in
theorem zq_3_0 {own nm : String} : zFW own nm 3 0 := ⟨_, rfl, Or.inl rfl⟩
set_option maxRecDepth 20000 in
theorem zw_185 : Cond.fieldLink RX3 15 (TX3 1).1 (TX3 1).2.1 (TX3 1).2.2.1 ∈ zWU := zwm 185 (by decide +kernel) (by decide +kernel)
set_option maxRecDepth 20000 in
theorem zf_RX3_15 : zFL RX3 15 3 1 := ⟨_, rfl, by decide, zw_185⟩
set_option maxRecDepth 20000 in
theorem zq_3_1 {own nm : String} : zFW own nm 3 1 := ⟨_, rfl, Or.inl rfl⟩
set_option maxRecDepth 20000 in
theorem zw_180 : Cond.classLink RX3 18 "[[I" ∈ zWU := zwm 180 (by decide +kernel) (by decide +kernel)
set_option maxRecDepth 20000 in
theorem zw_192 : Cond.fieldLink RX3 20 (TX3 3).1 (TX3 3).2.1 (TX3 3).2.2.1 ∈ zWU := zwm 192 (by decide +kernel) (by decide +kernel)
set_option maxRecDepth 20000 in
theorem zf_RX3_20 : zFL RX3 20 3 3 := ⟨_, rfl, by decide, zw_192⟩
set_option maxRecDepth 20000 in
theorem zq_3_3 : zFW RX3 "<init>" 3 3 := ⟨_, rfl, Or.inr ⟨rfl, rfl, rfl⟩⟩
set_option maxRecDepth 20000 in
theorem zw_217 : Cond.fieldLink RX1 11 (TX1 2).1 (TX1 2).2.1 (TX1 2).2.2.1 ∈ zWU := zwm 217 (by decide +kernel) (by decide +kernel)
set_option maxRecDepth 20000 in
theorem zf_RX1_11 : zFL RX1 11 1 2 := ⟨_, rfl, by decide, zw_217⟩
set_option maxRecDepth 20000 in
theorem zw_211 : Cond.classLink RX1 9 RX3 ∈ zWU := zwm 211 (by decide +kernel) (by decide +kernel)
set_option maxRecDepth 20000 in
theorem zw_175 : Cond.instantiable RX3 4 ∈ zWU := zwm 175 (by decide +kernel) (by decide +kernel)
set_option maxRecDepth 20000 in
theorem zw_73 : Cond.initialized RX3 ∈ zWU := zwm 73 (by decide +kernel) (by decide +kernel)
set_option maxRecDepth 20000 in
theorem zn_RX1_9 : zNO RX1 9 3 := ⟨_, rfl, zw_211, zw_175, zw_73⟩
set_option maxRecDepth 20000 in
theorem zw_213 : Cond.methodLink RX1 17 yX3_init ∈ zWU := zwm 213 (by decide +kernel) (by decide +kernel)
set_option maxRecDepth 20000 in
theorem zw_178 : Cond.code yX3_init cX3_init 1 none ∈ zWU := zwm 178 (by decide +kernel) (by decide +kernel)
set_option maxRecDepth 20000 in
theorem zw_177 : Cond.instanceMethod yX3_init ∈ zWU := zwm 177 (by decide +kernel) (by decide +kernel)
set_option maxRecDepth 20000 in
theorem zk_RX1_17 : zKI RX1 17 yX3_init cX3_init 1 0 := ⟨⟨zw_213, zw_73, zw_178, by decide +kernel, by decide⟩, zw_177, rfl⟩
set_option maxRecDepth 20000 in
theorem zw_210 : Cond.methodLink RX1 3 Lib.objectInit ∈ zWU := zwm 210 (by decide +kernel) (by decide +kernel)
set_option maxRecDepth 20000 in
theorem zq_1_2 : zFW RX1 "<init>" 1 2 := ⟨_, rfl, Or.inr ⟨rfl, rfl, rfl⟩⟩
set_option maxRecDepth 20000 in
theorem zw_189 : Cond.fieldLink RX3 23 (TX3 2).1 (TX3 2).2.1 (TX3 2).2.2.1 ∈ zWU := zwm 189 (by decide +kernel) (by decide +kernel)
set_option maxRecDepth 20000 in
theorem zf_RX3_23 : zFL RX3 23 3 2 := ⟨_, rfl, by decide, zw_189⟩
set_option maxRecDepth 20000 in
theorem zw_376 : Cond.methodLink RX3 26 arraycopyName ∈ zWU := zwm 376 (by decide +kernel) (by decide +kernel)
set_option maxRecDepth 20000 in
theorem zw_378 : Cond.native arraycopyName ∈ zWU := zwm 378 (by decide +kernel) (by decide +kernel)
set_option maxRecDepth 20000 in
theorem zw_377 : Cond.static arraycopyName ∈ zWU := zwm 377 (by decide +kernel) (by decide +kernel)
set_option maxRecDepth 20000 in
theorem zw_88 : Cond.initialized RJ10 ∈ zWU := zwm 88 (by decide +kernel) (by decide +kernel)
set_option maxRecDepth 20000 in
theorem zq_3_2 {own nm : String} : zFW own nm 3 2 := ⟨_, rfl, Or.inl rfl⟩
set_option maxRecDepth 20000 in
theorem zw_214 : Cond.fieldLink RX1 26 (TX1 0).1 (TX1 0).2.1 (TX1 0).2.2.1 ∈ zWU := zwm 214 (by decide +kernel) (by decide +kernel)
set_option maxRecDepth 20000 in
theorem zf_RX1_26 : zFL RX1 26 1 0 := ⟨_, rfl, by decide, zw_214⟩
set_option maxRecDepth 20000 in
theorem zq_1_0 {own nm : String} : zFW own nm 1 0 := ⟨_, rfl, Or.inl rfl⟩
set_option maxRecDepth 20000 in
theorem zw_216 : Cond.fieldLink RX1 18 (TX1 1).1 (TX1 1).2.1 (TX1 1).2.2.1 ∈ zWU := zwm 216 (by decide +kernel) (by decide +kernel)
set_option maxRecDepth 20000 in
theorem zf_RX1_18 : zFL RX1 18 1 1 := ⟨_, rfl, by decide, zw_216⟩
set_option maxRecDepth 20000 in
theorem zq_1_1 {own nm : String} : zFW own nm 1 1 := ⟨_, rfl, Or.inl rfl⟩
set_option maxRecDepth 20000 in
theorem zw_672 : Cond.methodLink RX1 22 yX3_become ∈ zWU := zwm 672 (by decide +kernel) (by decide +kernel)
set_option maxRecDepth 20000 in
theorem zw_375 : Cond.code yX3_become cX3_become 3 none ∈ zWU := zwm 375 (by decide +kernel) (by decide +kernel)
set_option maxRecDepth 20000 in
theorem zw_373 : Cond.instanceMethod yX3_become ∈ zWU := zwm 373 (by decide +kernel) (by decide +kernel)
set_option maxRecDepth 20000 in
theorem zw_374 : Cond.selects RX3 yX3_become yX3_become ∈ zWU := zwm 374 (by decide +kernel) (by decide +kernel)
set_option maxRecDepth 20000 in
theorem zk_RX1_22 : zKV RX1 22 yX3_become cX3_become 3 none 3 1 := ⟨⟨zw_672, zw_73, zw_375, by decide +kernel, by decide⟩, zw_373, zw_374, _, rfl, rfl⟩
set_option maxRecDepth 20000 in
theorem zw_268 : Cond.methodLink RX2 3 Lib.objectInit ∈ zWU := zwm 268 (by decide +kernel) (by decide +kernel)
set_option maxRecDepth 20000 in
theorem zw_274 : Cond.fieldLink RX2 9 (TX2 2).1 (TX2 2).2.1 (TX2 2).2.2.1 ∈ zWU := zwm 274 (by decide +kernel) (by decide +kernel)
set_option maxRecDepth 20000 in
theorem zf_RX2_9 : zFL RX2 9 2 2 := ⟨_, rfl, by decide, zw_274⟩
set_option maxRecDepth 20000 in
theorem zq_2_2 : zFW RX2 "<init>" 2 2 := ⟨_, rfl, Or.inr ⟨rfl, rfl, rfl⟩⟩
set_option maxRecDepth 20000 in
theorem zw_275 : Cond.fieldLink RX2 15 (TX2 3).1 (TX2 3).2.1 (TX2 3).2.2.1 ∈ zWU := zwm 275 (by decide +kernel) (by decide +kernel)
set_option maxRecDepth 20000 in
theorem zf_RX2_15 : zFL RX2 15 2 3 := ⟨_, rfl, by decide, zw_275⟩
set_option maxRecDepth 20000 in
theorem zq_2_3 : zFW RX2 "<init>" 2 3 := ⟨_, rfl, Or.inr ⟨rfl, rfl, rfl⟩⟩
set_option maxRecDepth 20000 in
theorem zw_276 : Cond.fieldLink RX2 19 (TX2 4).1 (TX2 4).2.1 (TX2 4).2.2.1 ∈ zWU := zwm 276 (by decide +kernel) (by decide +kernel)
set_option maxRecDepth 20000 in
theorem zf_RX2_19 : zFL RX2 19 2 4 := ⟨_, rfl, by decide, zw_276⟩
set_option maxRecDepth 20000 in
theorem zq_2_4 : zFW RX2 "<init>" 2 4 := ⟨_, rfl, Or.inr ⟨rfl, rfl, rfl⟩⟩
set_option maxRecDepth 20000 in
theorem zw_269 : Cond.classLink RX2 23 "[[I" ∈ zWU := zwm 269 (by decide +kernel) (by decide +kernel)
set_option maxRecDepth 20000 in
theorem zw_277 : Cond.fieldLink RX2 25 (TX2 5).1 (TX2 5).2.1 (TX2 5).2.2.1 ∈ zWU := zwm 277 (by decide +kernel) (by decide +kernel)
set_option maxRecDepth 20000 in
theorem zf_RX2_25 : zFL RX2 25 2 5 := ⟨_, rfl, by decide, zw_277⟩
set_option maxRecDepth 20000 in
theorem zq_2_5 : zFW RX2 "<init>" 2 5 := ⟨_, rfl, Or.inr ⟨rfl, rfl, rfl⟩⟩
set_option maxRecDepth 20000 in
theorem zw_278 : Cond.fieldLink RX2 28 (TX2 6).1 (TX2 6).2.1 (TX2 6).2.2.1 ∈ zWU := zwm 278 (by decide +kernel) (by decide +kernel)
set_option maxRecDepth 20000 in
theorem zf_RX2_28 : zFL RX2 28 2 6 := ⟨_, rfl, by decide, zw_278⟩
set_option maxRecDepth 20000 in
theorem zq_2_6 : zFW RX2 "<init>" 2 6 := ⟨_, rfl, Or.inr ⟨rfl, rfl, rfl⟩⟩
set_option maxRecDepth 20000 in
theorem zw_279 : Cond.fieldLink RX2 31 (TX2 7).1 (TX2 7).2.1 (TX2 7).2.2.1 ∈ zWU := zwm 279 (by decide +kernel) (by decide +kernel)
set_option maxRecDepth 20000 in
theorem zf_RX2_31 : zFL RX2 31 2 7 := ⟨_, rfl, by decide, zw_279⟩
set_option maxRecDepth 20000 in
theorem zq_2_7 : zFW RX2 "<init>" 2 7 := ⟨_, rfl, Or.inr ⟨rfl, rfl, rfl⟩⟩
set_option maxRecDepth 20000 in
theorem zw_270 : Cond.fieldLink RX2 34 (TX2 0).1 (TX2 0).2.1 (TX2 0).2.2.1 ∈ zWU := zwm 270 (by decide +kernel) (by decide +kernel)
set_option maxRecDepth 20000 in
theorem zf_RX2_34 : zFL RX2 34 2 0 := ⟨_, rfl, by decide, zw_270⟩
set_option maxRecDepth 20000 in
theorem zq_2_0 {own nm : String} : zFW own nm 2 0 := ⟨_, rfl, Or.inl rfl⟩
set_option maxRecDepth 20000 in
theorem zw_235 : Cond.fieldLink RX2 77 (TX5 2).1 (TX5 2).2.1 (TX5 2).2.2.1 ∈ zWU := zwm 235 (by decide +kernel) (by decide +kernel)
set_option maxRecDepth 20000 in
theorem zf_RX2_77 : zFL RX2 77 5 2 := ⟨_, rfl, by decide, zw_235⟩
set_option maxRecDepth 20000 in
theorem zw_272 : Cond.fieldLink RX2 38 (TX2 1).1 (TX2 1).2.1 (TX2 1).2.2.1 ∈ zWU := zwm 272 (by decide +kernel) (by decide +kernel)
set_option maxRecDepth 20000 in
theorem zf_RX2_38 : zFL RX2 38 2 1 := ⟨_, rfl, by decide, zw_272⟩
set_option maxRecDepth 20000 in
theorem zq_2_1 {own nm : String} : zFW own nm 2 1 := ⟨_, rfl, Or.inl rfl⟩
set_option maxRecDepth 20000 in
theorem zw_234 : Cond.fieldLink RX5 35 (TX5 1).1 (TX5 1).2.1 (TX5 1).2.2.1 ∈ zWU := zwm 234 (by decide +kernel) (by decide +kernel)
set_option maxRecDepth 20000 in
theorem zf_RX5_35 : zFL RX5 35 5 1 := ⟨_, rfl, by decide, zw_234⟩
set_option maxRecDepth 20000 in
theorem zw_243 : Cond.fieldLink RX5 32 (TX5 8).1 (TX5 8).2.1 (TX5 8).2.2.1 ∈ zWU := zwm 243 (by decide +kernel) (by decide +kernel)
set_option maxRecDepth 20000 in
theorem zf_RX5_32 : zFL RX5 32 5 8 := ⟨_, rfl, by decide, zw_243⟩
set_option maxRecDepth 20000 in
theorem zq_5_8 {own nm : String} : zFW own nm 5 8 := ⟨_, rfl, Or.inl rfl⟩
set_option maxRecDepth 20000 in
theorem zw_240 : Cond.fieldLink RX5 15 (TX5 5).1 (TX5 5).2.1 (TX5 5).2.2.1 ∈ zWU := zwm 240 (by decide +kernel) (by decide +kernel)
set_option maxRecDepth 20000 in
theorem zf_RX5_15 : zFL RX5 15 5 5 := ⟨_, rfl, by decide, zw_240⟩
set_option maxRecDepth 20000 in
theorem zq_5_1 {own nm : String} : zFW own nm 5 1 := ⟨_, rfl, Or.inl rfl⟩
set_option maxRecDepth 20000 in
theorem zw_241 : Cond.fieldLink RX5 18 (TX5 6).1 (TX5 6).2.1 (TX5 6).2.2.1 ∈ zWU := zwm 241 (by decide +kernel) (by decide +kernel)
set_option maxRecDepth 20000 in
theorem zf_RX5_18 : zFL RX5 18 5 6 := ⟨_, rfl, by decide, zw_241⟩
set_option maxRecDepth 20000 in
theorem zw_236 : Cond.fieldLink RX5 85 (TX5 2).1 (TX5 2).2.1 (TX5 2).2.2.1 ∈ zWU := zwm 236 (by decide +kernel) (by decide +kernel)
set_option maxRecDepth 20000 in
theorem zf_RX5_85 : zFL RX5 85 5 2 := ⟨_, rfl, by decide, zw_236⟩
set_option maxRecDepth 20000 in
theorem zq_5_2 {own nm : String} : zFW own nm 5 2 := ⟨_, rfl, Or.inl rfl⟩
set_option maxRecDepth 20000 in
theorem zw_242 : Cond.fieldLink RX5 21 (TX5 7).1 (TX5 7).2.1 (TX5 7).2.2.1 ∈ zWU := zwm 242 (by decide +kernel) (by decide +kernel)
set_option maxRecDepth 20000 in
theorem zf_RX5_21 : zFL RX5 21 5 7 := ⟨_, rfl, by decide, zw_242⟩
set_option maxRecDepth 20000 in
theorem zw_238 : Cond.fieldLink RX5 88 (TX5 3).1 (TX5 3).2.1 (TX5 3).2.2.1 ∈ zWU := zwm 238 (by decide +kernel) (by decide +kernel)
set_option maxRecDepth 20000 in
theorem zf_RX5_88 : zFL RX5 88 5 3 := ⟨_, rfl, by decide, zw_238⟩
set_option maxRecDepth 20000 in
theorem zq_5_3 {own nm : String} : zFW own nm 5 3 := ⟨_, rfl, Or.inl rfl⟩
set_option maxRecDepth 20000 in
theorem zw_233 : Cond.fieldLink RX2 50 (TX5 1).1 (TX5 1).2.1 (TX5 1).2.2.1 ∈ zWU := zwm 233 (by decide +kernel) (by decide +kernel)
set_option maxRecDepth 20000 in
theorem zf_RX2_50 : zFL RX2 50 5 1 := ⟨_, rfl, by decide, zw_233⟩
set_option maxRecDepth 20000 in
theorem zw_237 : Cond.fieldLink RX2 80 (TX5 3).1 (TX5 3).2.1 (TX5 3).2.2.1 ∈ zWU := zwm 237 (by decide +kernel) (by decide +kernel)
set_option maxRecDepth 20000 in
theorem zf_RX2_80 : zFL RX2 80 5 3 := ⟨_, rfl, by decide, zw_237⟩
set_option maxRecDepth 20000 in
theorem zw_598 : Cond.methodLink RX2 55 yX2_refuse ∈ zWU := zwm 598 (by decide +kernel) (by decide +kernel)
set_option maxRecDepth 20000 in
theorem zw_76 : Cond.initialized RX2 ∈ zWU := zwm 76 (by decide +kernel) (by decide +kernel)
set_option maxRecDepth 20000 in
theorem zw_601 : Cond.code yX2_refuse cX2_refuse 2 (some .boolean) ∈ zWU := zwm 601 (by decide +kernel) (by decide +kernel)
set_option maxRecDepth 20000 in
theorem zw_600 : Cond.instanceMethod yX2_refuse ∈ zWU := zwm 600 (by decide +kernel) (by decide +kernel)
set_option maxRecDepth 20000 in
theorem zw_10 : Cond.selects RX2 yX2_refuse yX2_refuse ∈ zWU := zwm 10 (by decide +kernel) (by decide +kernel)
set_option maxRecDepth 20000 in
theorem zk_RX2_55 : zKV RX2 55 yX2_refuse cX2_refuse 2 (some .boolean) 2 1 := ⟨⟨zw_598, zw_76, zw_601, by decide +kernel, by decide⟩, zw_600, zw_10, _, rfl, rfl⟩
set_option maxRecDepth 20000 in
theorem zw_602 : Cond.methodLink RX2 59 yX5_step ∈ zWU := zwm 602 (by decide +kernel) (by decide +kernel)
set_option maxRecDepth 20000 in
theorem zw_75 : Cond.initialized RX5 ∈ zWU := zwm 75 (by decide +kernel) (by decide +kernel)
set_option maxRecDepth 20000 in
theorem zw_589 : Cond.code yX5_step cX5_step 1 none ∈ zWU := zwm 589 (by decide +kernel) (by decide +kernel)
set_option maxRecDepth 20000 in
theorem zw_587 : Cond.instanceMethod yX5_step ∈ zWU := zwm 587 (by decide +kernel) (by decide +kernel)
set_option maxRecDepth 20000 in
theorem zw_588 : Cond.selects RX5 yX5_step yX5_step ∈ zWU := zwm 588 (by decide +kernel) (by decide +kernel)
set_option maxRecDepth 20000 in
theorem zk_RX2_59 : zKV RX2 59 yX5_step cX5_step 1 none 5 0 := ⟨⟨zw_602, zw_75, zw_589, by decide +kernel, by decide⟩, zw_587, zw_588, _, rfl, rfl⟩
set_option maxRecDepth 20000 in
theorem zw_603 : Cond.methodLink RX2 83 yX2_seeNumber ∈ zWU := zwm 603 (by decide +kernel) (by decide +kernel)
set_option maxRecDepth 20000 in
theorem zw_606 : Cond.code yX2_seeNumber cX2_seeNumber 2 (some .boolean) ∈ zWU := zwm 606 (by decide +kernel) (by decide +kernel)
set_option maxRecDepth 20000 in
theorem zw_605 : Cond.instanceMethod yX2_seeNumber ∈ zWU := zwm 605 (by decide +kernel) (by decide +kernel)
set_option maxRecDepth 20000 in
theorem zw_11 : Cond.selects RX2 yX2_seeNumber yX2_seeNumber ∈ zWU := zwm 11 (by decide +kernel) (by decide +kernel)
set_option maxRecDepth 20000 in
theorem zk_RX2_83 : zKV RX2 83 yX2_seeNumber cX2_seeNumber 2 (some .boolean) 2 1 := ⟨⟨zw_603, zw_76, zw_606, by decide +kernel, by decide⟩, zw_605, zw_11, _, rfl, rfl⟩
set_option maxRecDepth 20000 in
theorem zw_607 : Cond.methodLink RX2 86 yX2_isPrime ∈ zWU := zwm 607 (by decide +kernel) (by decide +kernel)
set_option maxRecDepth 20000 in
theorem zw_609 : Cond.code yX2_isPrime cX2_isPrime 2 (some .boolean) ∈ zWU := zwm 609 (by decide +kernel) (by decide +kernel)
set_option maxRecDepth 20000 in
theorem zw_608 : Cond.static yX2_isPrime ∈ zWU := zwm 608 (by decide +kernel) (by decide +kernel)
set_option maxRecDepth 20000 in
theorem zk_RX2_86 : zKS RX2 86 yX2_isPrime cX2_isPrime 2 (some .boolean) 1 := ⟨⟨zw_607, zw_76, zw_609, by decide +kernel, by decide⟩, zw_608⟩
set_option maxRecDepth 20000 in
theorem zw_610 : Cond.methodLink RX2 89 yX0_sizeOf ∈ zWU := zwm 610 (by decide +kernel) (by decide +kernel)
set_option maxRecDepth 20000 in
theorem zk_RX2_89 : zKS RX2 89 yX0_sizeOf cX0_sizeOf 4 (some .int) 2 := ⟨⟨zw_610, zw_72, zw_112, by decide +kernel, by decide⟩, zw_111⟩
set_option maxRecDepth 20000 in
theorem zw_184 : Cond.fieldLink RX2 95 (TX3 0).1 (TX3 0).2.1 (TX3 0).2.2.1 ∈ zWU := zwm 184 (by decide +kernel) (by decide +kernel)
set_option maxRecDepth 20000 in
theorem zf_RX2_95 : zFL RX2 95 3 0 := ⟨_, rfl, by decide, zw_184⟩
set_option maxRecDepth 20000 in
theorem zw_187 : Cond.fieldLink RX2 98 (TX3 1).1 (TX3 1).2.1 (TX3 1).2.2.1 ∈ zWU := zwm 187 (by decide +kernel) (by decide +kernel)
set_option maxRecDepth 20000 in
theorem zf_RX2_98 : zFL RX2 98 3 1 := ⟨_, rfl, by decide, zw_187⟩
set_option maxRecDepth 20000 in
theorem zw_611 : Cond.methodLink RX2 101 yX0_tune ∈ zWU := zwm 611 (by decide +kernel) (by decide +kernel)
set_option maxRecDepth 20000 in
theorem zk_RX2_101 : zKV RX2 101 yX0_tune cX0_tune 4 none 0 2 := ⟨⟨zw_611, zw_72, zw_109, by decide +kernel, by decide⟩, zw_107, zw_108, _, rfl, rfl⟩
set_option maxRecDepth 20000 in
theorem zw_612 : Cond.methodLink RX2 65 yX2_takeSign ∈ zWU := zwm 612 (by decide +kernel) (by decide +kernel)
set_option maxRecDepth 20000 in
theorem zw_615 : Cond.code yX2_takeSign cX2_takeSign 2 (some .boolean) ∈ zWU := zwm 615 (by decide +kernel) (by decide +kernel)
set_option maxRecDepth 20000 in
theorem zw_614 : Cond.instanceMethod yX2_takeSign ∈ zWU := zwm 614 (by decide +kernel) (by decide +kernel)
set_option maxRecDepth 20000 in
theorem zw_12 : Cond.selects RX2 yX2_takeSign yX2_takeSign ∈ zWU := zwm 12 (by decide +kernel) (by decide +kernel)
set_option maxRecDepth 20000 in
theorem zk_RX2_65 : zKV RX2 65 yX2_takeSign cX2_takeSign 2 (some .boolean) 2 1 := ⟨⟨zw_612, zw_76, zw_615, by decide +kernel, by decide⟩, zw_614, zw_12, _, rfl, rfl⟩
set_option maxRecDepth 20000 in
theorem zw_143 : Cond.fieldLink RX2 108 (TX0 2).1 (TX0 2).2.1 (TX0 2).2.2.1 ∈ zWU := zwm 143 (by decide +kernel) (by decide +kernel)
set_option maxRecDepth 20000 in
theorem zf_RX2_108 : zFL RX2 108 0 2 := ⟨_, rfl, by decide, zw_143⟩
set_option maxRecDepth 20000 in
theorem zw_616 : Cond.methodLink RX2 62 yX2_readSum ∈ zWU := zwm 616 (by decide +kernel) (by decide +kernel)
set_option maxRecDepth 20000 in
theorem zw_619 : Cond.code yX2_readSum cX2_readSum 7 (some .boolean) ∈ zWU := zwm 619 (by decide +kernel) (by decide +kernel)
set_option maxRecDepth 20000 in
theorem zw_618 : Cond.instanceMethod yX2_readSum ∈ zWU := zwm 618 (by decide +kernel) (by decide +kernel)
set_option maxRecDepth 20000 in
theorem zw_13 : Cond.selects RX2 yX2_readSum yX2_readSum ∈ zWU := zwm 13 (by decide +kernel) (by decide +kernel)
set_option maxRecDepth 20000 in
theorem zk_RX2_62 : zKV RX2 62 yX2_readSum cX2_readSum 7 (some .boolean) 2 1 := ⟨⟨zw_616, zw_76, zw_619, by decide +kernel, by decide⟩, zw_618, zw_13, _, rfl, rfl⟩
set_option maxRecDepth 20000 in
theorem zw_640 : Cond.methodLink RX2 71 arraycopyName ∈ zWU := zwm 640 (by decide +kernel) (by decide +kernel)
set_option maxRecDepth 20000 in
theorem zw_188 : Cond.fieldLink RX2 41 (TX3 2).1 (TX3 2).2.1 (TX3 2).2.2.1 ∈ zWU := zwm 188 (by decide +kernel) (by decide +kernel)
set_option maxRecDepth 20000 in
theorem zf_RX2_41 : zFL RX2 41 3 2 := ⟨_, rfl, by decide, zw_188⟩
set_option maxRecDepth 20000 in
theorem zw_193 : Cond.fieldLink RX2 68 (TX3 3).1 (TX3 3).2.1 (TX3 3).2.2.1 ∈ zWU := zwm 193 (by decide +kernel) (by decide +kernel)
set_option maxRecDepth 20000 in
theorem zf_RX2_68 : zFL RX2 68 3 3 := ⟨_, rfl, by decide, zw_193⟩
set_option maxRecDepth 20000 in
theorem zw_636 : Cond.methodLink RX2 130 yX2_readBracket ∈ zWU := zwm 636 (by decide +kernel) (by decide +kernel)
set_option maxRecDepth 20000 in
theorem zw_639 : Cond.code yX2_readBracket cX2_readBracket 2 (some .boolean) ∈ zWU := zwm 639 (by decide +kernel) (by decide +kernel)
set_option maxRecDepth 20000 in
theorem zw_638 : Cond.instanceMethod yX2_readBracket ∈ zWU := zwm 638 (by decide +kernel) (by decide +kernel)
set_option maxRecDepth 20000 in
theorem zw_18 : Cond.selects RX2 yX2_readBracket yX2_readBracket ∈ zWU := zwm 18 (by decide +kernel) (by decide +kernel)
set_option maxRecDepth 20000 in
theorem zk_RX2_130 : zKV RX2 130 yX2_readBracket cX2_readBracket 2 (some .boolean) 2 1 := ⟨⟨zw_636, zw_76, zw_639, by decide +kernel, by decide⟩, zw_638, zw_18, _, rfl, rfl⟩
set_option maxRecDepth 20000 in
theorem zw_649 : Cond.methodLink RX2 142 yX0_dicksonAt ∈ zWU := zwm 649 (by decide +kernel) (by decide +kernel)
set_option maxRecDepth 20000 in
theorem zw_652 : Cond.code yX0_dicksonAt cX0_dicksonAt 11 (some .int) ∈ zWU := zwm 652 (by decide +kernel) (by decide +kernel)
set_option maxRecDepth 20000 in
theorem zw_650 : Cond.instanceMethod yX0_dicksonAt ∈ zWU := zwm 650 (by decide +kernel) (by decide +kernel)
set_option maxRecDepth 20000 in
theorem zw_651 : Cond.selects RX0 yX0_dicksonAt yX0_dicksonAt ∈ zWU := zwm 651 (by decide +kernel) (by decide +kernel)
set_option maxRecDepth 20000 in
theorem zk_RX2_142 : zKV RX2 142 yX0_dicksonAt cX0_dicksonAt 11 (some .int) 0 3 := ⟨⟨zw_649, zw_72, zw_652, by decide +kernel, by decide⟩, zw_650, zw_651, _, rfl, rfl⟩
set_option maxRecDepth 20000 in
theorem zw_661 : Cond.methodLink RX2 146 yX0_raised ∈ zWU := zwm 661 (by decide +kernel) (by decide +kernel)
set_option maxRecDepth 20000 in
theorem zw_664 : Cond.code yX0_raised cX0_raised 6 (some .int) ∈ zWU := zwm 664 (by decide +kernel) (by decide +kernel)
set_option maxRecDepth 20000 in
theorem zw_662 : Cond.instanceMethod yX0_raised ∈ zWU := zwm 662 (by decide +kernel) (by decide +kernel)
set_option maxRecDepth 20000 in
theorem zw_663 : Cond.selects RX0 yX0_raised yX0_raised ∈ zWU := zwm 663 (by decide +kernel) (by decide +kernel)
set_option maxRecDepth 20000 in
theorem zk_RX2_146 : zKV RX2 146 yX0_raised cX0_raised 6 (some .int) 0 2 := ⟨⟨zw_661, zw_72, zw_664, by decide +kernel, by decide⟩, zw_662, zw_663, _, rfl, rfl⟩
set_option maxRecDepth 20000 in
theorem zw_657 : Cond.methodLink RX2 139 yX2_readPower ∈ zWU := zwm 657 (by decide +kernel) (by decide +kernel)
set_option maxRecDepth 20000 in
theorem zw_660 : Cond.code yX2_readPower cX2_readPower 3 (some .boolean) ∈ zWU := zwm 660 (by decide +kernel) (by decide +kernel)
set_option maxRecDepth 20000 in
theorem zw_659 : Cond.instanceMethod yX2_readPower ∈ zWU := zwm 659 (by decide +kernel) (by decide +kernel)
set_option maxRecDepth 20000 in
theorem zw_21 : Cond.selects RX2 yX2_readPower yX2_readPower ∈ zWU := zwm 21 (by decide +kernel) (by decide +kernel)
set_option maxRecDepth 20000 in
theorem zk_RX2_139 : zKV RX2 139 yX2_readPower cX2_readPower 3 (some .boolean) 2 1 := ⟨⟨zw_657, zw_76, zw_660, by decide +kernel, by decide⟩, zw_659, zw_21, _, rfl, rfl⟩
set_option maxRecDepth 20000 in
theorem zw_628 : Cond.methodLink RX2 123 yX2_readPoint ∈ zWU := zwm 628 (by decide +kernel) (by decide +kernel)
set_option maxRecDepth 20000 in
theorem zw_631 : Cond.code yX2_readPoint cX2_readPoint 3 (some .boolean) ∈ zWU := zwm 631 (by decide +kernel) (by decide +kernel)
set_option maxRecDepth 20000 in
theorem zw_630 : Cond.instanceMethod yX2_readPoint ∈ zWU := zwm 630 (by decide +kernel) (by decide +kernel)
set_option maxRecDepth 20000 in
theorem zw_16 : Cond.selects RX2 yX2_readPoint yX2_readPoint ∈ zWU := zwm 16 (by decide +kernel) (by decide +kernel)
set_option maxRecDepth 20000 in
theorem zk_RX2_123 : zKV RX2 123 yX2_readPoint cX2_readPoint 3 (some .boolean) 2 1 := ⟨⟨zw_628, zw_76, zw_631, by decide +kernel, by decide⟩, zw_630, zw_16, _, rfl, rfl⟩
set_option maxRecDepth 20000 in
theorem zw_632 : Cond.methodLink RX2 127 yX2_readX ∈ zWU := zwm 632 (by decide +kernel) (by decide +kernel)
set_option maxRecDepth 20000 in
theorem zw_635 : Cond.code yX2_readX cX2_readX 3 (some .boolean) ∈ zWU := zwm 635 (by decide +kernel) (by decide +kernel)
set_option maxRecDepth 20000 in
theorem zw_634 : Cond.instanceMethod yX2_readX ∈ zWU := zwm 634 (by decide +kernel) (by decide +kernel)
set_option maxRecDepth 20000 in
theorem zw_17 : Cond.selects RX2 yX2_readX yX2_readX ∈ zWU := zwm 17 (by decide +kernel) (by decide +kernel)
set_option maxRecDepth 20000 in
theorem zk_RX2_127 : zKV RX2 127 yX2_readX cX2_readX 3 (some .boolean) 2 1 := ⟨⟨zw_632, zw_76, zw_635, by decide +kernel, by decide⟩, zw_634, zw_17, _, rfl, rfl⟩
set_option maxRecDepth 20000 in
theorem zw_641 : Cond.methodLink RX2 133 yX2_readInner ∈ zWU := zwm 641 (by decide +kernel) (by decide +kernel)
set_option maxRecDepth 20000 in
theorem zw_644 : Cond.code yX2_readInner cX2_readInner 5 (some .boolean) ∈ zWU := zwm 644 (by decide +kernel) (by decide +kernel)
set_option maxRecDepth 20000 in
theorem zw_643 : Cond.instanceMethod yX2_readInner ∈ zWU := zwm 643 (by decide +kernel) (by decide +kernel)
set_option maxRecDepth 20000 in
theorem zw_19 : Cond.selects RX2 yX2_readInner yX2_readInner ∈ zWU := zwm 19 (by decide +kernel) (by decide +kernel)
set_option maxRecDepth 20000 in
theorem zk_RX2_133 : zKV RX2 133 yX2_readInner cX2_readInner 5 (some .boolean) 2 1 := ⟨⟨zw_641, zw_76, zw_644, by decide +kernel, by decide⟩, zw_643, zw_19, _, rfl, rfl⟩
set_option maxRecDepth 20000 in
theorem zw_645 : Cond.methodLink RX2 136 yX2_readDickson ∈ zWU := zwm 645 (by decide +kernel) (by decide +kernel)
set_option maxRecDepth 20000 in
theorem zw_648 : Cond.code yX2_readDickson cX2_readDickson 4 (some .boolean) ∈ zWU := zwm 648 (by decide +kernel) (by decide +kernel)
set_option maxRecDepth 20000 in
theorem zw_647 : Cond.instanceMethod yX2_readDickson ∈ zWU := zwm 647 (by decide +kernel) (by decide +kernel)
set_option maxRecDepth 20000 in
theorem zw_20 : Cond.selects RX2 yX2_readDickson yX2_readDickson ∈ zWU := zwm 20 (by decide +kernel) (by decide +kernel)
set_option maxRecDepth 20000 in
theorem zk_RX2_136 : zKV RX2 136 yX2_readDickson cX2_readDickson 4 (some .boolean) 2 1 := ⟨⟨zw_645, zw_76, zw_648, by decide +kernel, by decide⟩, zw_647, zw_20, _, rfl, rfl⟩
set_option maxRecDepth 20000 in
theorem zw_665 : Cond.methodLink RX2 120 yX0_product ∈ zWU := zwm 665 (by decide +kernel) (by decide +kernel)
set_option maxRecDepth 20000 in
theorem zk_RX2_120 : zKV RX2 120 yX0_product cX0_product 3 (some .int) 0 2 := ⟨⟨zw_665, zw_72, zw_135, by decide +kernel, by decide⟩, zw_133, zw_134, _, rfl, rfl⟩
set_option maxRecDepth 20000 in
theorem zw_624 : Cond.methodLink RX2 117 yX2_readUnit ∈ zWU := zwm 624 (by decide +kernel) (by decide +kernel)
set_option maxRecDepth 20000 in
theorem zw_627 : Cond.code yX2_readUnit cX2_readUnit 3 (some .boolean) ∈ zWU := zwm 627 (by decide +kernel) (by decide +kernel)
set_option maxRecDepth 20000 in
theorem zw_626 : Cond.instanceMethod yX2_readUnit ∈ zWU := zwm 626 (by decide +kernel) (by decide +kernel)
set_option maxRecDepth 20000 in
theorem zw_15 : Cond.selects RX2 yX2_readUnit yX2_readUnit ∈ zWU := zwm 15 (by decide +kernel) (by decide +kernel)
set_option maxRecDepth 20000 in
theorem zk_RX2_117 : zKV RX2 117 yX2_readUnit cX2_readUnit 3 (some .boolean) 2 1 := ⟨⟨zw_624, zw_76, zw_627, by decide +kernel, by decide⟩, zw_626, zw_15, _, rfl, rfl⟩
set_option maxRecDepth 20000 in
theorem zw_666 : Cond.methodLink RX2 111 yX0_sum ∈ zWU := zwm 666 (by decide +kernel) (by decide +kernel)
set_option maxRecDepth 20000 in
theorem zk_RX2_111 : zKV RX2 111 yX0_sum cX0_sum 3 (some .int) 0 2 := ⟨⟨zw_666, zw_72, zw_123, by decide +kernel, by decide⟩, zw_121, zw_122, _, rfl, rfl⟩
set_option maxRecDepth 20000 in
theorem zw_667 : Cond.methodLink RX2 114 yX0_difference ∈ zWU := zwm 667 (by decide +kernel) (by decide +kernel)
set_option maxRecDepth 20000 in
theorem zk_RX2_114 : zKV RX2 114 yX0_difference cX0_difference 3 (some .int) 0 2 := ⟨⟨zw_667, zw_72, zw_656, by decide +kernel, by decide⟩, zw_654, zw_655, _, rfl, rfl⟩
set_option maxRecDepth 20000 in
theorem zw_620 : Cond.methodLink RX2 105 yX2_readProduct ∈ zWU := zwm 620 (by decide +kernel) (by decide +kernel)
set_option maxRecDepth 20000 in
theorem zw_623 : Cond.code yX2_readProduct cX2_readProduct 6 (some .boolean) ∈ zWU := zwm 623 (by decide +kernel) (by decide +kernel)
set_option maxRecDepth 20000 in
theorem zw_622 : Cond.instanceMethod yX2_readProduct ∈ zWU := zwm 622 (by decide +kernel) (by decide +kernel)
set_option maxRecDepth 20000 in
theorem zw_14 : Cond.selects RX2 yX2_readProduct yX2_readProduct ∈ zWU := zwm 14 (by decide +kernel) (by decide +kernel)
set_option maxRecDepth 20000 in
theorem zk_RX2_105 : zKV RX2 105 yX2_readProduct cX2_readProduct 6 (some .boolean) 2 1 := ⟨⟨zw_620, zw_76, zw_623, by decide +kernel, by decide⟩, zw_622, zw_14, _, rfl, rfl⟩
set_option maxRecDepth 20000 in
theorem zw_594 : Cond.methodLink RX2 46 yX2_readField ∈ zWU := zwm 594 (by decide +kernel) (by decide +kernel)
set_option maxRecDepth 20000 in
theorem zw_597 : Cond.code yX2_readField cX2_readField 3 (some .boolean) ∈ zWU := zwm 597 (by decide +kernel) (by decide +kernel)
set_option maxRecDepth 20000 in
theorem zw_596 : Cond.instanceMethod yX2_readField ∈ zWU := zwm 596 (by decide +kernel) (by decide +kernel)
set_option maxRecDepth 20000 in
theorem zw_9 : Cond.selects RX2 yX2_readField yX2_readField ∈ zWU := zwm 9 (by decide +kernel) (by decide +kernel)
set_option maxRecDepth 20000 in
theorem zk_RX2_46 : zKV RX2 46 yX2_readField cX2_readField 3 (some .boolean) 2 0 := ⟨⟨zw_594, zw_76, zw_597, by decide +kernel, by decide⟩, zw_596, zw_9, _, rfl, rfl⟩
set_option maxRecDepth 20000 in
theorem zw_302 : Cond.methodLink RX4 3 Lib.objectInit ∈ zWU := zwm 302 (by decide +kernel) (by decide +kernel)
set_option maxRecDepth 20000 in
theorem zw_307 : Cond.fieldLink RX4 9 (TX4 2).1 (TX4 2).2.1 (TX4 2).2.2.1 ∈ zWU := zwm 307 (by decide +kernel) (by decide +kernel)
set_option maxRecDepth 20000 in
theorem zf_RX4_9 : zFL RX4 9 4 2 := ⟨_, rfl, by decide, zw_307⟩
set_option maxRecDepth 20000 in
theorem zq_4_2 : zFW RX4 "<init>" 4 2 := ⟨_, rfl, Or.inr ⟨rfl, rfl, rfl⟩⟩
set_option maxRecDepth 20000 in
theorem zw_305 : Cond.fieldLink RX4 15 (TX4 1).1 (TX4 1).2.1 (TX4 1).2.2.1 ∈ zWU := zwm 305 (by decide +kernel) (by decide +kernel)
set_option maxRecDepth 20000 in
theorem zf_RX4_15 : zFL RX4 15 4 1 := ⟨_, rfl, by decide, zw_305⟩
set_option maxRecDepth 20000 in
theorem zq_4_1 : zFW RX4 "<init>" 4 1 := ⟨_, rfl, Or.inr ⟨rfl, rfl, rfl⟩⟩
set_option maxRecDepth 20000 in
theorem zw_308 : Cond.fieldLink RX4 19 (TX4 3).1 (TX4 3).2.1 (TX4 3).2.2.1 ∈ zWU := zwm 308 (by decide +kernel) (by decide +kernel)
set_option maxRecDepth 20000 in
theorem zf_RX4_19 : zFL RX4 19 4 3 := ⟨_, rfl, by decide, zw_308⟩
set_option maxRecDepth 20000 in
theorem zq_4_3 : zFW RX4 "<init>" 4 3 := ⟨_, rfl, Or.inr ⟨rfl, rfl, rfl⟩⟩
set_option maxRecDepth 20000 in
theorem zw_309 : Cond.fieldLink RX4 22 (TX4 4).1 (TX4 4).2.1 (TX4 4).2.2.1 ∈ zWU := zwm 309 (by decide +kernel) (by decide +kernel)
set_option maxRecDepth 20000 in
theorem zf_RX4_22 : zFL RX4 22 4 4 := ⟨_, rfl, by decide, zw_309⟩
set_option maxRecDepth 20000 in
theorem zq_4_4 : zFW RX4 "<init>" 4 4 := ⟨_, rfl, Or.inr ⟨rfl, rfl, rfl⟩⟩
set_option maxRecDepth 20000 in
theorem zw_310 : Cond.fieldLink RX4 25 (TX4 5).1 (TX4 5).2.1 (TX4 5).2.2.1 ∈ zWU := zwm 310 (by decide +kernel) (by decide +kernel)
set_option maxRecDepth 20000 in
theorem zf_RX4_25 : zFL RX4 25 4 5 := ⟨_, rfl, by decide, zw_310⟩
set_option maxRecDepth 20000 in
theorem zq_4_5 : zFW RX4 "<init>" 4 5 := ⟨_, rfl, Or.inr ⟨rfl, rfl, rfl⟩⟩
set_option maxRecDepth 20000 in
theorem zw_141 : Cond.fieldLink RX4 28 (TX0 2).1 (TX0 2).2.1 (TX0 2).2.2.1 ∈ zWU := zwm 141 (by decide +kernel) (by decide +kernel)
set_option maxRecDepth 20000 in
theorem zf_RX4_28 : zFL RX4 28 0 2 := ⟨_, rfl, by decide, zw_141⟩
set_option maxRecDepth 20000 in
theorem zw_750 : Cond.methodLink RX4 34 yX4_join ∈ zWU := zwm 750 (by decide +kernel) (by decide +kernel)
set_option maxRecDepth 20000 in
theorem zw_77 : Cond.initialized RX4 ∈ zWU := zwm 77 (by decide +kernel) (by decide +kernel)
set_option maxRecDepth 20000 in
theorem zw_737 : Cond.code yX4_join cX4_join 5 none ∈ zWU := zwm 737 (by decide +kernel) (by decide +kernel)
set_option maxRecDepth 20000 in
theorem zw_735 : Cond.instanceMethod yX4_join ∈ zWU := zwm 735 (by decide +kernel) (by decide +kernel)
set_option maxRecDepth 20000 in
theorem zw_736 : Cond.selects RX4 yX4_join yX4_join ∈ zWU := zwm 736 (by decide +kernel) (by decide +kernel)
set_option maxRecDepth 20000 in
theorem zk_RX4_34 : zKV RX4 34 yX4_join cX4_join 5 none 4 3 := ⟨⟨zw_750, zw_77, zw_737, by decide +kernel, by decide⟩, zw_735, zw_736, _, rfl, rfl⟩
set_option maxRecDepth 20000 in
theorem zw_150 : Cond.fieldLink RX4 48 (TX0 6).1 (TX0 6).2.1 (TX0 6).2.2.1 ∈ zWU := zwm 150 (by decide +kernel) (by decide +kernel)
set_option maxRecDepth 20000 in
theorem zf_RX4_48 : zFL RX4 48 0 6 := ⟨_, rfl, by decide, zw_150⟩
set_option maxRecDepth 20000 in
theorem zw_814 : Cond.methodLink RX4 38 yX0_raised ∈ zWU := zwm 814 (by decide +kernel) (by decide +kernel)
set_option maxRecDepth 20000 in
theorem zk_RX4_38 : zKV RX4 38 yX0_raised cX0_raised 6 (some .int) 0 2 := ⟨⟨zw_814, zw_72, zw_664, by decide +kernel, by decide⟩, zw_662, zw_663, _, rfl, rfl⟩
set_option maxRecDepth 20000 in
theorem zw_414 : Cond.methodLink RX4 42 yX0_product ∈ zWU := zwm 414 (by decide +kernel) (by decide +kernel)
set_option maxRecDepth 20000 in
theorem zk_RX4_42 : zKV RX4 42 yX0_product cX0_product 3 (some .int) 0 2 := ⟨⟨zw_414, zw_72, zw_135, by decide +kernel, by decide⟩, zw_133, zw_134, _, rfl, rfl⟩
set_option maxRecDepth 20000 in
theorem zw_815 : Cond.methodLink RX4 45 yX0_sum ∈ zWU := zwm 815 (by decide +kernel) (by decide +kernel)
set_option maxRecDepth 20000 in
theorem zk_RX4_45 : zKV RX4 45 yX0_sum cX0_sum 3 (some .int) 0 2 := ⟨⟨zw_815, zw_72, zw_123, by decide +kernel, by decide⟩, zw_121, zw_122, _, rfl, rfl⟩
set_option maxRecDepth 20000 in
theorem zw_399 : Cond.constantLong RJ13 314 (6148914691236517205) ∈ zWU := zwm 399 (by decide +kernel) (by decide +kernel)
set_option maxRecDepth 20000 in
theorem zw_400 : Cond.constantLong RJ13 316 (3689348814741910323) ∈ zWU := zwm 400 (by decide +kernel) (by decide +kernel)
set_option maxRecDepth 20000 in
theorem zw_401 : Cond.constantLong RJ13 318 (1085102592571150095) ∈ zWU := zwm 401 (by decide +kernel) (by decide +kernel)
set_option maxRecDepth 20000 in
theorem zw_396 : Cond.methodLink RX4 51 yJ13_bitCount_95d88 ∈ zWU := zwm 396 (by decide +kernel) (by decide +kernel)
set_option maxRecDepth 20000 in
theorem zw_91 : Cond.initialized RJ13 ∈ zWU := zwm 91 (by decide +kernel) (by decide +kernel)
set_option maxRecDepth 20000 in
theorem zw_398 : Cond.code yJ13_bitCount_95d88 cJ13_bitCount_95d88 2 (some .int) ∈ zWU := zwm 398 (by decide +kernel) (by decide +kernel)
set_option maxRecDepth 20000 in
theorem zw_397 : Cond.static yJ13_bitCount_95d88 ∈ zWU := zwm 397 (by decide +kernel) (by decide +kernel)
set_option maxRecDepth 20000 in
theorem zk_RX4_51 : zKS RX4 51 yJ13_bitCount_95d88 cJ13_bitCount_95d88 2 (some .int) 1 := ⟨⟨zw_396, zw_91, zw_398, by decide +kernel, by decide⟩, zw_397⟩
set_option maxRecDepth 20000 in
theorem zw_392 : Cond.methodLink RX4 57 yX4_imageOf ∈ zWU := zwm 392 (by decide +kernel) (by decide +kernel)
set_option maxRecDepth 20000 in
theorem zw_395 : Cond.code yX4_imageOf cX4_imageOf 5 (some .int) ∈ zWU := zwm 395 (by decide +kernel) (by decide +kernel)
set_option maxRecDepth 20000 in
theorem zw_393 : Cond.instanceMethod yX4_imageOf ∈ zWU := zwm 393 (by decide +kernel) (by decide +kernel)
set_option maxRecDepth 20000 in
theorem zw_394 : Cond.selects RX4 yX4_imageOf yX4_imageOf ∈ zWU := zwm 394 (by decide +kernel) (by decide +kernel)
set_option maxRecDepth 20000 in
theorem zk_RX4_57 : zKV RX4 57 yX4_imageOf cX4_imageOf 5 (some .int) 4 1 := ⟨⟨zw_392, zw_77, zw_395, by decide +kernel, by decide⟩, zw_393, zw_394, _, rfl, rfl⟩
set_option maxRecDepth 20000 in
theorem zw_137 : Cond.fieldLink RX4 65 (TX0 0).1 (TX0 0).2.1 (TX0 0).2.2.1 ∈ zWU := zwm 137 (by decide +kernel) (by decide +kernel)
set_option maxRecDepth 20000 in
theorem zf_RX4_65 : zFL RX4 65 0 0 := ⟨_, rfl, by decide, zw_137⟩
set_option maxRecDepth 20000 in
theorem zw_864 : Cond.methodLink RX4 61 yX4_countOf ∈ zWU := zwm 864 (by decide +kernel) (by decide +kernel)
set_option maxRecDepth 20000 in
theorem zw_837 : Cond.code yX4_countOf cX4_countOf 5 (some .int) ∈ zWU := zwm 837 (by decide +kernel) (by decide +kernel)
set_option maxRecDepth 20000 in
theorem zw_835 : Cond.instanceMethod yX4_countOf ∈ zWU := zwm 835 (by decide +kernel) (by decide +kernel)
set_option maxRecDepth 20000 in
theorem zw_836 : Cond.selects RX4 yX4_countOf yX4_countOf ∈ zWU := zwm 836 (by decide +kernel) (by decide +kernel)
set_option maxRecDepth 20000 in
theorem zk_RX4_61 : zKV RX4 61 yX4_countOf cX4_countOf 5 (some .int) 4 2 := ⟨⟨zw_864, zw_77, zw_837, by decide +kernel, by decide⟩, zw_835, zw_836, _, rfl, rfl⟩
set_option maxRecDepth 20000 in
theorem zw_303 : Cond.fieldLink RX4 68 (TX4 0).1 (TX4 0).2.1 (TX4 0).2.2.1 ∈ zWU := zwm 303 (by decide +kernel) (by decide +kernel)
set_option maxRecDepth 20000 in
theorem zf_RX4_68 : zFL RX4 68 4 0 := ⟨_, rfl, by decide, zw_303⟩
set_option maxRecDepth 20000 in
theorem zq_4_0 {own nm : String} : zFW own nm 4 0 := ⟨_, rfl, Or.inl rfl⟩
set_option maxRecDepth 20000 in
theorem zw_887 : Cond.methodLink RX4 71 yX4_commonDivisor ∈ zWU := zwm 887 (by decide +kernel) (by decide +kernel)
set_option maxRecDepth 20000 in
theorem zw_889 : Cond.code yX4_commonDivisor cX4_commonDivisor 3 (some .int) ∈ zWU := zwm 889 (by decide +kernel) (by decide +kernel)
set_option maxRecDepth 20000 in
theorem zw_888 : Cond.static yX4_commonDivisor ∈ zWU := zwm 888 (by decide +kernel) (by decide +kernel)
set_option maxRecDepth 20000 in
theorem zk_RX4_71 : zKS RX4 71 yX4_commonDivisor cX4_commonDivisor 3 (some .int) 2 := ⟨⟨zw_887, zw_77, zw_889, by decide +kernel, by decide⟩, zw_888⟩
set_option maxRecDepth 20000 in
theorem zw_191 : Cond.fieldLink RX4 74 (TX3 2).1 (TX3 2).2.1 (TX3 2).2.2.1 ∈ zWU := zwm 191 (by decide +kernel) (by decide +kernel)
set_option maxRecDepth 20000 in
theorem zf_RX4_74 : zFL RX4 74 3 2 := ⟨_, rfl, by decide, zw_191⟩
set_option maxRecDepth 20000 in
theorem zw_195 : Cond.fieldLink RX4 79 (TX3 3).1 (TX3 3).2.1 (TX3 3).2.2.1 ∈ zWU := zwm 195 (by decide +kernel) (by decide +kernel)
set_option maxRecDepth 20000 in
theorem zf_RX4_79 : zFL RX4 79 3 3 := ⟨_, rfl, by decide, zw_195⟩
set_option maxRecDepth 20000 in
theorem zw_388 : Cond.methodLink RX4 83 yX4_isPermuting ∈ zWU := zwm 388 (by decide +kernel) (by decide +kernel)
set_option maxRecDepth 20000 in
theorem zw_391 : Cond.code yX4_isPermuting cX4_isPermuting 2 (some .boolean) ∈ zWU := zwm 391 (by decide +kernel) (by decide +kernel)
set_option maxRecDepth 20000 in
theorem zw_389 : Cond.instanceMethod yX4_isPermuting ∈ zWU := zwm 389 (by decide +kernel) (by decide +kernel)
set_option maxRecDepth 20000 in
theorem zw_390 : Cond.selects RX4 yX4_isPermuting yX4_isPermuting ∈ zWU := zwm 390 (by decide +kernel) (by decide +kernel)
set_option maxRecDepth 20000 in
theorem zk_RX4_83 : zKV RX4 83 yX4_isPermuting cX4_isPermuting 2 (some .boolean) 4 1 := ⟨⟨zw_388, zw_77, zw_391, by decide +kernel, by decide⟩, zw_389, zw_390, _, rfl, rfl⟩
set_option maxRecDepth 20000 in
theorem zw_402 : Cond.methodLink RX4 87 yX4_imageOfSet ∈ zWU := zwm 402 (by decide +kernel) (by decide +kernel)
set_option maxRecDepth 20000 in
theorem zw_405 : Cond.code yX4_imageOfSet cX4_imageOfSet 7 (some .long) ∈ zWU := zwm 405 (by decide +kernel) (by decide +kernel)
set_option maxRecDepth 20000 in
theorem zw_404 : Cond.instanceMethod yX4_imageOfSet ∈ zWU := zwm 404 (by decide +kernel) (by decide +kernel)
set_option maxRecDepth 20000 in
theorem zw_3 : Cond.selects RX4 yX4_imageOfSet yX4_imageOfSet ∈ zWU := zwm 3 (by decide +kernel) (by decide +kernel)
set_option maxRecDepth 20000 in
theorem zk_RX4_87 : zKV RX4 87 yX4_imageOfSet cX4_imageOfSet 7 (some .long) 4 2 := ⟨⟨zw_402, zw_77, zw_405, by decide +kernel, by decide⟩, zw_404, zw_3, _, rfl, rfl⟩
set_option maxRecDepth 20000 in
theorem zw_916 : Cond.methodLink RX4 91 yX0_difference ∈ zWU := zwm 916 (by decide +kernel) (by decide +kernel)
set_option maxRecDepth 20000 in
theorem zk_RX4_91 : zKV RX4 91 yX0_difference cX0_difference 3 (some .int) 0 2 := ⟨⟨zw_916, zw_72, zw_656, by decide +kernel, by decide⟩, zw_654, zw_655, _, rfl, rfl⟩
set_option maxRecDepth 20000 in
theorem zw_917 : Cond.methodLink RX4 94 Lib.Math.max.name ∈ zWU := zwm 917 (by decide +kernel) (by decide +kernel)
set_option maxRecDepth 20000 in
theorem zw_918 : Cond.static Lib.Math.max.name ∈ zWU := zwm 918 (by decide +kernel) (by decide +kernel)
set_option maxRecDepth 20000 in
theorem zw_83 : Cond.initialized RJ9 ∈ zWU := zwm 83 (by decide +kernel) (by decide +kernel)
set_option maxRecDepth 20000 in
theorem zw_919 : Cond.code Lib.Math.max.name Lib.Math.max.code 2 (some .int) ∈ zWU := zwm 919 (by decide +kernel) (by decide +kernel)
set_option maxRecDepth 20000 in
theorem zw_230 : Cond.methodLink RX5 3 Lib.objectInit ∈ zWU := zwm 230 (by decide +kernel) (by decide +kernel)
set_option maxRecDepth 20000 in
theorem zw_239 : Cond.fieldLink RX5 9 (TX5 4).1 (TX5 4).2.1 (TX5 4).2.2.1 ∈ zWU := zwm 239 (by decide +kernel) (by decide +kernel)
set_option maxRecDepth 20000 in
theorem zf_RX5_9 : zFL RX5 9 5 4 := ⟨_, rfl, by decide, zw_239⟩
set_option maxRecDepth 20000 in
theorem zq_5_4 : zFW RX5 "<init>" 5 4 := ⟨_, rfl, Or.inr ⟨rfl, rfl, rfl⟩⟩
set_option maxRecDepth 20000 in
theorem zq_5_5 : zFW RX5 "<init>" 5 5 := ⟨_, rfl, Or.inr ⟨rfl, rfl, rfl⟩⟩
set_option maxRecDepth 20000 in
theorem zq_5_6 : zFW RX5 "<init>" 5 6 := ⟨_, rfl, Or.inr ⟨rfl, rfl, rfl⟩⟩
set_option maxRecDepth 20000 in
theorem zq_5_7 : zFW RX5 "<init>" 5 7 := ⟨_, rfl, Or.inr ⟨rfl, rfl, rfl⟩⟩
set_option maxRecDepth 20000 in
theorem zw_232 : Cond.fieldLink RX5 24 (TX5 0).1 (TX5 0).2.1 (TX5 0).2.2.1 ∈ zWU := zwm 232 (by decide +kernel) (by decide +kernel)
set_option maxRecDepth 20000 in
theorem zf_RX5_24 : zFL RX5 24 5 0 := ⟨_, rfl, by decide, zw_232⟩
set_option maxRecDepth 20000 in
theorem zq_5_0 {own nm : String} : zFW own nm 5 0 := ⟨_, rfl, Or.inl rfl⟩
set_option maxRecDepth 20000 in
theorem zw_531 : Cond.methodLink RX5 75 yJ0_length_8abf5 ∈ zWU := zwm 531 (by decide +kernel) (by decide +kernel)
set_option maxRecDepth 20000 in
theorem zw_534 : Cond.code yJ0_length_8abf5 cJ0_length_8abf5 1 (some .int) ∈ zWU := zwm 534 (by decide +kernel) (by decide +kernel)
set_option maxRecDepth 20000 in
theorem zw_532 : Cond.instanceMethod yJ0_length_8abf5 ∈ zWU := zwm 532 (by decide +kernel) (by decide +kernel)
set_option maxRecDepth 20000 in
theorem zw_533 : Cond.selects RJ0 yJ0_length_8abf5 yJ0_length_8abf5 ∈ zWU := zwm 533 (by decide +kernel) (by decide +kernel)
set_option maxRecDepth 20000 in
theorem zks_RX5_75 : zKVs RX5 75 yJ0_length_8abf5 cJ0_length_8abf5 1 (some .int) 0 := ⟨⟨zw_531, zw_84, zw_534, by decide +kernel, by decide⟩, zw_532, zw_533⟩
set_option maxRecDepth 20000 in
theorem zw_541 : Cond.methodLink RX5 81 yJ0_charAt_5068e ∈ zWU := zwm 541 (by decide +kernel) (by decide +kernel)
set_option maxRecDepth 20000 in
theorem zw_544 : Cond.code yJ0_charAt_5068e cJ0_charAt_5068e 2 (some .char) ∈ zWU := zwm 544 (by decide +kernel) (by decide +kernel)
set_option maxRecDepth 20000 in
theorem zw_542 : Cond.instanceMethod yJ0_charAt_5068e ∈ zWU := zwm 542 (by decide +kernel) (by decide +kernel)
set_option maxRecDepth 20000 in
theorem zw_543 : Cond.selects RJ0 yJ0_charAt_5068e yJ0_charAt_5068e ∈ zWU := zwm 543 (by decide +kernel) (by decide +kernel)
set_option maxRecDepth 20000 in
theorem zks_RX5_81 : zKVs RX5 81 yJ0_charAt_5068e cJ0_charAt_5068e 2 (some .char) 1 := ⟨⟨zw_541, zw_84, zw_544, by decide +kernel, by decide⟩, zw_542, zw_543⟩
set_option maxRecDepth 20000 in
theorem zs_RX5_61 : (RX5, 61, "x", 0) ∈ zstr := by decide +kernel
set_option maxRecDepth 20000 in
theorem zw_527 : Cond.methodLink RX5 63 yX5_spells ∈ zWU := zwm 527 (by decide +kernel) (by decide +kernel)
set_option maxRecDepth 20000 in
theorem zw_530 : Cond.code yX5_spells cX5_spells 5 (some .boolean) ∈ zWU := zwm 530 (by decide +kernel) (by decide +kernel)
set_option maxRecDepth 20000 in
theorem zw_529 : Cond.instanceMethod yX5_spells ∈ zWU := zwm 529 (by decide +kernel) (by decide +kernel)
set_option maxRecDepth 20000 in
theorem zw_8 : Cond.selects RX5 yX5_spells yX5_spells ∈ zWU := zwm 8 (by decide +kernel) (by decide +kernel)
set_option maxRecDepth 20000 in
theorem zk_RX5_63 : zKV RX5 63 yX5_spells cX5_spells 5 (some .boolean) 5 3 := ⟨⟨zw_527, zw_75, zw_530, by decide +kernel, by decide⟩, zw_529, zw_8, _, rfl, rfl⟩
set_option maxRecDepth 20000 in
theorem zs_RX5_67 : (RX5, 67, "f", 1) ∈ zstr := by decide +kernel
set_option maxRecDepth 20000 in
theorem zs_RX5_69 : (RX5, 69, "poly", 2) ∈ zstr := by decide +kernel
set_option maxRecDepth 20000 in
theorem zs_RX5_71 : (RX5, 71, "field", 3) ∈ zstr := by decide +kernel
set_option maxRecDepth 20000 in
theorem zs_RX5_73 : (RX5, 73, "dickson", 4) ∈ zstr := by decide +kernel
set_option maxRecDepth 20000 in
theorem zw_522 : Cond.methodLink RX5 55 yX5_wordKind ∈ zWU := zwm 522 (by decide +kernel) (by decide +kernel)
set_option maxRecDepth 20000 in
theorem zw_525 : Cond.code yX5_wordKind cX5_wordKind 3 (some .int) ∈ zWU := zwm 525 (by decide +kernel) (by decide +kernel)
set_option maxRecDepth 20000 in
theorem zw_524 : Cond.instanceMethod yX5_wordKind ∈ zWU := zwm 524 (by decide +kernel) (by decide +kernel)
set_option maxRecDepth 20000 in
theorem zw_7 : Cond.selects RX5 yX5_wordKind yX5_wordKind ∈ zWU := zwm 7 (by decide +kernel) (by decide +kernel)
set_option maxRecDepth 20000 in
theorem zk_RX5_55 : zKV RX5 55 yX5_wordKind cX5_wordKind 3 (some .int) 5 2 := ⟨⟨zw_522, zw_75, zw_525, by decide +kernel, by decide⟩, zw_524, zw_7, _, rfl, rfl⟩
set_option maxRecDepth 20000 in
theorem zw_519 : Cond.methodLink RX5 52 yX5_isLetter ∈ zWU := zwm 519 (by decide +kernel) (by decide +kernel)
set_option maxRecDepth 20000 in
theorem zw_521 : Cond.code yX5_isLetter cX5_isLetter 1 (some .boolean) ∈ zWU := zwm 521 (by decide +kernel) (by decide +kernel)
set_option maxRecDepth 20000 in
theorem zw_520 : Cond.static yX5_isLetter ∈ zWU := zwm 520 (by decide +kernel) (by decide +kernel)
set_option maxRecDepth 20000 in
theorem zk_RX5_52 : zKS RX5 52 yX5_isLetter cX5_isLetter 1 (some .boolean) 1 := ⟨⟨zw_519, zw_75, zw_521, by decide +kernel, by decide⟩, zw_520⟩
set_option maxRecDepth 20000 in
theorem zw_512 : Cond.methodLink RX5 41 yX5_isDigit ∈ zWU := zwm 512 (by decide +kernel) (by decide +kernel)
set_option maxRecDepth 20000 in
theorem zw_514 : Cond.code yX5_isDigit cX5_isDigit 1 (some .boolean) ∈ zWU := zwm 514 (by decide +kernel) (by decide +kernel)
set_option maxRecDepth 20000 in
theorem zw_513 : Cond.static yX5_isDigit ∈ zWU := zwm 513 (by decide +kernel) (by decide +kernel)
set_option maxRecDepth 20000 in
theorem zk_RX5_41 : zKS RX5 41 yX5_isDigit cX5_isDigit 1 (some .boolean) 1 := ⟨⟨zw_512, zw_75, zw_514, by decide +kernel, by decide⟩, zw_513⟩
set_option maxRecDepth 20000 in
theorem zw_515 : Cond.constant RX5 45 1000000 ∈ zWU := zwm 515 (by decide +kernel) (by decide +kernel)
set_option maxRecDepth 20000 in
theorem zw_516 : Cond.methodLink RX5 46 Lib.Math.min.name ∈ zWU := zwm 516 (by decide +kernel) (by decide +kernel)
set_option maxRecDepth 20000 in
theorem zw_517 : Cond.static Lib.Math.min.name ∈ zWU := zwm 517 (by decide +kernel) (by decide +kernel)
set_option maxRecDepth 20000 in
theorem zw_518 : Cond.code Lib.Math.min.name Lib.Math.min.code 2 (some .int) ∈ zWU := zwm 518 (by decide +kernel) (by decide +kernel)
set_option maxRecDepth 20000 in
theorem zw_583 : Cond.methodLink RX5 58 yX5_isSign ∈ zWU := zwm 583 (by decide +kernel) (by decide +kernel)
set_option maxRecDepth 20000 in
theorem zw_585 : Cond.code yX5_isSign cX5_isSign 1 (some .boolean) ∈ zWU := zwm 585 (by decide +kernel) (by decide +kernel)
set_option maxRecDepth 20000 in
theorem zw_584 : Cond.static yX5_isSign ∈ zWU := zwm 584 (by decide +kernel) (by decide +kernel)
set_option maxRecDepth 20000 in
theorem zk_RX5_58 : zKS RX5 58 yX5_isSign cX5_isSign 1 (some .boolean) 1 := ⟨⟨zw_583, zw_75, zw_585, by decide +kernel, by decide⟩, zw_584⟩
set_option maxRecDepth 20000 in
theorem zw_586 : Cond.methodLink RX5 38 yX5_step ∈ zWU := zwm 586 (by decide +kernel) (by decide +kernel)
set_option maxRecDepth 20000 in
theorem zk_RX5_38 : zKV RX5 38 yX5_step cX5_step 1 none 5 0 := ⟨⟨zw_586, zw_75, zw_589, by decide +kernel, by decide⟩, zw_587, zw_588, _, rfl, rfl⟩
set_option maxRecDepth 20000 in
theorem zw_508 : Cond.methodLink RX5 28 yX5_cutOne ∈ zWU := zwm 508 (by decide +kernel) (by decide +kernel)
set_option maxRecDepth 20000 in
theorem zw_511 : Cond.code yX5_cutOne cX5_cutOne 7 (some .int) ∈ zWU := zwm 511 (by decide +kernel) (by decide +kernel)
set_option maxRecDepth 20000 in
theorem zw_510 : Cond.instanceMethod yX5_cutOne ∈ zWU := zwm 510 (by decide +kernel) (by decide +kernel)
set_option maxRecDepth 20000 in
theorem zw_6 : Cond.selects RX5 yX5_cutOne yX5_cutOne ∈ zWU := zwm 6 (by decide +kernel) (by decide +kernel)
set_option maxRecDepth 20000 in
theorem zk_RX5_28 : zKV RX5 28 yX5_cutOne cX5_cutOne 7 (some .int) 5 3 := ⟨⟨zw_508, zw_75, zw_511, by decide +kernel, by decide⟩, zw_510, zw_6, _, rfl, rfl⟩
set_option maxRecDepth 20000 in
theorem zw_97 : Cond.methodLink RX6 1 Lib.objectInit ∈ zWU := zwm 97 (by decide +kernel) (by decide +kernel)
set_option maxRecDepth 20000 in
theorem zw_100 : Cond.classLink RX6 7 RX0 ∈ zWU := zwm 100 (by decide +kernel) (by decide +kernel)
set_option maxRecDepth 20000 in
theorem zw_101 : Cond.instantiable RX0 9 ∈ zWU := zwm 101 (by decide +kernel) (by decide +kernel)
set_option maxRecDepth 20000 in
theorem zn_RX6_7 : zNO RX6 7 0 := ⟨_, rfl, zw_100, zw_101, zw_72⟩
set_option maxRecDepth 20000 in
theorem zw_102 : Cond.methodLink RX6 9 yX0_init ∈ zWU := zwm 102 (by decide +kernel) (by decide +kernel)
set_option maxRecDepth 20000 in
theorem zw_104 : Cond.code yX0_init cX0_init 1 none ∈ zWU := zwm 104 (by decide +kernel) (by decide +kernel)
set_option maxRecDepth 20000 in
theorem zw_103 : Cond.instanceMethod yX0_init ∈ zWU := zwm 103 (by decide +kernel) (by decide +kernel)
set_option maxRecDepth 20000 in
theorem zk_RX6_9 : zKI RX6 9 yX0_init cX0_init 1 0 := ⟨⟨zw_102, zw_72, zw_104, by decide +kernel, by decide⟩, zw_103, rfl⟩
set_option maxRecDepth 20000 in
theorem zw_324 : Cond.fieldLink RX6 10 (TX6 0).1 (TX6 0).2.1 (TX6 0).2.2.1 ∈ zWU := zwm 324 (by decide +kernel) (by decide +kernel)
set_option maxRecDepth 20000 in
theorem zf_RX6_10 : zFL RX6 10 6 0 := ⟨_, rfl, by decide, zw_324⟩
set_option maxRecDepth 20000 in
theorem zq_6_0 : zFW RX6 "<init>" 6 0 := ⟨_, rfl, Or.inr ⟨rfl, rfl, rfl⟩⟩
set_option maxRecDepth 20000 in
theorem zw_174 : Cond.classLink RX6 16 RX3 ∈ zWU := zwm 174 (by decide +kernel) (by decide +kernel)
set_option maxRecDepth 20000 in
theorem zn_RX6_16 : zNO RX6 16 3 := ⟨_, rfl, zw_174, zw_175, zw_73⟩
set_option maxRecDepth 20000 in
theorem zw_176 : Cond.methodLink RX6 18 yX3_init ∈ zWU := zwm 176 (by decide +kernel) (by decide +kernel)
set_option maxRecDepth 20000 in
theorem zk_RX6_18 : zKI RX6 18 yX3_init cX3_init 1 0 := ⟨⟨zw_176, zw_73, zw_178, by decide +kernel, by decide⟩, zw_177, rfl⟩
set_option maxRecDepth 20000 in
theorem zw_325 : Cond.fieldLink RX6 19 (TX6 1).1 (TX6 1).2.1 (TX6 1).2.2.1 ∈ zWU := zwm 325 (by decide +kernel) (by decide +kernel)
set_option maxRecDepth 20000 in
theorem zf_RX6_19 : zFL RX6 19 6 1 := ⟨_, rfl, by decide, zw_325⟩
set_option maxRecDepth 20000 in
theorem zq_6_1 : zFW RX6 "<init>" 6 1 := ⟨_, rfl, Or.inr ⟨rfl, rfl, rfl⟩⟩
set_option maxRecDepth 20000 in
theorem zw_326 : Cond.fieldLink RX6 23 (TX6 2).1 (TX6 2).2.1 (TX6 2).2.2.1 ∈ zWU := zwm 326 (by decide +kernel) (by decide +kernel)
set_option maxRecDepth 20000 in
theorem zf_RX6_23 : zFL RX6 23 6 2 := ⟨_, rfl, by decide, zw_326⟩
set_option maxRecDepth 20000 in
theorem zq_6_2 : zFW RX6 "<init>" 6 2 := ⟨_, rfl, Or.inr ⟨rfl, rfl, rfl⟩⟩
set_option maxRecDepth 20000 in
theorem zw_205 : Cond.classLink RX6 26 RX1 ∈ zWU := zwm 205 (by decide +kernel) (by decide +kernel)
set_option maxRecDepth 20000 in
theorem zw_206 : Cond.instantiable RX1 3 ∈ zWU := zwm 206 (by decide +kernel) (by decide +kernel)
set_option maxRecDepth 20000 in
theorem zw_74 : Cond.initialized RX1 ∈ zWU := zwm 74 (by decide +kernel) (by decide +kernel)
set_option maxRecDepth 20000 in
theorem zn_RX6_26 : zNO RX6 26 1 := ⟨_, rfl, zw_205, zw_206, zw_74⟩
set_option maxRecDepth 20000 in
theorem zw_207 : Cond.methodLink RX6 28 yX1_init ∈ zWU := zwm 207 (by decide +kernel) (by decide +kernel)
set_option maxRecDepth 20000 in
theorem zw_209 : Cond.code yX1_init cX1_init 2 none ∈ zWU := zwm 209 (by decide +kernel) (by decide +kernel)
set_option maxRecDepth 20000 in
theorem zw_208 : Cond.instanceMethod yX1_init ∈ zWU := zwm 208 (by decide +kernel) (by decide +kernel)
set_option maxRecDepth 20000 in
theorem zk_RX6_28 : zKI RX6 28 yX1_init cX1_init 2 0 := ⟨⟨zw_207, zw_74, zw_209, by decide +kernel, by decide⟩, zw_208, rfl⟩
set_option maxRecDepth 20000 in
theorem zw_327 : Cond.fieldLink RX6 29 (TX6 3).1 (TX6 3).2.1 (TX6 3).2.2.1 ∈ zWU := zwm 327 (by decide +kernel) (by decide +kernel)
set_option maxRecDepth 20000 in
theorem zf_RX6_29 : zFL RX6 29 6 3 := ⟨_, rfl, by decide, zw_327⟩
set_option maxRecDepth 20000 in
theorem zq_6_3 : zFW RX6 "<init>" 6 3 := ⟨_, rfl, Or.inr ⟨rfl, rfl, rfl⟩⟩
set_option maxRecDepth 20000 in
theorem zw_225 : Cond.classLink RX6 33 RX5 ∈ zWU := zwm 225 (by decide +kernel) (by decide +kernel)
set_option maxRecDepth 20000 in
theorem zw_226 : Cond.instantiable RX5 9 ∈ zWU := zwm 226 (by decide +kernel) (by decide +kernel)
set_option maxRecDepth 20000 in
theorem zn_RX6_33 : zNO RX6 33 5 := ⟨_, rfl, zw_225, zw_226, zw_75⟩
set_option maxRecDepth 20000 in
theorem zw_227 : Cond.methodLink RX6 35 yX5_init ∈ zWU := zwm 227 (by decide +kernel) (by decide +kernel)
set_option maxRecDepth 20000 in
theorem zw_229 : Cond.code yX5_init cX5_init 1 none ∈ zWU := zwm 229 (by decide +kernel) (by decide +kernel)
set_option maxRecDepth 20000 in
theorem zw_228 : Cond.instanceMethod yX5_init ∈ zWU := zwm 228 (by decide +kernel) (by decide +kernel)
set_option maxRecDepth 20000 in
theorem zk_RX6_35 : zKI RX6 35 yX5_init cX5_init 1 0 := ⟨⟨zw_227, zw_75, zw_229, by decide +kernel, by decide⟩, zw_228, rfl⟩
set_option maxRecDepth 20000 in
theorem zw_328 : Cond.fieldLink RX6 36 (TX6 4).1 (TX6 4).2.1 (TX6 4).2.2.1 ∈ zWU := zwm 328 (by decide +kernel) (by decide +kernel)
set_option maxRecDepth 20000 in
theorem zf_RX6_36 : zFL RX6 36 6 4 := ⟨_, rfl, by decide, zw_328⟩
set_option maxRecDepth 20000 in
theorem zq_6_4 : zFW RX6 "<init>" 6 4 := ⟨_, rfl, Or.inr ⟨rfl, rfl, rfl⟩⟩
set_option maxRecDepth 20000 in
theorem zw_263 : Cond.classLink RX6 40 RX2 ∈ zWU := zwm 263 (by decide +kernel) (by decide +kernel)
set_option maxRecDepth 20000 in
theorem zw_264 : Cond.instantiable RX2 8 ∈ zWU := zwm 264 (by decide +kernel) (by decide +kernel)
set_option maxRecDepth 20000 in
theorem zn_RX6_40 : zNO RX6 40 2 := ⟨_, rfl, zw_263, zw_264, zw_76⟩
set_option maxRecDepth 20000 in
theorem zw_265 : Cond.methodLink RX6 42 yX2_init ∈ zWU := zwm 265 (by decide +kernel) (by decide +kernel)
set_option maxRecDepth 20000 in
theorem zw_267 : Cond.code yX2_init cX2_init 4 none ∈ zWU := zwm 267 (by decide +kernel) (by decide +kernel)
set_option maxRecDepth 20000 in
theorem zw_266 : Cond.instanceMethod yX2_init ∈ zWU := zwm 266 (by decide +kernel) (by decide +kernel)
set_option maxRecDepth 20000 in
theorem zk_RX6_42 : zKI RX6 42 yX2_init cX2_init 4 3 := ⟨⟨zw_265, zw_76, zw_267, by decide +kernel, by decide⟩, zw_266, rfl⟩
set_option maxRecDepth 20000 in
theorem zw_329 : Cond.fieldLink RX6 45 (TX6 5).1 (TX6 5).2.1 (TX6 5).2.2.1 ∈ zWU := zwm 329 (by decide +kernel) (by decide +kernel)
set_option maxRecDepth 20000 in
theorem zf_RX6_45 : zFL RX6 45 6 5 := ⟨_, rfl, by decide, zw_329⟩
set_option maxRecDepth 20000 in
theorem zq_6_5 : zFW RX6 "<init>" 6 5 := ⟨_, rfl, Or.inr ⟨rfl, rfl, rfl⟩⟩
set_option maxRecDepth 20000 in
theorem zw_297 : Cond.classLink RX6 49 RX4 ∈ zWU := zwm 297 (by decide +kernel) (by decide +kernel)
set_option maxRecDepth 20000 in
theorem zw_298 : Cond.instantiable RX4 6 ∈ zWU := zwm 298 (by decide +kernel) (by decide +kernel)
set_option maxRecDepth 20000 in
theorem zn_RX6_49 : zNO RX6 49 4 := ⟨_, rfl, zw_297, zw_298, zw_77⟩
set_option maxRecDepth 20000 in
theorem zw_299 : Cond.methodLink RX6 51 yX4_init ∈ zWU := zwm 299 (by decide +kernel) (by decide +kernel)
set_option maxRecDepth 20000 in
theorem zw_301 : Cond.code yX4_init cX4_init 2 none ∈ zWU := zwm 301 (by decide +kernel) (by decide +kernel)
set_option maxRecDepth 20000 in
theorem zw_300 : Cond.instanceMethod yX4_init ∈ zWU := zwm 300 (by decide +kernel) (by decide +kernel)
set_option maxRecDepth 20000 in
theorem zk_RX6_51 : zKI RX6 51 yX4_init cX4_init 2 1 := ⟨⟨zw_299, zw_77, zw_301, by decide +kernel, by decide⟩, zw_300, rfl⟩
set_option maxRecDepth 20000 in
theorem zw_330 : Cond.fieldLink RX6 54 (TX6 6).1 (TX6 6).2.1 (TX6 6).2.2.1 ∈ zWU := zwm 330 (by decide +kernel) (by decide +kernel)
set_option maxRecDepth 20000 in
theorem zf_RX6_54 : zFL RX6 54 6 6 := ⟨_, rfl, by decide, zw_330⟩
set_option maxRecDepth 20000 in
theorem zq_6_6 : zFW RX6 "<init>" 6 6 := ⟨_, rfl, Or.inr ⟨rfl, rfl, rfl⟩⟩
set_option maxRecDepth 20000 in
theorem zw_331 : Cond.fieldLink RX6 58 (TX6 7).1 (TX6 7).2.1 (TX6 7).2.2.1 ∈ zWU := zwm 331 (by decide +kernel) (by decide +kernel)
set_option maxRecDepth 20000 in
theorem zf_RX6_58 : zFL RX6 58 6 7 := ⟨_, rfl, by decide, zw_331⟩
set_option maxRecDepth 20000 in
theorem zq_6_7 : zFW RX6 "<init>" 6 7 := ⟨_, rfl, Or.inr ⟨rfl, rfl, rfl⟩⟩
set_option maxRecDepth 20000 in
theorem zw_332 : Cond.fieldLink RX6 62 (TX6 8).1 (TX6 8).2.1 (TX6 8).2.2.1 ∈ zWU := zwm 332 (by decide +kernel) (by decide +kernel)
set_option maxRecDepth 20000 in
theorem zf_RX6_62 : zFL RX6 62 6 8 := ⟨_, rfl, by decide, zw_332⟩
set_option maxRecDepth 20000 in
theorem zq_6_8 {own nm : String} : zFW own nm 6 8 := ⟨_, rfl, Or.inl rfl⟩
set_option maxRecDepth 20000 in
theorem zw_231 : Cond.fieldLink RX6 66 (TX5 0).1 (TX5 0).2.1 (TX5 0).2.2.1 ∈ zWU := zwm 231 (by decide +kernel) (by decide +kernel)
set_option maxRecDepth 20000 in
theorem zf_RX6_66 : zFL RX6 66 5 0 := ⟨_, rfl, by decide, zw_231⟩
set_option maxRecDepth 20000 in
theorem zw_356 : Cond.methodLink RX6 69 yX5_put ∈ zWU := zwm 356 (by decide +kernel) (by decide +kernel)
set_option maxRecDepth 20000 in
theorem zw_359 : Cond.code yX5_put cX5_put 3 none ∈ zWU := zwm 359 (by decide +kernel) (by decide +kernel)
set_option maxRecDepth 20000 in
theorem zw_357 : Cond.instanceMethod yX5_put ∈ zWU := zwm 357 (by decide +kernel) (by decide +kernel)
set_option maxRecDepth 20000 in
theorem zw_358 : Cond.selects RX5 yX5_put yX5_put ∈ zWU := zwm 358 (by decide +kernel) (by decide +kernel)
set_option maxRecDepth 20000 in
theorem zk_RX6_69 : zKV RX6 69 yX5_put cX5_put 3 none 5 1 := ⟨⟨zw_356, zw_75, zw_359, by decide +kernel, by decide⟩, zw_357, zw_358, _, rfl, rfl⟩
set_option maxRecDepth 20000 in
theorem zs_RX6_239 : (RX6, 239, "a number that is none such", 7) ∈ zstr := by decide +kernel
set_option maxRecDepth 20000 in
theorem zw_436 : Cond.classLink RX6 237 (zex 1) ∈ zWU := zwm 436 (by decide +kernel) (by decide +kernel)
set_option maxRecDepth 20000 in
theorem zw_82 : Cond.initialized (zex 1) ∈ zWU := zwm 82 (by decide +kernel) (by decide +kernel)
set_option maxRecDepth 20000 in
theorem zt_RX6_237_241 : zTW RX6 237 241 (zex 1) 7 prog_14_method_2_code := ⟨by decide +kernel, by decide +kernel, zw_436, zw_82, by decide +kernel, by decide +kernel, by decide +kernel, by decide +kernel, by decide +kernel, by decide +kernel, by decide +kernel⟩
set_option maxRecDepth 20000 in
theorem zw_432 : Cond.methodLink RX6 73 yX6_needNumber ∈ zWU := zwm 432 (by decide +kernel) (by decide +kernel)
set_option maxRecDepth 20000 in
theorem zw_71 : Cond.initialized RX6 ∈ zWU := zwm 71 (by decide +kernel) (by decide +kernel)
set_option maxRecDepth 20000 in
theorem zw_435 : Cond.code yX6_needNumber cX6_needNumber 4 none ∈ zWU := zwm 435 (by decide +kernel) (by decide +kernel)
set_option maxRecDepth 20000 in
theorem zw_434 : Cond.instanceMethod yX6_needNumber ∈ zWU := zwm 434 (by decide +kernel) (by decide +kernel)
set_option maxRecDepth 20000 in
theorem zw_4 : Cond.selects RX6 yX6_needNumber yX6_needNumber ∈ zWU := zwm 4 (by decide +kernel) (by decide +kernel)
set_option maxRecDepth 20000 in
theorem zk_RX6_73 : zKV RX6 73 yX6_needNumber cX6_needNumber 4 none 6 3 := ⟨⟨zw_432, zw_71, zw_435, by decide +kernel, by decide⟩, zw_434, zw_4, _, rfl, rfl⟩
set_option maxRecDepth 20000 in
theorem zw_504 : Cond.methodLink RX6 77 yX5_cut ∈ zWU := zwm 504 (by decide +kernel) (by decide +kernel)
set_option maxRecDepth 20000 in
theorem zw_507 : Cond.code yX5_cut cX5_cut 5 none ∈ zWU := zwm 507 (by decide +kernel) (by decide +kernel)
set_option maxRecDepth 20000 in
theorem zw_505 : Cond.instanceMethod yX5_cut ∈ zWU := zwm 505 (by decide +kernel) (by decide +kernel)
set_option maxRecDepth 20000 in
theorem zw_506 : Cond.selects RX5 yX5_cut yX5_cut ∈ zWU := zwm 506 (by decide +kernel) (by decide +kernel)
set_option maxRecDepth 20000 in
theorem zk_RX6_77 : zKV RX6 77 yX5_cut cX5_cut 5 none 5 1 := ⟨⟨zw_504, zw_75, zw_507, by decide +kernel, by decide⟩, zw_505, zw_506, _, rfl, rfl⟩
set_option maxRecDepth 20000 in
theorem zw_590 : Cond.methodLink RX6 80 yX2_read ∈ zWU := zwm 590 (by decide +kernel) (by decide +kernel)
set_option maxRecDepth 20000 in
theorem zw_593 : Cond.code yX2_read cX2_read 2 (some .boolean) ∈ zWU := zwm 593 (by decide +kernel) (by decide +kernel)
set_option maxRecDepth 20000 in
theorem zw_591 : Cond.instanceMethod yX2_read ∈ zWU := zwm 591 (by decide +kernel) (by decide +kernel)
set_option maxRecDepth 20000 in
theorem zw_592 : Cond.selects RX2 yX2_read yX2_read ∈ zWU := zwm 592 (by decide +kernel) (by decide +kernel)
set_option maxRecDepth 20000 in
theorem zk_RX6_80 : zKV RX6 80 yX2_read cX2_read 2 (some .boolean) 2 0 := ⟨⟨zw_590, zw_76, zw_593, by decide +kernel, by decide⟩, zw_591, zw_592, _, rfl, rfl⟩
set_option maxRecDepth 20000 in
theorem zw_273 : Cond.fieldLink RX6 84 (TX2 1).1 (TX2 1).2.1 (TX2 1).2.2.1 ∈ zWU := zwm 273 (by decide +kernel) (by decide +kernel)
set_option maxRecDepth 20000 in
theorem zf_RX6_84 : zFL RX6 84 2 1 := ⟨_, rfl, by decide, zw_273⟩
set_option maxRecDepth 20000 in
theorem zw_183 : Cond.fieldLink RX6 85 (TX3 0).1 (TX3 0).2.1 (TX3 0).2.2.1 ∈ zWU := zwm 183 (by decide +kernel) (by decide +kernel)
set_option maxRecDepth 20000 in
theorem zf_RX6_85 : zFL RX6 85 3 0 := ⟨_, rfl, by decide, zw_183⟩
set_option maxRecDepth 20000 in
theorem zw_186 : Cond.fieldLink RX6 88 (TX3 1).1 (TX3 1).2.1 (TX3 1).2.2.1 ∈ zWU := zwm 186 (by decide +kernel) (by decide +kernel)
set_option maxRecDepth 20000 in
theorem zf_RX6_88 : zFL RX6 88 3 1 := ⟨_, rfl, by decide, zw_186⟩
set_option maxRecDepth 20000 in
theorem zw_379 : Cond.methodLink RX6 91 yX0_tune ∈ zWU := zwm 379 (by decide +kernel) (by decide +kernel)
set_option maxRecDepth 20000 in
theorem zk_RX6_91 : zKV RX6 91 yX0_tune cX0_tune 4 none 0 2 := ⟨⟨zw_379, zw_72, zw_109, by decide +kernel, by decide⟩, zw_107, zw_108, _, rfl, rfl⟩
set_option maxRecDepth 20000 in
theorem zw_271 : Cond.fieldLink RX6 95 (TX2 0).1 (TX2 0).2.1 (TX2 0).2.2.1 ∈ zWU := zwm 271 (by decide +kernel) (by decide +kernel)
set_option maxRecDepth 20000 in
theorem zf_RX6_95 : zFL RX6 95 2 0 := ⟨_, rfl, by decide, zw_271⟩
set_option maxRecDepth 20000 in
theorem zw_668 : Cond.methodLink RX6 98 yX1_keep ∈ zWU := zwm 668 (by decide +kernel) (by decide +kernel)
set_option maxRecDepth 20000 in
theorem zw_671 : Cond.code yX1_keep cX1_keep 2 none ∈ zWU := zwm 671 (by decide +kernel) (by decide +kernel)
set_option maxRecDepth 20000 in
theorem zw_669 : Cond.instanceMethod yX1_keep ∈ zWU := zwm 669 (by decide +kernel) (by decide +kernel)
set_option maxRecDepth 20000 in
theorem zw_670 : Cond.selects RX1 yX1_keep yX1_keep ∈ zWU := zwm 670 (by decide +kernel) (by decide +kernel)
set_option maxRecDepth 20000 in
theorem zk_RX6_98 : zKV RX6 98 yX1_keep cX1_keep 2 none 1 1 := ⟨⟨zw_668, zw_74, zw_671, by decide +kernel, by decide⟩, zw_669, zw_670, _, rfl, rfl⟩
set_option maxRecDepth 20000 in
theorem zw_372 : Cond.methodLink RX6 102 yX3_become ∈ zWU := zwm 372 (by decide +kernel) (by decide +kernel)
set_option maxRecDepth 20000 in
theorem zk_RX6_102 : zKV RX6 102 yX3_become cX3_become 3 none 3 1 := ⟨⟨zw_372, zw_73, zw_375, by decide +kernel, by decide⟩, zw_373, zw_374, _, rfl, rfl⟩
set_option maxRecDepth 20000 in
theorem zw_190 : Cond.fieldLink RX6 105 (TX3 2).1 (TX3 2).2.1 (TX3 2).2.2.1 ∈ zWU := zwm 190 (by decide +kernel) (by decide +kernel)
set_option maxRecDepth 20000 in
theorem zf_RX6_105 : zFL RX6 105 3 2 := ⟨_, rfl, by decide, zw_190⟩
set_option maxRecDepth 20000 in
theorem zs_RX6_230 : (RX6, 230, "no such polynomial", 5) ∈ zstr := by decide +kernel
set_option maxRecDepth 20000 in
theorem zw_685 : Cond.classLink RX6 228 (zex 0) ∈ zWU := zwm 685 (by decide +kernel) (by decide +kernel)
set_option maxRecDepth 20000 in
theorem zw_89 : Cond.initialized (zex 0) ∈ zWU := zwm 89 (by decide +kernel) (by decide +kernel)
set_option maxRecDepth 20000 in
theorem zt_RX6_228_232 : zTW RX6 228 232 (zex 0) 13 prog_26_method_4_code := ⟨by decide +kernel, by decide +kernel, zw_685, zw_89, by decide +kernel, by decide +kernel, by decide +kernel, by decide +kernel, by decide +kernel, by decide +kernel, by decide +kernel⟩
set_option maxRecDepth 20000 in
theorem zs_RX6_235 : (RX6, 235, "no such point", 6) ∈ zstr := by decide +kernel
set_option maxRecDepth 20000 in
theorem zw_144 : Cond.fieldLink RX6 147 (TX0 2).1 (TX0 2).2.1 (TX0 2).2.2.1 ∈ zWU := zwm 144 (by decide +kernel) (by decide +kernel)
set_option maxRecDepth 20000 in
theorem zf_RX6_147 : zFL RX6 147 0 2 := ⟨_, rfl, by decide, zw_144⟩
set_option maxRecDepth 20000 in
theorem zw_681 : Cond.methodLink RX6 108 yX6_needPoly ∈ zWU := zwm 681 (by decide +kernel) (by decide +kernel)
set_option maxRecDepth 20000 in
theorem zw_684 : Cond.code yX6_needPoly cX6_needPoly 2 none ∈ zWU := zwm 684 (by decide +kernel) (by decide +kernel)
set_option maxRecDepth 20000 in
theorem zw_683 : Cond.instanceMethod yX6_needPoly ∈ zWU := zwm 683 (by decide +kernel) (by decide +kernel)
set_option maxRecDepth 20000 in
theorem zw_22 : Cond.selects RX6 yX6_needPoly yX6_needPoly ∈ zWU := zwm 22 (by decide +kernel) (by decide +kernel)
set_option maxRecDepth 20000 in
theorem zk_RX6_108 : zKV RX6 108 yX6_needPoly cX6_needPoly 2 none 6 1 := ⟨⟨zw_681, zw_71, zw_684, by decide +kernel, by decide⟩, zw_683, zw_22, _, rfl, rfl⟩
set_option maxRecDepth 20000 in
theorem zw_701 : Cond.methodLink RX6 111 yX6_needPoint ∈ zWU := zwm 701 (by decide +kernel) (by decide +kernel)
set_option maxRecDepth 20000 in
theorem zw_704 : Cond.code yX6_needPoint cX6_needPoint 2 none ∈ zWU := zwm 704 (by decide +kernel) (by decide +kernel)
set_option maxRecDepth 20000 in
theorem zw_703 : Cond.instanceMethod yX6_needPoint ∈ zWU := zwm 703 (by decide +kernel) (by decide +kernel)
set_option maxRecDepth 20000 in
theorem zw_23 : Cond.selects RX6 yX6_needPoint yX6_needPoint ∈ zWU := zwm 23 (by decide +kernel) (by decide +kernel)
set_option maxRecDepth 20000 in
theorem zk_RX6_111 : zKV RX6 111 yX6_needPoint cX6_needPoint 2 none 6 1 := ⟨⟨zw_701, zw_71, zw_704, by decide +kernel, by decide⟩, zw_703, zw_23, _, rfl, rfl⟩
set_option maxRecDepth 20000 in
theorem zw_194 : Cond.fieldLink RX6 114 (TX3 3).1 (TX3 3).2.1 (TX3 3).2.2.1 ∈ zWU := zwm 194 (by decide +kernel) (by decide +kernel)
set_option maxRecDepth 20000 in
theorem zf_RX6_114 : zFL RX6 114 3 3 := ⟨_, rfl, by decide, zw_194⟩
set_option maxRecDepth 20000 in
theorem zs_RX6_244 : (RX6, 244, "there are six polynomials", 8) ∈ zstr := by decide +kernel
set_option maxRecDepth 20000 in
theorem zw_718 : Cond.classLink RX6 242 (zex 2) ∈ zWU := zwm 718 (by decide +kernel) (by decide +kernel)
set_option maxRecDepth 20000 in
theorem zw_90 : Cond.initialized (zex 2) ∈ zWU := zwm 90 (by decide +kernel) (by decide +kernel)
set_option maxRecDepth 20000 in
theorem zt_RX6_242_246 : zTW RX6 242 246 (zex 2) 7 prog_15_method_2_code := ⟨by decide +kernel, by decide +kernel, zw_718, zw_90, by decide +kernel, by decide +kernel, by decide +kernel, by decide +kernel, by decide +kernel, by decide +kernel, by decide +kernel⟩
set_option maxRecDepth 20000 in
theorem zw_714 : Cond.methodLink RX6 118 yX6_needRoom ∈ zWU := zwm 714 (by decide +kernel) (by decide +kernel)
set_option maxRecDepth 20000 in
theorem zw_717 : Cond.code yX6_needRoom cX6_needRoom 1 none ∈ zWU := zwm 717 (by decide +kernel) (by decide +kernel)
set_option maxRecDepth 20000 in
theorem zw_716 : Cond.instanceMethod yX6_needRoom ∈ zWU := zwm 716 (by decide +kernel) (by decide +kernel)
set_option maxRecDepth 20000 in
theorem zw_24 : Cond.selects RX6 yX6_needRoom yX6_needRoom ∈ zWU := zwm 24 (by decide +kernel) (by decide +kernel)
set_option maxRecDepth 20000 in
theorem zk_RX6_118 : zKV RX6 118 yX6_needRoom cX6_needRoom 1 none 6 0 := ⟨⟨zw_714, zw_71, zw_717, by decide +kernel, by decide⟩, zw_716, zw_24, _, rfl, rfl⟩
set_option maxRecDepth 20000 in
theorem zw_734 : Cond.methodLink RX6 121 yX4_join ∈ zWU := zwm 734 (by decide +kernel) (by decide +kernel)
set_option maxRecDepth 20000 in
theorem zk_RX6_121 : zKV RX6 121 yX4_join cX4_join 5 none 4 3 := ⟨⟨zw_734, zw_77, zw_737, by decide +kernel, by decide⟩, zw_735, zw_736, _, rfl, rfl⟩
set_option maxRecDepth 20000 in
theorem zw_745 : Cond.constant RX6 125 1000000000 ∈ zWU := zwm 745 (by decide +kernel) (by decide +kernel)
set_option maxRecDepth 20000 in
theorem zw_746 : Cond.methodLink RX6 126 yX4_repeat ∈ zWU := zwm 746 (by decide +kernel) (by decide +kernel)
set_option maxRecDepth 20000 in
theorem zw_749 : Cond.code yX4_repeat cX4_repeat 8 none ∈ zWU := zwm 749 (by decide +kernel) (by decide +kernel)
set_option maxRecDepth 20000 in
theorem zw_747 : Cond.instanceMethod yX4_repeat ∈ zWU := zwm 747 (by decide +kernel) (by decide +kernel)
set_option maxRecDepth 20000 in
theorem zw_748 : Cond.selects RX4 yX4_repeat yX4_repeat ∈ zWU := zwm 748 (by decide +kernel) (by decide +kernel)
set_option maxRecDepth 20000 in
theorem zk_RX6_126 : zKV RX6 126 yX4_repeat cX4_repeat 8 none 4 3 := ⟨⟨zw_746, zw_77, zw_749, by decide +kernel, by decide⟩, zw_747, zw_748, _, rfl, rfl⟩
set_option maxRecDepth 20000 in
theorem zw_762 : Cond.methodLink RX6 180 yX4_isPermuting ∈ zWU := zwm 762 (by decide +kernel) (by decide +kernel)
set_option maxRecDepth 20000 in
theorem zk_RX6_180 : zKV RX6 180 yX4_isPermuting cX4_isPermuting 2 (some .boolean) 4 1 := ⟨⟨zw_762, zw_77, zw_391, by decide +kernel, by decide⟩, zw_389, zw_390, _, rfl, rfl⟩
set_option maxRecDepth 20000 in
theorem zs_RX6_247 : (RX6, 247, "it does not permute", 9) ∈ zstr := by decide +kernel
set_option maxRecDepth 20000 in
theorem zw_758 : Cond.methodLink RX6 130 yX6_needPermuting ∈ zWU := zwm 758 (by decide +kernel) (by decide +kernel)
set_option maxRecDepth 20000 in
theorem zw_761 : Cond.code yX6_needPermuting cX6_needPermuting 2 none ∈ zWU := zwm 761 (by decide +kernel) (by decide +kernel)
set_option maxRecDepth 20000 in
theorem zw_760 : Cond.instanceMethod yX6_needPermuting ∈ zWU := zwm 760 (by decide +kernel) (by decide +kernel)
set_option maxRecDepth 20000 in
theorem zw_25 : Cond.selects RX6 yX6_needPermuting yX6_needPermuting ∈ zWU := zwm 25 (by decide +kernel) (by decide +kernel)
set_option maxRecDepth 20000 in
theorem zk_RX6_130 : zKV RX6 130 yX6_needPermuting cX6_needPermuting 2 none 6 1 := ⟨⟨zw_758, zw_71, zw_761, by decide +kernel, by decide⟩, zw_760, zw_25, _, rfl, rfl⟩
set_option maxRecDepth 20000 in
theorem zw_764 : Cond.methodLink RX6 133 yX4_invert ∈ zWU := zwm 764 (by decide +kernel) (by decide +kernel)
set_option maxRecDepth 20000 in
theorem zw_767 : Cond.code yX4_invert cX4_invert 4 none ∈ zWU := zwm 767 (by decide +kernel) (by decide +kernel)
set_option maxRecDepth 20000 in
theorem zw_765 : Cond.instanceMethod yX4_invert ∈ zWU := zwm 765 (by decide +kernel) (by decide +kernel)
set_option maxRecDepth 20000 in
theorem zw_766 : Cond.selects RX4 yX4_invert yX4_invert ∈ zWU := zwm 766 (by decide +kernel) (by decide +kernel)
set_option maxRecDepth 20000 in
theorem zk_RX6_133 : zKV RX6 133 yX4_invert cX4_invert 4 none 4 2 := ⟨⟨zw_764, zw_77, zw_767, by decide +kernel, by decide⟩, zw_765, zw_766, _, rfl, rfl⟩
set_option maxRecDepth 20000 in
theorem zw_775 : Cond.methodLink RX6 137 yX3_remove ∈ zWU := zwm 775 (by decide +kernel) (by decide +kernel)
set_option maxRecDepth 20000 in
theorem zw_778 : Cond.code yX3_remove cX3_remove 3 none ∈ zWU := zwm 778 (by decide +kernel) (by decide +kernel)
set_option maxRecDepth 20000 in
theorem zw_776 : Cond.instanceMethod yX3_remove ∈ zWU := zwm 776 (by decide +kernel) (by decide +kernel)
set_option maxRecDepth 20000 in
theorem zw_777 : Cond.selects RX3 yX3_remove yX3_remove ∈ zWU := zwm 777 (by decide +kernel) (by decide +kernel)
set_option maxRecDepth 20000 in
theorem zk_RX6_137 : zKV RX6 137 yX3_remove cX3_remove 3 none 3 1 := ⟨⟨zw_775, zw_73, zw_778, by decide +kernel, by decide⟩, zw_776, zw_777, _, rfl, rfl⟩
set_option maxRecDepth 20000 in
theorem zw_368 : Cond.methodLink RX6 140 yX1_takeLast ∈ zWU := zwm 368 (by decide +kernel) (by decide +kernel)
set_option maxRecDepth 20000 in
theorem zw_371 : Cond.code yX1_takeLast cX1_takeLast 1 (some (.object "FieldPerms$State")) ∈ zWU := zwm 371 (by decide +kernel) (by decide +kernel)
set_option maxRecDepth 20000 in
theorem zw_369 : Cond.instanceMethod yX1_takeLast ∈ zWU := zwm 369 (by decide +kernel) (by decide +kernel)
set_option maxRecDepth 20000 in
theorem zw_370 : Cond.selects RX1 yX1_takeLast yX1_takeLast ∈ zWU := zwm 370 (by decide +kernel) (by decide +kernel)
set_option maxRecDepth 20000 in
theorem zk_RX6_140 : zKV RX6 140 yX1_takeLast cX1_takeLast 1 (some (.object "FieldPerms$State")) 1 0 := ⟨⟨zw_368, zw_74, zw_371, by decide +kernel, by decide⟩, zw_369, zw_370, _, rfl, rfl⟩
set_option maxRecDepth 20000 in
theorem zw_215 : Cond.fieldLink RX6 144 (TX1 0).1 (TX1 0).2.1 (TX1 0).2.2.1 ∈ zWU := zwm 215 (by decide +kernel) (by decide +kernel)
set_option maxRecDepth 20000 in
theorem zf_RX6_144 : zFL RX6 144 1 0 := ⟨_, rfl, by decide, zw_215⟩
set_option maxRecDepth 20000 in
theorem zw_138 : Cond.fieldLink RX6 148 (TX0 0).1 (TX0 0).2.1 (TX0 0).2.2.1 ∈ zWU := zwm 138 (by decide +kernel) (by decide +kernel)
set_option maxRecDepth 20000 in
theorem zf_RX6_148 : zFL RX6 148 0 0 := ⟨_, rfl, by decide, zw_138⟩
set_option maxRecDepth 20000 in
theorem zw_140 : Cond.fieldLink RX6 149 (TX0 1).1 (TX0 1).2.1 (TX0 1).2.2.1 ∈ zWU := zwm 140 (by decide +kernel) (by decide +kernel)
set_option maxRecDepth 20000 in
theorem zf_RX6_149 : zFL RX6 149 0 1 := ⟨_, rfl, by decide, zw_140⟩
set_option maxRecDepth 20000 in
theorem zw_146 : Cond.fieldLink RX6 150 (TX0 3).1 (TX0 3).2.1 (TX0 3).2.2.1 ∈ zWU := zwm 146 (by decide +kernel) (by decide +kernel)
set_option maxRecDepth 20000 in
theorem zf_RX6_150 : zFL RX6 150 0 3 := ⟨_, rfl, by decide, zw_146⟩
set_option maxRecDepth 20000 in
theorem zw_793 : Cond.methodLink RX6 153 yX0_sum ∈ zWU := zwm 793 (by decide +kernel) (by decide +kernel)
set_option maxRecDepth 20000 in
theorem zk_RX6_153 : zKV RX6 153 yX0_sum cX0_sum 3 (some .int) 0 2 := ⟨⟨zw_793, zw_72, zw_123, by decide +kernel, by decide⟩, zw_121, zw_122, _, rfl, rfl⟩
set_option maxRecDepth 20000 in
theorem zw_794 : Cond.methodLink RX6 157 yX0_difference ∈ zWU := zwm 794 (by decide +kernel) (by decide +kernel)
set_option maxRecDepth 20000 in
theorem zk_RX6_157 : zKV RX6 157 yX0_difference cX0_difference 3 (some .int) 0 2 := ⟨⟨zw_794, zw_72, zw_656, by decide +kernel, by decide⟩, zw_654, zw_655, _, rfl, rfl⟩
set_option maxRecDepth 20000 in
theorem zw_795 : Cond.methodLink RX6 160 yX0_product ∈ zWU := zwm 795 (by decide +kernel) (by decide +kernel)
set_option maxRecDepth 20000 in
theorem zk_RX6_160 : zKV RX6 160 yX0_product cX0_product 3 (some .int) 0 2 := ⟨⟨zw_795, zw_72, zw_135, by decide +kernel, by decide⟩, zw_133, zw_134, _, rfl, rfl⟩
set_option maxRecDepth 20000 in
theorem zw_152 : Cond.fieldLink RX6 163 (TX0 7).1 (TX0 7).2.1 (TX0 7).2.2.1 ∈ zWU := zwm 152 (by decide +kernel) (by decide +kernel)
set_option maxRecDepth 20000 in
theorem zf_RX6_163 : zFL RX6 163 0 7 := ⟨_, rfl, by decide, zw_152⟩
set_option maxRecDepth 20000 in
theorem zw_810 : Cond.methodLink RX6 166 yX4_coefficientOf ∈ zWU := zwm 810 (by decide +kernel) (by decide +kernel)
set_option maxRecDepth 20000 in
theorem zw_813 : Cond.code yX4_coefficientOf cX4_coefficientOf 5 (some .int) ∈ zWU := zwm 813 (by decide +kernel) (by decide +kernel)
set_option maxRecDepth 20000 in
theorem zw_811 : Cond.instanceMethod yX4_coefficientOf ∈ zWU := zwm 811 (by decide +kernel) (by decide +kernel)
set_option maxRecDepth 20000 in
theorem zw_812 : Cond.selects RX4 yX4_coefficientOf yX4_coefficientOf ∈ zWU := zwm 812 (by decide +kernel) (by decide +kernel)
set_option maxRecDepth 20000 in
theorem zk_RX6_166 : zKV RX6 166 yX4_coefficientOf cX4_coefficientOf 5 (some .int) 4 2 := ⟨⟨zw_810, zw_77, zw_813, by decide +kernel, by decide⟩, zw_811, zw_812, _, rfl, rfl⟩
set_option maxRecDepth 20000 in
theorem zw_823 : Cond.methodLink RX6 170 yX4_degreeOf ∈ zWU := zwm 823 (by decide +kernel) (by decide +kernel)
set_option maxRecDepth 20000 in
theorem zw_826 : Cond.code yX4_degreeOf cX4_degreeOf 6 (some .int) ∈ zWU := zwm 826 (by decide +kernel) (by decide +kernel)
set_option maxRecDepth 20000 in
theorem zw_824 : Cond.instanceMethod yX4_degreeOf ∈ zWU := zwm 824 (by decide +kernel) (by decide +kernel)
set_option maxRecDepth 20000 in
theorem zw_825 : Cond.selects RX4 yX4_degreeOf yX4_degreeOf ∈ zWU := zwm 825 (by decide +kernel) (by decide +kernel)
set_option maxRecDepth 20000 in
theorem zk_RX6_170 : zKV RX6 170 yX4_degreeOf cX4_degreeOf 6 (some .int) 4 1 := ⟨⟨zw_823, zw_77, zw_826, by decide +kernel, by decide⟩, zw_824, zw_825, _, rfl, rfl⟩
set_option maxRecDepth 20000 in
theorem zw_834 : Cond.methodLink RX6 174 yX4_countOf ∈ zWU := zwm 834 (by decide +kernel) (by decide +kernel)
set_option maxRecDepth 20000 in
theorem zk_RX6_174 : zKV RX6 174 yX4_countOf cX4_countOf 5 (some .int) 4 2 := ⟨⟨zw_834, zw_77, zw_837, by decide +kernel, by decide⟩, zw_835, zw_836, _, rfl, rfl⟩
set_option maxRecDepth 20000 in
theorem zw_845 : Cond.methodLink RX6 177 yX4_imageOf ∈ zWU := zwm 845 (by decide +kernel) (by decide +kernel)
set_option maxRecDepth 20000 in
theorem zk_RX6_177 : zKV RX6 177 yX4_imageOf cX4_imageOf 5 (some .int) 4 1 := ⟨⟨zw_845, zw_77, zw_395, by decide +kernel, by decide⟩, zw_393, zw_394, _, rfl, rfl⟩
set_option maxRecDepth 20000 in
theorem zw_860 : Cond.methodLink RX6 184 yX4_powersOf ∈ zWU := zwm 860 (by decide +kernel) (by decide +kernel)
set_option maxRecDepth 20000 in
theorem zw_863 : Cond.code yX4_powersOf cX4_powersOf 7 (some .int) ∈ zWU := zwm 863 (by decide +kernel) (by decide +kernel)
set_option maxRecDepth 20000 in
theorem zw_861 : Cond.instanceMethod yX4_powersOf ∈ zWU := zwm 861 (by decide +kernel) (by decide +kernel)
set_option maxRecDepth 20000 in
theorem zw_862 : Cond.selects RX4 yX4_powersOf yX4_powersOf ∈ zWU := zwm 862 (by decide +kernel) (by decide +kernel)
set_option maxRecDepth 20000 in
theorem zk_RX6_184 : zKV RX6 184 yX4_powersOf cX4_powersOf 7 (some .int) 4 1 := ⟨⟨zw_860, zw_77, zw_863, by decide +kernel, by decide⟩, zw_861, zw_862, _, rfl, rfl⟩
set_option maxRecDepth 20000 in
theorem zw_872 : Cond.methodLink RX6 187 yX4_findCycles ∈ zWU := zwm 872 (by decide +kernel) (by decide +kernel)
set_option maxRecDepth 20000 in
theorem zw_875 : Cond.code yX4_findCycles cX4_findCycles 7 none ∈ zWU := zwm 875 (by decide +kernel) (by decide +kernel)
set_option maxRecDepth 20000 in
theorem zw_873 : Cond.instanceMethod yX4_findCycles ∈ zWU := zwm 873 (by decide +kernel) (by decide +kernel)
set_option maxRecDepth 20000 in
theorem zw_874 : Cond.selects RX4 yX4_findCycles yX4_findCycles ∈ zWU := zwm 874 (by decide +kernel) (by decide +kernel)
set_option maxRecDepth 20000 in
theorem zk_RX6_187 : zKV RX6 187 yX4_findCycles cX4_findCycles 7 none 4 1 := ⟨⟨zw_872, zw_77, zw_875, by decide +kernel, by decide⟩, zw_873, zw_874, _, rfl, rfl⟩
set_option maxRecDepth 20000 in
theorem zw_304 : Cond.fieldLink RX6 191 (TX4 0).1 (TX4 0).2.1 (TX4 0).2.2.1 ∈ zWU := zwm 304 (by decide +kernel) (by decide +kernel)
set_option maxRecDepth 20000 in
theorem zf_RX6_191 : zFL RX6 191 4 0 := ⟨_, rfl, by decide, zw_304⟩
set_option maxRecDepth 20000 in
theorem zw_306 : Cond.fieldLink RX6 194 (TX4 1).1 (TX4 1).2.1 (TX4 1).2.2.1 ∈ zWU := zwm 306 (by decide +kernel) (by decide +kernel)
set_option maxRecDepth 20000 in
theorem zf_RX6_194 : zFL RX6 194 4 1 := ⟨_, rfl, by decide, zw_306⟩
set_option maxRecDepth 20000 in
theorem zw_883 : Cond.methodLink RX6 197 yX4_cycleMultiple ∈ zWU := zwm 883 (by decide +kernel) (by decide +kernel)
set_option maxRecDepth 20000 in
theorem zw_886 : Cond.code yX4_cycleMultiple cX4_cycleMultiple 4 (some .int) ∈ zWU := zwm 886 (by decide +kernel) (by decide +kernel)
set_option maxRecDepth 20000 in
theorem zw_884 : Cond.instanceMethod yX4_cycleMultiple ∈ zWU := zwm 884 (by decide +kernel) (by decide +kernel)
set_option maxRecDepth 20000 in
theorem zw_885 : Cond.selects RX4 yX4_cycleMultiple yX4_cycleMultiple ∈ zWU := zwm 885 (by decide +kernel) (by decide +kernel)
set_option maxRecDepth 20000 in
theorem zk_RX6_197 : zKV RX6 197 yX4_cycleMultiple cX4_cycleMultiple 4 (some .int) 4 0 := ⟨⟨zw_883, zw_77, zw_886, by decide +kernel, by decide⟩, zw_884, zw_885, _, rfl, rfl⟩
set_option maxRecDepth 20000 in
theorem zw_384 : Cond.methodLink RX6 201 yX4_reachFrom ∈ zWU := zwm 384 (by decide +kernel) (by decide +kernel)
set_option maxRecDepth 20000 in
theorem zw_387 : Cond.code yX4_reachFrom cX4_reachFrom 9 (some .long) ∈ zWU := zwm 387 (by decide +kernel) (by decide +kernel)
set_option maxRecDepth 20000 in
theorem zw_385 : Cond.instanceMethod yX4_reachFrom ∈ zWU := zwm 385 (by decide +kernel) (by decide +kernel)
set_option maxRecDepth 20000 in
theorem zw_386 : Cond.selects RX4 yX4_reachFrom yX4_reachFrom ∈ zWU := zwm 386 (by decide +kernel) (by decide +kernel)
set_option maxRecDepth 20000 in
theorem zk_RX6_201 : zKV RX6 201 yX4_reachFrom cX4_reachFrom 9 (some .long) 4 2 := ⟨⟨zw_384, zw_77, zw_387, by decide +kernel, by decide⟩, zw_385, zw_386, _, rfl, rfl⟩
set_option maxRecDepth 20000 in
theorem zw_904 : Cond.methodLink RX6 205 yJ13_bitCount_95d88 ∈ zWU := zwm 904 (by decide +kernel) (by decide +kernel)
set_option maxRecDepth 20000 in
theorem zk_RX6_205 : zKS RX6 205 yJ13_bitCount_95d88 cJ13_bitCount_95d88 2 (some .int) 1 := ⟨⟨zw_904, zw_91, zw_398, by decide +kernel, by decide⟩, zw_397⟩
set_option maxRecDepth 20000 in
theorem zw_912 : Cond.methodLink RX6 211 yX4_spreadOf ∈ zWU := zwm 912 (by decide +kernel) (by decide +kernel)
set_option maxRecDepth 20000 in
theorem zw_915 : Cond.code yX4_spreadOf cX4_spreadOf 6 (some .int) ∈ zWU := zwm 915 (by decide +kernel) (by decide +kernel)
set_option maxRecDepth 20000 in
theorem zw_913 : Cond.instanceMethod yX4_spreadOf ∈ zWU := zwm 913 (by decide +kernel) (by decide +kernel)
set_option maxRecDepth 20000 in
theorem zw_914 : Cond.selects RX4 yX4_spreadOf yX4_spreadOf ∈ zWU := zwm 914 (by decide +kernel) (by decide +kernel)
set_option maxRecDepth 20000 in
theorem zk_RX6_211 : zKV RX6 211 yX4_spreadOf cX4_spreadOf 6 (some .int) 4 1 := ⟨⟨zw_912, zw_77, zw_915, by decide +kernel, by decide⟩, zw_913, zw_914, _, rfl, rfl⟩
set_option maxRecDepth 20000 in
theorem zw_410 : Cond.methodLink RX6 214 yX4_permutingMonomials ∈ zWU := zwm 410 (by decide +kernel) (by decide +kernel)
set_option maxRecDepth 20000 in
theorem zw_413 : Cond.code yX4_permutingMonomials cX4_permutingMonomials 6 (some .long) ∈ zWU := zwm 413 (by decide +kernel) (by decide +kernel)
set_option maxRecDepth 20000 in
theorem zw_411 : Cond.instanceMethod yX4_permutingMonomials ∈ zWU := zwm 411 (by decide +kernel) (by decide +kernel)
set_option maxRecDepth 20000 in
theorem zw_412 : Cond.selects RX4 yX4_permutingMonomials yX4_permutingMonomials ∈ zWU := zwm 412 (by decide +kernel) (by decide +kernel)
set_option maxRecDepth 20000 in
theorem zk_RX6_214 : zKV RX6 214 yX4_permutingMonomials cX4_permutingMonomials 6 (some .long) 4 0 := ⟨⟨zw_410, zw_77, zw_413, by decide +kernel, by decide⟩, zw_411, zw_412, _, rfl, rfl⟩
set_option maxRecDepth 20000 in
theorem zw_927 : Cond.methodLink RX6 218 yX4_permutingDicksons ∈ zWU := zwm 927 (by decide +kernel) (by decide +kernel)
set_option maxRecDepth 20000 in
theorem zw_930 : Cond.code yX4_permutingDicksons cX4_permutingDicksons 8 (some .long) ∈ zWU := zwm 930 (by decide +kernel) (by decide +kernel)
set_option maxRecDepth 20000 in
theorem zw_928 : Cond.instanceMethod yX4_permutingDicksons ∈ zWU := zwm 928 (by decide +kernel) (by decide +kernel)
set_option maxRecDepth 20000 in
theorem zw_929 : Cond.selects RX4 yX4_permutingDicksons yX4_permutingDicksons ∈ zWU := zwm 929 (by decide +kernel) (by decide +kernel)
set_option maxRecDepth 20000 in
theorem zk_RX6_218 : zKV RX6 218 yX4_permutingDicksons cX4_permutingDicksons 8 (some .long) 4 1 := ⟨⟨zw_927, zw_77, zw_930, by decide +kernel, by decide⟩, zw_928, zw_929, _, rfl, rfl⟩
set_option maxRecDepth 20000 in
theorem zw_938 : Cond.methodLink RX6 222 yX4_permutingBinomials ∈ zWU := zwm 938 (by decide +kernel) (by decide +kernel)
set_option maxRecDepth 20000 in
theorem zw_941 : Cond.code yX4_permutingBinomials cX4_permutingBinomials 7 (some .int) ∈ zWU := zwm 941 (by decide +kernel) (by decide +kernel)
set_option maxRecDepth 20000 in
theorem zw_939 : Cond.instanceMethod yX4_permutingBinomials ∈ zWU := zwm 939 (by decide +kernel) (by decide +kernel)
set_option maxRecDepth 20000 in
theorem zw_940 : Cond.selects RX4 yX4_permutingBinomials yX4_permutingBinomials ∈ zWU := zwm 940 (by decide +kernel) (by decide +kernel)
set_option maxRecDepth 20000 in
theorem zk_RX6_222 : zKV RX6 222 yX4_permutingBinomials cX4_permutingBinomials 7 (some .int) 4 1 := ⟨⟨zw_938, zw_77, zw_941, by decide +kernel, by decide⟩, zw_939, zw_940, _, rfl, rfl⟩
set_option maxRecDepth 20000 in
theorem zw_419 : Cond.constantLong RX6 226 (31) ∈ zWU := zwm 419 (by decide +kernel) (by decide +kernel)
set_option maxRecDepth 20000 in
theorem zw_947 : Cond.methodLink RX7 3 Lib.objectInit ∈ zWU := zwm 947 (by decide +kernel) (by decide +kernel)
set_option maxRecDepth 20000 in
theorem zw_950 : Cond.fieldLink RX7 9 (TX7 1).1 (TX7 1).2.1 (TX7 1).2.2.1 ∈ zWU := zwm 950 (by decide +kernel) (by decide +kernel)
set_option maxRecDepth 20000 in
theorem zf_RX7_9 : zFL RX7 9 7 1 := ⟨_, rfl, by decide, zw_950⟩
set_option maxRecDepth 20000 in
theorem zq_7_1 : zFW RX7 "<init>" 7 1 := ⟨_, rfl, Or.inr ⟨rfl, rfl, rfl⟩⟩
set_option maxRecDepth 20000 in
theorem zw_954 : Cond.fieldLink RX7 13 (TX7 5).1 (TX7 5).2.1 (TX7 5).2.2.1 ∈ zWU := zwm 954 (by decide +kernel) (by decide +kernel)
set_option maxRecDepth 20000 in
theorem zf_RX7_13 : zFL RX7 13 7 5 := ⟨_, rfl, by decide, zw_954⟩
set_option maxRecDepth 20000 in
theorem zq_7_5 {own nm : String} : zFW own nm 7 5 := ⟨_, rfl, Or.inl rfl⟩
set_option maxRecDepth 20000 in
theorem zw_957 : Cond.fieldLink RX7 17 (TX7 8).1 (TX7 8).2.1 (TX7 8).2.2.1 ∈ zWU := zwm 957 (by decide +kernel) (by decide +kernel)
set_option maxRecDepth 20000 in
theorem zf_RX7_17 : zFL RX7 17 7 8 := ⟨_, rfl, by decide, zw_957⟩
set_option maxRecDepth 20000 in
theorem zq_7_8 : zFW RX7 "<init>" 7 8 := ⟨_, rfl, Or.inr ⟨rfl, rfl, rfl⟩⟩
set_option maxRecDepth 20000 in
theorem zw_958 : Cond.fieldLink RX7 20 (TX7 9).1 (TX7 9).2.1 (TX7 9).2.2.1 ∈ zWU := zwm 958 (by decide +kernel) (by decide +kernel)
set_option maxRecDepth 20000 in
theorem zf_RX7_20 : zFL RX7 20 7 9 := ⟨_, rfl, by decide, zw_958⟩
set_option maxRecDepth 20000 in
theorem zq_7_9 : zFW RX7 "<init>" 7 9 := ⟨_, rfl, Or.inr ⟨rfl, rfl, rfl⟩⟩
set_option maxRecDepth 20000 in
theorem zw_959 : Cond.fieldLink RX7 23 (TX7 10).1 (TX7 10).2.1 (TX7 10).2.2.1 ∈ zWU := zwm 959 (by decide +kernel) (by decide +kernel)
set_option maxRecDepth 20000 in
theorem zf_RX7_23 : zFL RX7 23 7 10 := ⟨_, rfl, by decide, zw_959⟩
set_option maxRecDepth 20000 in
theorem zq_7_10 : zFW RX7 "<init>" 7 10 := ⟨_, rfl, Or.inr ⟨rfl, rfl, rfl⟩⟩
set_option maxRecDepth 20000 in
theorem zw_948 : Cond.classLink RX7 26 "[[I" ∈ zWU := zwm 948 (by decide +kernel) (by decide +kernel)
set_option maxRecDepth 20000 in
theorem zw_960 : Cond.fieldLink RX7 28 (TX7 11).1 (TX7 11).2.1 (TX7 11).2.2.1 ∈ zWU := zwm 960 (by decide +kernel) (by decide +kernel)
set_option maxRecDepth 20000 in
theorem zf_RX7_28 : zFL RX7 28 7 11 := ⟨_, rfl, by decide, zw_960⟩
set_option maxRecDepth 20000 in
theorem zq_7_11 : zFW RX7 "<init>" 7 11 := ⟨_, rfl, Or.inr ⟨rfl, rfl, rfl⟩⟩
set_option maxRecDepth 20000 in
theorem zw_966 : Cond.fieldLink RX7 31 (TX7 17).1 (TX7 17).2.1 (TX7 17).2.2.1 ∈ zWU := zwm 966 (by decide +kernel) (by decide +kernel)
set_option maxRecDepth 20000 in
theorem zf_RX7_31 : zFL RX7 31 7 17 := ⟨_, rfl, by decide, zw_966⟩
set_option maxRecDepth 20000 in
theorem zq_7_17 : zFW RX7 "<init>" 7 17 := ⟨_, rfl, Or.inr ⟨rfl, rfl, rfl⟩⟩
set_option maxRecDepth 20000 in
theorem zw_967 : Cond.fieldLink RX7 34 (TX7 18).1 (TX7 18).2.1 (TX7 18).2.2.1 ∈ zWU := zwm 967 (by decide +kernel) (by decide +kernel)
set_option maxRecDepth 20000 in
theorem zf_RX7_34 : zFL RX7 34 7 18 := ⟨_, rfl, by decide, zw_967⟩
set_option maxRecDepth 20000 in
theorem zq_7_18 : zFW RX7 "<init>" 7 18 := ⟨_, rfl, Or.inr ⟨rfl, rfl, rfl⟩⟩
set_option maxRecDepth 20000 in
theorem zw_968 : Cond.fieldLink RX7 37 (TX7 19).1 (TX7 19).2.1 (TX7 19).2.2.1 ∈ zWU := zwm 968 (by decide +kernel) (by decide +kernel)
set_option maxRecDepth 20000 in
theorem zf_RX7_37 : zFL RX7 37 7 19 := ⟨_, rfl, by decide, zw_968⟩
set_option maxRecDepth 20000 in
theorem zq_7_19 : zFW RX7 "<init>" 7 19 := ⟨_, rfl, Or.inr ⟨rfl, rfl, rfl⟩⟩
set_option maxRecDepth 20000 in
theorem zw_969 : Cond.fieldLink RX7 40 (TX7 20).1 (TX7 20).2.1 (TX7 20).2.2.1 ∈ zWU := zwm 969 (by decide +kernel) (by decide +kernel)
set_option maxRecDepth 20000 in
theorem zf_RX7_40 : zFL RX7 40 7 20 := ⟨_, rfl, by decide, zw_969⟩
set_option maxRecDepth 20000 in
theorem zq_7_20 : zFW RX7 "<init>" 7 20 := ⟨_, rfl, Or.inr ⟨rfl, rfl, rfl⟩⟩
set_option maxRecDepth 20000 in
theorem zw_970 : Cond.fieldLink RX7 43 (TX7 21).1 (TX7 21).2.1 (TX7 21).2.2.1 ∈ zWU := zwm 970 (by decide +kernel) (by decide +kernel)
set_option maxRecDepth 20000 in
theorem zf_RX7_43 : zFL RX7 43 7 21 := ⟨_, rfl, by decide, zw_970⟩
set_option maxRecDepth 20000 in
theorem zq_7_21 : zFW RX7 "<init>" 7 21 := ⟨_, rfl, Or.inr ⟨rfl, rfl, rfl⟩⟩
set_option maxRecDepth 20000 in
theorem zw_973 : Cond.fieldLink RX7 46 (TX7 24).1 (TX7 24).2.1 (TX7 24).2.2.1 ∈ zWU := zwm 973 (by decide +kernel) (by decide +kernel)
set_option maxRecDepth 20000 in
theorem zf_RX7_46 : zFL RX7 46 7 24 := ⟨_, rfl, by decide, zw_973⟩
set_option maxRecDepth 20000 in
theorem zq_7_24 : zFW RX7 "<init>" 7 24 := ⟨_, rfl, Or.inr ⟨rfl, rfl, rfl⟩⟩
set_option maxRecDepth 20000 in
theorem zw_974 : Cond.fieldLink RX7 49 (TX7 25).1 (TX7 25).2.1 (TX7 25).2.2.1 ∈ zWU := zwm 974 (by decide +kernel) (by decide +kernel)
set_option maxRecDepth 20000 in
theorem zf_RX7_49 : zFL RX7 49 7 25 := ⟨_, rfl, by decide, zw_974⟩
set_option maxRecDepth 20000 in
theorem zq_7_25 : zFW RX7 "<init>" 7 25 := ⟨_, rfl, Or.inr ⟨rfl, rfl, rfl⟩⟩
set_option maxRecDepth 20000 in
theorem zw_975 : Cond.fieldLink RX7 52 (TX7 26).1 (TX7 26).2.1 (TX7 26).2.2.1 ∈ zWU := zwm 975 (by decide +kernel) (by decide +kernel)
set_option maxRecDepth 20000 in
theorem zf_RX7_52 : zFL RX7 52 7 26 := ⟨_, rfl, by decide, zw_975⟩
set_option maxRecDepth 20000 in
theorem zq_7_26 : zFW RX7 "<init>" 7 26 := ⟨_, rfl, Or.inr ⟨rfl, rfl, rfl⟩⟩
set_option maxRecDepth 20000 in
theorem zw_976 : Cond.fieldLink RX7 55 (TX7 27).1 (TX7 27).2.1 (TX7 27).2.2.1 ∈ zWU := zwm 976 (by decide +kernel) (by decide +kernel)
set_option maxRecDepth 20000 in
theorem zf_RX7_55 : zFL RX7 55 7 27 := ⟨_, rfl, by decide, zw_976⟩
set_option maxRecDepth 20000 in
theorem zq_7_27 : zFW RX7 "<init>" 7 27 := ⟨_, rfl, Or.inr ⟨rfl, rfl, rfl⟩⟩
set_option maxRecDepth 20000 in
theorem zw_949 : Cond.fieldLink RX7 58 (TX7 0).1 (TX7 0).2.1 (TX7 0).2.2.1 ∈ zWU := zwm 949 (by decide +kernel) (by decide +kernel)
set_option maxRecDepth 20000 in
theorem zf_RX7_58 : zFL RX7 58 7 0 := ⟨_, rfl, by decide, zw_949⟩
set_option maxRecDepth 20000 in
theorem zq_7_0 {own nm : String} : zFW own nm 7 0 := ⟨_, rfl, Or.inl rfl⟩
set_option maxRecDepth 20000 in
theorem zw_951 : Cond.fieldLink RX7 61 (TX7 2).1 (TX7 2).2.1 (TX7 2).2.2.1 ∈ zWU := zwm 951 (by decide +kernel) (by decide +kernel)
set_option maxRecDepth 20000 in
theorem zf_RX7_61 : zFL RX7 61 7 2 := ⟨_, rfl, by decide, zw_951⟩
set_option maxRecDepth 20000 in
theorem zq_7_2 {own nm : String} : zFW own nm 7 2 := ⟨_, rfl, Or.inl rfl⟩
set_option maxRecDepth 20000 in
theorem zw_1091 : Cond.methodLink RX7 64 yX7_less ∈ zWU := zwm 1091 (by decide +kernel) (by decide +kernel)
set_option maxRecDepth 20000 in
theorem zw_78 : Cond.initialized RX7 ∈ zWU := zwm 78 (by decide +kernel) (by decide +kernel)
set_option maxRecDepth 20000 in
theorem zw_1093 : Cond.code yX7_less cX7_less 2 (some .int) ∈ zWU := zwm 1093 (by decide +kernel) (by decide +kernel)
set_option maxRecDepth 20000 in
theorem zw_1092 : Cond.static yX7_less ∈ zWU := zwm 1092 (by decide +kernel) (by decide +kernel)
set_option maxRecDepth 20000 in
theorem zk_RX7_64 : zKS RX7 64 yX7_less cX7_less 2 (some .int) 2 := ⟨⟨zw_1091, zw_78, zw_1093, by decide +kernel, by decide⟩, zw_1092⟩
set_option maxRecDepth 20000 in
theorem zw_962 : Cond.fieldLink RX7 68 (TX7 13).1 (TX7 13).2.1 (TX7 13).2.2.1 ∈ zWU := zwm 962 (by decide +kernel) (by decide +kernel)
set_option maxRecDepth 20000 in
theorem zf_RX7_68 : zFL RX7 68 7 13 := ⟨_, rfl, by decide, zw_962⟩
set_option maxRecDepth 20000 in
theorem zw_1112 : Cond.methodLink RX7 71 yX7_digit ∈ zWU := zwm 1112 (by decide +kernel) (by decide +kernel)
set_option maxRecDepth 20000 in
theorem zw_1114 : Cond.code yX7_digit cX7_digit 5 (some .int) ∈ zWU := zwm 1114 (by decide +kernel) (by decide +kernel)
set_option maxRecDepth 20000 in
theorem zw_1113 : Cond.static yX7_digit ∈ zWU := zwm 1113 (by decide +kernel) (by decide +kernel)
set_option maxRecDepth 20000 in
theorem zk_RX7_71 : zKS RX7 71 yX7_digit cX7_digit 5 (some .int) 3 := ⟨⟨zw_1112, zw_78, zw_1114, by decide +kernel, by decide⟩, zw_1113⟩
set_option maxRecDepth 20000 in
theorem zw_963 : Cond.fieldLink RX7 75 (TX7 14).1 (TX7 14).2.1 (TX7 14).2.2.1 ∈ zWU := zwm 963 (by decide +kernel) (by decide +kernel)
set_option maxRecDepth 20000 in
theorem zf_RX7_75 : zFL RX7 75 7 14 := ⟨_, rfl, by decide, zw_963⟩
set_option maxRecDepth 20000 in
theorem zw_1115 : Cond.methodLink RX7 81 yX7_rests ∈ zWU := zwm 1115 (by decide +kernel) (by decide +kernel)
set_option maxRecDepth 20000 in
theorem zw_1118 : Cond.code yX7_rests cX7_rests 7 none ∈ zWU := zwm 1118 (by decide +kernel) (by decide +kernel)
set_option maxRecDepth 20000 in
theorem zw_1117 : Cond.instanceMethod yX7_rests ∈ zWU := zwm 1117 (by decide +kernel) (by decide +kernel)
set_option maxRecDepth 20000 in
theorem zw_37 : Cond.selects RX7 yX7_rests yX7_rests ∈ zWU := zwm 37 (by decide +kernel) (by decide +kernel)
set_option maxRecDepth 20000 in
theorem zk_RX7_81 : zKV RX7 81 yX7_rests cX7_rests 7 none 7 3 := ⟨⟨zw_1115, zw_78, zw_1118, by decide +kernel, by decide⟩, zw_1117, zw_37, _, rfl, rfl⟩
set_option maxRecDepth 20000 in
theorem zw_1097 : Cond.methodLink RX7 78 yX7_raised ∈ zWU := zwm 1097 (by decide +kernel) (by decide +kernel)
set_option maxRecDepth 20000 in
theorem zw_1099 : Cond.code yX7_raised cX7_raised 4 (some .int) ∈ zWU := zwm 1099 (by decide +kernel) (by decide +kernel)
set_option maxRecDepth 20000 in
theorem zw_1098 : Cond.static yX7_raised ∈ zWU := zwm 1098 (by decide +kernel) (by decide +kernel)
set_option maxRecDepth 20000 in
theorem zk_RX7_78 : zKS RX7 78 yX7_raised cX7_raised 4 (some .int) 2 := ⟨⟨zw_1097, zw_78, zw_1099, by decide +kernel, by decide⟩, zw_1098⟩
set_option maxRecDepth 20000 in
theorem zw_1123 : Cond.methodLink RX7 85 yX7_numberOf ∈ zWU := zwm 1123 (by decide +kernel) (by decide +kernel)
set_option maxRecDepth 20000 in
theorem zw_1126 : Cond.code yX7_numberOf cX7_numberOf 3 (some .int) ∈ zWU := zwm 1126 (by decide +kernel) (by decide +kernel)
set_option maxRecDepth 20000 in
theorem zw_1125 : Cond.instanceMethod yX7_numberOf ∈ zWU := zwm 1125 (by decide +kernel) (by decide +kernel)
set_option maxRecDepth 20000 in
theorem zw_39 : Cond.selects RX7 yX7_numberOf yX7_numberOf ∈ zWU := zwm 39 (by decide +kernel) (by decide +kernel)
set_option maxRecDepth 20000 in
theorem zk_RX7_85 : zKV RX7 85 yX7_numberOf cX7_numberOf 3 (some .int) 7 0 := ⟨⟨zw_1123, zw_78, zw_1126, by decide +kernel, by decide⟩, zw_1125, zw_39, _, rfl, rfl⟩
set_option maxRecDepth 20000 in
theorem zw_965 : Cond.fieldLink RX7 89 (TX7 16).1 (TX7 16).2.1 (TX7 16).2.2.1 ∈ zWU := zwm 965 (by decide +kernel) (by decide +kernel)
set_option maxRecDepth 20000 in
theorem zf_RX7_89 : zFL RX7 89 7 16 := ⟨_, rfl, by decide, zw_965⟩
set_option maxRecDepth 20000 in
theorem zw_964 : Cond.fieldLink RX7 92 (TX7 15).1 (TX7 15).2.1 (TX7 15).2.2.1 ∈ zWU := zwm 964 (by decide +kernel) (by decide +kernel)
set_option maxRecDepth 20000 in
theorem zf_RX7_92 : zFL RX7 92 7 15 := ⟨_, rfl, by decide, zw_964⟩
set_option maxRecDepth 20000 in
theorem zw_1119 : Cond.methodLink RX7 99 yX7_summed ∈ zWU := zwm 1119 (by decide +kernel) (by decide +kernel)
set_option maxRecDepth 20000 in
theorem zw_1122 : Cond.code yX7_summed cX7_summed 4 (some .int) ∈ zWU := zwm 1122 (by decide +kernel) (by decide +kernel)
set_option maxRecDepth 20000 in
theorem zw_1121 : Cond.instanceMethod yX7_summed ∈ zWU := zwm 1121 (by decide +kernel) (by decide +kernel)
set_option maxRecDepth 20000 in
theorem zw_38 : Cond.selects RX7 yX7_summed yX7_summed ∈ zWU := zwm 38 (by decide +kernel) (by decide +kernel)
set_option maxRecDepth 20000 in
theorem zk_RX7_99 : zKV RX7 99 yX7_summed cX7_summed 4 (some .int) 7 2 := ⟨⟨zw_1119, zw_78, zw_1122, by decide +kernel, by decide⟩, zw_1121, zw_38, _, rfl, rfl⟩
set_option maxRecDepth 20000 in
theorem zw_1127 : Cond.methodLink RX7 102 yX7_multiplied ∈ zWU := zwm 1127 (by decide +kernel) (by decide +kernel)
set_option maxRecDepth 20000 in
theorem zw_1130 : Cond.code yX7_multiplied cX7_multiplied 5 (some .int) ∈ zWU := zwm 1130 (by decide +kernel) (by decide +kernel)
set_option maxRecDepth 20000 in
theorem zw_1129 : Cond.instanceMethod yX7_multiplied ∈ zWU := zwm 1129 (by decide +kernel) (by decide +kernel)
set_option maxRecDepth 20000 in
theorem zw_40 : Cond.selects RX7 yX7_multiplied yX7_multiplied ∈ zWU := zwm 40 (by decide +kernel) (by decide +kernel)
set_option maxRecDepth 20000 in
theorem zk_RX7_102 : zKV RX7 102 yX7_multiplied cX7_multiplied 5 (some .int) 7 2 := ⟨⟨zw_1127, zw_78, zw_1130, by decide +kernel, by decide⟩, zw_1129, zw_40, _, rfl, rfl⟩
set_option maxRecDepth 20000 in
theorem zw_1108 : Cond.methodLink RX7 95 yX7_isProduct ∈ zWU := zwm 1108 (by decide +kernel) (by decide +kernel)
set_option maxRecDepth 20000 in
theorem zw_1111 : Cond.code yX7_isProduct cX7_isProduct 6 (some .boolean) ∈ zWU := zwm 1111 (by decide +kernel) (by decide +kernel)
set_option maxRecDepth 20000 in
theorem zw_1110 : Cond.instanceMethod yX7_isProduct ∈ zWU := zwm 1110 (by decide +kernel) (by decide +kernel)
set_option maxRecDepth 20000 in
theorem zw_36 : Cond.selects RX7 yX7_isProduct yX7_isProduct ∈ zWU := zwm 36 (by decide +kernel) (by decide +kernel)
set_option maxRecDepth 20000 in
theorem zk_RX7_95 : zKV RX7 95 yX7_isProduct cX7_isProduct 6 (some .boolean) 7 1 := ⟨⟨zw_1108, zw_78, zw_1111, by decide +kernel, by decide⟩, zw_1110, zw_36, _, rfl, rfl⟩
set_option maxRecDepth 20000 in
theorem zq_7_16 {own nm : String} : zFW own nm 7 16 := ⟨_, rfl, Or.inl rfl⟩
set_option maxRecDepth 20000 in
theorem zq_7_13 {own nm : String} : zFW own nm 7 13 := ⟨_, rfl, Or.inl rfl⟩
set_option maxRecDepth 20000 in
theorem zq_7_14 {own nm : String} : zFW own nm 7 14 := ⟨_, rfl, Or.inl rfl⟩
set_option maxRecDepth 20000 in
theorem zq_7_15 {own nm : String} : zFW own nm 7 15 := ⟨_, rfl, Or.inl rfl⟩
set_option maxRecDepth 20000 in
theorem zw_1171 : Cond.methodLink RX7 105 yX7_apart ∈ zWU := zwm 1171 (by decide +kernel) (by decide +kernel)
set_option maxRecDepth 20000 in
theorem zw_1174 : Cond.code yX7_apart cX7_apart 3 (some .int) ∈ zWU := zwm 1174 (by decide +kernel) (by decide +kernel)
set_option maxRecDepth 20000 in
theorem zw_1173 : Cond.instanceMethod yX7_apart ∈ zWU := zwm 1173 (by decide +kernel) (by decide +kernel)
set_option maxRecDepth 20000 in
theorem zw_50 : Cond.selects RX7 yX7_apart yX7_apart ∈ zWU := zwm 50 (by decide +kernel) (by decide +kernel)
set_option maxRecDepth 20000 in
theorem zk_RX7_105 : zKV RX7 105 yX7_apart cX7_apart 3 (some .int) 7 2 := ⟨⟨zw_1171, zw_78, zw_1174, by decide +kernel, by decide⟩, zw_1173, zw_50, _, rfl, rfl⟩
set_option maxRecDepth 20000 in
theorem zw_952 : Cond.fieldLink RX7 108 (TX7 3).1 (TX7 3).2.1 (TX7 3).2.2.1 ∈ zWU := zwm 952 (by decide +kernel) (by decide +kernel)
set_option maxRecDepth 20000 in
theorem zf_RX7_108 : zFL RX7 108 7 3 := ⟨_, rfl, by decide, zw_952⟩
set_option maxRecDepth 20000 in
theorem zw_953 : Cond.fieldLink RX7 111 (TX7 4).1 (TX7 4).2.1 (TX7 4).2.2.1 ∈ zWU := zwm 953 (by decide +kernel) (by decide +kernel)
set_option maxRecDepth 20000 in
theorem zf_RX7_111 : zFL RX7 111 7 4 := ⟨_, rfl, by decide, zw_953⟩
set_option maxRecDepth 20000 in
theorem zw_1070 : Cond.methodLink RX7 114 yX7_byteAt ∈ zWU := zwm 1070 (by decide +kernel) (by decide +kernel)
set_option maxRecDepth 20000 in
theorem zw_1073 : Cond.code yX7_byteAt cX7_byteAt 2 (some .int) ∈ zWU := zwm 1073 (by decide +kernel) (by decide +kernel)
set_option maxRecDepth 20000 in
theorem zw_1072 : Cond.instanceMethod yX7_byteAt ∈ zWU := zwm 1072 (by decide +kernel) (by decide +kernel)
set_option maxRecDepth 20000 in
theorem zw_31 : Cond.selects RX7 yX7_byteAt yX7_byteAt ∈ zWU := zwm 31 (by decide +kernel) (by decide +kernel)
set_option maxRecDepth 20000 in
theorem zk_RX7_114 : zKV RX7 114 yX7_byteAt cX7_byteAt 2 (some .int) 7 1 := ⟨⟨zw_1070, zw_78, zw_1073, by decide +kernel, by decide⟩, zw_1072, zw_31, _, rfl, rfl⟩
set_option maxRecDepth 20000 in
theorem zq_7_4 {own nm : String} : zFW own nm 7 4 := ⟨_, rfl, Or.inl rfl⟩
set_option maxRecDepth 20000 in
theorem zw_955 : Cond.fieldLink RX7 118 (TX7 6).1 (TX7 6).2.1 (TX7 6).2.2.1 ∈ zWU := zwm 955 (by decide +kernel) (by decide +kernel)
set_option maxRecDepth 20000 in
theorem zf_RX7_118 : zFL RX7 118 7 6 := ⟨_, rfl, by decide, zw_955⟩
set_option maxRecDepth 20000 in
theorem zq_7_6 {own nm : String} : zFW own nm 7 6 := ⟨_, rfl, Or.inl rfl⟩
set_option maxRecDepth 20000 in
theorem zw_956 : Cond.fieldLink RX7 121 (TX7 7).1 (TX7 7).2.1 (TX7 7).2.2.1 ∈ zWU := zwm 956 (by decide +kernel) (by decide +kernel)
set_option maxRecDepth 20000 in
theorem zf_RX7_121 : zFL RX7 121 7 7 := ⟨_, rfl, by decide, zw_956⟩
set_option maxRecDepth 20000 in
theorem zq_7_7 {own nm : String} : zFW own nm 7 7 := ⟨_, rfl, Or.inl rfl⟩
set_option maxRecDepth 20000 in
theorem zw_1074 : Cond.methodLink RX7 131 yJ0_length_8abf5 ∈ zWU := zwm 1074 (by decide +kernel) (by decide +kernel)
set_option maxRecDepth 20000 in
theorem zks_RX7_131 : zKVs RX7 131 yJ0_length_8abf5 cJ0_length_8abf5 1 (some .int) 0 := ⟨⟨zw_1074, zw_84, zw_534, by decide +kernel, by decide⟩, zw_532, zw_533⟩
set_option maxRecDepth 20000 in
theorem zw_1076 : Cond.methodLink RX7 140 yX7_isSmall ∈ zWU := zwm 1076 (by decide +kernel) (by decide +kernel)
set_option maxRecDepth 20000 in
theorem zw_1078 : Cond.code yX7_isSmall cX7_isSmall 1 (some .boolean) ∈ zWU := zwm 1078 (by decide +kernel) (by decide +kernel)
set_option maxRecDepth 20000 in
theorem zw_1077 : Cond.static yX7_isSmall ∈ zWU := zwm 1077 (by decide +kernel) (by decide +kernel)
set_option maxRecDepth 20000 in
theorem zk_RX7_140 : zKS RX7 140 yX7_isSmall cX7_isSmall 1 (some .boolean) 1 := ⟨⟨zw_1076, zw_78, zw_1078, by decide +kernel, by decide⟩, zw_1077⟩
set_option maxRecDepth 20000 in
theorem zw_1075 : Cond.methodLink RX7 136 yJ0_charAt_5068e ∈ zWU := zwm 1075 (by decide +kernel) (by decide +kernel)
set_option maxRecDepth 20000 in
theorem zks_RX7_136 : zKVs RX7 136 yJ0_charAt_5068e cJ0_charAt_5068e 2 (some .char) 1 := ⟨⟨zw_1075, zw_84, zw_544, by decide +kernel, by decide⟩, zw_542, zw_543⟩
set_option maxRecDepth 20000 in
theorem zw_1062 : Cond.methodLink RX7 124 yX7_fine ∈ zWU := zwm 1062 (by decide +kernel) (by decide +kernel)
set_option maxRecDepth 20000 in
theorem zw_1065 : Cond.code yX7_fine cX7_fine 1 (some .boolean) ∈ zWU := zwm 1065 (by decide +kernel) (by decide +kernel)
set_option maxRecDepth 20000 in
theorem zw_1064 : Cond.instanceMethod yX7_fine ∈ zWU := zwm 1064 (by decide +kernel) (by decide +kernel)
set_option maxRecDepth 20000 in
theorem zw_29 : Cond.selects RX7 yX7_fine yX7_fine ∈ zWU := zwm 29 (by decide +kernel) (by decide +kernel)
set_option maxRecDepth 20000 in
theorem zk_RX7_124 : zKV RX7 124 yX7_fine cX7_fine 1 (some .boolean) 7 0 := ⟨⟨zw_1062, zw_78, zw_1065, by decide +kernel, by decide⟩, zw_1064, zw_29, _, rfl, rfl⟩
set_option maxRecDepth 20000 in
theorem zw_1066 : Cond.methodLink RX7 128 yX7_here ∈ zWU := zwm 1066 (by decide +kernel) (by decide +kernel)
set_option maxRecDepth 20000 in
theorem zw_1069 : Cond.code yX7_here cX7_here 1 (some .int) ∈ zWU := zwm 1069 (by decide +kernel) (by decide +kernel)
set_option maxRecDepth 20000 in
theorem zw_1068 : Cond.instanceMethod yX7_here ∈ zWU := zwm 1068 (by decide +kernel) (by decide +kernel)
set_option maxRecDepth 20000 in
theorem zw_30 : Cond.selects RX7 yX7_here yX7_here ∈ zWU := zwm 30 (by decide +kernel) (by decide +kernel)
set_option maxRecDepth 20000 in
theorem zk_RX7_128 : zKV RX7 128 yX7_here cX7_here 1 (some .int) 7 0 := ⟨⟨zw_1066, zw_78, zw_1069, by decide +kernel, by decide⟩, zw_1068, zw_30, _, rfl, rfl⟩
set_option maxRecDepth 20000 in
theorem zw_1079 : Cond.methodLink RX7 143 yX7_wrong ∈ zWU := zwm 1079 (by decide +kernel) (by decide +kernel)
set_option maxRecDepth 20000 in
theorem zw_1082 : Cond.code yX7_wrong cX7_wrong 3 none ∈ zWU := zwm 1082 (by decide +kernel) (by decide +kernel)
set_option maxRecDepth 20000 in
theorem zw_1081 : Cond.instanceMethod yX7_wrong ∈ zWU := zwm 1081 (by decide +kernel) (by decide +kernel)
set_option maxRecDepth 20000 in
theorem zw_32 : Cond.selects RX7 yX7_wrong yX7_wrong ∈ zWU := zwm 32 (by decide +kernel) (by decide +kernel)
set_option maxRecDepth 20000 in
theorem zk_RX7_143 : zKV RX7 143 yX7_wrong cX7_wrong 3 none 7 2 := ⟨⟨zw_1079, zw_78, zw_1082, by decide +kernel, by decide⟩, zw_1081, zw_32, _, rfl, rfl⟩
set_option maxRecDepth 20000 in
theorem zw_1087 : Cond.methodLink RX7 147 yX7_isDigit ∈ zWU := zwm 1087 (by decide +kernel) (by decide +kernel)
set_option maxRecDepth 20000 in
theorem zw_1089 : Cond.code yX7_isDigit cX7_isDigit 1 (some .boolean) ∈ zWU := zwm 1089 (by decide +kernel) (by decide +kernel)
set_option maxRecDepth 20000 in
theorem zw_1088 : Cond.static yX7_isDigit ∈ zWU := zwm 1088 (by decide +kernel) (by decide +kernel)
set_option maxRecDepth 20000 in
theorem zk_RX7_147 : zKS RX7 147 yX7_isDigit cX7_isDigit 1 (some .boolean) 1 := ⟨⟨zw_1087, zw_78, zw_1089, by decide +kernel, by decide⟩, zw_1088⟩
set_option maxRecDepth 20000 in
theorem zw_1046 : Cond.methodLink RX7 154 yX7_in ∈ zWU := zwm 1046 (by decide +kernel) (by decide +kernel)
set_option maxRecDepth 20000 in
theorem zw_1048 : Cond.code yX7_in cX7_in 6 (some .boolean) ∈ zWU := zwm 1048 (by decide +kernel) (by decide +kernel)
set_option maxRecDepth 20000 in
theorem zw_1047 : Cond.static yX7_in ∈ zWU := zwm 1047 (by decide +kernel) (by decide +kernel)
set_option maxRecDepth 20000 in
theorem zk_RX7_154 : zKS RX7 154 yX7_in cX7_in 6 (some .boolean) 3 := ⟨⟨zw_1046, zw_78, zw_1048, by decide +kernel, by decide⟩, zw_1047⟩
set_option maxRecDepth 20000 in
theorem zw_971 : Cond.fieldLink RX7 150 (TX7 22).1 (TX7 22).2.1 (TX7 22).2.2.1 ∈ zWU := zwm 971 (by decide +kernel) (by decide +kernel)
set_option maxRecDepth 20000 in
theorem zf_RX7_150 : zFL RX7 150 7 22 := ⟨_, rfl, by decide, zw_971⟩
set_option maxRecDepth 20000 in
theorem zw_1090 : Cond.constant RX7 153 100000 ∈ zWU := zwm 1090 (by decide +kernel) (by decide +kernel)
set_option maxRecDepth 20000 in
theorem zq_7_22 {own nm : String} : zFW own nm 7 22 := ⟨_, rfl, Or.inl rfl⟩
set_option maxRecDepth 20000 in
theorem zw_1100 : Cond.methodLink RX7 161 yX7_must ∈ zWU := zwm 1100 (by decide +kernel) (by decide +kernel)
set_option maxRecDepth 20000 in
theorem zw_1103 : Cond.code yX7_must cX7_must 2 none ∈ zWU := zwm 1103 (by decide +kernel) (by decide +kernel)
set_option maxRecDepth 20000 in
theorem zw_1102 : Cond.instanceMethod yX7_must ∈ zWU := zwm 1102 (by decide +kernel) (by decide +kernel)
set_option maxRecDepth 20000 in
theorem zw_34 : Cond.selects RX7 yX7_must yX7_must ∈ zWU := zwm 34 (by decide +kernel) (by decide +kernel)
set_option maxRecDepth 20000 in
theorem zk_RX7_161 : zKV RX7 161 yX7_must cX7_must 2 none 7 1 := ⟨⟨zw_1100, zw_78, zw_1103, by decide +kernel, by decide⟩, zw_1102, zw_34, _, rfl, rfl⟩
set_option maxRecDepth 20000 in
theorem zw_972 : Cond.fieldLink RX7 158 (TX7 23).1 (TX7 23).2.1 (TX7 23).2.2.1 ∈ zWU := zwm 972 (by decide +kernel) (by decide +kernel)
set_option maxRecDepth 20000 in
theorem zf_RX7_158 : zFL RX7 158 7 23 := ⟨_, rfl, by decide, zw_972⟩
set_option maxRecDepth 20000 in
theorem zq_7_23 {own nm : String} : zFW own nm 7 23 := ⟨_, rfl, Or.inl rfl⟩
set_option maxRecDepth 20000 in
theorem zw_1167 : Cond.methodLink RX7 192 yX7_dickson ∈ zWU := zwm 1167 (by decide +kernel) (by decide +kernel)
set_option maxRecDepth 20000 in
theorem zw_1170 : Cond.code yX7_dickson cX7_dickson 8 (some .int) ∈ zWU := zwm 1170 (by decide +kernel) (by decide +kernel)
set_option maxRecDepth 20000 in
theorem zw_1169 : Cond.instanceMethod yX7_dickson ∈ zWU := zwm 1169 (by decide +kernel) (by decide +kernel)
set_option maxRecDepth 20000 in
theorem zw_49 : Cond.selects RX7 yX7_dickson yX7_dickson ∈ zWU := zwm 49 (by decide +kernel) (by decide +kernel)
set_option maxRecDepth 20000 in
theorem zk_RX7_192 : zKV RX7 192 yX7_dickson cX7_dickson 8 (some .int) 7 3 := ⟨⟨zw_1167, zw_78, zw_1170, by decide +kernel, by decide⟩, zw_1169, zw_49, _, rfl, rfl⟩
set_option maxRecDepth 20000 in
theorem zw_1152 : Cond.methodLink RX7 165 yX7_row ∈ zWU := zwm 1152 (by decide +kernel) (by decide +kernel)
set_option maxRecDepth 20000 in
theorem zw_1155 : Cond.code yX7_row cX7_row 4 (some (.array .int)) ∈ zWU := zwm 1155 (by decide +kernel) (by decide +kernel)
set_option maxRecDepth 20000 in
theorem zw_1154 : Cond.instanceMethod yX7_row ∈ zWU := zwm 1154 (by decide +kernel) (by decide +kernel)
set_option maxRecDepth 20000 in
theorem zw_46 : Cond.selects RX7 yX7_row yX7_row ∈ zWU := zwm 46 (by decide +kernel) (by decide +kernel)
set_option maxRecDepth 20000 in
theorem zk_RX7_165 : zKV RX7 165 yX7_row cX7_row 4 (some (.array .int)) 7 1 := ⟨⟨zw_1152, zw_78, zw_1155, by decide +kernel, by decide⟩, zw_1154, zw_46, _, rfl, rfl⟩
set_option maxRecDepth 20000 in
theorem zs_RX7_172 : (RX7, 172, "x", 0) ∈ zstr := by decide +kernel
set_option maxRecDepth 20000 in
theorem zw_1058 : Cond.methodLink RX7 174 yX7_takes ∈ zWU := zwm 1058 (by decide +kernel) (by decide +kernel)
set_option maxRecDepth 20000 in
theorem zw_1061 : Cond.code yX7_takes cX7_takes 3 (some .boolean) ∈ zWU := zwm 1061 (by decide +kernel) (by decide +kernel)
set_option maxRecDepth 20000 in
theorem zw_1060 : Cond.instanceMethod yX7_takes ∈ zWU := zwm 1060 (by decide +kernel) (by decide +kernel)
set_option maxRecDepth 20000 in
theorem zw_28 : Cond.selects RX7 yX7_takes yX7_takes ∈ zWU := zwm 28 (by decide +kernel) (by decide +kernel)
set_option maxRecDepth 20000 in
theorem zk_RX7_174 : zKV RX7 174 yX7_takes cX7_takes 3 (some .boolean) 7 1 := ⟨⟨zw_1058, zw_78, zw_1061, by decide +kernel, by decide⟩, zw_1060, zw_28, _, rfl, rfl⟩
set_option maxRecDepth 20000 in
theorem zw_1157 : Cond.methodLink RX7 178 yX7_opens ∈ zWU := zwm 1157 (by decide +kernel) (by decide +kernel)
set_option maxRecDepth 20000 in
theorem zw_1160 : Cond.code yX7_opens cX7_opens 1 none ∈ zWU := zwm 1160 (by decide +kernel) (by decide +kernel)
set_option maxRecDepth 20000 in
theorem zw_1159 : Cond.instanceMethod yX7_opens ∈ zWU := zwm 1159 (by decide +kernel) (by decide +kernel)
set_option maxRecDepth 20000 in
theorem zw_47 : Cond.selects RX7 yX7_opens yX7_opens ∈ zWU := zwm 47 (by decide +kernel) (by decide +kernel)
set_option maxRecDepth 20000 in
theorem zk_RX7_178 : zKV RX7 178 yX7_opens cX7_opens 1 none 7 0 := ⟨⟨zw_1157, zw_78, zw_1160, by decide +kernel, by decide⟩, zw_1159, zw_47, _, rfl, rfl⟩
set_option maxRecDepth 20000 in
theorem zw_1136 : Cond.methodLink RX7 181 yX7_sum ∈ zWU := zwm 1136 (by decide +kernel) (by decide +kernel)
set_option maxRecDepth 20000 in
theorem zw_1139 : Cond.code yX7_sum cX7_sum 5 (some (.array .int)) ∈ zWU := zwm 1139 (by decide +kernel) (by decide +kernel)
set_option maxRecDepth 20000 in
theorem zw_1138 : Cond.instanceMethod yX7_sum ∈ zWU := zwm 1138 (by decide +kernel) (by decide +kernel)
set_option maxRecDepth 20000 in
theorem zw_42 : Cond.selects RX7 yX7_sum yX7_sum ∈ zWU := zwm 42 (by decide +kernel) (by decide +kernel)
set_option maxRecDepth 20000 in
theorem zk_RX7_181 : zKV RX7 181 yX7_sum cX7_sum 5 (some (.array .int)) 7 0 := ⟨⟨zw_1136, zw_78, zw_1139, by decide +kernel, by decide⟩, zw_1138, zw_42, _, rfl, rfl⟩
set_option maxRecDepth 20000 in
theorem zw_1161 : Cond.methodLink RX7 185 yX7_closes ∈ zWU := zwm 1161 (by decide +kernel) (by decide +kernel)
set_option maxRecDepth 20000 in
theorem zw_1164 : Cond.code yX7_closes cX7_closes 1 none ∈ zWU := zwm 1164 (by decide +kernel) (by decide +kernel)
set_option maxRecDepth 20000 in
theorem zw_1163 : Cond.instanceMethod yX7_closes ∈ zWU := zwm 1163 (by decide +kernel) (by decide +kernel)
set_option maxRecDepth 20000 in
theorem zw_48 : Cond.selects RX7 yX7_closes yX7_closes ∈ zWU := zwm 48 (by decide +kernel) (by decide +kernel)
set_option maxRecDepth 20000 in
theorem zk_RX7_185 : zKV RX7 185 yX7_closes cX7_closes 1 none 7 0 := ⟨⟨zw_1161, zw_78, zw_1164, by decide +kernel, by decide⟩, zw_1163, zw_48, _, rfl, rfl⟩
set_option maxRecDepth 20000 in
theorem zs_RX7_188 : (RX7, 188, "f", 1) ∈ zstr := by decide +kernel
set_option maxRecDepth 20000 in
theorem zs_RX7_190 : (RX7, 190, "dickson", 4) ∈ zstr := by decide +kernel
set_option maxRecDepth 20000 in
theorem zw_1083 : Cond.methodLink RX7 169 yX7_number ∈ zWU := zwm 1083 (by decide +kernel) (by decide +kernel)
set_option maxRecDepth 20000 in
theorem zw_1086 : Cond.code yX7_number cX7_number 4 (some .int) ∈ zWU := zwm 1086 (by decide +kernel) (by decide +kernel)
set_option maxRecDepth 20000 in
theorem zw_1085 : Cond.instanceMethod yX7_number ∈ zWU := zwm 1085 (by decide +kernel) (by decide +kernel)
set_option maxRecDepth 20000 in
theorem zw_33 : Cond.selects RX7 yX7_number yX7_number ∈ zWU := zwm 33 (by decide +kernel) (by decide +kernel)
set_option maxRecDepth 20000 in
theorem zk_RX7_169 : zKV RX7 169 yX7_number cX7_number 4 (some .int) 7 2 := ⟨⟨zw_1083, zw_78, zw_1086, by decide +kernel, by decide⟩, zw_1085, zw_33, _, rfl, rfl⟩
set_option maxRecDepth 20000 in
theorem zw_1175 : Cond.methodLink RX7 197 yX7_raisedPoint ∈ zWU := zwm 1175 (by decide +kernel) (by decide +kernel)
set_option maxRecDepth 20000 in
theorem zw_1178 : Cond.code yX7_raisedPoint cX7_raisedPoint 6 (some .int) ∈ zWU := zwm 1178 (by decide +kernel) (by decide +kernel)
set_option maxRecDepth 20000 in
theorem zw_1177 : Cond.instanceMethod yX7_raisedPoint ∈ zWU := zwm 1177 (by decide +kernel) (by decide +kernel)
set_option maxRecDepth 20000 in
theorem zw_51 : Cond.selects RX7 yX7_raisedPoint yX7_raisedPoint ∈ zWU := zwm 51 (by decide +kernel) (by decide +kernel)
set_option maxRecDepth 20000 in
theorem zk_RX7_197 : zKV RX7 197 yX7_raisedPoint cX7_raisedPoint 6 (some .int) 7 2 := ⟨⟨zw_1175, zw_78, zw_1178, by decide +kernel, by decide⟩, zw_1177, zw_51, _, rfl, rfl⟩
set_option maxRecDepth 20000 in
theorem zw_1148 : Cond.methodLink RX7 194 yX7_part ∈ zWU := zwm 1148 (by decide +kernel) (by decide +kernel)
set_option maxRecDepth 20000 in
theorem zw_1151 : Cond.code yX7_part cX7_part 5 (some (.array .int)) ∈ zWU := zwm 1151 (by decide +kernel) (by decide +kernel)
set_option maxRecDepth 20000 in
theorem zw_1150 : Cond.instanceMethod yX7_part ∈ zWU := zwm 1150 (by decide +kernel) (by decide +kernel)
set_option maxRecDepth 20000 in
theorem zw_45 : Cond.selects RX7 yX7_part yX7_part ∈ zWU := zwm 45 (by decide +kernel) (by decide +kernel)
set_option maxRecDepth 20000 in
theorem zk_RX7_194 : zKV RX7 194 yX7_part cX7_part 5 (some (.array .int)) 7 0 := ⟨⟨zw_1148, zw_78, zw_1151, by decide +kernel, by decide⟩, zw_1150, zw_45, _, rfl, rfl⟩
set_option maxRecDepth 20000 in
theorem zw_1144 : Cond.methodLink RX7 200 yX7_unit ∈ zWU := zwm 1144 (by decide +kernel) (by decide +kernel)
set_option maxRecDepth 20000 in
theorem zw_1147 : Cond.code yX7_unit cX7_unit 4 (some (.array .int)) ∈ zWU := zwm 1147 (by decide +kernel) (by decide +kernel)
set_option maxRecDepth 20000 in
theorem zw_1146 : Cond.instanceMethod yX7_unit ∈ zWU := zwm 1146 (by decide +kernel) (by decide +kernel)
set_option maxRecDepth 20000 in
theorem zw_44 : Cond.selects RX7 yX7_unit yX7_unit ∈ zWU := zwm 44 (by decide +kernel) (by decide +kernel)
set_option maxRecDepth 20000 in
theorem zk_RX7_200 : zKV RX7 200 yX7_unit cX7_unit 4 (some (.array .int)) 7 0 := ⟨⟨zw_1144, zw_78, zw_1147, by decide +kernel, by decide⟩, zw_1146, zw_44, _, rfl, rfl⟩
set_option maxRecDepth 20000 in
theorem zw_1140 : Cond.methodLink RX7 203 yX7_product ∈ zWU := zwm 1140 (by decide +kernel) (by decide +kernel)
set_option maxRecDepth 20000 in
theorem zw_1143 : Cond.code yX7_product cX7_product 4 (some (.array .int)) ∈ zWU := zwm 1143 (by decide +kernel) (by decide +kernel)
set_option maxRecDepth 20000 in
theorem zw_1142 : Cond.instanceMethod yX7_product ∈ zWU := zwm 1142 (by decide +kernel) (by decide +kernel)
set_option maxRecDepth 20000 in
theorem zw_43 : Cond.selects RX7 yX7_product yX7_product ∈ zWU := zwm 43 (by decide +kernel) (by decide +kernel)
set_option maxRecDepth 20000 in
theorem zk_RX7_203 : zKV RX7 203 yX7_product cX7_product 4 (some (.array .int)) 7 0 := ⟨⟨zw_1140, zw_78, zw_1143, by decide +kernel, by decide⟩, zw_1142, zw_43, _, rfl, rfl⟩
set_option maxRecDepth 20000 in
theorem zw_1104 : Cond.methodLink RX7 211 yX7_lays ∈ zWU := zwm 1104 (by decide +kernel) (by decide +kernel)
set_option maxRecDepth 20000 in
theorem zw_1107 : Cond.code yX7_lays cX7_lays 4 none ∈ zWU := zwm 1107 (by decide +kernel) (by decide +kernel)
set_option maxRecDepth 20000 in
theorem zw_1106 : Cond.instanceMethod yX7_lays ∈ zWU := zwm 1106 (by decide +kernel) (by decide +kernel)
set_option maxRecDepth 20000 in
theorem zw_35 : Cond.selects RX7 yX7_lays yX7_lays ∈ zWU := zwm 35 (by decide +kernel) (by decide +kernel)
set_option maxRecDepth 20000 in
theorem zk_RX7_211 : zKV RX7 211 yX7_lays cX7_lays 4 none 7 1 := ⟨⟨zw_1104, zw_78, zw_1107, by decide +kernel, by decide⟩, zw_1106, zw_35, _, rfl, rfl⟩
set_option maxRecDepth 20000 in
theorem zw_1094 : Cond.methodLink RX7 208 yX7_isPrime ∈ zWU := zwm 1094 (by decide +kernel) (by decide +kernel)
set_option maxRecDepth 20000 in
theorem zw_1096 : Cond.code yX7_isPrime cX7_isPrime 2 (some .boolean) ∈ zWU := zwm 1096 (by decide +kernel) (by decide +kernel)
set_option maxRecDepth 20000 in
theorem zw_1095 : Cond.static yX7_isPrime ∈ zWU := zwm 1095 (by decide +kernel) (by decide +kernel)
set_option maxRecDepth 20000 in
theorem zk_RX7_208 : zKS RX7 208 yX7_isPrime cX7_isPrime 2 (some .boolean) 1 := ⟨⟨zw_1094, zw_78, zw_1096, by decide +kernel, by decide⟩, zw_1095⟩
set_option maxRecDepth 20000 in
theorem zs_RX7_206 : (RX7, 206, "field", 3) ∈ zstr := by decide +kernel
set_option maxRecDepth 20000 in
theorem zw_961 : Cond.fieldLink RX7 234 (TX7 12).1 (TX7 12).2.1 (TX7 12).2.2.1 ∈ zWU := zwm 961 (by decide +kernel) (by decide +kernel)
set_option maxRecDepth 20000 in
theorem zf_RX7_234 : zFL RX7 234 7 12 := ⟨_, rfl, by decide, zw_961⟩
set_option maxRecDepth 20000 in
theorem zw_1183 : Cond.methodLink RX7 230 yX7_copies ∈ zWU := zwm 1183 (by decide +kernel) (by decide +kernel)
set_option maxRecDepth 20000 in
theorem zw_1185 : Cond.code yX7_copies cX7_copies 3 none ∈ zWU := zwm 1185 (by decide +kernel) (by decide +kernel)
set_option maxRecDepth 20000 in
theorem zw_1184 : Cond.static yX7_copies ∈ zWU := zwm 1184 (by decide +kernel) (by decide +kernel)
set_option maxRecDepth 20000 in
theorem zk_RX7_230 : zKS RX7 230 yX7_copies cX7_copies 3 none 2 := ⟨⟨zw_1183, zw_78, zw_1185, by decide +kernel, by decide⟩, zw_1184⟩
set_option maxRecDepth 20000 in
theorem zq_7_12 {own nm : String} : zFW own nm 7 12 := ⟨_, rfl, Or.inl rfl⟩
set_option maxRecDepth 20000 in
theorem zw_1179 : Cond.methodLink RX7 227 yX7_remembers ∈ zWU := zwm 1179 (by decide +kernel) (by decide +kernel)
set_option maxRecDepth 20000 in
theorem zw_1182 : Cond.code yX7_remembers cX7_remembers 2 none ∈ zWU := zwm 1182 (by decide +kernel) (by decide +kernel)
set_option maxRecDepth 20000 in
theorem zw_1181 : Cond.instanceMethod yX7_remembers ∈ zWU := zwm 1181 (by decide +kernel) (by decide +kernel)
set_option maxRecDepth 20000 in
theorem zw_52 : Cond.selects RX7 yX7_remembers yX7_remembers ∈ zWU := zwm 52 (by decide +kernel) (by decide +kernel)
set_option maxRecDepth 20000 in
theorem zk_RX7_227 : zKV RX7 227 yX7_remembers cX7_remembers 2 none 7 0 := ⟨⟨zw_1179, zw_78, zw_1182, by decide +kernel, by decide⟩, zw_1181, zw_52, _, rfl, rfl⟩
set_option maxRecDepth 20000 in
theorem zs_RX7_222 : (RX7, 222, "poly", 2) ∈ zstr := by decide +kernel
set_option maxRecDepth 20000 in
theorem zw_1132 : Cond.methodLink RX7 224 yX7_readsPoly ∈ zWU := zwm 1132 (by decide +kernel) (by decide +kernel)
set_option maxRecDepth 20000 in
theorem zw_1135 : Cond.code yX7_readsPoly cX7_readsPoly 4 none ∈ zWU := zwm 1135 (by decide +kernel) (by decide +kernel)
set_option maxRecDepth 20000 in
theorem zw_1134 : Cond.instanceMethod yX7_readsPoly ∈ zWU := zwm 1134 (by decide +kernel) (by decide +kernel)
set_option maxRecDepth 20000 in
theorem zw_41 : Cond.selects RX7 yX7_readsPoly yX7_readsPoly ∈ zWU := zwm 41 (by decide +kernel) (by decide +kernel)
set_option maxRecDepth 20000 in
theorem zk_RX7_224 : zKV RX7 224 yX7_readsPoly cX7_readsPoly 4 none 7 1 := ⟨⟨zw_1132, zw_78, zw_1135, by decide +kernel, by decide⟩, zw_1134, zw_41, _, rfl, rfl⟩
set_option maxRecDepth 20000 in
theorem zw_1053 : Cond.methodLink RX7 219 yX7_readsField ∈ zWU := zwm 1053 (by decide +kernel) (by decide +kernel)
set_option maxRecDepth 20000 in
theorem zw_1056 : Cond.code yX7_readsField cX7_readsField 3 none ∈ zWU := zwm 1056 (by decide +kernel) (by decide +kernel)
set_option maxRecDepth 20000 in
theorem zw_1055 : Cond.instanceMethod yX7_readsField ∈ zWU := zwm 1055 (by decide +kernel) (by decide +kernel)
set_option maxRecDepth 20000 in
theorem zw_27 : Cond.selects RX7 yX7_readsField yX7_readsField ∈ zWU := zwm 27 (by decide +kernel) (by decide +kernel)
set_option maxRecDepth 20000 in
theorem zk_RX7_219 : zKV RX7 219 yX7_readsField cX7_readsField 3 none 7 0 := ⟨⟨zw_1053, zw_78, zw_1056, by decide +kernel, by decide⟩, zw_1055, zw_27, _, rfl, rfl⟩
set_option maxRecDepth 20000 in
theorem zw_1049 : Cond.methodLink RX7 215 yX7_bad ∈ zWU := zwm 1049 (by decide +kernel) (by decide +kernel)
set_option maxRecDepth 20000 in
theorem zw_1052 : Cond.code yX7_bad cX7_bad 4 (some .boolean) ∈ zWU := zwm 1052 (by decide +kernel) (by decide +kernel)
set_option maxRecDepth 20000 in
theorem zw_1051 : Cond.instanceMethod yX7_bad ∈ zWU := zwm 1051 (by decide +kernel) (by decide +kernel)
set_option maxRecDepth 20000 in
theorem zw_26 : Cond.selects RX7 yX7_bad yX7_bad ∈ zWU := zwm 26 (by decide +kernel) (by decide +kernel)
set_option maxRecDepth 20000 in
theorem zk_RX7_215 : zKV RX7 215 yX7_bad cX7_bad 4 (some .boolean) 7 3 := ⟨⟨zw_1049, zw_78, zw_1052, by decide +kernel, by decide⟩, zw_1051, zw_26, _, rfl, rfl⟩
set_option maxRecDepth 20000 in
theorem zq_7_3 {own nm : String} : zFW own nm 7 3 := ⟨_, rfl, Or.inl rfl⟩
set_option maxRecDepth 20000 in
theorem zw_1210 : Cond.methodLink RX7 237 yX7_of ∈ zWU := zwm 1210 (by decide +kernel) (by decide +kernel)
set_option maxRecDepth 20000 in
theorem zw_1213 : Cond.code yX7_of cX7_of 3 (some .int) ∈ zWU := zwm 1213 (by decide +kernel) (by decide +kernel)
set_option maxRecDepth 20000 in
theorem zw_1212 : Cond.instanceMethod yX7_of ∈ zWU := zwm 1212 (by decide +kernel) (by decide +kernel)
set_option maxRecDepth 20000 in
theorem zw_56 : Cond.selects RX7 yX7_of yX7_of ∈ zWU := zwm 56 (by decide +kernel) (by decide +kernel)
set_option maxRecDepth 20000 in
theorem zk_RX7_237 : zKV RX7 237 yX7_of cX7_of 3 (some .int) 7 2 := ⟨⟨zw_1210, zw_78, zw_1213, by decide +kernel, by decide⟩, zw_1212, zw_56, _, rfl, rfl⟩
set_option maxRecDepth 20000 in
theorem zw_1198 : Cond.methodLink RX7 240 yX7_begins ∈ zWU := zwm 1198 (by decide +kernel) (by decide +kernel)
set_option maxRecDepth 20000 in
theorem zw_1201 : Cond.code yX7_begins cX7_begins 1 none ∈ zWU := zwm 1201 (by decide +kernel) (by decide +kernel)
set_option maxRecDepth 20000 in
theorem zw_1200 : Cond.instanceMethod yX7_begins ∈ zWU := zwm 1200 (by decide +kernel) (by decide +kernel)
set_option maxRecDepth 20000 in
theorem zw_53 : Cond.selects RX7 yX7_begins yX7_begins ∈ zWU := zwm 53 (by decide +kernel) (by decide +kernel)
set_option maxRecDepth 20000 in
theorem zk_RX7_240 : zKV RX7 240 yX7_begins cX7_begins 1 none 7 0 := ⟨⟨zw_1198, zw_78, zw_1201, by decide +kernel, by decide⟩, zw_1200, zw_53, _, rfl, rfl⟩
set_option maxRecDepth 20000 in
theorem zw_1202 : Cond.methodLink RX7 243 yX7_isPoly ∈ zWU := zwm 1202 (by decide +kernel) (by decide +kernel)
set_option maxRecDepth 20000 in
theorem zw_1205 : Cond.code yX7_isPoly cX7_isPoly 2 (some .boolean) ∈ zWU := zwm 1205 (by decide +kernel) (by decide +kernel)
set_option maxRecDepth 20000 in
theorem zw_1204 : Cond.instanceMethod yX7_isPoly ∈ zWU := zwm 1204 (by decide +kernel) (by decide +kernel)
set_option maxRecDepth 20000 in
theorem zw_54 : Cond.selects RX7 yX7_isPoly yX7_isPoly ∈ zWU := zwm 54 (by decide +kernel) (by decide +kernel)
set_option maxRecDepth 20000 in
theorem zk_RX7_243 : zKV RX7 243 yX7_isPoly cX7_isPoly 2 (some .boolean) 7 1 := ⟨⟨zw_1202, zw_78, zw_1205, by decide +kernel, by decide⟩, zw_1204, zw_54, _, rfl, rfl⟩
set_option maxRecDepth 20000 in
theorem zw_1206 : Cond.methodLink RX7 246 yX7_isPoint ∈ zWU := zwm 1206 (by decide +kernel) (by decide +kernel)
set_option maxRecDepth 20000 in
theorem zw_1209 : Cond.code yX7_isPoint cX7_isPoint 2 (some .boolean) ∈ zWU := zwm 1209 (by decide +kernel) (by decide +kernel)
set_option maxRecDepth 20000 in
theorem zw_1208 : Cond.instanceMethod yX7_isPoint ∈ zWU := zwm 1208 (by decide +kernel) (by decide +kernel)
set_option maxRecDepth 20000 in
theorem zw_55 : Cond.selects RX7 yX7_isPoint yX7_isPoint ∈ zWU := zwm 55 (by decide +kernel) (by decide +kernel)
set_option maxRecDepth 20000 in
theorem zk_RX7_246 : zKV RX7 246 yX7_isPoint cX7_isPoint 2 (some .boolean) 7 1 := ⟨⟨zw_1206, zw_78, zw_1209, by decide +kernel, by decide⟩, zw_1208, zw_55, _, rfl, rfl⟩
set_option maxRecDepth 20000 in
theorem zw_1222 : Cond.methodLink RX7 252 yX7_comes ∈ zWU := zwm 1222 (by decide +kernel) (by decide +kernel)
set_option maxRecDepth 20000 in
theorem zw_1225 : Cond.code yX7_comes cX7_comes 2 (some .int) ∈ zWU := zwm 1225 (by decide +kernel) (by decide +kernel)
set_option maxRecDepth 20000 in
theorem zw_1224 : Cond.instanceMethod yX7_comes ∈ zWU := zwm 1224 (by decide +kernel) (by decide +kernel)
set_option maxRecDepth 20000 in
theorem zw_58 : Cond.selects RX7 yX7_comes yX7_comes ∈ zWU := zwm 58 (by decide +kernel) (by decide +kernel)
set_option maxRecDepth 20000 in
theorem zk_RX7_252 : zKV RX7 252 yX7_comes cX7_comes 2 (some .int) 7 0 := ⟨⟨zw_1222, zw_78, zw_1225, by decide +kernel, by decide⟩, zw_1224, zw_58, _, rfl, rfl⟩
set_option maxRecDepth 20000 in
theorem zw_1218 : Cond.methodLink RX7 249 yX7_isFull ∈ zWU := zwm 1218 (by decide +kernel) (by decide +kernel)
set_option maxRecDepth 20000 in
theorem zw_1221 : Cond.code yX7_isFull cX7_isFull 1 (some .boolean) ∈ zWU := zwm 1221 (by decide +kernel) (by decide +kernel)
set_option maxRecDepth 20000 in
theorem zw_1220 : Cond.instanceMethod yX7_isFull ∈ zWU := zwm 1220 (by decide +kernel) (by decide +kernel)
set_option maxRecDepth 20000 in
theorem zw_57 : Cond.selects RX7 yX7_isFull yX7_isFull ∈ zWU := zwm 57 (by decide +kernel) (by decide +kernel)
set_option maxRecDepth 20000 in
theorem zk_RX7_249 : zKV RX7 249 yX7_isFull cX7_isFull 1 (some .boolean) 7 0 := ⟨⟨zw_1218, zw_78, zw_1221, by decide +kernel, by decide⟩, zw_1220, zw_57, _, rfl, rfl⟩
set_option maxRecDepth 20000 in
theorem zw_1231 : Cond.methodLink RX7 257 yX7_putsBehind ∈ zWU := zwm 1231 (by decide +kernel) (by decide +kernel)
set_option maxRecDepth 20000 in
theorem zw_1234 : Cond.code yX7_putsBehind cX7_putsBehind 4 none ∈ zWU := zwm 1234 (by decide +kernel) (by decide +kernel)
set_option maxRecDepth 20000 in
theorem zw_1233 : Cond.instanceMethod yX7_putsBehind ∈ zWU := zwm 1233 (by decide +kernel) (by decide +kernel)
set_option maxRecDepth 20000 in
theorem zw_59 : Cond.selects RX7 yX7_putsBehind yX7_putsBehind ∈ zWU := zwm 59 (by decide +kernel) (by decide +kernel)
set_option maxRecDepth 20000 in
theorem zk_RX7_257 : zKV RX7 257 yX7_putsBehind cX7_putsBehind 4 none 7 2 := ⟨⟨zw_1231, zw_78, zw_1234, by decide +kernel, by decide⟩, zw_1233, zw_59, _, rfl, rfl⟩
set_option maxRecDepth 20000 in
theorem zw_1230 : Cond.constantLong RX7 255 (1000000000) ∈ zWU := zwm 1230 (by decide +kernel) (by decide +kernel)
set_option maxRecDepth 20000 in
theorem zw_1247 : Cond.methodLink RX7 260 yX7_takenBy ∈ zWU := zwm 1247 (by decide +kernel) (by decide +kernel)
set_option maxRecDepth 20000 in
theorem zw_1250 : Cond.code yX7_takenBy cX7_takenBy 5 (some .int) ∈ zWU := zwm 1250 (by decide +kernel) (by decide +kernel)
set_option maxRecDepth 20000 in
theorem zw_1249 : Cond.instanceMethod yX7_takenBy ∈ zWU := zwm 1249 (by decide +kernel) (by decide +kernel)
set_option maxRecDepth 20000 in
theorem zw_62 : Cond.selects RX7 yX7_takenBy yX7_takenBy ∈ zWU := zwm 62 (by decide +kernel) (by decide +kernel)
set_option maxRecDepth 20000 in
theorem zk_RX7_260 : zKV RX7 260 yX7_takenBy cX7_takenBy 5 (some .int) 7 2 := ⟨⟨zw_1247, zw_78, zw_1250, by decide +kernel, by decide⟩, zw_1249, zw_62, _, rfl, rfl⟩
set_option maxRecDepth 20000 in
theorem zw_1243 : Cond.methodLink RX7 263 yX7_imageOf ∈ zWU := zwm 1243 (by decide +kernel) (by decide +kernel)
set_option maxRecDepth 20000 in
theorem zw_1246 : Cond.code yX7_imageOf cX7_imageOf 4 (some .int) ∈ zWU := zwm 1246 (by decide +kernel) (by decide +kernel)
set_option maxRecDepth 20000 in
theorem zw_1245 : Cond.instanceMethod yX7_imageOf ∈ zWU := zwm 1245 (by decide +kernel) (by decide +kernel)
set_option maxRecDepth 20000 in
theorem zw_61 : Cond.selects RX7 yX7_imageOf yX7_imageOf ∈ zWU := zwm 61 (by decide +kernel) (by decide +kernel)
set_option maxRecDepth 20000 in
theorem zk_RX7_263 : zKV RX7 263 yX7_imageOf cX7_imageOf 4 (some .int) 7 1 := ⟨⟨zw_1243, zw_78, zw_1246, by decide +kernel, by decide⟩, zw_1245, zw_61, _, rfl, rfl⟩
set_option maxRecDepth 20000 in
theorem zw_1239 : Cond.methodLink RX7 266 yX7_isPermuting ∈ zWU := zwm 1239 (by decide +kernel) (by decide +kernel)
set_option maxRecDepth 20000 in
theorem zw_1242 : Cond.code yX7_isPermuting cX7_isPermuting 2 (some .boolean) ∈ zWU := zwm 1242 (by decide +kernel) (by decide +kernel)
set_option maxRecDepth 20000 in
theorem zw_1241 : Cond.instanceMethod yX7_isPermuting ∈ zWU := zwm 1241 (by decide +kernel) (by decide +kernel)
set_option maxRecDepth 20000 in
theorem zw_60 : Cond.selects RX7 yX7_isPermuting yX7_isPermuting ∈ zWU := zwm 60 (by decide +kernel) (by decide +kernel)
set_option maxRecDepth 20000 in
theorem zk_RX7_266 : zKV RX7 266 yX7_isPermuting cX7_isPermuting 2 (some .boolean) 7 1 := ⟨⟨zw_1239, zw_78, zw_1242, by decide +kernel, by decide⟩, zw_1241, zw_60, _, rfl, rfl⟩
set_option maxRecDepth 20000 in
theorem zw_1259 : Cond.constantLong RX7 269 (6) ∈ zWU := zwm 1259 (by decide +kernel) (by decide +kernel)
set_option maxRecDepth 20000 in
theorem zw_1264 : Cond.constantLong RX7 271 (3) ∈ zWU := zwm 1264 (by decide +kernel) (by decide +kernel)
set_option maxRecDepth 20000 in
theorem zw_1273 : Cond.methodLink RX7 273 yX7_takesValues ∈ zWU := zwm 1273 (by decide +kernel) (by decide +kernel)
set_option maxRecDepth 20000 in
theorem zw_1276 : Cond.code yX7_takesValues cX7_takesValues 3 none ∈ zWU := zwm 1276 (by decide +kernel) (by decide +kernel)
set_option maxRecDepth 20000 in
theorem zw_1275 : Cond.instanceMethod yX7_takesValues ∈ zWU := zwm 1275 (by decide +kernel) (by decide +kernel)
set_option maxRecDepth 20000 in
theorem zw_63 : Cond.selects RX7 yX7_takesValues yX7_takesValues ∈ zWU := zwm 63 (by decide +kernel) (by decide +kernel)
set_option maxRecDepth 20000 in
theorem zk_RX7_273 : zKV RX7 273 yX7_takesValues cX7_takesValues 3 none 7 1 := ⟨⟨zw_1273, zw_78, zw_1276, by decide +kernel, by decide⟩, zw_1275, zw_63, _, rfl, rfl⟩
set_option maxRecDepth 20000 in
theorem zw_1277 : Cond.methodLink RX7 276 yX7_coefficientOf ∈ zWU := zwm 1277 (by decide +kernel) (by decide +kernel)
set_option maxRecDepth 20000 in
theorem zw_1280 : Cond.code yX7_coefficientOf cX7_coefficientOf 4 (some .int) ∈ zWU := zwm 1280 (by decide +kernel) (by decide +kernel)
set_option maxRecDepth 20000 in
theorem zw_1279 : Cond.instanceMethod yX7_coefficientOf ∈ zWU := zwm 1279 (by decide +kernel) (by decide +kernel)
set_option maxRecDepth 20000 in
theorem zw_64 : Cond.selects RX7 yX7_coefficientOf yX7_coefficientOf ∈ zWU := zwm 64 (by decide +kernel) (by decide +kernel)
set_option maxRecDepth 20000 in
theorem zk_RX7_276 : zKV RX7 276 yX7_coefficientOf cX7_coefficientOf 4 (some .int) 7 1 := ⟨⟨zw_1277, zw_78, zw_1280, by decide +kernel, by decide⟩, zw_1279, zw_64, _, rfl, rfl⟩
set_option maxRecDepth 20000 in
theorem zw_1314 : Cond.methodLink RX7 279 yX7_cycleOf ∈ zWU := zwm 1314 (by decide +kernel) (by decide +kernel)
set_option maxRecDepth 20000 in
theorem zw_1317 : Cond.code yX7_cycleOf cX7_cycleOf 5 (some .int) ∈ zWU := zwm 1317 (by decide +kernel) (by decide +kernel)
set_option maxRecDepth 20000 in
theorem zw_1316 : Cond.instanceMethod yX7_cycleOf ∈ zWU := zwm 1316 (by decide +kernel) (by decide +kernel)
set_option maxRecDepth 20000 in
theorem zw_67 : Cond.selects RX7 yX7_cycleOf yX7_cycleOf ∈ zWU := zwm 67 (by decide +kernel) (by decide +kernel)
set_option maxRecDepth 20000 in
theorem zk_RX7_279 : zKV RX7 279 yX7_cycleOf cX7_cycleOf 5 (some .int) 7 2 := ⟨⟨zw_1314, zw_78, zw_1317, by decide +kernel, by decide⟩, zw_1316, zw_67, _, rfl, rfl⟩
set_option maxRecDepth 20000 in
theorem zw_1305 : Cond.constantLong RX7 282 (64) ∈ zWU := zwm 1305 (by decide +kernel) (by decide +kernel)
set_option maxRecDepth 20000 in
theorem zw_1306 : Cond.methodLink RX7 284 yX7_badPerm ∈ zWU := zwm 1306 (by decide +kernel) (by decide +kernel)
set_option maxRecDepth 20000 in
theorem zw_1309 : Cond.code yX7_badPerm cX7_badPerm 4 (some .boolean) ∈ zWU := zwm 1309 (by decide +kernel) (by decide +kernel)
set_option maxRecDepth 20000 in
theorem zw_1308 : Cond.instanceMethod yX7_badPerm ∈ zWU := zwm 1308 (by decide +kernel) (by decide +kernel)
set_option maxRecDepth 20000 in
theorem zw_65 : Cond.selects RX7 yX7_badPerm yX7_badPerm ∈ zWU := zwm 65 (by decide +kernel) (by decide +kernel)
set_option maxRecDepth 20000 in
theorem zk_RX7_284 : zKV RX7 284 yX7_badPerm cX7_badPerm 4 (some .boolean) 7 3 := ⟨⟨zw_1306, zw_78, zw_1309, by decide +kernel, by decide⟩, zw_1308, zw_65, _, rfl, rfl⟩
set_option maxRecDepth 20000 in
theorem zw_1310 : Cond.methodLink RX7 288 yX7_cyclesOf ∈ zWU := zwm 1310 (by decide +kernel) (by decide +kernel)
set_option maxRecDepth 20000 in
theorem zw_1313 : Cond.code yX7_cyclesOf cX7_cyclesOf 5 (some .int) ∈ zWU := zwm 1313 (by decide +kernel) (by decide +kernel)
set_option maxRecDepth 20000 in
theorem zw_1312 : Cond.instanceMethod yX7_cyclesOf ∈ zWU := zwm 1312 (by decide +kernel) (by decide +kernel)
set_option maxRecDepth 20000 in
theorem zw_66 : Cond.selects RX7 yX7_cyclesOf yX7_cyclesOf ∈ zWU := zwm 66 (by decide +kernel) (by decide +kernel)
set_option maxRecDepth 20000 in
theorem zk_RX7_288 : zKV RX7 288 yX7_cyclesOf cX7_cyclesOf 5 (some .int) 7 2 := ⟨⟨zw_1310, zw_78, zw_1313, by decide +kernel, by decide⟩, zw_1312, zw_66, _, rfl, rfl⟩
set_option maxRecDepth 20000 in
theorem zw_1322 : Cond.methodLink RX7 291 yX7_common ∈ zWU := zwm 1322 (by decide +kernel) (by decide +kernel)
set_option maxRecDepth 20000 in
theorem zw_1324 : Cond.code yX7_common cX7_common 5 (some .int) ∈ zWU := zwm 1324 (by decide +kernel) (by decide +kernel)
set_option maxRecDepth 20000 in
theorem zw_1323 : Cond.static yX7_common ∈ zWU := zwm 1323 (by decide +kernel) (by decide +kernel)
set_option maxRecDepth 20000 in
theorem zk_RX7_291 : zKS RX7 291 yX7_common cX7_common 5 (some .int) 2 := ⟨⟨zw_1322, zw_78, zw_1324, by decide +kernel, by decide⟩, zw_1323⟩
set_option maxRecDepth 20000 in
theorem zw_1333 : Cond.methodLink RX7 294 yX7_laysOrbits ∈ zWU := zwm 1333 (by decide +kernel) (by decide +kernel)
set_option maxRecDepth 20000 in
theorem zw_1336 : Cond.code yX7_laysOrbits cX7_laysOrbits 6 none ∈ zWU := zwm 1336 (by decide +kernel) (by decide +kernel)
set_option maxRecDepth 20000 in
theorem zw_1335 : Cond.instanceMethod yX7_laysOrbits ∈ zWU := zwm 1335 (by decide +kernel) (by decide +kernel)
set_option maxRecDepth 20000 in
theorem zw_68 : Cond.selects RX7 yX7_laysOrbits yX7_laysOrbits ∈ zWU := zwm 68 (by decide +kernel) (by decide +kernel)
set_option maxRecDepth 20000 in
theorem zk_RX7_294 : zKV RX7 294 yX7_laysOrbits cX7_laysOrbits 6 none 7 0 := ⟨⟨zw_1333, zw_78, zw_1336, by decide +kernel, by decide⟩, zw_1335, zw_68, _, rfl, rfl⟩
set_option maxRecDepth 20000 in
theorem zw_1349 : Cond.methodLink RX7 297 yX7_areAll ∈ zWU := zwm 1349 (by decide +kernel) (by decide +kernel)
set_option maxRecDepth 20000 in
theorem zw_1352 : Cond.code yX7_areAll cX7_areAll 5 (some .boolean) ∈ zWU := zwm 1352 (by decide +kernel) (by decide +kernel)
set_option maxRecDepth 20000 in
theorem zw_1351 : Cond.instanceMethod yX7_areAll ∈ zWU := zwm 1351 (by decide +kernel) (by decide +kernel)
set_option maxRecDepth 20000 in
theorem zw_69 : Cond.selects RX7 yX7_areAll yX7_areAll ∈ zWU := zwm 69 (by decide +kernel) (by decide +kernel)
set_option maxRecDepth 20000 in
theorem zk_RX7_297 : zKV RX7 297 yX7_areAll cX7_areAll 5 (some .boolean) 7 0 := ⟨⟨zw_1349, zw_78, zw_1352, by decide +kernel, by decide⟩, zw_1351, zw_69, _, rfl, rfl⟩
set_option maxRecDepth 20000 in
theorem zw_1361 : Cond.constantLong RX7 300 (2) ∈ zWU := zwm 1361 (by decide +kernel) (by decide +kernel)
set_option maxRecDepth 20000 in
theorem zw_1362 : Cond.constantLong RX7 302 (63) ∈ zWU := zwm 1362 (by decide +kernel) (by decide +kernel)
set_option maxRecDepth 20000 in
theorem zw_1367 : Cond.constantLong RX7 304 (31) ∈ zWU := zwm 1367 (by decide +kernel) (by decide +kernel)
