/-! words of the law, by their places -/
set_option maxRecDepth 20000 in
theorem zw_428 : Cond.methodLink RL 7 yX6_text ∈ zWU := zwm 428 (by decide +kernel) (by decide +kernel)
set_option maxRecDepth 20000 in
theorem zw_431 : Cond.code yX6_text cX6_text 3 (some .int) ∈ zWU := zwm 431 (by decide +kernel) (by decide +kernel)
set_option maxRecDepth 20000 in
theorem zw_429 : Cond.instanceMethod yX6_text ∈ zWU := zwm 429 (by decide +kernel) (by decide +kernel)
set_option maxRecDepth 20000 in
theorem zw_430 : Cond.selects RX6 yX6_text yX6_text ∈ zWU := zwm 430 (by decide +kernel) (by decide +kernel)
set_option maxRecDepth 20000 in
theorem zk_RL_7 : zKV RL 7 yX6_text cX6_text 3 (some .int) 6 1 := ⟨⟨zw_428, zw_71, zw_431, by decide +kernel, by decide⟩, zw_429, zw_430, _, rfl, rfl⟩
set_option maxRecDepth 20000 in
theorem zcw_L_text : Cond.codeWith yL_text cL_text 4 (some .int) [(0, 9, 12, 13)] ∈ zWU := zwm 426 (by decide +kernel) (by decide +kernel)
set_option maxRecDepth 20000 in
theorem zw_427 : Cond.classLink RL 13 (zex 1) ∈ zWU := zwm 427 (by decide +kernel) (by decide +kernel)
set_option maxRecDepth 20000 in
theorem zw_677 : Cond.methodLink RL 15 yX6_value ∈ zWU := zwm 677 (by decide +kernel) (by decide +kernel)
set_option maxRecDepth 20000 in
theorem zw_680 : Cond.code yX6_value cX6_value 5 (some .int) ∈ zWU := zwm 680 (by decide +kernel) (by decide +kernel)
set_option maxRecDepth 20000 in
theorem zw_678 : Cond.instanceMethod yX6_value ∈ zWU := zwm 678 (by decide +kernel) (by decide +kernel)
set_option maxRecDepth 20000 in
theorem zw_679 : Cond.selects RX6 yX6_value yX6_value ∈ zWU := zwm 679 (by decide +kernel) (by decide +kernel)
set_option maxRecDepth 20000 in
theorem zk_RL_15 : zKV RL 15 yX6_value cX6_value 5 (some .int) 6 3 := ⟨⟨zw_677, zw_71, zw_680, by decide +kernel, by decide⟩, zw_678, zw_679, _, rfl, rfl⟩
set_option maxRecDepth 20000 in
theorem zcw_L_value : Cond.codeWith yL_value cL_value 6 (some .int) [(0, 12, 15, 19)] ∈ zWU := zwm 675 (by decide +kernel) (by decide +kernel)
set_option maxRecDepth 20000 in
theorem zw_676 : Cond.classLink RL 19 (zex 0) ∈ zWU := zwm 676 (by decide +kernel) (by decide +kernel)
set_option maxRecDepth 20000 in
theorem zw_710 : Cond.methodLink RL 21 yX6_after ∈ zWU := zwm 710 (by decide +kernel) (by decide +kernel)
set_option maxRecDepth 20000 in
theorem zw_713 : Cond.code yX6_after cX6_after 3 (some .int) ∈ zWU := zwm 713 (by decide +kernel) (by decide +kernel)
set_option maxRecDepth 20000 in
theorem zw_711 : Cond.instanceMethod yX6_after ∈ zWU := zwm 711 (by decide +kernel) (by decide +kernel)
set_option maxRecDepth 20000 in
theorem zw_712 : Cond.selects RX6 yX6_after yX6_after ∈ zWU := zwm 712 (by decide +kernel) (by decide +kernel)
set_option maxRecDepth 20000 in
theorem zk_RL_21 : zKV RL 21 yX6_after cX6_after 3 (some .int) 6 2 := ⟨⟨zw_710, zw_71, zw_713, by decide +kernel, by decide⟩, zw_711, zw_712, _, rfl, rfl⟩
set_option maxRecDepth 20000 in
theorem zcw_L_after : Cond.codeWith yL_after cL_after 5 (some .int) [(0, 10, 13, 19), (0, 10, 17, 25)] ∈ zWU := zwm 708 (by decide +kernel) (by decide +kernel)
set_option maxRecDepth 20000 in
theorem zw_709 : Cond.classLink RL 25 (zex 2) ∈ zWU := zwm 709 (by decide +kernel) (by decide +kernel)
set_option maxRecDepth 20000 in
theorem zw_741 : Cond.methodLink RL 27 yX6_again ∈ zWU := zwm 741 (by decide +kernel) (by decide +kernel)
set_option maxRecDepth 20000 in
theorem zw_744 : Cond.code yX6_again cX6_again 3 (some .int) ∈ zWU := zwm 744 (by decide +kernel) (by decide +kernel)
set_option maxRecDepth 20000 in
theorem zw_742 : Cond.instanceMethod yX6_again ∈ zWU := zwm 742 (by decide +kernel) (by decide +kernel)
set_option maxRecDepth 20000 in
theorem zw_743 : Cond.selects RX6 yX6_again yX6_again ∈ zWU := zwm 743 (by decide +kernel) (by decide +kernel)
set_option maxRecDepth 20000 in
theorem zk_RL_27 : zKV RL 27 yX6_again cX6_again 3 (some .int) 6 2 := ⟨⟨zw_741, zw_71, zw_744, by decide +kernel, by decide⟩, zw_742, zw_743, _, rfl, rfl⟩
set_option maxRecDepth 20000 in
theorem zcw_L_again : Cond.codeWith yL_again cL_again 5 (some .int) [(0, 10, 13, 19), (0, 10, 17, 13), (0, 10, 21, 25)] ∈ zWU := zwm 740 (by decide +kernel) (by decide +kernel)
set_option maxRecDepth 20000 in
theorem zw_754 : Cond.methodLink RL 30 yX6_back ∈ zWU := zwm 754 (by decide +kernel) (by decide +kernel)
set_option maxRecDepth 20000 in
theorem zw_757 : Cond.code yX6_back cX6_back 2 (some .int) ∈ zWU := zwm 757 (by decide +kernel) (by decide +kernel)
set_option maxRecDepth 20000 in
theorem zw_755 : Cond.instanceMethod yX6_back ∈ zWU := zwm 755 (by decide +kernel) (by decide +kernel)
set_option maxRecDepth 20000 in
theorem zw_756 : Cond.selects RX6 yX6_back yX6_back ∈ zWU := zwm 756 (by decide +kernel) (by decide +kernel)
set_option maxRecDepth 20000 in
theorem zk_RL_30 : zKV RL 30 yX6_back cX6_back 2 (some .int) 6 1 := ⟨⟨zw_754, zw_71, zw_757, by decide +kernel, by decide⟩, zw_755, zw_756, _, rfl, rfl⟩
set_option maxRecDepth 20000 in
theorem zcw_L_back : Cond.codeWith yL_back cL_back 4 (some .int) [(0, 9, 12, 19), (0, 9, 15, 25)] ∈ zWU := zwm 753 (by decide +kernel) (by decide +kernel)
set_option maxRecDepth 20000 in
theorem zw_771 : Cond.methodLink RL 33 yX6_drop ∈ zWU := zwm 771 (by decide +kernel) (by decide +kernel)
set_option maxRecDepth 20000 in
theorem zw_774 : Cond.code yX6_drop cX6_drop 2 (some .int) ∈ zWU := zwm 774 (by decide +kernel) (by decide +kernel)
set_option maxRecDepth 20000 in
theorem zw_772 : Cond.instanceMethod yX6_drop ∈ zWU := zwm 772 (by decide +kernel) (by decide +kernel)
set_option maxRecDepth 20000 in
theorem zw_773 : Cond.selects RX6 yX6_drop yX6_drop ∈ zWU := zwm 773 (by decide +kernel) (by decide +kernel)
set_option maxRecDepth 20000 in
theorem zk_RL_33 : zKV RL 33 yX6_drop cX6_drop 2 (some .int) 6 1 := ⟨⟨zw_771, zw_71, zw_774, by decide +kernel, by decide⟩, zw_772, zw_773, _, rfl, rfl⟩
set_option maxRecDepth 20000 in
theorem zcw_L_drop : Cond.codeWith yL_drop cL_drop 4 (some .int) [(0, 9, 12, 19)] ∈ zWU := zwm 770 (by decide +kernel) (by decide +kernel)
set_option maxRecDepth 20000 in
theorem zw_782 : Cond.methodLink RL 36 yX6_told ∈ zWU := zwm 782 (by decide +kernel) (by decide +kernel)
set_option maxRecDepth 20000 in
theorem zw_785 : Cond.code yX6_told cX6_told 2 (some .int) ∈ zWU := zwm 785 (by decide +kernel) (by decide +kernel)
set_option maxRecDepth 20000 in
theorem zw_783 : Cond.instanceMethod yX6_told ∈ zWU := zwm 783 (by decide +kernel) (by decide +kernel)
set_option maxRecDepth 20000 in
theorem zw_784 : Cond.selects RX6 yX6_told yX6_told ∈ zWU := zwm 784 (by decide +kernel) (by decide +kernel)
set_option maxRecDepth 20000 in
theorem zk_RL_36 : zKV RL 36 yX6_told cX6_told 2 (some .int) 6 1 := ⟨⟨zw_782, zw_71, zw_785, by decide +kernel, by decide⟩, zw_783, zw_784, _, rfl, rfl⟩
set_option maxRecDepth 20000 in
theorem zcw_L_told : Cond.codeWith yL_told cL_told 4 (some .int) [(0, 9, 12, 13)] ∈ zWU := zwm 781 (by decide +kernel) (by decide +kernel)
set_option maxRecDepth 20000 in
theorem zw_789 : Cond.methodLink RL 39 yX6_points ∈ zWU := zwm 789 (by decide +kernel) (by decide +kernel)
set_option maxRecDepth 20000 in
theorem zw_792 : Cond.code yX6_points cX6_points 4 (some .int) ∈ zWU := zwm 792 (by decide +kernel) (by decide +kernel)
set_option maxRecDepth 20000 in
theorem zw_790 : Cond.instanceMethod yX6_points ∈ zWU := zwm 790 (by decide +kernel) (by decide +kernel)
set_option maxRecDepth 20000 in
theorem zw_791 : Cond.selects RX6 yX6_points yX6_points ∈ zWU := zwm 791 (by decide +kernel) (by decide +kernel)
set_option maxRecDepth 20000 in
theorem zk_RL_39 : zKV RL 39 yX6_points cX6_points 4 (some .int) 6 3 := ⟨⟨zw_789, zw_71, zw_792, by decide +kernel, by decide⟩, zw_790, zw_791, _, rfl, rfl⟩
set_option maxRecDepth 20000 in
theorem zcw_L_points : Cond.codeWith yL_points cL_points 6 (some .int) [(0, 12, 15, 19), (0, 12, 19, 13)] ∈ zWU := zwm 788 (by decide +kernel) (by decide +kernel)
set_option maxRecDepth 20000 in
theorem zw_799 : Cond.methodLink RL 42 yX6_at ∈ zWU := zwm 799 (by decide +kernel) (by decide +kernel)
set_option maxRecDepth 20000 in
theorem zw_802 : Cond.code yX6_at cX6_at 3 (some .int) ∈ zWU := zwm 802 (by decide +kernel) (by decide +kernel)
set_option maxRecDepth 20000 in
theorem zw_800 : Cond.instanceMethod yX6_at ∈ zWU := zwm 800 (by decide +kernel) (by decide +kernel)
set_option maxRecDepth 20000 in
theorem zw_801 : Cond.selects RX6 yX6_at yX6_at ∈ zWU := zwm 801 (by decide +kernel) (by decide +kernel)
set_option maxRecDepth 20000 in
theorem zk_RL_42 : zKV RL 42 yX6_at cX6_at 3 (some .int) 6 2 := ⟨⟨zw_799, zw_71, zw_802, by decide +kernel, by decide⟩, zw_800, zw_801, _, rfl, rfl⟩
set_option maxRecDepth 20000 in
theorem zcw_L_at : Cond.codeWith yL_at cL_at 5 (some .int) [(0, 10, 13, 19)] ∈ zWU := zwm 798 (by decide +kernel) (by decide +kernel)
set_option maxRecDepth 20000 in
theorem zw_806 : Cond.methodLink RL 45 yX6_coefficient ∈ zWU := zwm 806 (by decide +kernel) (by decide +kernel)
set_option maxRecDepth 20000 in
theorem zw_809 : Cond.code yX6_coefficient cX6_coefficient 3 (some .int) ∈ zWU := zwm 809 (by decide +kernel) (by decide +kernel)
set_option maxRecDepth 20000 in
theorem zw_807 : Cond.instanceMethod yX6_coefficient ∈ zWU := zwm 807 (by decide +kernel) (by decide +kernel)
set_option maxRecDepth 20000 in
theorem zw_808 : Cond.selects RX6 yX6_coefficient yX6_coefficient ∈ zWU := zwm 808 (by decide +kernel) (by decide +kernel)
set_option maxRecDepth 20000 in
theorem zk_RL_45 : zKV RL 45 yX6_coefficient cX6_coefficient 3 (some .int) 6 2 := ⟨⟨zw_806, zw_71, zw_809, by decide +kernel, by decide⟩, zw_807, zw_808, _, rfl, rfl⟩
set_option maxRecDepth 20000 in
theorem zcw_L_coefficient : Cond.codeWith yL_coefficient cL_coefficient 5 (some .int) [(0, 10, 13, 19), (0, 10, 17, 13)] ∈ zWU := zwm 805 (by decide +kernel) (by decide +kernel)
set_option maxRecDepth 20000 in
theorem zw_819 : Cond.methodLink RL 48 yX6_degree ∈ zWU := zwm 819 (by decide +kernel) (by decide +kernel)
set_option maxRecDepth 20000 in
theorem zw_822 : Cond.code yX6_degree cX6_degree 2 (some .int) ∈ zWU := zwm 822 (by decide +kernel) (by decide +kernel)
set_option maxRecDepth 20000 in
theorem zw_820 : Cond.instanceMethod yX6_degree ∈ zWU := zwm 820 (by decide +kernel) (by decide +kernel)
set_option maxRecDepth 20000 in
theorem zw_821 : Cond.selects RX6 yX6_degree yX6_degree ∈ zWU := zwm 821 (by decide +kernel) (by decide +kernel)
set_option maxRecDepth 20000 in
theorem zk_RL_48 : zKV RL 48 yX6_degree cX6_degree 2 (some .int) 6 1 := ⟨⟨zw_819, zw_71, zw_822, by decide +kernel, by decide⟩, zw_820, zw_821, _, rfl, rfl⟩
set_option maxRecDepth 20000 in
theorem zcw_L_degree : Cond.codeWith yL_degree cL_degree 4 (some .int) [(0, 9, 12, 19)] ∈ zWU := zwm 818 (by decide +kernel) (by decide +kernel)
set_option maxRecDepth 20000 in
theorem zw_830 : Cond.methodLink RL 51 yX6_taken ∈ zWU := zwm 830 (by decide +kernel) (by decide +kernel)
set_option maxRecDepth 20000 in
theorem zw_833 : Cond.code yX6_taken cX6_taken 3 (some .int) ∈ zWU := zwm 833 (by decide +kernel) (by decide +kernel)
set_option maxRecDepth 20000 in
theorem zw_831 : Cond.instanceMethod yX6_taken ∈ zWU := zwm 831 (by decide +kernel) (by decide +kernel)
set_option maxRecDepth 20000 in
theorem zw_832 : Cond.selects RX6 yX6_taken yX6_taken ∈ zWU := zwm 832 (by decide +kernel) (by decide +kernel)
set_option maxRecDepth 20000 in
theorem zk_RL_51 : zKV RL 51 yX6_taken cX6_taken 3 (some .int) 6 2 := ⟨⟨zw_830, zw_71, zw_833, by decide +kernel, by decide⟩, zw_831, zw_832, _, rfl, rfl⟩
set_option maxRecDepth 20000 in
theorem zcw_L_taken : Cond.codeWith yL_taken cL_taken 5 (some .int) [(0, 10, 13, 19)] ∈ zWU := zwm 829 (by decide +kernel) (by decide +kernel)
set_option maxRecDepth 20000 in
theorem zw_841 : Cond.methodLink RL 54 yX6_image ∈ zWU := zwm 841 (by decide +kernel) (by decide +kernel)
set_option maxRecDepth 20000 in
theorem zw_844 : Cond.code yX6_image cX6_image 2 (some .int) ∈ zWU := zwm 844 (by decide +kernel) (by decide +kernel)
set_option maxRecDepth 20000 in
theorem zw_842 : Cond.instanceMethod yX6_image ∈ zWU := zwm 842 (by decide +kernel) (by decide +kernel)
set_option maxRecDepth 20000 in
theorem zw_843 : Cond.selects RX6 yX6_image yX6_image ∈ zWU := zwm 843 (by decide +kernel) (by decide +kernel)
set_option maxRecDepth 20000 in
theorem zk_RL_54 : zKV RL 54 yX6_image cX6_image 2 (some .int) 6 1 := ⟨⟨zw_841, zw_71, zw_844, by decide +kernel, by decide⟩, zw_842, zw_843, _, rfl, rfl⟩
set_option maxRecDepth 20000 in
theorem zcw_L_image : Cond.codeWith yL_image cL_image 4 (some .int) [(0, 9, 12, 19)] ∈ zWU := zwm 840 (by decide +kernel) (by decide +kernel)
set_option maxRecDepth 20000 in
theorem zw_849 : Cond.methodLink RL 57 yX6_permutes ∈ zWU := zwm 849 (by decide +kernel) (by decide +kernel)
set_option maxRecDepth 20000 in
theorem zw_852 : Cond.code yX6_permutes cX6_permutes 2 (some .int) ∈ zWU := zwm 852 (by decide +kernel) (by decide +kernel)
set_option maxRecDepth 20000 in
theorem zw_850 : Cond.instanceMethod yX6_permutes ∈ zWU := zwm 850 (by decide +kernel) (by decide +kernel)
set_option maxRecDepth 20000 in
theorem zw_851 : Cond.selects RX6 yX6_permutes yX6_permutes ∈ zWU := zwm 851 (by decide +kernel) (by decide +kernel)
set_option maxRecDepth 20000 in
theorem zk_RL_57 : zKV RL 57 yX6_permutes cX6_permutes 2 (some .int) 6 1 := ⟨⟨zw_849, zw_71, zw_852, by decide +kernel, by decide⟩, zw_850, zw_851, _, rfl, rfl⟩
set_option maxRecDepth 20000 in
theorem zcw_L_permutes : Cond.codeWith yL_permutes cL_permutes 4 (some .int) [(0, 9, 12, 19)] ∈ zWU := zwm 848 (by decide +kernel) (by decide +kernel)
set_option maxRecDepth 20000 in
theorem zw_856 : Cond.methodLink RL 60 yX6_powers ∈ zWU := zwm 856 (by decide +kernel) (by decide +kernel)
set_option maxRecDepth 20000 in
theorem zw_859 : Cond.code yX6_powers cX6_powers 2 (some .int) ∈ zWU := zwm 859 (by decide +kernel) (by decide +kernel)
set_option maxRecDepth 20000 in
theorem zw_857 : Cond.instanceMethod yX6_powers ∈ zWU := zwm 857 (by decide +kernel) (by decide +kernel)
set_option maxRecDepth 20000 in
theorem zw_858 : Cond.selects RX6 yX6_powers yX6_powers ∈ zWU := zwm 858 (by decide +kernel) (by decide +kernel)
set_option maxRecDepth 20000 in
theorem zk_RL_60 : zKV RL 60 yX6_powers cX6_powers 2 (some .int) 6 1 := ⟨⟨zw_856, zw_71, zw_859, by decide +kernel, by decide⟩, zw_857, zw_858, _, rfl, rfl⟩
set_option maxRecDepth 20000 in
theorem zcw_L_powers : Cond.codeWith yL_powers cL_powers 4 (some .int) [(0, 9, 12, 19)] ∈ zWU := zwm 855 (by decide +kernel) (by decide +kernel)
set_option maxRecDepth 20000 in
theorem zw_868 : Cond.methodLink RL 63 yX6_cycles ∈ zWU := zwm 868 (by decide +kernel) (by decide +kernel)
set_option maxRecDepth 20000 in
theorem zw_871 : Cond.code yX6_cycles cX6_cycles 3 (some .int) ∈ zWU := zwm 871 (by decide +kernel) (by decide +kernel)
set_option maxRecDepth 20000 in
theorem zw_869 : Cond.instanceMethod yX6_cycles ∈ zWU := zwm 869 (by decide +kernel) (by decide +kernel)
set_option maxRecDepth 20000 in
theorem zw_870 : Cond.selects RX6 yX6_cycles yX6_cycles ∈ zWU := zwm 870 (by decide +kernel) (by decide +kernel)
set_option maxRecDepth 20000 in
theorem zk_RL_63 : zKV RL 63 yX6_cycles cX6_cycles 3 (some .int) 6 2 := ⟨⟨zw_868, zw_71, zw_871, by decide +kernel, by decide⟩, zw_869, zw_870, _, rfl, rfl⟩
set_option maxRecDepth 20000 in
theorem zcw_L_cycles : Cond.codeWith yL_cycles cL_cycles 5 (some .int) [(0, 10, 13, 19), (0, 10, 17, 13), (0, 10, 21, 25)] ∈ zWU := zwm 867 (by decide +kernel) (by decide +kernel)
set_option maxRecDepth 20000 in
theorem zw_879 : Cond.methodLink RL 66 yX6_order ∈ zWU := zwm 879 (by decide +kernel) (by decide +kernel)
set_option maxRecDepth 20000 in
theorem zw_882 : Cond.code yX6_order cX6_order 2 (some .int) ∈ zWU := zwm 882 (by decide +kernel) (by decide +kernel)
set_option maxRecDepth 20000 in
theorem zw_880 : Cond.instanceMethod yX6_order ∈ zWU := zwm 880 (by decide +kernel) (by decide +kernel)
set_option maxRecDepth 20000 in
theorem zw_881 : Cond.selects RX6 yX6_order yX6_order ∈ zWU := zwm 881 (by decide +kernel) (by decide +kernel)
set_option maxRecDepth 20000 in
theorem zk_RL_66 : zKV RL 66 yX6_order cX6_order 2 (some .int) 6 1 := ⟨⟨zw_879, zw_71, zw_882, by decide +kernel, by decide⟩, zw_880, zw_881, _, rfl, rfl⟩
set_option maxRecDepth 20000 in
theorem zcw_L_order : Cond.codeWith yL_order cL_order 4 (some .int) [(0, 9, 12, 19), (0, 9, 15, 25)] ∈ zWU := zwm 878 (by decide +kernel) (by decide +kernel)
set_option maxRecDepth 20000 in
theorem zw_893 : Cond.methodLink RL 69 yX6_even ∈ zWU := zwm 893 (by decide +kernel) (by decide +kernel)
set_option maxRecDepth 20000 in
theorem zw_896 : Cond.code yX6_even cX6_even 2 (some .int) ∈ zWU := zwm 896 (by decide +kernel) (by decide +kernel)
set_option maxRecDepth 20000 in
theorem zw_894 : Cond.instanceMethod yX6_even ∈ zWU := zwm 894 (by decide +kernel) (by decide +kernel)
set_option maxRecDepth 20000 in
theorem zw_895 : Cond.selects RX6 yX6_even yX6_even ∈ zWU := zwm 895 (by decide +kernel) (by decide +kernel)
set_option maxRecDepth 20000 in
theorem zk_RL_69 : zKV RL 69 yX6_even cX6_even 2 (some .int) 6 1 := ⟨⟨zw_893, zw_71, zw_896, by decide +kernel, by decide⟩, zw_894, zw_895, _, rfl, rfl⟩
set_option maxRecDepth 20000 in
theorem zcw_L_even : Cond.codeWith yL_even cL_even 4 (some .int) [(0, 9, 12, 19), (0, 9, 15, 25)] ∈ zWU := zwm 892 (by decide +kernel) (by decide +kernel)
set_option maxRecDepth 20000 in
theorem zw_900 : Cond.methodLink RL 72 yX6_orbit ∈ zWU := zwm 900 (by decide +kernel) (by decide +kernel)
set_option maxRecDepth 20000 in
theorem zw_903 : Cond.code yX6_orbit cX6_orbit 2 (some .int) ∈ zWU := zwm 903 (by decide +kernel) (by decide +kernel)
set_option maxRecDepth 20000 in
theorem zw_901 : Cond.instanceMethod yX6_orbit ∈ zWU := zwm 901 (by decide +kernel) (by decide +kernel)
set_option maxRecDepth 20000 in
theorem zw_902 : Cond.selects RX6 yX6_orbit yX6_orbit ∈ zWU := zwm 902 (by decide +kernel) (by decide +kernel)
set_option maxRecDepth 20000 in
theorem zk_RL_72 : zKV RL 72 yX6_orbit cX6_orbit 2 (some .int) 6 1 := ⟨⟨zw_900, zw_71, zw_903, by decide +kernel, by decide⟩, zw_901, zw_902, _, rfl, rfl⟩
set_option maxRecDepth 20000 in
theorem zcw_L_orbit : Cond.codeWith yL_orbit cL_orbit 4 (some .int) [(0, 9, 12, 19)] ∈ zWU := zwm 899 (by decide +kernel) (by decide +kernel)
set_option maxRecDepth 20000 in
theorem zw_908 : Cond.methodLink RL 75 yX6_spread ∈ zWU := zwm 908 (by decide +kernel) (by decide +kernel)
set_option maxRecDepth 20000 in
theorem zw_911 : Cond.code yX6_spread cX6_spread 2 (some .int) ∈ zWU := zwm 911 (by decide +kernel) (by decide +kernel)
set_option maxRecDepth 20000 in
theorem zw_909 : Cond.instanceMethod yX6_spread ∈ zWU := zwm 909 (by decide +kernel) (by decide +kernel)
set_option maxRecDepth 20000 in
theorem zw_910 : Cond.selects RX6 yX6_spread yX6_spread ∈ zWU := zwm 910 (by decide +kernel) (by decide +kernel)
set_option maxRecDepth 20000 in
theorem zk_RL_75 : zKV RL 75 yX6_spread cX6_spread 2 (some .int) 6 1 := ⟨⟨zw_908, zw_71, zw_911, by decide +kernel, by decide⟩, zw_909, zw_910, _, rfl, rfl⟩
set_option maxRecDepth 20000 in
theorem zcw_L_spread : Cond.codeWith yL_spread cL_spread 4 (some .int) [(0, 9, 12, 19)] ∈ zWU := zwm 907 (by decide +kernel) (by decide +kernel)
set_option maxRecDepth 20000 in
theorem zw_923 : Cond.methodLink RL 78 yX6_dicksons ∈ zWU := zwm 923 (by decide +kernel) (by decide +kernel)
set_option maxRecDepth 20000 in
theorem zw_926 : Cond.code yX6_dicksons cX6_dicksons 2 (some .long) ∈ zWU := zwm 926 (by decide +kernel) (by decide +kernel)
set_option maxRecDepth 20000 in
theorem zw_924 : Cond.instanceMethod yX6_dicksons ∈ zWU := zwm 924 (by decide +kernel) (by decide +kernel)
set_option maxRecDepth 20000 in
theorem zw_925 : Cond.selects RX6 yX6_dicksons yX6_dicksons ∈ zWU := zwm 925 (by decide +kernel) (by decide +kernel)
set_option maxRecDepth 20000 in
theorem zk_RL_78 : zKV RL 78 yX6_dicksons cX6_dicksons 2 (some .long) 6 1 := ⟨⟨zw_923, zw_71, zw_926, by decide +kernel, by decide⟩, zw_924, zw_925, _, rfl, rfl⟩
set_option maxRecDepth 20000 in
theorem zcw_L_dicksons : Cond.codeWith yL_dicksons cL_dicksons 4 (some .int) [(0, 8, 11, 19)] ∈ zWU := zwm 922 (by decide +kernel) (by decide +kernel)
set_option maxRecDepth 20000 in
theorem zw_934 : Cond.methodLink RL 82 yX6_binomials ∈ zWU := zwm 934 (by decide +kernel) (by decide +kernel)
set_option maxRecDepth 20000 in
theorem zw_937 : Cond.code yX6_binomials cX6_binomials 2 (some .int) ∈ zWU := zwm 937 (by decide +kernel) (by decide +kernel)
set_option maxRecDepth 20000 in
theorem zw_935 : Cond.instanceMethod yX6_binomials ∈ zWU := zwm 935 (by decide +kernel) (by decide +kernel)
set_option maxRecDepth 20000 in
theorem zw_936 : Cond.selects RX6 yX6_binomials yX6_binomials ∈ zWU := zwm 936 (by decide +kernel) (by decide +kernel)
set_option maxRecDepth 20000 in
theorem zk_RL_82 : zKV RL 82 yX6_binomials cX6_binomials 2 (some .int) 6 1 := ⟨⟨zw_934, zw_71, zw_937, by decide +kernel, by decide⟩, zw_935, zw_936, _, rfl, rfl⟩
set_option maxRecDepth 20000 in
theorem zcw_L_binomials : Cond.codeWith yL_binomials cL_binomials 4 (some .int) [(0, 9, 12, 13)] ∈ zWU := zwm 933 (by decide +kernel) (by decide +kernel)
set_option maxRecDepth 20000 in
theorem zw_352 : Cond.methodLink RL 89 yX6_feed ∈ zWU := zwm 352 (by decide +kernel) (by decide +kernel)
set_option maxRecDepth 20000 in
theorem zw_355 : Cond.code yX6_feed cX6_feed 6 (some .int) ∈ zWU := zwm 355 (by decide +kernel) (by decide +kernel)
set_option maxRecDepth 20000 in
theorem zw_353 : Cond.instanceMethod yX6_feed ∈ zWU := zwm 353 (by decide +kernel) (by decide +kernel)
set_option maxRecDepth 20000 in
theorem zw_354 : Cond.selects RX6 yX6_feed yX6_feed ∈ zWU := zwm 354 (by decide +kernel) (by decide +kernel)
set_option maxRecDepth 20000 in
theorem zk_RL_89 : zKV RL 89 yX6_feed cX6_feed 6 (some .int) 6 5 := ⟨⟨zw_352, zw_71, zw_355, by decide +kernel, by decide⟩, zw_353, zw_354, _, rfl, rfl⟩
set_option maxRecDepth 20000 in
theorem zw_1038 : Cond.methodLink RL 93 yX7_feed ∈ zWU := zwm 1038 (by decide +kernel) (by decide +kernel)
set_option maxRecDepth 20000 in
theorem zw_1041 : Cond.code yX7_feed cX7_feed 8 (some .int) ∈ zWU := zwm 1041 (by decide +kernel) (by decide +kernel)
set_option maxRecDepth 20000 in
theorem zw_1039 : Cond.instanceMethod yX7_feed ∈ zWU := zwm 1039 (by decide +kernel) (by decide +kernel)
set_option maxRecDepth 20000 in
theorem zw_1040 : Cond.selects RX7 yX7_feed yX7_feed ∈ zWU := zwm 1040 (by decide +kernel) (by decide +kernel)
set_option maxRecDepth 20000 in
theorem zk_RL_93 : zKV RL 93 yX7_feed cX7_feed 8 (some .int) 7 5 := ⟨⟨zw_1038, zw_78, zw_1041, by decide +kernel, by decide⟩, zw_1039, zw_1040, _, rfl, rfl⟩
set_option maxRecDepth 20000 in
theorem zw_424 : Cond.methodLink RL 94 yL_text ∈ zWU := zwm 424 (by decide +kernel) (by decide +kernel)
set_option maxRecDepth 20000 in
theorem zw_70 : Cond.initialized RL ∈ zWU := zwm 70 (by decide +kernel) (by decide +kernel)
set_option maxRecDepth 20000 in
theorem zw_425 : Cond.static yL_text ∈ zWU := zwm 425 (by decide +kernel) (by decide +kernel)
set_option maxRecDepth 20000 in
theorem zkw_RL_94 : zKW RL 94 yL_text cL_text 4 [(0, 9, 12, 13)] 3 := ⟨zw_424, zw_70, zcw_L_text, by decide +kernel, by decide, zw_425⟩
set_option maxRecDepth 20000 in
theorem zw_1042 : Cond.methodLink RL 99 yX7_text ∈ zWU := zwm 1042 (by decide +kernel) (by decide +kernel)
set_option maxRecDepth 20000 in
theorem zw_1045 : Cond.code yX7_text cX7_text 3 (some .int) ∈ zWU := zwm 1045 (by decide +kernel) (by decide +kernel)
set_option maxRecDepth 20000 in
theorem zw_1043 : Cond.instanceMethod yX7_text ∈ zWU := zwm 1043 (by decide +kernel) (by decide +kernel)
set_option maxRecDepth 20000 in
theorem zw_1044 : Cond.selects RX7 yX7_text yX7_text ∈ zWU := zwm 1044 (by decide +kernel) (by decide +kernel)
set_option maxRecDepth 20000 in
theorem zk_RL_99 : zKV RL 99 yX7_text cX7_text 3 (some .int) 7 1 := ⟨⟨zw_1042, zw_78, zw_1045, by decide +kernel, by decide⟩, zw_1043, zw_1044, _, rfl, rfl⟩
set_option maxRecDepth 20000 in
theorem zw_1034 : Cond.methodLink RL 100 yX7_thrown ∈ zWU := zwm 1034 (by decide +kernel) (by decide +kernel)
set_option maxRecDepth 20000 in
theorem zw_1037 : Cond.code yX7_thrown cX7_thrown 1 (some .int) ∈ zWU := zwm 1037 (by decide +kernel) (by decide +kernel)
set_option maxRecDepth 20000 in
theorem zw_1035 : Cond.instanceMethod yX7_thrown ∈ zWU := zwm 1035 (by decide +kernel) (by decide +kernel)
set_option maxRecDepth 20000 in
theorem zw_1036 : Cond.selects RX7 yX7_thrown yX7_thrown ∈ zWU := zwm 1036 (by decide +kernel) (by decide +kernel)
set_option maxRecDepth 20000 in
theorem zk_RL_100 : zKV RL 100 yX7_thrown cX7_thrown 1 (some .int) 7 0 := ⟨⟨zw_1034, zw_78, zw_1037, by decide +kernel, by decide⟩, zw_1035, zw_1036, _, rfl, rfl⟩
set_option maxRecDepth 20000 in
theorem zw_360 : Cond.methodLink RL 104 yX6_fault ∈ zWU := zwm 360 (by decide +kernel) (by decide +kernel)
set_option maxRecDepth 20000 in
theorem zw_363 : Cond.code yX6_fault cX6_fault 1 (some .int) ∈ zWU := zwm 363 (by decide +kernel) (by decide +kernel)
set_option maxRecDepth 20000 in
theorem zw_361 : Cond.instanceMethod yX6_fault ∈ zWU := zwm 361 (by decide +kernel) (by decide +kernel)
set_option maxRecDepth 20000 in
theorem zw_362 : Cond.selects RX6 yX6_fault yX6_fault ∈ zWU := zwm 362 (by decide +kernel) (by decide +kernel)
set_option maxRecDepth 20000 in
theorem zk_RL_104 : zKV RL 104 yX6_fault cX6_fault 1 (some .int) 6 0 := ⟨⟨zw_360, zw_71, zw_363, by decide +kernel, by decide⟩, zw_361, zw_362, _, rfl, rfl⟩
set_option maxRecDepth 20000 in
theorem zw_1186 : Cond.methodLink RL 107 yX7_fault ∈ zWU := zwm 1186 (by decide +kernel) (by decide +kernel)
set_option maxRecDepth 20000 in
theorem zw_1189 : Cond.code yX7_fault cX7_fault 1 (some .int) ∈ zWU := zwm 1189 (by decide +kernel) (by decide +kernel)
set_option maxRecDepth 20000 in
theorem zw_1187 : Cond.instanceMethod yX7_fault ∈ zWU := zwm 1187 (by decide +kernel) (by decide +kernel)
set_option maxRecDepth 20000 in
theorem zw_1188 : Cond.selects RX7 yX7_fault yX7_fault ∈ zWU := zwm 1188 (by decide +kernel) (by decide +kernel)
set_option maxRecDepth 20000 in
theorem zk_RL_107 : zKV RL 107 yX7_fault cX7_fault 1 (some .int) 7 0 := ⟨⟨zw_1186, zw_78, zw_1189, by decide +kernel, by decide⟩, zw_1187, zw_1188, _, rfl, rfl⟩
set_option maxRecDepth 20000 in
theorem zw_673 : Cond.methodLink RL 108 yL_value ∈ zWU := zwm 673 (by decide +kernel) (by decide +kernel)
set_option maxRecDepth 20000 in
theorem zw_674 : Cond.static yL_value ∈ zWU := zwm 674 (by decide +kernel) (by decide +kernel)
set_option maxRecDepth 20000 in
theorem zkw_RL_108 : zKW RL 108 yL_value cL_value 6 [(0, 12, 15, 19)] 5 := ⟨zw_673, zw_70, zcw_L_value, by decide +kernel, by decide, zw_674⟩
set_option maxRecDepth 20000 in
theorem zw_1194 : Cond.methodLink RL 111 yX7_value ∈ zWU := zwm 1194 (by decide +kernel) (by decide +kernel)
set_option maxRecDepth 20000 in
theorem zw_1197 : Cond.code yX7_value cX7_value 5 (some .int) ∈ zWU := zwm 1197 (by decide +kernel) (by decide +kernel)
set_option maxRecDepth 20000 in
theorem zw_1195 : Cond.instanceMethod yX7_value ∈ zWU := zwm 1195 (by decide +kernel) (by decide +kernel)
set_option maxRecDepth 20000 in
theorem zw_1196 : Cond.selects RX7 yX7_value yX7_value ∈ zWU := zwm 1196 (by decide +kernel) (by decide +kernel)
set_option maxRecDepth 20000 in
theorem zk_RL_111 : zKV RL 111 yX7_value cX7_value 5 (some .int) 7 3 := ⟨⟨zw_1194, zw_78, zw_1197, by decide +kernel, by decide⟩, zw_1195, zw_1196, _, rfl, rfl⟩
set_option maxRecDepth 20000 in
theorem zw_706 : Cond.methodLink RL 112 yL_after ∈ zWU := zwm 706 (by decide +kernel) (by decide +kernel)
set_option maxRecDepth 20000 in
theorem zw_707 : Cond.static yL_after ∈ zWU := zwm 707 (by decide +kernel) (by decide +kernel)
set_option maxRecDepth 20000 in
theorem zkw_RL_112 : zKW RL 112 yL_after cL_after 5 [(0, 10, 13, 19), (0, 10, 17, 25)] 4 := ⟨zw_706, zw_70, zcw_L_after, by decide +kernel, by decide, zw_707⟩
set_option maxRecDepth 20000 in
theorem zw_1214 : Cond.methodLink RL 115 yX7_after ∈ zWU := zwm 1214 (by decide +kernel) (by decide +kernel)
set_option maxRecDepth 20000 in
theorem zw_1217 : Cond.code yX7_after cX7_after 4 (some .int) ∈ zWU := zwm 1217 (by decide +kernel) (by decide +kernel)
set_option maxRecDepth 20000 in
theorem zw_1215 : Cond.instanceMethod yX7_after ∈ zWU := zwm 1215 (by decide +kernel) (by decide +kernel)
set_option maxRecDepth 20000 in
theorem zw_1216 : Cond.selects RX7 yX7_after yX7_after ∈ zWU := zwm 1216 (by decide +kernel) (by decide +kernel)
set_option maxRecDepth 20000 in
theorem zk_RL_115 : zKV RL 115 yX7_after cX7_after 4 (some .int) 7 2 := ⟨⟨zw_1214, zw_78, zw_1217, by decide +kernel, by decide⟩, zw_1215, zw_1216, _, rfl, rfl⟩
set_option maxRecDepth 20000 in
theorem zw_738 : Cond.methodLink RL 116 yL_again ∈ zWU := zwm 738 (by decide +kernel) (by decide +kernel)
set_option maxRecDepth 20000 in
theorem zw_739 : Cond.static yL_again ∈ zWU := zwm 739 (by decide +kernel) (by decide +kernel)
set_option maxRecDepth 20000 in
theorem zkw_RL_116 : zKW RL 116 yL_again cL_again 5 [(0, 10, 13, 19), (0, 10, 17, 13), (0, 10, 21, 25)] 4 := ⟨zw_738, zw_70, zcw_L_again, by decide +kernel, by decide, zw_739⟩
set_option maxRecDepth 20000 in
theorem zw_1226 : Cond.methodLink RL 118 yX7_again ∈ zWU := zwm 1226 (by decide +kernel) (by decide +kernel)
set_option maxRecDepth 20000 in
theorem zw_1229 : Cond.code yX7_again cX7_again 4 (some .int) ∈ zWU := zwm 1229 (by decide +kernel) (by decide +kernel)
set_option maxRecDepth 20000 in
theorem zw_1227 : Cond.instanceMethod yX7_again ∈ zWU := zwm 1227 (by decide +kernel) (by decide +kernel)
set_option maxRecDepth 20000 in
theorem zw_1228 : Cond.selects RX7 yX7_again yX7_again ∈ zWU := zwm 1228 (by decide +kernel) (by decide +kernel)
set_option maxRecDepth 20000 in
theorem zk_RL_118 : zKV RL 118 yX7_again cX7_again 4 (some .int) 7 2 := ⟨⟨zw_1226, zw_78, zw_1229, by decide +kernel, by decide⟩, zw_1227, zw_1228, _, rfl, rfl⟩
set_option maxRecDepth 20000 in
theorem zw_751 : Cond.methodLink RL 119 yL_back ∈ zWU := zwm 751 (by decide +kernel) (by decide +kernel)
set_option maxRecDepth 20000 in
theorem zw_752 : Cond.static yL_back ∈ zWU := zwm 752 (by decide +kernel) (by decide +kernel)
set_option maxRecDepth 20000 in
theorem zkw_RL_119 : zKW RL 119 yL_back cL_back 4 [(0, 9, 12, 19), (0, 9, 15, 25)] 3 := ⟨zw_751, zw_70, zcw_L_back, by decide +kernel, by decide, zw_752⟩
set_option maxRecDepth 20000 in
theorem zw_1235 : Cond.methodLink RL 121 yX7_back ∈ zWU := zwm 1235 (by decide +kernel) (by decide +kernel)
set_option maxRecDepth 20000 in
theorem zw_1238 : Cond.code yX7_back cX7_back 3 (some .int) ∈ zWU := zwm 1238 (by decide +kernel) (by decide +kernel)
set_option maxRecDepth 20000 in
theorem zw_1236 : Cond.instanceMethod yX7_back ∈ zWU := zwm 1236 (by decide +kernel) (by decide +kernel)
set_option maxRecDepth 20000 in
theorem zw_1237 : Cond.selects RX7 yX7_back yX7_back ∈ zWU := zwm 1237 (by decide +kernel) (by decide +kernel)
set_option maxRecDepth 20000 in
theorem zk_RL_121 : zKV RL 121 yX7_back cX7_back 3 (some .int) 7 1 := ⟨⟨zw_1235, zw_78, zw_1238, by decide +kernel, by decide⟩, zw_1236, zw_1237, _, rfl, rfl⟩
set_option maxRecDepth 20000 in
theorem zw_768 : Cond.methodLink RL 122 yL_drop ∈ zWU := zwm 768 (by decide +kernel) (by decide +kernel)
set_option maxRecDepth 20000 in
theorem zw_769 : Cond.static yL_drop ∈ zWU := zwm 769 (by decide +kernel) (by decide +kernel)
set_option maxRecDepth 20000 in
theorem zkw_RL_122 : zKW RL 122 yL_drop cL_drop 4 [(0, 9, 12, 19)] 3 := ⟨zw_768, zw_70, zcw_L_drop, by decide +kernel, by decide, zw_769⟩
set_option maxRecDepth 20000 in
theorem zw_1251 : Cond.methodLink RL 124 yX7_drop ∈ zWU := zwm 1251 (by decide +kernel) (by decide +kernel)
set_option maxRecDepth 20000 in
theorem zw_1254 : Cond.code yX7_drop cX7_drop 4 (some .int) ∈ zWU := zwm 1254 (by decide +kernel) (by decide +kernel)
set_option maxRecDepth 20000 in
theorem zw_1252 : Cond.instanceMethod yX7_drop ∈ zWU := zwm 1252 (by decide +kernel) (by decide +kernel)
set_option maxRecDepth 20000 in
theorem zw_1253 : Cond.selects RX7 yX7_drop yX7_drop ∈ zWU := zwm 1253 (by decide +kernel) (by decide +kernel)
set_option maxRecDepth 20000 in
theorem zk_RL_124 : zKV RL 124 yX7_drop cX7_drop 4 (some .int) 7 1 := ⟨⟨zw_1251, zw_78, zw_1254, by decide +kernel, by decide⟩, zw_1252, zw_1253, _, rfl, rfl⟩
set_option maxRecDepth 20000 in
theorem zw_364 : Cond.methodLink RL 125 yX6_undo ∈ zWU := zwm 364 (by decide +kernel) (by decide +kernel)
set_option maxRecDepth 20000 in
theorem zw_367 : Cond.code yX6_undo cX6_undo 2 (some .int) ∈ zWU := zwm 367 (by decide +kernel) (by decide +kernel)
set_option maxRecDepth 20000 in
theorem zw_365 : Cond.instanceMethod yX6_undo ∈ zWU := zwm 365 (by decide +kernel) (by decide +kernel)
set_option maxRecDepth 20000 in
theorem zw_366 : Cond.selects RX6 yX6_undo yX6_undo ∈ zWU := zwm 366 (by decide +kernel) (by decide +kernel)
set_option maxRecDepth 20000 in
theorem zk_RL_125 : zKV RL 125 yX6_undo cX6_undo 2 (some .int) 6 0 := ⟨⟨zw_364, zw_71, zw_367, by decide +kernel, by decide⟩, zw_365, zw_366, _, rfl, rfl⟩
set_option maxRecDepth 20000 in
theorem zw_1190 : Cond.methodLink RL 128 yX7_undo ∈ zWU := zwm 1190 (by decide +kernel) (by decide +kernel)
set_option maxRecDepth 20000 in
theorem zw_1193 : Cond.code yX7_undo cX7_undo 1 (some .int) ∈ zWU := zwm 1193 (by decide +kernel) (by decide +kernel)
set_option maxRecDepth 20000 in
theorem zw_1191 : Cond.instanceMethod yX7_undo ∈ zWU := zwm 1191 (by decide +kernel) (by decide +kernel)
set_option maxRecDepth 20000 in
theorem zw_1192 : Cond.selects RX7 yX7_undo yX7_undo ∈ zWU := zwm 1192 (by decide +kernel) (by decide +kernel)
set_option maxRecDepth 20000 in
theorem zk_RL_128 : zKV RL 128 yX7_undo cX7_undo 1 (some .int) 7 0 := ⟨⟨zw_1190, zw_78, zw_1193, by decide +kernel, by decide⟩, zw_1191, zw_1192, _, rfl, rfl⟩
set_option maxRecDepth 20000 in
theorem zw_779 : Cond.methodLink RL 129 yL_told ∈ zWU := zwm 779 (by decide +kernel) (by decide +kernel)
set_option maxRecDepth 20000 in
theorem zw_780 : Cond.static yL_told ∈ zWU := zwm 780 (by decide +kernel) (by decide +kernel)
set_option maxRecDepth 20000 in
theorem zkw_RL_129 : zKW RL 129 yL_told cL_told 4 [(0, 9, 12, 13)] 3 := ⟨zw_779, zw_70, zcw_L_told, by decide +kernel, by decide, zw_780⟩
set_option maxRecDepth 20000 in
theorem zw_1255 : Cond.methodLink RL 131 yX7_told ∈ zWU := zwm 1255 (by decide +kernel) (by decide +kernel)
set_option maxRecDepth 20000 in
theorem zw_1258 : Cond.code yX7_told cX7_told 2 (some .int) ∈ zWU := zwm 1258 (by decide +kernel) (by decide +kernel)
set_option maxRecDepth 20000 in
theorem zw_1256 : Cond.instanceMethod yX7_told ∈ zWU := zwm 1256 (by decide +kernel) (by decide +kernel)
set_option maxRecDepth 20000 in
theorem zw_1257 : Cond.selects RX7 yX7_told yX7_told ∈ zWU := zwm 1257 (by decide +kernel) (by decide +kernel)
set_option maxRecDepth 20000 in
theorem zk_RL_131 : zKV RL 131 yX7_told cX7_told 2 (some .int) 7 1 := ⟨⟨zw_1255, zw_78, zw_1258, by decide +kernel, by decide⟩, zw_1256, zw_1257, _, rfl, rfl⟩
set_option maxRecDepth 20000 in
theorem zw_786 : Cond.methodLink RL 132 yL_points ∈ zWU := zwm 786 (by decide +kernel) (by decide +kernel)
set_option maxRecDepth 20000 in
theorem zw_787 : Cond.static yL_points ∈ zWU := zwm 787 (by decide +kernel) (by decide +kernel)
set_option maxRecDepth 20000 in
theorem zkw_RL_132 : zKW RL 132 yL_points cL_points 6 [(0, 12, 15, 19), (0, 12, 19, 13)] 5 := ⟨zw_786, zw_70, zcw_L_points, by decide +kernel, by decide, zw_787⟩
set_option maxRecDepth 20000 in
theorem zw_1260 : Cond.methodLink RL 134 yX7_points ∈ zWU := zwm 1260 (by decide +kernel) (by decide +kernel)
set_option maxRecDepth 20000 in
theorem zw_1263 : Cond.code yX7_points cX7_points 4 (some .int) ∈ zWU := zwm 1263 (by decide +kernel) (by decide +kernel)
set_option maxRecDepth 20000 in
theorem zw_1261 : Cond.instanceMethod yX7_points ∈ zWU := zwm 1261 (by decide +kernel) (by decide +kernel)
set_option maxRecDepth 20000 in
theorem zw_1262 : Cond.selects RX7 yX7_points yX7_points ∈ zWU := zwm 1262 (by decide +kernel) (by decide +kernel)
set_option maxRecDepth 20000 in
theorem zk_RL_134 : zKV RL 134 yX7_points cX7_points 4 (some .int) 7 3 := ⟨⟨zw_1260, zw_78, zw_1263, by decide +kernel, by decide⟩, zw_1261, zw_1262, _, rfl, rfl⟩
set_option maxRecDepth 20000 in
theorem zw_796 : Cond.methodLink RL 135 yL_at ∈ zWU := zwm 796 (by decide +kernel) (by decide +kernel)
set_option maxRecDepth 20000 in
theorem zw_797 : Cond.static yL_at ∈ zWU := zwm 797 (by decide +kernel) (by decide +kernel)
set_option maxRecDepth 20000 in
theorem zkw_RL_135 : zKW RL 135 yL_at cL_at 5 [(0, 10, 13, 19)] 4 := ⟨zw_796, zw_70, zcw_L_at, by decide +kernel, by decide, zw_797⟩
set_option maxRecDepth 20000 in
theorem zw_1265 : Cond.methodLink RL 137 yX7_at ∈ zWU := zwm 1265 (by decide +kernel) (by decide +kernel)
set_option maxRecDepth 20000 in
theorem zw_1268 : Cond.code yX7_at cX7_at 3 (some .int) ∈ zWU := zwm 1268 (by decide +kernel) (by decide +kernel)
set_option maxRecDepth 20000 in
theorem zw_1266 : Cond.instanceMethod yX7_at ∈ zWU := zwm 1266 (by decide +kernel) (by decide +kernel)
set_option maxRecDepth 20000 in
theorem zw_1267 : Cond.selects RX7 yX7_at yX7_at ∈ zWU := zwm 1267 (by decide +kernel) (by decide +kernel)
set_option maxRecDepth 20000 in
theorem zk_RL_137 : zKV RL 137 yX7_at cX7_at 3 (some .int) 7 2 := ⟨⟨zw_1265, zw_78, zw_1268, by decide +kernel, by decide⟩, zw_1266, zw_1267, _, rfl, rfl⟩
set_option maxRecDepth 20000 in
theorem zw_803 : Cond.methodLink RL 138 yL_coefficient ∈ zWU := zwm 803 (by decide +kernel) (by decide +kernel)
set_option maxRecDepth 20000 in
theorem zw_804 : Cond.static yL_coefficient ∈ zWU := zwm 804 (by decide +kernel) (by decide +kernel)
set_option maxRecDepth 20000 in
theorem zkw_RL_138 : zKW RL 138 yL_coefficient cL_coefficient 5 [(0, 10, 13, 19), (0, 10, 17, 13)] 4 := ⟨zw_803, zw_70, zcw_L_coefficient, by decide +kernel, by decide, zw_804⟩
set_option maxRecDepth 20000 in
theorem zw_1269 : Cond.methodLink RL 140 yX7_coefficient ∈ zWU := zwm 1269 (by decide +kernel) (by decide +kernel)
set_option maxRecDepth 20000 in
theorem zw_1272 : Cond.code yX7_coefficient cX7_coefficient 3 (some .int) ∈ zWU := zwm 1272 (by decide +kernel) (by decide +kernel)
set_option maxRecDepth 20000 in
theorem zw_1270 : Cond.instanceMethod yX7_coefficient ∈ zWU := zwm 1270 (by decide +kernel) (by decide +kernel)
set_option maxRecDepth 20000 in
theorem zw_1271 : Cond.selects RX7 yX7_coefficient yX7_coefficient ∈ zWU := zwm 1271 (by decide +kernel) (by decide +kernel)
set_option maxRecDepth 20000 in
theorem zk_RL_140 : zKV RL 140 yX7_coefficient cX7_coefficient 3 (some .int) 7 2 := ⟨⟨zw_1269, zw_78, zw_1272, by decide +kernel, by decide⟩, zw_1270, zw_1271, _, rfl, rfl⟩
set_option maxRecDepth 20000 in
theorem zw_816 : Cond.methodLink RL 141 yL_degree ∈ zWU := zwm 816 (by decide +kernel) (by decide +kernel)
set_option maxRecDepth 20000 in
theorem zw_817 : Cond.static yL_degree ∈ zWU := zwm 817 (by decide +kernel) (by decide +kernel)
set_option maxRecDepth 20000 in
theorem zkw_RL_141 : zKW RL 141 yL_degree cL_degree 4 [(0, 9, 12, 19)] 3 := ⟨zw_816, zw_70, zcw_L_degree, by decide +kernel, by decide, zw_817⟩
set_option maxRecDepth 20000 in
theorem zw_1281 : Cond.methodLink RL 143 yX7_degree ∈ zWU := zwm 1281 (by decide +kernel) (by decide +kernel)
set_option maxRecDepth 20000 in
theorem zw_1284 : Cond.code yX7_degree cX7_degree 3 (some .int) ∈ zWU := zwm 1284 (by decide +kernel) (by decide +kernel)
set_option maxRecDepth 20000 in
theorem zw_1282 : Cond.instanceMethod yX7_degree ∈ zWU := zwm 1282 (by decide +kernel) (by decide +kernel)
set_option maxRecDepth 20000 in
theorem zw_1283 : Cond.selects RX7 yX7_degree yX7_degree ∈ zWU := zwm 1283 (by decide +kernel) (by decide +kernel)
set_option maxRecDepth 20000 in
theorem zk_RL_143 : zKV RL 143 yX7_degree cX7_degree 3 (some .int) 7 1 := ⟨⟨zw_1281, zw_78, zw_1284, by decide +kernel, by decide⟩, zw_1282, zw_1283, _, rfl, rfl⟩
set_option maxRecDepth 20000 in
theorem zw_827 : Cond.methodLink RL 144 yL_taken ∈ zWU := zwm 827 (by decide +kernel) (by decide +kernel)
set_option maxRecDepth 20000 in
theorem zw_828 : Cond.static yL_taken ∈ zWU := zwm 828 (by decide +kernel) (by decide +kernel)
set_option maxRecDepth 20000 in
theorem zkw_RL_144 : zKW RL 144 yL_taken cL_taken 5 [(0, 10, 13, 19)] 4 := ⟨zw_827, zw_70, zcw_L_taken, by decide +kernel, by decide, zw_828⟩
set_option maxRecDepth 20000 in
theorem zw_1285 : Cond.methodLink RL 146 yX7_taken ∈ zWU := zwm 1285 (by decide +kernel) (by decide +kernel)
set_option maxRecDepth 20000 in
theorem zw_1288 : Cond.code yX7_taken cX7_taken 3 (some .int) ∈ zWU := zwm 1288 (by decide +kernel) (by decide +kernel)
set_option maxRecDepth 20000 in
theorem zw_1286 : Cond.instanceMethod yX7_taken ∈ zWU := zwm 1286 (by decide +kernel) (by decide +kernel)
set_option maxRecDepth 20000 in
theorem zw_1287 : Cond.selects RX7 yX7_taken yX7_taken ∈ zWU := zwm 1287 (by decide +kernel) (by decide +kernel)
set_option maxRecDepth 20000 in
theorem zk_RL_146 : zKV RL 146 yX7_taken cX7_taken 3 (some .int) 7 2 := ⟨⟨zw_1285, zw_78, zw_1288, by decide +kernel, by decide⟩, zw_1286, zw_1287, _, rfl, rfl⟩
set_option maxRecDepth 20000 in
theorem zw_838 : Cond.methodLink RL 147 yL_image ∈ zWU := zwm 838 (by decide +kernel) (by decide +kernel)
set_option maxRecDepth 20000 in
theorem zw_839 : Cond.static yL_image ∈ zWU := zwm 839 (by decide +kernel) (by decide +kernel)
set_option maxRecDepth 20000 in
theorem zkw_RL_147 : zKW RL 147 yL_image cL_image 4 [(0, 9, 12, 19)] 3 := ⟨zw_838, zw_70, zcw_L_image, by decide +kernel, by decide, zw_839⟩
set_option maxRecDepth 20000 in
theorem zw_1289 : Cond.methodLink RL 149 yX7_image ∈ zWU := zwm 1289 (by decide +kernel) (by decide +kernel)
set_option maxRecDepth 20000 in
theorem zw_1292 : Cond.code yX7_image cX7_image 2 (some .int) ∈ zWU := zwm 1292 (by decide +kernel) (by decide +kernel)
set_option maxRecDepth 20000 in
theorem zw_1290 : Cond.instanceMethod yX7_image ∈ zWU := zwm 1290 (by decide +kernel) (by decide +kernel)
set_option maxRecDepth 20000 in
theorem zw_1291 : Cond.selects RX7 yX7_image yX7_image ∈ zWU := zwm 1291 (by decide +kernel) (by decide +kernel)
set_option maxRecDepth 20000 in
theorem zk_RL_149 : zKV RL 149 yX7_image cX7_image 2 (some .int) 7 1 := ⟨⟨zw_1289, zw_78, zw_1292, by decide +kernel, by decide⟩, zw_1290, zw_1291, _, rfl, rfl⟩
set_option maxRecDepth 20000 in
theorem zw_846 : Cond.methodLink RL 150 yL_permutes ∈ zWU := zwm 846 (by decide +kernel) (by decide +kernel)
set_option maxRecDepth 20000 in
theorem zw_847 : Cond.static yL_permutes ∈ zWU := zwm 847 (by decide +kernel) (by decide +kernel)
set_option maxRecDepth 20000 in
theorem zkw_RL_150 : zKW RL 150 yL_permutes cL_permutes 4 [(0, 9, 12, 19)] 3 := ⟨zw_846, zw_70, zcw_L_permutes, by decide +kernel, by decide, zw_847⟩
set_option maxRecDepth 20000 in
theorem zw_1293 : Cond.methodLink RL 152 yX7_permutes ∈ zWU := zwm 1293 (by decide +kernel) (by decide +kernel)
set_option maxRecDepth 20000 in
theorem zw_1296 : Cond.code yX7_permutes cX7_permutes 2 (some .int) ∈ zWU := zwm 1296 (by decide +kernel) (by decide +kernel)
set_option maxRecDepth 20000 in
theorem zw_1294 : Cond.instanceMethod yX7_permutes ∈ zWU := zwm 1294 (by decide +kernel) (by decide +kernel)
set_option maxRecDepth 20000 in
theorem zw_1295 : Cond.selects RX7 yX7_permutes yX7_permutes ∈ zWU := zwm 1295 (by decide +kernel) (by decide +kernel)
set_option maxRecDepth 20000 in
theorem zk_RL_152 : zKV RL 152 yX7_permutes cX7_permutes 2 (some .int) 7 1 := ⟨⟨zw_1293, zw_78, zw_1296, by decide +kernel, by decide⟩, zw_1294, zw_1295, _, rfl, rfl⟩
set_option maxRecDepth 20000 in
theorem zw_853 : Cond.methodLink RL 153 yL_powers ∈ zWU := zwm 853 (by decide +kernel) (by decide +kernel)
set_option maxRecDepth 20000 in
theorem zw_854 : Cond.static yL_powers ∈ zWU := zwm 854 (by decide +kernel) (by decide +kernel)
set_option maxRecDepth 20000 in
theorem zkw_RL_153 : zKW RL 153 yL_powers cL_powers 4 [(0, 9, 12, 19)] 3 := ⟨zw_853, zw_70, zcw_L_powers, by decide +kernel, by decide, zw_854⟩
set_option maxRecDepth 20000 in
theorem zw_1297 : Cond.methodLink RL 155 yX7_powers ∈ zWU := zwm 1297 (by decide +kernel) (by decide +kernel)
set_option maxRecDepth 20000 in
theorem zw_1300 : Cond.code yX7_powers cX7_powers 4 (some .int) ∈ zWU := zwm 1300 (by decide +kernel) (by decide +kernel)
set_option maxRecDepth 20000 in
theorem zw_1298 : Cond.instanceMethod yX7_powers ∈ zWU := zwm 1298 (by decide +kernel) (by decide +kernel)
set_option maxRecDepth 20000 in
theorem zw_1299 : Cond.selects RX7 yX7_powers yX7_powers ∈ zWU := zwm 1299 (by decide +kernel) (by decide +kernel)
set_option maxRecDepth 20000 in
theorem zk_RL_155 : zKV RL 155 yX7_powers cX7_powers 4 (some .int) 7 1 := ⟨⟨zw_1297, zw_78, zw_1300, by decide +kernel, by decide⟩, zw_1298, zw_1299, _, rfl, rfl⟩
set_option maxRecDepth 20000 in
theorem zw_865 : Cond.methodLink RL 156 yL_cycles ∈ zWU := zwm 865 (by decide +kernel) (by decide +kernel)
set_option maxRecDepth 20000 in
theorem zw_866 : Cond.static yL_cycles ∈ zWU := zwm 866 (by decide +kernel) (by decide +kernel)
set_option maxRecDepth 20000 in
theorem zkw_RL_156 : zKW RL 156 yL_cycles cL_cycles 5 [(0, 10, 13, 19), (0, 10, 17, 13), (0, 10, 21, 25)] 4 := ⟨zw_865, zw_70, zcw_L_cycles, by decide +kernel, by decide, zw_866⟩
set_option maxRecDepth 20000 in
theorem zw_1301 : Cond.methodLink RL 158 yX7_cycles ∈ zWU := zwm 1301 (by decide +kernel) (by decide +kernel)
set_option maxRecDepth 20000 in
theorem zw_1304 : Cond.code yX7_cycles cX7_cycles 3 (some .int) ∈ zWU := zwm 1304 (by decide +kernel) (by decide +kernel)
set_option maxRecDepth 20000 in
theorem zw_1302 : Cond.instanceMethod yX7_cycles ∈ zWU := zwm 1302 (by decide +kernel) (by decide +kernel)
set_option maxRecDepth 20000 in
theorem zw_1303 : Cond.selects RX7 yX7_cycles yX7_cycles ∈ zWU := zwm 1303 (by decide +kernel) (by decide +kernel)
set_option maxRecDepth 20000 in
theorem zk_RL_158 : zKV RL 158 yX7_cycles cX7_cycles 3 (some .int) 7 2 := ⟨⟨zw_1301, zw_78, zw_1304, by decide +kernel, by decide⟩, zw_1302, zw_1303, _, rfl, rfl⟩
set_option maxRecDepth 20000 in
theorem zw_876 : Cond.methodLink RL 159 yL_order ∈ zWU := zwm 876 (by decide +kernel) (by decide +kernel)
set_option maxRecDepth 20000 in
theorem zw_877 : Cond.static yL_order ∈ zWU := zwm 877 (by decide +kernel) (by decide +kernel)
set_option maxRecDepth 20000 in
theorem zkw_RL_159 : zKW RL 159 yL_order cL_order 4 [(0, 9, 12, 19), (0, 9, 15, 25)] 3 := ⟨zw_876, zw_70, zcw_L_order, by decide +kernel, by decide, zw_877⟩
set_option maxRecDepth 20000 in
theorem zw_1318 : Cond.methodLink RL 161 yX7_order ∈ zWU := zwm 1318 (by decide +kernel) (by decide +kernel)
set_option maxRecDepth 20000 in
theorem zw_1321 : Cond.code yX7_order cX7_order 5 (some .int) ∈ zWU := zwm 1321 (by decide +kernel) (by decide +kernel)
set_option maxRecDepth 20000 in
theorem zw_1319 : Cond.instanceMethod yX7_order ∈ zWU := zwm 1319 (by decide +kernel) (by decide +kernel)
set_option maxRecDepth 20000 in
theorem zw_1320 : Cond.selects RX7 yX7_order yX7_order ∈ zWU := zwm 1320 (by decide +kernel) (by decide +kernel)
set_option maxRecDepth 20000 in
theorem zk_RL_161 : zKV RL 161 yX7_order cX7_order 5 (some .int) 7 1 := ⟨⟨zw_1318, zw_78, zw_1321, by decide +kernel, by decide⟩, zw_1319, zw_1320, _, rfl, rfl⟩
set_option maxRecDepth 20000 in
theorem zw_890 : Cond.methodLink RL 162 yL_even ∈ zWU := zwm 890 (by decide +kernel) (by decide +kernel)
set_option maxRecDepth 20000 in
theorem zw_891 : Cond.static yL_even ∈ zWU := zwm 891 (by decide +kernel) (by decide +kernel)
set_option maxRecDepth 20000 in
theorem zkw_RL_162 : zKW RL 162 yL_even cL_even 4 [(0, 9, 12, 19), (0, 9, 15, 25)] 3 := ⟨zw_890, zw_70, zcw_L_even, by decide +kernel, by decide, zw_891⟩
set_option maxRecDepth 20000 in
theorem zw_1325 : Cond.methodLink RL 164 yX7_even ∈ zWU := zwm 1325 (by decide +kernel) (by decide +kernel)
set_option maxRecDepth 20000 in
theorem zw_1328 : Cond.code yX7_even cX7_even 2 (some .int) ∈ zWU := zwm 1328 (by decide +kernel) (by decide +kernel)
set_option maxRecDepth 20000 in
theorem zw_1326 : Cond.instanceMethod yX7_even ∈ zWU := zwm 1326 (by decide +kernel) (by decide +kernel)
set_option maxRecDepth 20000 in
theorem zw_1327 : Cond.selects RX7 yX7_even yX7_even ∈ zWU := zwm 1327 (by decide +kernel) (by decide +kernel)
set_option maxRecDepth 20000 in
theorem zk_RL_164 : zKV RL 164 yX7_even cX7_even 2 (some .int) 7 1 := ⟨⟨zw_1325, zw_78, zw_1328, by decide +kernel, by decide⟩, zw_1326, zw_1327, _, rfl, rfl⟩
set_option maxRecDepth 20000 in
theorem zw_897 : Cond.methodLink RL 165 yL_orbit ∈ zWU := zwm 897 (by decide +kernel) (by decide +kernel)
set_option maxRecDepth 20000 in
theorem zw_898 : Cond.static yL_orbit ∈ zWU := zwm 898 (by decide +kernel) (by decide +kernel)
set_option maxRecDepth 20000 in
theorem zkw_RL_165 : zKW RL 165 yL_orbit cL_orbit 4 [(0, 9, 12, 19)] 3 := ⟨zw_897, zw_70, zcw_L_orbit, by decide +kernel, by decide, zw_898⟩
set_option maxRecDepth 20000 in
theorem zw_1329 : Cond.methodLink RL 167 yX7_orbit ∈ zWU := zwm 1329 (by decide +kernel) (by decide +kernel)
set_option maxRecDepth 20000 in
theorem zw_1332 : Cond.code yX7_orbit cX7_orbit 4 (some .int) ∈ zWU := zwm 1332 (by decide +kernel) (by decide +kernel)
set_option maxRecDepth 20000 in
theorem zw_1330 : Cond.instanceMethod yX7_orbit ∈ zWU := zwm 1330 (by decide +kernel) (by decide +kernel)
set_option maxRecDepth 20000 in
theorem zw_1331 : Cond.selects RX7 yX7_orbit yX7_orbit ∈ zWU := zwm 1331 (by decide +kernel) (by decide +kernel)
set_option maxRecDepth 20000 in
theorem zk_RL_167 : zKV RL 167 yX7_orbit cX7_orbit 4 (some .int) 7 1 := ⟨⟨zw_1329, zw_78, zw_1332, by decide +kernel, by decide⟩, zw_1330, zw_1331, _, rfl, rfl⟩
set_option maxRecDepth 20000 in
theorem zw_380 : Cond.methodLink RL 168 yX6_orbits ∈ zWU := zwm 380 (by decide +kernel) (by decide +kernel)
set_option maxRecDepth 20000 in
theorem zw_383 : Cond.code yX6_orbits cX6_orbits 5 (some .int) ∈ zWU := zwm 383 (by decide +kernel) (by decide +kernel)
set_option maxRecDepth 20000 in
theorem zw_381 : Cond.instanceMethod yX6_orbits ∈ zWU := zwm 381 (by decide +kernel) (by decide +kernel)
set_option maxRecDepth 20000 in
theorem zw_382 : Cond.selects RX6 yX6_orbits yX6_orbits ∈ zWU := zwm 382 (by decide +kernel) (by decide +kernel)
set_option maxRecDepth 20000 in
theorem zk_RL_168 : zKV RL 168 yX6_orbits cX6_orbits 5 (some .int) 6 0 := ⟨⟨zw_380, zw_71, zw_383, by decide +kernel, by decide⟩, zw_381, zw_382, _, rfl, rfl⟩
set_option maxRecDepth 20000 in
theorem zw_1337 : Cond.methodLink RL 171 yX7_orbits ∈ zWU := zwm 1337 (by decide +kernel) (by decide +kernel)
set_option maxRecDepth 20000 in
theorem zw_1340 : Cond.code yX7_orbits cX7_orbits 3 (some .int) ∈ zWU := zwm 1340 (by decide +kernel) (by decide +kernel)
set_option maxRecDepth 20000 in
theorem zw_1338 : Cond.instanceMethod yX7_orbits ∈ zWU := zwm 1338 (by decide +kernel) (by decide +kernel)
set_option maxRecDepth 20000 in
theorem zw_1339 : Cond.selects RX7 yX7_orbits yX7_orbits ∈ zWU := zwm 1339 (by decide +kernel) (by decide +kernel)
set_option maxRecDepth 20000 in
theorem zk_RL_171 : zKV RL 171 yX7_orbits cX7_orbits 3 (some .int) 7 0 := ⟨⟨zw_1337, zw_78, zw_1340, by decide +kernel, by decide⟩, zw_1338, zw_1339, _, rfl, rfl⟩
set_option maxRecDepth 20000 in
theorem zw_905 : Cond.methodLink RL 172 yL_spread ∈ zWU := zwm 905 (by decide +kernel) (by decide +kernel)
set_option maxRecDepth 20000 in
theorem zw_906 : Cond.static yL_spread ∈ zWU := zwm 906 (by decide +kernel) (by decide +kernel)
set_option maxRecDepth 20000 in
theorem zkw_RL_172 : zKW RL 172 yL_spread cL_spread 4 [(0, 9, 12, 19)] 3 := ⟨zw_905, zw_70, zcw_L_spread, by decide +kernel, by decide, zw_906⟩
set_option maxRecDepth 20000 in
theorem zw_1341 : Cond.methodLink RL 174 yX7_spread ∈ zWU := zwm 1341 (by decide +kernel) (by decide +kernel)
set_option maxRecDepth 20000 in
theorem zw_1344 : Cond.code yX7_spread cX7_spread 7 (some .int) ∈ zWU := zwm 1344 (by decide +kernel) (by decide +kernel)
set_option maxRecDepth 20000 in
theorem zw_1342 : Cond.instanceMethod yX7_spread ∈ zWU := zwm 1342 (by decide +kernel) (by decide +kernel)
set_option maxRecDepth 20000 in
theorem zw_1343 : Cond.selects RX7 yX7_spread yX7_spread ∈ zWU := zwm 1343 (by decide +kernel) (by decide +kernel)
set_option maxRecDepth 20000 in
theorem zk_RL_174 : zKV RL 174 yX7_spread cX7_spread 7 (some .int) 7 1 := ⟨⟨zw_1341, zw_78, zw_1344, by decide +kernel, by decide⟩, zw_1342, zw_1343, _, rfl, rfl⟩
set_option maxRecDepth 20000 in
theorem zw_406 : Cond.methodLink RL 175 yX6_monomials ∈ zWU := zwm 406 (by decide +kernel) (by decide +kernel)
set_option maxRecDepth 20000 in
theorem zw_409 : Cond.code yX6_monomials cX6_monomials 1 (some .long) ∈ zWU := zwm 409 (by decide +kernel) (by decide +kernel)
set_option maxRecDepth 20000 in
theorem zw_407 : Cond.instanceMethod yX6_monomials ∈ zWU := zwm 407 (by decide +kernel) (by decide +kernel)
set_option maxRecDepth 20000 in
theorem zw_408 : Cond.selects RX6 yX6_monomials yX6_monomials ∈ zWU := zwm 408 (by decide +kernel) (by decide +kernel)
set_option maxRecDepth 20000 in
theorem zk_RL_175 : zKV RL 175 yX6_monomials cX6_monomials 1 (some .long) 6 0 := ⟨⟨zw_406, zw_71, zw_409, by decide +kernel, by decide⟩, zw_407, zw_408, _, rfl, rfl⟩
set_option maxRecDepth 20000 in
theorem zw_1345 : Cond.methodLink RL 179 yX7_monomials ∈ zWU := zwm 1345 (by decide +kernel) (by decide +kernel)
set_option maxRecDepth 20000 in
theorem zw_1348 : Cond.code yX7_monomials cX7_monomials 5 (some .long) ∈ zWU := zwm 1348 (by decide +kernel) (by decide +kernel)
set_option maxRecDepth 20000 in
theorem zw_1346 : Cond.instanceMethod yX7_monomials ∈ zWU := zwm 1346 (by decide +kernel) (by decide +kernel)
set_option maxRecDepth 20000 in
theorem zw_1347 : Cond.selects RX7 yX7_monomials yX7_monomials ∈ zWU := zwm 1347 (by decide +kernel) (by decide +kernel)
set_option maxRecDepth 20000 in
theorem zk_RL_179 : zKV RL 179 yX7_monomials cX7_monomials 5 (some .long) 7 0 := ⟨⟨zw_1345, zw_78, zw_1348, by decide +kernel, by decide⟩, zw_1346, zw_1347, _, rfl, rfl⟩
set_option maxRecDepth 20000 in
theorem zw_920 : Cond.methodLink RL 180 yL_dicksons ∈ zWU := zwm 920 (by decide +kernel) (by decide +kernel)
set_option maxRecDepth 20000 in
theorem zw_921 : Cond.static yL_dicksons ∈ zWU := zwm 921 (by decide +kernel) (by decide +kernel)
set_option maxRecDepth 20000 in
theorem zkw_RL_180 : zKW RL 180 yL_dicksons cL_dicksons 4 [(0, 8, 11, 19)] 3 := ⟨zw_920, zw_70, zcw_L_dicksons, by decide +kernel, by decide, zw_921⟩
set_option maxRecDepth 20000 in
theorem zw_1353 : Cond.methodLink RL 182 yX7_dicksons ∈ zWU := zwm 1353 (by decide +kernel) (by decide +kernel)
set_option maxRecDepth 20000 in
theorem zw_1356 : Cond.code yX7_dicksons cX7_dicksons 6 (some .long) ∈ zWU := zwm 1356 (by decide +kernel) (by decide +kernel)
set_option maxRecDepth 20000 in
theorem zw_1354 : Cond.instanceMethod yX7_dicksons ∈ zWU := zwm 1354 (by decide +kernel) (by decide +kernel)
set_option maxRecDepth 20000 in
theorem zw_1355 : Cond.selects RX7 yX7_dicksons yX7_dicksons ∈ zWU := zwm 1355 (by decide +kernel) (by decide +kernel)
set_option maxRecDepth 20000 in
theorem zk_RL_182 : zKV RL 182 yX7_dicksons cX7_dicksons 6 (some .long) 7 1 := ⟨⟨zw_1353, zw_78, zw_1356, by decide +kernel, by decide⟩, zw_1354, zw_1355, _, rfl, rfl⟩
set_option maxRecDepth 20000 in
theorem zw_931 : Cond.methodLink RL 183 yL_binomials ∈ zWU := zwm 931 (by decide +kernel) (by decide +kernel)
set_option maxRecDepth 20000 in
theorem zw_932 : Cond.static yL_binomials ∈ zWU := zwm 932 (by decide +kernel) (by decide +kernel)
set_option maxRecDepth 20000 in
theorem zkw_RL_183 : zKW RL 183 yL_binomials cL_binomials 4 [(0, 9, 12, 13)] 3 := ⟨zw_931, zw_70, zcw_L_binomials, by decide +kernel, by decide, zw_932⟩
set_option maxRecDepth 20000 in
theorem zw_1357 : Cond.methodLink RL 185 yX7_binomials ∈ zWU := zwm 1357 (by decide +kernel) (by decide +kernel)
set_option maxRecDepth 20000 in
theorem zw_1360 : Cond.code yX7_binomials cX7_binomials 5 (some .int) ∈ zWU := zwm 1360 (by decide +kernel) (by decide +kernel)
set_option maxRecDepth 20000 in
theorem zw_1358 : Cond.instanceMethod yX7_binomials ∈ zWU := zwm 1358 (by decide +kernel) (by decide +kernel)
set_option maxRecDepth 20000 in
theorem zw_1359 : Cond.selects RX7 yX7_binomials yX7_binomials ∈ zWU := zwm 1359 (by decide +kernel) (by decide +kernel)
set_option maxRecDepth 20000 in
theorem zk_RL_185 : zKV RL 185 yX7_binomials cX7_binomials 5 (some .int) 7 1 := ⟨⟨zw_1357, zw_78, zw_1360, by decide +kernel, by decide⟩, zw_1358, zw_1359, _, rfl, rfl⟩
set_option maxRecDepth 20000 in
theorem zw_415 : Cond.methodLink RL 186 yX6_print ∈ zWU := zwm 415 (by decide +kernel) (by decide +kernel)
set_option maxRecDepth 20000 in
theorem zw_418 : Cond.code yX6_print cX6_print 6 (some .long) ∈ zWU := zwm 418 (by decide +kernel) (by decide +kernel)
set_option maxRecDepth 20000 in
theorem zw_416 : Cond.instanceMethod yX6_print ∈ zWU := zwm 416 (by decide +kernel) (by decide +kernel)
set_option maxRecDepth 20000 in
theorem zw_417 : Cond.selects RX6 yX6_print yX6_print ∈ zWU := zwm 417 (by decide +kernel) (by decide +kernel)
set_option maxRecDepth 20000 in
theorem zk_RL_186 : zKV RL 186 yX6_print cX6_print 6 (some .long) 6 0 := ⟨⟨zw_415, zw_71, zw_418, by decide +kernel, by decide⟩, zw_416, zw_417, _, rfl, rfl⟩
set_option maxRecDepth 20000 in
theorem zw_1363 : Cond.methodLink RL 189 yX7_print ∈ zWU := zwm 1363 (by decide +kernel) (by decide +kernel)
set_option maxRecDepth 20000 in
theorem zw_1366 : Cond.code yX7_print cX7_print 5 (some .long) ∈ zWU := zwm 1366 (by decide +kernel) (by decide +kernel)
set_option maxRecDepth 20000 in
theorem zw_1364 : Cond.instanceMethod yX7_print ∈ zWU := zwm 1364 (by decide +kernel) (by decide +kernel)
set_option maxRecDepth 20000 in
theorem zw_1365 : Cond.selects RX7 yX7_print yX7_print ∈ zWU := zwm 1365 (by decide +kernel) (by decide +kernel)
set_option maxRecDepth 20000 in
theorem zk_RL_189 : zKV RL 189 yX7_print cX7_print 5 (some .long) 7 0 := ⟨⟨zw_1363, zw_78, zw_1366, by decide +kernel, by decide⟩, zw_1364, zw_1365, _, rfl, rfl⟩
set_option maxRecDepth 20000 in
theorem zw_420 : Cond.methodLink RL 190 yX6_status ∈ zWU := zwm 420 (by decide +kernel) (by decide +kernel)
set_option maxRecDepth 20000 in
theorem zw_423 : Cond.code yX6_status cX6_status 2 (some .int) ∈ zWU := zwm 423 (by decide +kernel) (by decide +kernel)
set_option maxRecDepth 20000 in
theorem zw_421 : Cond.instanceMethod yX6_status ∈ zWU := zwm 421 (by decide +kernel) (by decide +kernel)
set_option maxRecDepth 20000 in
theorem zw_422 : Cond.selects RX6 yX6_status yX6_status ∈ zWU := zwm 422 (by decide +kernel) (by decide +kernel)
set_option maxRecDepth 20000 in
theorem zk_RL_190 : zKV RL 190 yX6_status cX6_status 2 (some .int) 6 1 := ⟨⟨zw_420, zw_71, zw_423, by decide +kernel, by decide⟩, zw_421, zw_422, _, rfl, rfl⟩
set_option maxRecDepth 20000 in
theorem zw_1368 : Cond.methodLink RL 193 yX7_status ∈ zWU := zwm 1368 (by decide +kernel) (by decide +kernel)
set_option maxRecDepth 20000 in
theorem zw_1371 : Cond.code yX7_status cX7_status 2 (some .int) ∈ zWU := zwm 1371 (by decide +kernel) (by decide +kernel)
set_option maxRecDepth 20000 in
theorem zw_1369 : Cond.instanceMethod yX7_status ∈ zWU := zwm 1369 (by decide +kernel) (by decide +kernel)
set_option maxRecDepth 20000 in
theorem zw_1370 : Cond.selects RX7 yX7_status yX7_status ∈ zWU := zwm 1370 (by decide +kernel) (by decide +kernel)
set_option maxRecDepth 20000 in
theorem zk_RL_193 : zKV RL 193 yX7_status cX7_status 2 (some .int) 7 1 := ⟨⟨zw_1368, zw_78, zw_1371, by decide +kernel, by decide⟩, zw_1369, zw_1370, _, rfl, rfl⟩
set_option maxRecDepth 20000 in
theorem zw_92 : Cond.classLink RL 8 RX6 ∈ zWU := zwm 92 (by decide +kernel) (by decide +kernel)
set_option maxRecDepth 20000 in
theorem zw_93 : Cond.instantiable RX6 9 ∈ zWU := zwm 93 (by decide +kernel) (by decide +kernel)
set_option maxRecDepth 20000 in
theorem zn_RL_8 : zNO RL 8 6 := ⟨_, rfl, zw_92, zw_93, zw_71⟩
set_option maxRecDepth 20000 in
theorem zw_94 : Cond.methodLink RL 85 yX6_init ∈ zWU := zwm 94 (by decide +kernel) (by decide +kernel)
set_option maxRecDepth 20000 in
theorem zw_96 : Cond.code yX6_init cX6_init 1 none ∈ zWU := zwm 96 (by decide +kernel) (by decide +kernel)
set_option maxRecDepth 20000 in
theorem zw_95 : Cond.instanceMethod yX6_init ∈ zWU := zwm 95 (by decide +kernel) (by decide +kernel)
set_option maxRecDepth 20000 in
theorem zk_RL_85 : zKI RL 85 yX6_init cX6_init 1 0 := ⟨⟨zw_94, zw_71, zw_96, by decide +kernel, by decide⟩, zw_95, rfl⟩
set_option maxRecDepth 20000 in
theorem zw_942 : Cond.classLink RL 86 RX7 ∈ zWU := zwm 942 (by decide +kernel) (by decide +kernel)
set_option maxRecDepth 20000 in
theorem zw_943 : Cond.instantiable RX7 28 ∈ zWU := zwm 943 (by decide +kernel) (by decide +kernel)
set_option maxRecDepth 20000 in
theorem zn_RL_86 : zNO RL 86 7 := ⟨_, rfl, zw_942, zw_943, zw_78⟩
set_option maxRecDepth 20000 in
theorem zw_944 : Cond.methodLink RL 88 yX7_init ∈ zWU := zwm 944 (by decide +kernel) (by decide +kernel)
set_option maxRecDepth 20000 in
theorem zw_946 : Cond.code yX7_init cX7_init 1 none ∈ zWU := zwm 946 (by decide +kernel) (by decide +kernel)
set_option maxRecDepth 20000 in
theorem zw_945 : Cond.instanceMethod yX7_init ∈ zWU := zwm 945 (by decide +kernel) (by decide +kernel)
set_option maxRecDepth 20000 in
theorem zk_RL_88 : zKI RL 88 yX7_init cX7_init 1 0 := ⟨⟨zw_944, zw_78, zw_946, by decide +kernel, by decide⟩, zw_945, rfl⟩
set_option maxRecDepth 20000 in
theorem zw_1372 : Cond.arrayClass .long ∈ zWU := zwm 1372 (by decide +kernel) (by decide +kernel)
