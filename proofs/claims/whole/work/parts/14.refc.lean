/-! Model_takeRoot, Model_divideRoot, Model_measure, Model_betweenRows, Model_ends, Model_isBelow, Model_same, Model_compare, Model_small, Model_floorOf, Model_fractionFloor -/
theorem kf_Model_208 : Cond.fieldLink R_Model 208 "SurdDeskModel" "lowSign" "I" ∈ sd_tb := (sd_in (List.mem_of_getElem? (i := 555) (by decide +kernel)) rfl)
theorem kf_Model_211 : Cond.fieldLink R_Model 211 "SurdDeskModel" "highSign" "I" ∈ sd_tb := (sd_in (List.mem_of_getElem? (i := 556) (by decide +kernel)) rfl)
theorem kf_Model_36 : Cond.fieldLink R_Model 36 "SurdDeskModel" "root" "[J" ∈ sd_tb := (sd_in (List.mem_of_getElem? (i := 545) (by decide +kernel)) rfl)
theorem kf_Model_39 : Cond.fieldLink R_Model 39 "SurdDeskModel" "rest" "[J" ∈ sd_tb := (sd_in (List.mem_of_getElem? (i := 546) (by decide +kernel)) rfl)
theorem kf_Model_42 : Cond.fieldLink R_Model 42 "SurdDeskModel" "square" "[J" ∈ sd_tb := (sd_in (List.mem_of_getElem? (i := 547) (by decide +kernel)) rfl)
theorem kf_Model_45 : Cond.fieldLink R_Model 45 "SurdDeskModel" "part" "[J" ∈ sd_tb := (sd_in (List.mem_of_getElem? (i := 548) (by decide +kernel)) rfl)
theorem kf_Model_48 : Cond.fieldLink R_Model 48 "SurdDeskModel" "plus" "[J" ∈ sd_tb := (sd_in (List.mem_of_getElem? (i := 549) (by decide +kernel)) rfl)
theorem kf_Model_51 : Cond.fieldLink R_Model 51 "SurdDeskModel" "minus" "[J" ∈ sd_tb := (sd_in (List.mem_of_getElem? (i := 550) (by decide +kernel)) rfl)
theorem kf_Model_54 : Cond.fieldLink R_Model 54 "SurdDeskModel" "low" "[J" ∈ sd_tb := (sd_in (List.mem_of_getElem? (i := 551) (by decide +kernel)) rfl)
theorem kf_Model_57 : Cond.fieldLink R_Model 57 "SurdDeskModel" "high" "[J" ∈ sd_tb := (sd_in (List.mem_of_getElem? (i := 552) (by decide +kernel)) rfl)
theorem kf_Model_60 : Cond.fieldLink R_Model 60 "SurdDeskModel" "one" "[J" ∈ sd_tb := (sd_in (List.mem_of_getElem? (i := 553) (by decide +kernel)) rfl)
theorem kf_Model_63 : Cond.fieldLink R_Model 63 "SurdDeskModel" "two" "[J" ∈ sd_tb := (sd_in (List.mem_of_getElem? (i := 554) (by decide +kernel)) rfl)
theorem kf_Model_66 : Cond.fieldLink R_Model 66 "SurdDeskModel" "otherLow" "[J" ∈ sd_tb := (sd_in (List.mem_of_getElem? (i := 557) (by decide +kernel)) rfl)
theorem kf_Model_69 : Cond.fieldLink R_Model 69 "SurdDeskModel" "otherHigh" "[J" ∈ sd_tb := (sd_in (List.mem_of_getElem? (i := 558) (by decide +kernel)) rfl)
theorem kl_Model_157 : sd_LS R_Model 157 y_Model_set b_Model_set 4 none 2 := ⟨(sd_in (List.mem_of_getElem? (i := 687) (by decide +kernel)) rfl), (sd_in (List.mem_of_getElem? (i := 688) (by decide +kernel)) rfl), (sd_in (List.mem_of_getElem? (i := 40) (by decide +kernel)) rfl), (sd_in (List.mem_of_getElem? (i := 689) (by decide +kernel)) rfl), by decide +kernel, by decide +kernel, by decide +kernel⟩
theorem kl_Model_161 : sd_LS R_Model 161 y_Model_bits b_Model_bits 2 (some .int) 1 := ⟨(sd_in (List.mem_of_getElem? (i := 711) (by decide +kernel)) rfl), (sd_in (List.mem_of_getElem? (i := 712) (by decide +kernel)) rfl), (sd_in (List.mem_of_getElem? (i := 40) (by decide +kernel)) rfl), (sd_in (List.mem_of_getElem? (i := 713) (by decide +kernel)) rfl), by decide +kernel, by decide +kernel, by decide +kernel⟩
theorem kl_Model_164 : sd_LS R_Model 164 y_Model_bit b_Model_bit 2 (some .int) 2 := ⟨(sd_in (List.mem_of_getElem? (i := 721) (by decide +kernel)) rfl), (sd_in (List.mem_of_getElem? (i := 722) (by decide +kernel)) rfl), (sd_in (List.mem_of_getElem? (i := 40) (by decide +kernel)) rfl), (sd_in (List.mem_of_getElem? (i := 723) (by decide +kernel)) rfl), by decide +kernel, by decide +kernel, by decide +kernel⟩
theorem kl_Model_168 : sd_LS R_Model 168 y_Model_twice b_Model_twice 6 none 2 := ⟨(sd_in (List.mem_of_getElem? (i := 724) (by decide +kernel)) rfl), (sd_in (List.mem_of_getElem? (i := 725) (by decide +kernel)) rfl), (sd_in (List.mem_of_getElem? (i := 40) (by decide +kernel)) rfl), (sd_in (List.mem_of_getElem? (i := 726) (by decide +kernel)) rfl), by decide +kernel, by decide +kernel, by decide +kernel⟩
theorem kl_Model_172 : sd_LS R_Model 172 y_Model_copy b_Model_copy 3 none 2 := ⟨(sd_in (List.mem_of_getElem? (i := 727) (by decide +kernel)) rfl), (sd_in (List.mem_of_getElem? (i := 728) (by decide +kernel)) rfl), (sd_in (List.mem_of_getElem? (i := 40) (by decide +kernel)) rfl), (sd_in (List.mem_of_getElem? (i := 729) (by decide +kernel)) rfl), by decide +kernel, by decide +kernel, by decide +kernel⟩
theorem kl_Model_176 : sd_LS R_Model 176 y_Model_compareRows b_Model_compareRows 3 (some .int) 2 := ⟨(sd_in (List.mem_of_getElem? (i := 730) (by decide +kernel)) rfl), (sd_in (List.mem_of_getElem? (i := 731) (by decide +kernel)) rfl), (sd_in (List.mem_of_getElem? (i := 40) (by decide +kernel)) rfl), (sd_in (List.mem_of_getElem? (i := 732) (by decide +kernel)) rfl), by decide +kernel, by decide +kernel, by decide +kernel⟩
theorem kl_Model_180 : sd_LS R_Model 180 y_Model_subtract b_Model_subtract 6 none 2 := ⟨(sd_in (List.mem_of_getElem? (i := 733) (by decide +kernel)) rfl), (sd_in (List.mem_of_getElem? (i := 734) (by decide +kernel)) rfl), (sd_in (List.mem_of_getElem? (i := 40) (by decide +kernel)) rfl), (sd_in (List.mem_of_getElem? (i := 735) (by decide +kernel)) rfl), by decide +kernel, by decide +kernel, by decide +kernel⟩
theorem kl_Model_183 : sd_LS R_Model 183 y_Model_multiplyRow b_Model_multiplyRow 7 none 2 := ⟨(sd_in (List.mem_of_getElem? (i := 695) (by decide +kernel)) rfl), (sd_in (List.mem_of_getElem? (i := 696) (by decide +kernel)) rfl), (sd_in (List.mem_of_getElem? (i := 40) (by decide +kernel)) rfl), (sd_in (List.mem_of_getElem? (i := 697) (by decide +kernel)) rfl), by decide +kernel, by decide +kernel, by decide +kernel⟩
theorem kl_Model_185 : sd_LS R_Model 185 y_Model_shift b_Model_shift 7 none 2 := ⟨(sd_in (List.mem_of_getElem? (i := 704) (by decide +kernel)) rfl), (sd_in (List.mem_of_getElem? (i := 705) (by decide +kernel)) rfl), (sd_in (List.mem_of_getElem? (i := 40) (by decide +kernel)) rfl), (sd_in (List.mem_of_getElem? (i := 706) (by decide +kernel)) rfl), by decide +kernel, by decide +kernel, by decide +kernel⟩
theorem kl_Model_188 : sd_LV R_Model 188 y_Model_takeRoot b_Model_takeRoot 3 none 0 := ⟨(sd_in (List.mem_of_getElem? (i := 707) (by decide +kernel)) rfl), (sd_in (List.mem_of_getElem? (i := 709) (by decide +kernel)) rfl), (sd_in (List.mem_of_getElem? (i := 22) (by decide +kernel)) rfl), (sd_in (List.mem_of_getElem? (i := 40) (by decide +kernel)) rfl), (sd_in (List.mem_of_getElem? (i := 710) (by decide +kernel)) rfl), by decide +kernel, by decide +kernel, by decide +kernel⟩
theorem kl_Model_191 : sd_LV R_Model 191 y_Model_divideRoot b_Model_divideRoot 7 none 1 := ⟨(sd_in (List.mem_of_getElem? (i := 736) (by decide +kernel)) rfl), (sd_in (List.mem_of_getElem? (i := 738) (by decide +kernel)) rfl), (sd_in (List.mem_of_getElem? (i := 23) (by decide +kernel)) rfl), (sd_in (List.mem_of_getElem? (i := 40) (by decide +kernel)) rfl), (sd_in (List.mem_of_getElem? (i := 739) (by decide +kernel)) rfl), by decide +kernel, by decide +kernel, by decide +kernel⟩
theorem kl_Model_195 : sd_LV R_Model 195 y_Model_measure b_Model_measure 4 none 1 := ⟨(sd_in (List.mem_of_getElem? (i := 691) (by decide +kernel)) rfl), (sd_in (List.mem_of_getElem? (i := 693) (by decide +kernel)) rfl), (sd_in (List.mem_of_getElem? (i := 21) (by decide +kernel)) rfl), (sd_in (List.mem_of_getElem? (i := 40) (by decide +kernel)) rfl), (sd_in (List.mem_of_getElem? (i := 694) (by decide +kernel)) rfl), by decide +kernel, by decide +kernel, by decide +kernel⟩
theorem kl_Model_199 : sd_LS R_Model 199 y_Model_addRows b_Model_addRows 6 none 2 := ⟨(sd_in (List.mem_of_getElem? (i := 740) (by decide +kernel)) rfl), (sd_in (List.mem_of_getElem? (i := 741) (by decide +kernel)) rfl), (sd_in (List.mem_of_getElem? (i := 40) (by decide +kernel)) rfl), (sd_in (List.mem_of_getElem? (i := 742) (by decide +kernel)) rfl), by decide +kernel, by decide +kernel, by decide +kernel⟩
theorem kl_Model_201 : sd_LS R_Model 201 y_Model_addSmall b_Model_addSmall 6 none 2 := ⟨(sd_in (List.mem_of_getElem? (i := 746) (by decide +kernel)) rfl), (sd_in (List.mem_of_getElem? (i := 747) (by decide +kernel)) rfl), (sd_in (List.mem_of_getElem? (i := 40) (by decide +kernel)) rfl), (sd_in (List.mem_of_getElem? (i := 748) (by decide +kernel)) rfl), by decide +kernel, by decide +kernel, by decide +kernel⟩
theorem kl_Model_204 : sd_LS R_Model 204 y_Model_betweenRows b_Model_betweenRows 4 (some .int) 3 := ⟨(sd_in (List.mem_of_getElem? (i := 749) (by decide +kernel)) rfl), (sd_in (List.mem_of_getElem? (i := 750) (by decide +kernel)) rfl), (sd_in (List.mem_of_getElem? (i := 40) (by decide +kernel)) rfl), (sd_in (List.mem_of_getElem? (i := 751) (by decide +kernel)) rfl), by decide +kernel, by decide +kernel, by decide +kernel⟩
theorem kl_Model_214 : sd_LV R_Model 214 y_Model_same b_Model_same 4 (some .boolean) 2 := ⟨(sd_in (List.mem_of_getElem? (i := 679) (by decide +kernel)) rfl), (sd_in (List.mem_of_getElem? (i := 680) (by decide +kernel)) rfl), (sd_in (List.mem_of_getElem? (i := 681) (by decide +kernel)) rfl), (sd_in (List.mem_of_getElem? (i := 40) (by decide +kernel)) rfl), (sd_in (List.mem_of_getElem? (i := 682) (by decide +kernel)) rfl), by decide +kernel, by decide +kernel, by decide +kernel⟩
theorem kl_Model_218 : sd_LV R_Model 218 y_Model_ends b_Model_ends 5 none 1 := ⟨(sd_in (List.mem_of_getElem? (i := 683) (by decide +kernel)) rfl), (sd_in (List.mem_of_getElem? (i := 685) (by decide +kernel)) rfl), (sd_in (List.mem_of_getElem? (i := 20) (by decide +kernel)) rfl), (sd_in (List.mem_of_getElem? (i := 40) (by decide +kernel)) rfl), (sd_in (List.mem_of_getElem? (i := 686) (by decide +kernel)) rfl), by decide +kernel, by decide +kernel, by decide +kernel⟩
theorem kl_Model_221 : sd_LS R_Model 221 y_Model_isBelow b_Model_isBelow 4 (some .boolean) 4 := ⟨(sd_in (List.mem_of_getElem? (i := 752) (by decide +kernel)) rfl), (sd_in (List.mem_of_getElem? (i := 753) (by decide +kernel)) rfl), (sd_in (List.mem_of_getElem? (i := 40) (by decide +kernel)) rfl), (sd_in (List.mem_of_getElem? (i := 754) (by decide +kernel)) rfl), by decide +kernel, by decide +kernel, by decide +kernel⟩
theorem kl_Model_225 : sd_LS R_Model 225 y_Model_unshift b_Model_unshift 7 none 2 := ⟨(sd_in (List.mem_of_getElem? (i := 769) (by decide +kernel)) rfl), (sd_in (List.mem_of_getElem? (i := 770) (by decide +kernel)) rfl), (sd_in (List.mem_of_getElem? (i := 40) (by decide +kernel)) rfl), (sd_in (List.mem_of_getElem? (i := 771) (by decide +kernel)) rfl), by decide +kernel, by decide +kernel, by decide +kernel⟩
theorem kl_Model_228 : sd_LV R_Model 228 y_Model_small b_Model_small 2 (some .long) 1 := ⟨(sd_in (List.mem_of_getElem? (i := 772) (by decide +kernel)) rfl), (sd_in (List.mem_of_getElem? (i := 774) (by decide +kernel)) rfl), (sd_in (List.mem_of_getElem? (i := 26) (by decide +kernel)) rfl), (sd_in (List.mem_of_getElem? (i := 40) (by decide +kernel)) rfl), (sd_in (List.mem_of_getElem? (i := 775) (by decide +kernel)) rfl), by decide +kernel, by decide +kernel, by decide +kernel⟩
theorem kl_Model_232 : sd_LS R_Model 232 y_Math_floorDiv b_Math_floorDiv 6 (some .long) 2 := ⟨(sd_in (List.mem_of_getElem? (i := 764) (by decide +kernel)) rfl), (sd_in (List.mem_of_getElem? (i := 368) (by decide +kernel)) rfl), (sd_in (List.mem_of_getElem? (i := 42) (by decide +kernel)) rfl), (sd_in (List.mem_of_getElem? (i := 369) (by decide +kernel)) rfl), by decide +kernel, by decide +kernel, by decide +kernel⟩
theorem d_Model_takeRoot_0 : decode b_Model_takeRoot 0 = .ok (.aload_n 0, 1) := by decide +kernel
theorem d_Model_takeRoot_1 : decode b_Model_takeRoot 1 = .ok (.getfield 36, 3) := by decide +kernel
theorem d_Model_takeRoot_4 : decode b_Model_takeRoot 4 = .ok (.lconst 0, 1) := by decide +kernel
theorem d_Model_takeRoot_5 : decode b_Model_takeRoot 5 = .ok (.invokestatic 157, 3) := by decide +kernel
theorem d_Model_takeRoot_8 : decode b_Model_takeRoot 8 = .ok (.aload_n 0, 1) := by decide +kernel
theorem d_Model_takeRoot_9 : decode b_Model_takeRoot 9 = .ok (.getfield 39, 3) := by decide +kernel
theorem d_Model_takeRoot_12 : decode b_Model_takeRoot 12 = .ok (.lconst 0, 1) := by decide +kernel
theorem d_Model_takeRoot_13 : decode b_Model_takeRoot 13 = .ok (.invokestatic 157, 3) := by decide +kernel
theorem d_Model_takeRoot_16 : decode b_Model_takeRoot 16 = .ok (.aload_n 0, 1) := by decide +kernel
theorem d_Model_takeRoot_17 : decode b_Model_takeRoot 17 = .ok (.getfield 42, 3) := by decide +kernel
theorem d_Model_takeRoot_20 : decode b_Model_takeRoot 20 = .ok (.invokestatic 161, 3) := by decide +kernel
theorem d_Model_takeRoot_23 : decode b_Model_takeRoot 23 = .ok (.iconst 1, 1) := by decide +kernel
theorem d_Model_takeRoot_24 : decode b_Model_takeRoot 24 = .ok (.iadd, 1) := by decide +kernel
theorem d_Model_takeRoot_25 : decode b_Model_takeRoot 25 = .ok (.iconst 2, 1) := by decide +kernel
theorem d_Model_takeRoot_26 : decode b_Model_takeRoot 26 = .ok (.idiv, 1) := by decide +kernel
theorem d_Model_takeRoot_27 : decode b_Model_takeRoot 27 = .ok (.iconst 1, 1) := by decide +kernel
theorem d_Model_takeRoot_28 : decode b_Model_takeRoot 28 = .ok (.isub, 1) := by decide +kernel
theorem d_Model_takeRoot_29 : decode b_Model_takeRoot 29 = .ok (.istore_n 1, 1) := by decide +kernel
theorem d_Model_takeRoot_30 : decode b_Model_takeRoot 30 = .ok (.iload_n 1, 1) := by decide +kernel
theorem d_Model_takeRoot_31 : decode b_Model_takeRoot 31 = .ok (.ifCond .lt 123, 3) := by decide +kernel
theorem d_Model_takeRoot_34 : decode b_Model_takeRoot 34 = .ok (.aload_n 0, 1) := by decide +kernel
theorem d_Model_takeRoot_35 : decode b_Model_takeRoot 35 = .ok (.getfield 39, 3) := by decide +kernel
theorem d_Model_takeRoot_38 : decode b_Model_takeRoot 38 = .ok (.aload_n 0, 1) := by decide +kernel
theorem d_Model_takeRoot_39 : decode b_Model_takeRoot 39 = .ok (.getfield 42, 3) := by decide +kernel
theorem d_Model_takeRoot_42 : decode b_Model_takeRoot 42 = .ok (.iconst 2, 1) := by decide +kernel
theorem d_Model_takeRoot_43 : decode b_Model_takeRoot 43 = .ok (.iload_n 1, 1) := by decide +kernel
theorem d_Model_takeRoot_44 : decode b_Model_takeRoot 44 = .ok (.imul, 1) := by decide +kernel
theorem d_Model_takeRoot_45 : decode b_Model_takeRoot 45 = .ok (.iconst 1, 1) := by decide +kernel
theorem d_Model_takeRoot_46 : decode b_Model_takeRoot 46 = .ok (.iadd, 1) := by decide +kernel
theorem d_Model_takeRoot_47 : decode b_Model_takeRoot 47 = .ok (.invokestatic 164, 3) := by decide +kernel
theorem d_Model_takeRoot_50 : decode b_Model_takeRoot 50 = .ok (.invokestatic 168, 3) := by decide +kernel
theorem d_Model_takeRoot_53 : decode b_Model_takeRoot 53 = .ok (.aload_n 0, 1) := by decide +kernel
theorem d_Model_takeRoot_54 : decode b_Model_takeRoot 54 = .ok (.getfield 39, 3) := by decide +kernel
theorem d_Model_takeRoot_57 : decode b_Model_takeRoot 57 = .ok (.aload_n 0, 1) := by decide +kernel
theorem d_Model_takeRoot_58 : decode b_Model_takeRoot 58 = .ok (.getfield 42, 3) := by decide +kernel
theorem d_Model_takeRoot_61 : decode b_Model_takeRoot 61 = .ok (.iconst 2, 1) := by decide +kernel
theorem d_Model_takeRoot_62 : decode b_Model_takeRoot 62 = .ok (.iload_n 1, 1) := by decide +kernel
theorem d_Model_takeRoot_63 : decode b_Model_takeRoot 63 = .ok (.imul, 1) := by decide +kernel
theorem d_Model_takeRoot_64 : decode b_Model_takeRoot 64 = .ok (.invokestatic 164, 3) := by decide +kernel
theorem d_Model_takeRoot_67 : decode b_Model_takeRoot 67 = .ok (.invokestatic 168, 3) := by decide +kernel
theorem d_Model_takeRoot_70 : decode b_Model_takeRoot 70 = .ok (.aload_n 0, 1) := by decide +kernel
theorem d_Model_takeRoot_71 : decode b_Model_takeRoot 71 = .ok (.getfield 36, 3) := by decide +kernel
theorem d_Model_takeRoot_74 : decode b_Model_takeRoot 74 = .ok (.aload_n 0, 1) := by decide +kernel
theorem d_Model_takeRoot_75 : decode b_Model_takeRoot 75 = .ok (.getfield 45, 3) := by decide +kernel
theorem d_Model_takeRoot_78 : decode b_Model_takeRoot 78 = .ok (.invokestatic 172, 3) := by decide +kernel
theorem d_Model_takeRoot_81 : decode b_Model_takeRoot 81 = .ok (.aload_n 0, 1) := by decide +kernel
theorem d_Model_takeRoot_82 : decode b_Model_takeRoot 82 = .ok (.getfield 45, 3) := by decide +kernel
theorem d_Model_takeRoot_85 : decode b_Model_takeRoot 85 = .ok (.iconst 0, 1) := by decide +kernel
theorem d_Model_takeRoot_86 : decode b_Model_takeRoot 86 = .ok (.invokestatic 168, 3) := by decide +kernel
theorem d_Model_takeRoot_89 : decode b_Model_takeRoot 89 = .ok (.aload_n 0, 1) := by decide +kernel
theorem d_Model_takeRoot_90 : decode b_Model_takeRoot 90 = .ok (.getfield 45, 3) := by decide +kernel
theorem d_Model_takeRoot_93 : decode b_Model_takeRoot 93 = .ok (.iconst 1, 1) := by decide +kernel
theorem d_Model_takeRoot_94 : decode b_Model_takeRoot 94 = .ok (.invokestatic 168, 3) := by decide +kernel
theorem d_Model_takeRoot_97 : decode b_Model_takeRoot 97 = .ok (.aload_n 0, 1) := by decide +kernel
theorem d_Model_takeRoot_98 : decode b_Model_takeRoot 98 = .ok (.getfield 39, 3) := by decide +kernel
theorem d_Model_takeRoot_101 : decode b_Model_takeRoot 101 = .ok (.aload_n 0, 1) := by decide +kernel
theorem d_Model_takeRoot_102 : decode b_Model_takeRoot 102 = .ok (.getfield 45, 3) := by decide +kernel
theorem d_Model_takeRoot_105 : decode b_Model_takeRoot 105 = .ok (.invokestatic 176, 3) := by decide +kernel
theorem d_Model_takeRoot_108 : decode b_Model_takeRoot 108 = .ok (.ifCond .lt 7, 3) := by decide +kernel
theorem d_Model_takeRoot_111 : decode b_Model_takeRoot 111 = .ok (.iconst 1, 1) := by decide +kernel
theorem d_Model_takeRoot_112 : decode b_Model_takeRoot 112 = .ok (.goto 4, 3) := by decide +kernel
theorem d_Model_takeRoot_115 : decode b_Model_takeRoot 115 = .ok (.iconst 0, 1) := by decide +kernel
theorem d_Model_takeRoot_116 : decode b_Model_takeRoot 116 = .ok (.istore_n 2, 1) := by decide +kernel
theorem d_Model_takeRoot_117 : decode b_Model_takeRoot 117 = .ok (.iload_n 2, 1) := by decide +kernel
theorem d_Model_takeRoot_118 : decode b_Model_takeRoot 118 = .ok (.ifCond .eq 14, 3) := by decide +kernel
theorem d_Model_takeRoot_121 : decode b_Model_takeRoot 121 = .ok (.aload_n 0, 1) := by decide +kernel
theorem d_Model_takeRoot_122 : decode b_Model_takeRoot 122 = .ok (.getfield 39, 3) := by decide +kernel
theorem d_Model_takeRoot_125 : decode b_Model_takeRoot 125 = .ok (.aload_n 0, 1) := by decide +kernel
theorem d_Model_takeRoot_126 : decode b_Model_takeRoot 126 = .ok (.getfield 45, 3) := by decide +kernel
theorem d_Model_takeRoot_129 : decode b_Model_takeRoot 129 = .ok (.invokestatic 180, 3) := by decide +kernel
theorem d_Model_takeRoot_132 : decode b_Model_takeRoot 132 = .ok (.aload_n 0, 1) := by decide +kernel
theorem d_Model_takeRoot_133 : decode b_Model_takeRoot 133 = .ok (.getfield 36, 3) := by decide +kernel
theorem d_Model_takeRoot_136 : decode b_Model_takeRoot 136 = .ok (.iload_n 2, 1) := by decide +kernel
theorem d_Model_takeRoot_137 : decode b_Model_takeRoot 137 = .ok (.ifCond .eq 7, 3) := by decide +kernel
theorem d_Model_takeRoot_140 : decode b_Model_takeRoot 140 = .ok (.iconst 1, 1) := by decide +kernel
theorem d_Model_takeRoot_141 : decode b_Model_takeRoot 141 = .ok (.goto 4, 3) := by decide +kernel
theorem d_Model_takeRoot_144 : decode b_Model_takeRoot 144 = .ok (.iconst 0, 1) := by decide +kernel
theorem d_Model_takeRoot_145 : decode b_Model_takeRoot 145 = .ok (.invokestatic 168, 3) := by decide +kernel
theorem d_Model_takeRoot_148 : decode b_Model_takeRoot 148 = .ok (.iinc 1 (-1), 3) := by decide +kernel
theorem d_Model_takeRoot_151 : decode b_Model_takeRoot 151 = .ok (.goto (-121), 3) := by decide +kernel
theorem d_Model_takeRoot_154 : decode b_Model_takeRoot 154 = .ok (.return_, 1) := by decide +kernel
def mf_Model_takeRoot_L30 (F : Nat) (c_square : Nat → Int64) : Nat → Int32 → (Nat → Int64) → (Nat → Int64) → (Nat → Int64) → Option ((Nat → Int64) × (Nat → Int64) × (Nat → Int64))
  | 0, _, _, _, _ => none
  | fu + 1, x1_1, uapart, uaroot_1, uarest_1 => (if x1_1 < 0 then (some (uapart, uaroot_1, uarest_1)) else (sd_b1 (mf_Model_bit F (((2 : Int32) * x1_1) + (1 : Int32)) c_square) fun r_1 => (sd_b1 (mf_Model_twice F r_1 uarest_1) fun uarest_2 => (sd_b1 (mf_Model_bit F ((2 : Int32) * x1_1) c_square) fun r_2 => (sd_b1 (mf_Model_twice F r_2 uarest_2) fun uarest_3 => (sd_b1 (mf_Model_copy F uaroot_1 uapart) fun uapart_1 => (sd_b1 (mf_Model_twice F (0 : Int32) uapart_1) fun uapart_2 => (sd_b1 (mf_Model_twice F (1 : Int32) uapart_2) fun uapart_3 => (sd_b1 (mf_Model_compareRows F uarest_3 uapart_3) fun r_3 => (sd_b1 (if r_3 < 0 then (some ((0 : Int32))) else (some ((1 : Int32)))) fun y => (sd_b1 (if y = 0 then (some (uarest_3)) else (sd_b1 (mf_Model_subtract F uarest_3 uapart_3) fun uarest_5 => (some (uarest_5)))) fun uarest_4 => (sd_b1 (if y = 0 then (some ((0 : Int32))) else (some ((1 : Int32)))) fun y_1 => (sd_b1 (mf_Model_twice F y_1 uaroot_1) fun uaroot_2 => (sd_let (x1_1 + (-1 : Int32)) fun x1_2 => ((mf_Model_takeRoot_L30 F c_square fu) x1_2 uapart_3 uaroot_2 uarest_4)))))))))))))))
def mf_Model_takeRoot (F : Nat) (m_made : Int32) (m_outCount : Int32) (m_lowSign : Int32) (m_highSign : Int32) (c_root : Nat → Int64) (c_rest : Nat → Int64) (c_square : Nat → Int64) (c_part : Nat → Int64) : Option ((Nat → Int64) × (Nat → Int64) × (Nat → Int64)) :=
  (sd_b1 (mf_Model_set F (0 : Int64) c_root) fun uaroot => (sd_b1 (mf_Model_set F (0 : Int64) c_rest) fun uarest => (sd_b1 (mf_Model_bits F c_square) fun r => (sd_let ((((r + (1 : Int32)) / (2 : Int32)) - (1 : Int32))) fun x1 => (sd_b3 (mf_Model_takeRoot_L30 F c_square F x1 c_part uaroot uarest) fun ruapart ruaroot ruarest => (some (ruaroot, ruarest, ruapart)))))))
abbrev rm_Model_takeRoot : Room := { frames := 3, cells := 0, slots := 0, locals := 64 }
set_option maxHeartbeats 4000000 in
set_option maxRecDepth 100000 in
theorem ct_Model_takeRoot (l : Launch) (D : va_G) (g : G4) (mo : Nat) (a_n : Nat) (a_d : Nat) (a_r : Nat) (a_count : Nat) (a_newN : Nat) (a_newD : Nat) (a_newR : Nat) (a_out : Nat) (a_root : Nat) (a_rest : Nat) (a_square : Nat) (a_part : Nat) (a_plus : Nat) (a_minus : Nat) (a_low : Nat) (a_high : Nat) (a_one : Nat) (a_two : Nat) (a_otherLow : Nat) (a_otherHigh : Nat) (a_digit : Nat) (a_topA : Nat) (a_underA : Nat) (a_topB : Nat) (a_underB : Nat) (a_quotient : Nat) (a_otherQuotient : Nat) (sz : Nat) (m_made : Int32) (m_outCount : Int32) (m_lowSign : Int32) (m_highSign : Int32) (c_root : Nat → Int64) (c_rest : Nat → Int64) (c_square : Nat → Int64) (c_part : Nat → Int64) (F : Nat) (res : (Nat → Int64) × (Nat → Int64) × (Nat → Int64)) (hm : mf_Model_takeRoot F m_made m_outCount m_lowSign m_highSign c_root c_rest c_square c_part = some res) : Met l y_Model_takeRoot (.code y_Model_takeRoot b_Model_takeRoot 3 none :: sd_tb) rm_Model_takeRoot (sd_PW D g [.ref mo] sz [(mo, .inr (5, [.ref a_n, .ref a_d, .ref a_r, .ref a_count, .ref a_newN, .ref a_newD, .ref a_newR, .int m_made, .ref a_out, .int m_outCount, .ref a_root, .ref a_rest, .ref a_square, .ref a_part, .ref a_plus, .ref a_minus, .ref a_low, .ref a_high, .ref a_one, .ref a_two, .int m_lowSign, .int m_highSign, .ref a_otherLow, .ref a_otherHigh, .ref a_digit, .ref a_topA, .ref a_underA, .ref a_topB, .ref a_underB, .ref a_quotient, .ref a_otherQuotient])), (a_root, aJ g 76 c_root), (a_rest, aJ g 76 c_rest), (a_square, aJ g 76 c_square), (a_part, aJ g 76 c_part)]) (sd_Qv1 D g res (fun u : (Nat → Int64) × (Nat → Int64) × (Nat → Int64) => [(mo, .inr (5, [.ref a_n, .ref a_d, .ref a_r, .ref a_count, .ref a_newN, .ref a_newD, .ref a_newR, .int m_made, .ref a_out, .int m_outCount, .ref a_root, .ref a_rest, .ref a_square, .ref a_part, .ref a_plus, .ref a_minus, .ref a_low, .ref a_high, .ref a_one, .ref a_two, .int m_lowSign, .int m_highSign, .ref a_otherLow, .ref a_otherHigh, .ref a_digit, .ref a_topA, .ref a_underA, .ref a_topB, .ref a_underB, .ref a_quotient, .ref a_otherQuotient])), (a_root, aJ g 76 (u.1)), (a_rest, aJ g 76 (u.2.1)), (a_square, aJ g 76 c_square), (a_part, aJ g 76 (u.2.2))]) (va_A [(mo, .inr (5, [.ref a_n, .ref a_d, .ref a_r, .ref a_count, .ref a_newN, .ref a_newD, .ref a_newR, .int m_made, .ref a_out, .int m_outCount, .ref a_root, .ref a_rest, .ref a_square, .ref a_part, .ref a_plus, .ref a_minus, .ref a_low, .ref a_high, .ref a_one, .ref a_two, .int m_lowSign, .int m_highSign, .ref a_otherLow, .ref a_otherHigh, .ref a_digit, .ref a_topA, .ref a_underA, .ref a_topB, .ref a_underB, .ref a_quotient, .ref a_otherQuotient])), (a_root, aJ g 76 c_root), (a_rest, aJ g 76 c_rest), (a_square, aJ g 76 c_square), (a_part, aJ g 76 c_part)] sz)) 0 0 (va_A [(mo, .inr (5, [.ref a_n, .ref a_d, .ref a_r, .ref a_count, .ref a_newN, .ref a_newD, .ref a_newR, .int m_made, .ref a_out, .int m_outCount, .ref a_root, .ref a_rest, .ref a_square, .ref a_part, .ref a_plus, .ref a_minus, .ref a_low, .ref a_high, .ref a_one, .ref a_two, .int m_lowSign, .int m_highSign, .ref a_otherLow, .ref a_otherHigh, .ref a_digit, .ref a_topA, .ref a_underA, .ref a_topB, .ref a_underB, .ref a_quotient, .ref a_otherQuotient])), (a_root, aJ g 76 c_root), (a_rest, aJ g 76 c_rest), (a_square, aJ g 76 c_square), (a_part, aJ g 76 c_part)] sz) := by
  refine sd_met (Qf := fun A => sd_Qv1 D g res (fun u : (Nat → Int64) × (Nat → Int64) × (Nat → Int64) => [(mo, .inr (5, [.ref a_n, .ref a_d, .ref a_r, .ref a_count, .ref a_newN, .ref a_newD, .ref a_newR, .int m_made, .ref a_out, .int m_outCount, .ref a_root, .ref a_rest, .ref a_square, .ref a_part, .ref a_plus, .ref a_minus, .ref a_low, .ref a_high, .ref a_one, .ref a_two, .int m_lowSign, .int m_highSign, .ref a_otherLow, .ref a_otherHigh, .ref a_digit, .ref a_topA, .ref a_underA, .ref a_topB, .ref a_underB, .ref a_quotient, .ref a_otherQuotient])), (a_root, aJ g 76 (u.1)), (a_rest, aJ g 76 (u.2.1)), (a_square, aJ g 76 c_square), (a_part, aJ g 76 (u.2.2))]) A) (own := R_Model) (by decide +kernel) rfl (Nat.le_of_ble_eq_true rfl) ?_
  intro p e s m args below meth c S hr hlk hK A hA Q hQ H locs hP hD hS ls hl
  have hx := S.1
  have hb := S.2.1
  have hml := S.2.2.1
  have hown := S.2.2.2.1
  have htt := sd_tt S
  replace hl : lv_has ls 3 [(0, .ref mo)] := hl
  unfold mf_Model_takeRoot at hm
  refine lv_aload_n hx hb d_Model_takeRoot_0 rfl (lv_at hl 0 rfl) ?_
  refine va_get (D := D) (ci := 5) (v := .ref a_root) (C := R_Model) (T := F_Model) (N := 31) hx hb htt i_Model hown hK hP 0 rfl rfl 10 (by decide) (htt _ kf_Model_36) (fun _ h9 => h9) rfl d_Model_takeRoot_1 ?_
  refine lv_lconst (v := (0 : Int64)) hx hb d_Model_takeRoot_4 (by decide) ?_
  obtain ⟨uaroot, hc, hm⟩ := sd_mb1 hm
  refine sd_cv1 (wr := [(mo, .inr (5, [.ref a_n, .ref a_d, .ref a_r, .ref a_count, .ref a_newN, .ref a_newD, .ref a_newR, .int m_made, .ref a_out, .int m_outCount, .ref a_root, .ref a_rest, .ref a_square, .ref a_part, .ref a_plus, .ref a_minus, .ref a_low, .ref a_high, .ref a_one, .ref a_two, .int m_lowSign, .int m_highSign, .ref a_otherLow, .ref a_otherHigh, .ref a_digit, .ref a_topA, .ref a_underA, .ref a_topB, .ref a_underB, .ref a_quotient, .ref a_otherQuotient])), (a_rest, aJ g 76 c_rest), (a_square, aJ g 76 c_square), (a_part, aJ g 76 c_part)]) (w2 := [(mo, .inr (5, [.ref a_n, .ref a_d, .ref a_r, .ref a_count, .ref a_newN, .ref a_newD, .ref a_newR, .int m_made, .ref a_out, .int m_outCount, .ref a_root, .ref a_rest, .ref a_square, .ref a_part, .ref a_plus, .ref a_minus, .ref a_low, .ref a_high, .ref a_one, .ref a_two, .int m_lowSign, .int m_highSign, .ref a_otherLow, .ref a_otherHigh, .ref a_digit, .ref a_topA, .ref a_underA, .ref a_topB, .ref a_underB, .ref a_quotient, .ref a_otherQuotient])), (a_rest, aJ g 76 c_rest), (a_square, aJ g 76 c_square), (a_part, aJ g 76 c_part), (a_root, aJ g 76 uaroot)]) (sd_runS (rest := []) (As := [.ref a_root, .long (0 : Int64)]) S (ct_Model_set l D g a_root (H.size) (0 : Int64) c_root F (uaroot) hc) kl_Model_157 (by decide) (by decide) hK hP hD [1] rfl (by decide) rfl hl d_Model_takeRoot_5 rfl (Nat.le_of_ble_eq_true rfl) ⟨Nat.zero_le _, Nat.zero_le _⟩) hP hD hS hA [1] [0, 2, 3, 4] rfl rfl (by decide) (by decide) rfl (fun H locs hP hD hS => ?_)
  refine lv_aload_n hx hb d_Model_takeRoot_8 rfl (lv_at hl 0 rfl) ?_
  refine va_get (D := D) (ci := 5) (v := .ref a_rest) (C := R_Model) (T := F_Model) (N := 31) hx hb htt i_Model hown hK hP 0 rfl rfl 11 (by decide) (htt _ kf_Model_39) (fun _ h9 => h9) rfl d_Model_takeRoot_9 ?_
  refine lv_lconst (v := (0 : Int64)) hx hb d_Model_takeRoot_12 (by decide) ?_
  obtain ⟨uarest, hc, hm⟩ := sd_mb1 hm
  refine sd_cv1 (wr := [(mo, .inr (5, [.ref a_n, .ref a_d, .ref a_r, .ref a_count, .ref a_newN, .ref a_newD, .ref a_newR, .int m_made, .ref a_out, .int m_outCount, .ref a_root, .ref a_rest, .ref a_square, .ref a_part, .ref a_plus, .ref a_minus, .ref a_low, .ref a_high, .ref a_one, .ref a_two, .int m_lowSign, .int m_highSign, .ref a_otherLow, .ref a_otherHigh, .ref a_digit, .ref a_topA, .ref a_underA, .ref a_topB, .ref a_underB, .ref a_quotient, .ref a_otherQuotient])), (a_square, aJ g 76 c_square), (a_part, aJ g 76 c_part), (a_root, aJ g 76 uaroot)]) (w2 := [(mo, .inr (5, [.ref a_n, .ref a_d, .ref a_r, .ref a_count, .ref a_newN, .ref a_newD, .ref a_newR, .int m_made, .ref a_out, .int m_outCount, .ref a_root, .ref a_rest, .ref a_square, .ref a_part, .ref a_plus, .ref a_minus, .ref a_low, .ref a_high, .ref a_one, .ref a_two, .int m_lowSign, .int m_highSign, .ref a_otherLow, .ref a_otherHigh, .ref a_digit, .ref a_topA, .ref a_underA, .ref a_topB, .ref a_underB, .ref a_quotient, .ref a_otherQuotient])), (a_square, aJ g 76 c_square), (a_part, aJ g 76 c_part), (a_root, aJ g 76 uaroot), (a_rest, aJ g 76 uarest)]) (sd_runS (rest := []) (As := [.ref a_rest, .long (0 : Int64)]) S (ct_Model_set l D g a_rest (H.size) (0 : Int64) c_rest F (uarest) hc) kl_Model_157 (by decide) (by decide) hK hP hD [1] rfl (by decide) rfl hl d_Model_takeRoot_13 rfl (Nat.le_of_ble_eq_true rfl) ⟨Nat.zero_le _, Nat.zero_le _⟩) hP hD hS hA [1] [0, 2, 3, 4] rfl rfl (by decide) (by decide) rfl (fun H locs hP hD hS => ?_)
  refine lv_aload_n hx hb d_Model_takeRoot_16 rfl (lv_at hl 0 rfl) ?_
  refine va_get (D := D) (ci := 5) (v := .ref a_square) (C := R_Model) (T := F_Model) (N := 31) hx hb htt i_Model hown hK hP 0 rfl rfl 12 (by decide) (htt _ kf_Model_42) (fun _ h9 => h9) rfl d_Model_takeRoot_17 ?_
  obtain ⟨r, hc, hm⟩ := sd_mb1 hm
  refine sd_ci0 (wr := [(mo, .inr (5, [.ref a_n, .ref a_d, .ref a_r, .ref a_count, .ref a_newN, .ref a_newD, .ref a_newR, .int m_made, .ref a_out, .int m_outCount, .ref a_root, .ref a_rest, .ref a_square, .ref a_part, .ref a_plus, .ref a_minus, .ref a_low, .ref a_high, .ref a_one, .ref a_two, .int m_lowSign, .int m_highSign, .ref a_otherLow, .ref a_otherHigh, .ref a_digit, .ref a_topA, .ref a_underA, .ref a_topB, .ref a_underB, .ref a_quotient, .ref a_otherQuotient])), (a_part, aJ g 76 c_part), (a_root, aJ g 76 uaroot), (a_rest, aJ g 76 uarest)]) (w2 := [(mo, .inr (5, [.ref a_n, .ref a_d, .ref a_r, .ref a_count, .ref a_newN, .ref a_newD, .ref a_newR, .int m_made, .ref a_out, .int m_outCount, .ref a_root, .ref a_rest, .ref a_square, .ref a_part, .ref a_plus, .ref a_minus, .ref a_low, .ref a_high, .ref a_one, .ref a_two, .int m_lowSign, .int m_highSign, .ref a_otherLow, .ref a_otherHigh, .ref a_digit, .ref a_topA, .ref a_underA, .ref a_topB, .ref a_underB, .ref a_quotient, .ref a_otherQuotient])), (a_part, aJ g 76 c_part), (a_root, aJ g 76 uaroot), (a_rest, aJ g 76 uarest), (a_square, aJ g 76 c_square)]) (sd_runS (rest := []) (As := [.ref a_square]) S (ct_Model_bits l D g a_square (H.size) c_square F (r) hc) kl_Model_161 (by decide) (by decide) hK hP hD [1] rfl (by decide) rfl hl d_Model_takeRoot_20 rfl (Nat.le_of_ble_eq_true rfl) ⟨Nat.zero_le _, Nat.zero_le _⟩) hP hD hS hA [1] [0, 2, 3, 4] rfl rfl (by decide) (by decide) rfl (fun H locs hP hD hS => ?_)
  refine W.eq (g2 := F0 m 23 ls [.int r]) rfl ?_
  refine lv_iconst (v := (1 : Int32)) hx hb d_Model_takeRoot_23 (by decide) ?_
  refine lv_iadd hx hb d_Model_takeRoot_24 ?_
  refine lv_iconst (v := (2 : Int32)) hx hb d_Model_takeRoot_25 (by decide) ?_
  refine lv_idiv hx hb d_Model_takeRoot_26 (by decide) ?_
  refine lv_iconst (v := (1 : Int32)) hx hb d_Model_takeRoot_27 (by decide) ?_
  refine lv_isub hx hb d_Model_takeRoot_28 ?_
  obtain ⟨x1, ex1, hm⟩ := sd_mlet hm
  refine sd_topi ex1 ?_
  refine lv_istore_n (lv' := [(1, .int x1), (0, .ref mo)]) hx hb d_Model_takeRoot_29 rfl hl (by decide) rfl (fun ls hl => ?_)
  have L30 : ∀ (fu : Nat) (x1_1 : Int32) (uapart : Nat → Int64) (uaroot_1 : Nat → Int64) (uarest_1 : Nat → Int64) (ruapart : Nat → Int64) (ruaroot : Nat → Int64) (ruarest : Nat → Int64), mf_Model_takeRoot_L30 F c_square fu x1_1 uapart uaroot_1 uarest_1 = some (ruapart, ruaroot, ruarest) → ∀ (H : Heap) (locs : List Loc) (ls : Array Slot), va_P D classes [(mo, .inr (5, [.ref a_n, .ref a_d, .ref a_r, .ref a_count, .ref a_newN, .ref a_newD, .ref a_newR, .int m_made, .ref a_out, .int m_outCount, .ref a_root, .ref a_rest, .ref a_square, .ref a_part, .ref a_plus, .ref a_minus, .ref a_low, .ref a_high, .ref a_one, .ref a_two, .int m_lowSign, .int m_highSign, .ref a_otherLow, .ref a_otherHigh, .ref a_digit, .ref a_topA, .ref a_underA, .ref a_topB, .ref a_underB, .ref a_quotient, .ref a_otherQuotient])), (a_part, aJ g 76 uapart), (a_root, aJ g 76 uaroot_1), (a_rest, aJ g 76 uarest_1), (a_square, aJ g 76 c_square)] H → va_D A [(mo, .inr (5, [.ref a_n, .ref a_d, .ref a_r, .ref a_count, .ref a_newN, .ref a_newD, .ref a_newR, .int m_made, .ref a_out, .int m_outCount, .ref a_root, .ref a_rest, .ref a_square, .ref a_part, .ref a_plus, .ref a_minus, .ref a_low, .ref a_high, .ref a_one, .ref a_two, .int m_lowSign, .int m_highSign, .ref a_otherLow, .ref a_otherHigh, .ref a_digit, .ref a_topA, .ref a_underA, .ref a_topB, .ref a_underB, .ref a_quotient, .ref a_otherQuotient])), (a_part, aJ g 76 uapart), (a_root, aJ g 76 uaroot_1), (a_rest, aJ g 76 uarest_1), (a_square, aJ g 76 c_square)] → va_S A s.heap H locs → lv_has ls 3 [(0, .ref mo), (1, .int x1_1)] → (∀ (H : Heap) (locs : List Loc) (ls : Array Slot), va_P D classes [(mo, .inr (5, [.ref a_n, .ref a_d, .ref a_r, .ref a_count, .ref a_newN, .ref a_newD, .ref a_newR, .int m_made, .ref a_out, .int m_outCount, .ref a_root, .ref a_rest, .ref a_square, .ref a_part, .ref a_plus, .ref a_minus, .ref a_low, .ref a_high, .ref a_one, .ref a_two, .int m_lowSign, .int m_highSign, .ref a_otherLow, .ref a_otherHigh, .ref a_digit, .ref a_topA, .ref a_underA, .ref a_topB, .ref a_underB, .ref a_quotient, .ref a_otherQuotient])), (a_part, aJ g 76 ruapart), (a_root, aJ g 76 ruaroot), (a_rest, aJ g 76 ruarest), (a_square, aJ g 76 c_square)] H → va_D A [(mo, .inr (5, [.ref a_n, .ref a_d, .ref a_r, .ref a_count, .ref a_newN, .ref a_newD, .ref a_newR, .int m_made, .ref a_out, .int m_outCount, .ref a_root, .ref a_rest, .ref a_square, .ref a_part, .ref a_plus, .ref a_minus, .ref a_low, .ref a_high, .ref a_one, .ref a_two, .int m_lowSign, .int m_highSign, .ref a_otherLow, .ref a_otherHigh, .ref a_digit, .ref a_topA, .ref a_underA, .ref a_topB, .ref a_underB, .ref a_quotient, .ref a_otherQuotient])), (a_part, aJ g 76 ruapart), (a_root, aJ g 76 ruaroot), (a_rest, aJ g 76 ruarest), (a_square, aJ g 76 c_square)] → va_S A s.heap H locs → lv_has ls 3 [] → W p l e rm_Model_takeRoot s m args below meth c H locs 0 0 Q (F0 m 154 ls [])) → W p l e rm_Model_takeRoot s m args below meth c H locs 0 0 Q (F0 m 30 ls []) := by
    intro fu
    induction fu with
    | zero => intro x1_1 uapart uaroot_1 uarest_1 ruapart ruaroot ruarest hm; exact absurd (show (none : Option ((Nat → Int64) × (Nat → Int64) × (Nat → Int64))) = some (ruapart, ruaroot, ruarest) from hm) (fun h => nomatch h)
    | succ fu ih =>
      intro x1_1 uapart uaroot_1 uarest_1 ruapart ruaroot ruarest hm H locs ls hP hD hS hl kx154
      rw [mf_Model_takeRoot_L30] at hm
      refine lv_iload_n hx hb d_Model_takeRoot_30 rfl (lv_at hl 1 rfl) ?_
      refine lv_if_lt (tgt := 154) hx hb d_Model_takeRoot_31 (by decide) (fun hc => ?_) (fun hc => ?_)
      · have hm := sd_mt hc hm
        cases hm
        exact kx154 H locs ls (hP.sub [0, 1, 2, 3, 4] rfl) (hD.sub [0, 1, 2, 3, 4] (by decide) rfl) hS (lv_sub hl [] rfl)
      · have hm := sd_mf hc hm
        refine lv_aload_n hx hb d_Model_takeRoot_34 rfl (lv_at hl 0 rfl) ?_
        refine va_get (D := D) (ci := 5) (v := .ref a_rest) (C := R_Model) (T := F_Model) (N := 31) hx hb htt i_Model hown hK hP 0 rfl rfl 11 (by decide) (htt _ kf_Model_39) (fun _ h9 => h9) rfl d_Model_takeRoot_35 ?_
        refine lv_aload_n hx hb d_Model_takeRoot_38 rfl (lv_at hl 0 rfl) ?_
        refine va_get (D := D) (ci := 5) (v := .ref a_square) (C := R_Model) (T := F_Model) (N := 31) hx hb htt i_Model hown hK hP 0 rfl rfl 12 (by decide) (htt _ kf_Model_42) (fun _ h9 => h9) rfl d_Model_takeRoot_39 ?_
        refine lv_iconst (v := (2 : Int32)) hx hb d_Model_takeRoot_42 (by decide) ?_
        refine lv_iload_n hx hb d_Model_takeRoot_43 rfl (lv_at hl 1 rfl) ?_
        refine lv_imul hx hb d_Model_takeRoot_44 ?_
        refine lv_iconst (v := (1 : Int32)) hx hb d_Model_takeRoot_45 (by decide) ?_
        refine lv_iadd hx hb d_Model_takeRoot_46 ?_
        obtain ⟨r_1, hc, hm⟩ := sd_mb1 hm
        refine sd_ci0 (wr := [(mo, .inr (5, [.ref a_n, .ref a_d, .ref a_r, .ref a_count, .ref a_newN, .ref a_newD, .ref a_newR, .int m_made, .ref a_out, .int m_outCount, .ref a_root, .ref a_rest, .ref a_square, .ref a_part, .ref a_plus, .ref a_minus, .ref a_low, .ref a_high, .ref a_one, .ref a_two, .int m_lowSign, .int m_highSign, .ref a_otherLow, .ref a_otherHigh, .ref a_digit, .ref a_topA, .ref a_underA, .ref a_topB, .ref a_underB, .ref a_quotient, .ref a_otherQuotient])), (a_part, aJ g 76 uapart), (a_root, aJ g 76 uaroot_1), (a_rest, aJ g 76 uarest_1)]) (w2 := [(mo, .inr (5, [.ref a_n, .ref a_d, .ref a_r, .ref a_count, .ref a_newN, .ref a_newD, .ref a_newR, .int m_made, .ref a_out, .int m_outCount, .ref a_root, .ref a_rest, .ref a_square, .ref a_part, .ref a_plus, .ref a_minus, .ref a_low, .ref a_high, .ref a_one, .ref a_two, .int m_lowSign, .int m_highSign, .ref a_otherLow, .ref a_otherHigh, .ref a_digit, .ref a_topA, .ref a_underA, .ref a_topB, .ref a_underB, .ref a_quotient, .ref a_otherQuotient])), (a_part, aJ g 76 uapart), (a_root, aJ g 76 uaroot_1), (a_rest, aJ g 76 uarest_1), (a_square, aJ g 76 c_square)]) (sd_runS (rest := [.ref a_rest]) (As := [.ref a_square, .int (((2 : Int32) * x1_1) + (1 : Int32))]) S (ct_Model_bit l D g a_square (H.size) (((2 : Int32) * x1_1) + (1 : Int32)) c_square F (r_1) hc) kl_Model_164 (by decide) (by decide) hK hP hD [4] rfl (by decide) rfl hl d_Model_takeRoot_47 rfl (Nat.le_of_ble_eq_true rfl) ⟨Nat.zero_le _, Nat.zero_le _⟩) hP hD hS hA [4] [0, 1, 2, 3] rfl rfl (by decide) (by decide) rfl (fun H locs hP hD hS => ?_)
        refine W.eq (g2 := F0 m 50 ls [.int r_1, .ref a_rest]) rfl ?_
        obtain ⟨uarest_2, hc, hm⟩ := sd_mb1 hm
        refine sd_cv1 (wr := [(mo, .inr (5, [.ref a_n, .ref a_d, .ref a_r, .ref a_count, .ref a_newN, .ref a_newD, .ref a_newR, .int m_made, .ref a_out, .int m_outCount, .ref a_root, .ref a_rest, .ref a_square, .ref a_part, .ref a_plus, .ref a_minus, .ref a_low, .ref a_high, .ref a_one, .ref a_two, .int m_lowSign, .int m_highSign, .ref a_otherLow, .ref a_otherHigh, .ref a_digit, .ref a_topA, .ref a_underA, .ref a_topB, .ref a_underB, .ref a_quotient, .ref a_otherQuotient])), (a_part, aJ g 76 uapart), (a_root, aJ g 76 uaroot_1), (a_square, aJ g 76 c_square)]) (w2 := [(mo, .inr (5, [.ref a_n, .ref a_d, .ref a_r, .ref a_count, .ref a_newN, .ref a_newD, .ref a_newR, .int m_made, .ref a_out, .int m_outCount, .ref a_root, .ref a_rest, .ref a_square, .ref a_part, .ref a_plus, .ref a_minus, .ref a_low, .ref a_high, .ref a_one, .ref a_two, .int m_lowSign, .int m_highSign, .ref a_otherLow, .ref a_otherHigh, .ref a_digit, .ref a_topA, .ref a_underA, .ref a_topB, .ref a_underB, .ref a_quotient, .ref a_otherQuotient])), (a_part, aJ g 76 uapart), (a_root, aJ g 76 uaroot_1), (a_square, aJ g 76 c_square), (a_rest, aJ g 76 uarest_2)]) (sd_runS (rest := []) (As := [.ref a_rest, .int r_1]) S (ct_Model_twice l D g a_rest (H.size) r_1 uarest_1 F (uarest_2) hc) kl_Model_168 (by decide) (by decide) hK hP hD [3] rfl (by decide) rfl hl d_Model_takeRoot_50 rfl (Nat.le_of_ble_eq_true rfl) ⟨Nat.zero_le _, Nat.zero_le _⟩) hP hD hS hA [3] [0, 1, 2, 4] rfl rfl (by decide) (by decide) rfl (fun H locs hP hD hS => ?_)
        refine lv_aload_n hx hb d_Model_takeRoot_53 rfl (lv_at hl 0 rfl) ?_
        refine va_get (D := D) (ci := 5) (v := .ref a_rest) (C := R_Model) (T := F_Model) (N := 31) hx hb htt i_Model hown hK hP 0 rfl rfl 11 (by decide) (htt _ kf_Model_39) (fun _ h9 => h9) rfl d_Model_takeRoot_54 ?_
        refine lv_aload_n hx hb d_Model_takeRoot_57 rfl (lv_at hl 0 rfl) ?_
        refine va_get (D := D) (ci := 5) (v := .ref a_square) (C := R_Model) (T := F_Model) (N := 31) hx hb htt i_Model hown hK hP 0 rfl rfl 12 (by decide) (htt _ kf_Model_42) (fun _ h9 => h9) rfl d_Model_takeRoot_58 ?_
        refine lv_iconst (v := (2 : Int32)) hx hb d_Model_takeRoot_61 (by decide) ?_
        refine lv_iload_n hx hb d_Model_takeRoot_62 rfl (lv_at hl 1 rfl) ?_
        refine lv_imul hx hb d_Model_takeRoot_63 ?_
        obtain ⟨r_2, hc, hm⟩ := sd_mb1 hm
        refine sd_ci0 (wr := [(mo, .inr (5, [.ref a_n, .ref a_d, .ref a_r, .ref a_count, .ref a_newN, .ref a_newD, .ref a_newR, .int m_made, .ref a_out, .int m_outCount, .ref a_root, .ref a_rest, .ref a_square, .ref a_part, .ref a_plus, .ref a_minus, .ref a_low, .ref a_high, .ref a_one, .ref a_two, .int m_lowSign, .int m_highSign, .ref a_otherLow, .ref a_otherHigh, .ref a_digit, .ref a_topA, .ref a_underA, .ref a_topB, .ref a_underB, .ref a_quotient, .ref a_otherQuotient])), (a_part, aJ g 76 uapart), (a_root, aJ g 76 uaroot_1), (a_rest, aJ g 76 uarest_2)]) (w2 := [(mo, .inr (5, [.ref a_n, .ref a_d, .ref a_r, .ref a_count, .ref a_newN, .ref a_newD, .ref a_newR, .int m_made, .ref a_out, .int m_outCount, .ref a_root, .ref a_rest, .ref a_square, .ref a_part, .ref a_plus, .ref a_minus, .ref a_low, .ref a_high, .ref a_one, .ref a_two, .int m_lowSign, .int m_highSign, .ref a_otherLow, .ref a_otherHigh, .ref a_digit, .ref a_topA, .ref a_underA, .ref a_topB, .ref a_underB, .ref a_quotient, .ref a_otherQuotient])), (a_part, aJ g 76 uapart), (a_root, aJ g 76 uaroot_1), (a_rest, aJ g 76 uarest_2), (a_square, aJ g 76 c_square)]) (sd_runS (rest := [.ref a_rest]) (As := [.ref a_square, .int ((2 : Int32) * x1_1)]) S (ct_Model_bit l D g a_square (H.size) ((2 : Int32) * x1_1) c_square F (r_2) hc) kl_Model_164 (by decide) (by decide) hK hP hD [3] rfl (by decide) rfl hl d_Model_takeRoot_64 rfl (Nat.le_of_ble_eq_true rfl) ⟨Nat.zero_le _, Nat.zero_le _⟩) hP hD hS hA [3] [0, 1, 2, 4] rfl rfl (by decide) (by decide) rfl (fun H locs hP hD hS => ?_)
        refine W.eq (g2 := F0 m 67 ls [.int r_2, .ref a_rest]) rfl ?_
        obtain ⟨uarest_3, hc, hm⟩ := sd_mb1 hm
        refine sd_cv1 (wr := [(mo, .inr (5, [.ref a_n, .ref a_d, .ref a_r, .ref a_count, .ref a_newN, .ref a_newD, .ref a_newR, .int m_made, .ref a_out, .int m_outCount, .ref a_root, .ref a_rest, .ref a_square, .ref a_part, .ref a_plus, .ref a_minus, .ref a_low, .ref a_high, .ref a_one, .ref a_two, .int m_lowSign, .int m_highSign, .ref a_otherLow, .ref a_otherHigh, .ref a_digit, .ref a_topA, .ref a_underA, .ref a_topB, .ref a_underB, .ref a_quotient, .ref a_otherQuotient])), (a_part, aJ g 76 uapart), (a_root, aJ g 76 uaroot_1), (a_square, aJ g 76 c_square)]) (w2 := [(mo, .inr (5, [.ref a_n, .ref a_d, .ref a_r, .ref a_count, .ref a_newN, .ref a_newD, .ref a_newR, .int m_made, .ref a_out, .int m_outCount, .ref a_root, .ref a_rest, .ref a_square, .ref a_part, .ref a_plus, .ref a_minus, .ref a_low, .ref a_high, .ref a_one, .ref a_two, .int m_lowSign, .int m_highSign, .ref a_otherLow, .ref a_otherHigh, .ref a_digit, .ref a_topA, .ref a_underA, .ref a_topB, .ref a_underB, .ref a_quotient, .ref a_otherQuotient])), (a_part, aJ g 76 uapart), (a_root, aJ g 76 uaroot_1), (a_square, aJ g 76 c_square), (a_rest, aJ g 76 uarest_3)]) (sd_runS (rest := []) (As := [.ref a_rest, .int r_2]) S (ct_Model_twice l D g a_rest (H.size) r_2 uarest_2 F (uarest_3) hc) kl_Model_168 (by decide) (by decide) hK hP hD [3] rfl (by decide) rfl hl d_Model_takeRoot_67 rfl (Nat.le_of_ble_eq_true rfl) ⟨Nat.zero_le _, Nat.zero_le _⟩) hP hD hS hA [3] [0, 1, 2, 4] rfl rfl (by decide) (by decide) rfl (fun H locs hP hD hS => ?_)
        refine lv_aload_n hx hb d_Model_takeRoot_70 rfl (lv_at hl 0 rfl) ?_
        refine va_get (D := D) (ci := 5) (v := .ref a_root) (C := R_Model) (T := F_Model) (N := 31) hx hb htt i_Model hown hK hP 0 rfl rfl 10 (by decide) (htt _ kf_Model_36) (fun _ h9 => h9) rfl d_Model_takeRoot_71 ?_
        refine lv_aload_n hx hb d_Model_takeRoot_74 rfl (lv_at hl 0 rfl) ?_
        refine va_get (D := D) (ci := 5) (v := .ref a_part) (C := R_Model) (T := F_Model) (N := 31) hx hb htt i_Model hown hK hP 0 rfl rfl 13 (by decide) (htt _ kf_Model_45) (fun _ h9 => h9) rfl d_Model_takeRoot_75 ?_
        obtain ⟨uapart_1, hc, hm⟩ := sd_mb1 hm
        refine sd_cv1 (wr := [(mo, .inr (5, [.ref a_n, .ref a_d, .ref a_r, .ref a_count, .ref a_newN, .ref a_newD, .ref a_newR, .int m_made, .ref a_out, .int m_outCount, .ref a_root, .ref a_rest, .ref a_square, .ref a_part, .ref a_plus, .ref a_minus, .ref a_low, .ref a_high, .ref a_one, .ref a_two, .int m_lowSign, .int m_highSign, .ref a_otherLow, .ref a_otherHigh, .ref a_digit, .ref a_topA, .ref a_underA, .ref a_topB, .ref a_underB, .ref a_quotient, .ref a_otherQuotient])), (a_square, aJ g 76 c_square), (a_rest, aJ g 76 uarest_3)]) (w2 := [(mo, .inr (5, [.ref a_n, .ref a_d, .ref a_r, .ref a_count, .ref a_newN, .ref a_newD, .ref a_newR, .int m_made, .ref a_out, .int m_outCount, .ref a_root, .ref a_rest, .ref a_square, .ref a_part, .ref a_plus, .ref a_minus, .ref a_low, .ref a_high, .ref a_one, .ref a_two, .int m_lowSign, .int m_highSign, .ref a_otherLow, .ref a_otherHigh, .ref a_digit, .ref a_topA, .ref a_underA, .ref a_topB, .ref a_underB, .ref a_quotient, .ref a_otherQuotient])), (a_square, aJ g 76 c_square), (a_rest, aJ g 76 uarest_3), (a_root, aJ g 76 uaroot_1), (a_part, aJ g 76 uapart_1)]) (sd_runS (rest := []) (As := [.ref a_root, .ref a_part]) S (ct_Model_copy l D g a_root a_part (H.size) uaroot_1 uapart F (uapart_1) hc) kl_Model_172 (by decide) (by decide) hK hP hD [2, 1] rfl (by decide) rfl hl d_Model_takeRoot_78 rfl (Nat.le_of_ble_eq_true rfl) ⟨Nat.zero_le _, Nat.zero_le _⟩) hP hD hS hA [2, 1] [0, 3, 4] rfl rfl (by decide) (by decide) rfl (fun H locs hP hD hS => ?_)
        refine lv_aload_n hx hb d_Model_takeRoot_81 rfl (lv_at hl 0 rfl) ?_
        refine va_get (D := D) (ci := 5) (v := .ref a_part) (C := R_Model) (T := F_Model) (N := 31) hx hb htt i_Model hown hK hP 0 rfl rfl 13 (by decide) (htt _ kf_Model_45) (fun _ h9 => h9) rfl d_Model_takeRoot_82 ?_
        refine lv_iconst (v := (0 : Int32)) hx hb d_Model_takeRoot_85 (by decide) ?_
        obtain ⟨uapart_2, hc, hm⟩ := sd_mb1 hm
        refine sd_cv1 (wr := [(mo, .inr (5, [.ref a_n, .ref a_d, .ref a_r, .ref a_count, .ref a_newN, .ref a_newD, .ref a_newR, .int m_made, .ref a_out, .int m_outCount, .ref a_root, .ref a_rest, .ref a_square, .ref a_part, .ref a_plus, .ref a_minus, .ref a_low, .ref a_high, .ref a_one, .ref a_two, .int m_lowSign, .int m_highSign, .ref a_otherLow, .ref a_otherHigh, .ref a_digit, .ref a_topA, .ref a_underA, .ref a_topB, .ref a_underB, .ref a_quotient, .ref a_otherQuotient])), (a_square, aJ g 76 c_square), (a_rest, aJ g 76 uarest_3), (a_root, aJ g 76 uaroot_1)]) (w2 := [(mo, .inr (5, [.ref a_n, .ref a_d, .ref a_r, .ref a_count, .ref a_newN, .ref a_newD, .ref a_newR, .int m_made, .ref a_out, .int m_outCount, .ref a_root, .ref a_rest, .ref a_square, .ref a_part, .ref a_plus, .ref a_minus, .ref a_low, .ref a_high, .ref a_one, .ref a_two, .int m_lowSign, .int m_highSign, .ref a_otherLow, .ref a_otherHigh, .ref a_digit, .ref a_topA, .ref a_underA, .ref a_topB, .ref a_underB, .ref a_quotient, .ref a_otherQuotient])), (a_square, aJ g 76 c_square), (a_rest, aJ g 76 uarest_3), (a_root, aJ g 76 uaroot_1), (a_part, aJ g 76 uapart_2)]) (sd_runS (rest := []) (As := [.ref a_part, .int (0 : Int32)]) S (ct_Model_twice l D g a_part (H.size) (0 : Int32) uapart_1 F (uapart_2) hc) kl_Model_168 (by decide) (by decide) hK hP hD [4] rfl (by decide) rfl hl d_Model_takeRoot_86 rfl (Nat.le_of_ble_eq_true rfl) ⟨Nat.zero_le _, Nat.zero_le _⟩) hP hD hS hA [4] [0, 1, 2, 3] rfl rfl (by decide) (by decide) rfl (fun H locs hP hD hS => ?_)
        refine lv_aload_n hx hb d_Model_takeRoot_89 rfl (lv_at hl 0 rfl) ?_
        refine va_get (D := D) (ci := 5) (v := .ref a_part) (C := R_Model) (T := F_Model) (N := 31) hx hb htt i_Model hown hK hP 0 rfl rfl 13 (by decide) (htt _ kf_Model_45) (fun _ h9 => h9) rfl d_Model_takeRoot_90 ?_
        refine lv_iconst (v := (1 : Int32)) hx hb d_Model_takeRoot_93 (by decide) ?_
        obtain ⟨uapart_3, hc, hm⟩ := sd_mb1 hm
        refine sd_cv1 (wr := [(mo, .inr (5, [.ref a_n, .ref a_d, .ref a_r, .ref a_count, .ref a_newN, .ref a_newD, .ref a_newR, .int m_made, .ref a_out, .int m_outCount, .ref a_root, .ref a_rest, .ref a_square, .ref a_part, .ref a_plus, .ref a_minus, .ref a_low, .ref a_high, .ref a_one, .ref a_two, .int m_lowSign, .int m_highSign, .ref a_otherLow, .ref a_otherHigh, .ref a_digit, .ref a_topA, .ref a_underA, .ref a_topB, .ref a_underB, .ref a_quotient, .ref a_otherQuotient])), (a_square, aJ g 76 c_square), (a_rest, aJ g 76 uarest_3), (a_root, aJ g 76 uaroot_1)]) (w2 := [(mo, .inr (5, [.ref a_n, .ref a_d, .ref a_r, .ref a_count, .ref a_newN, .ref a_newD, .ref a_newR, .int m_made, .ref a_out, .int m_outCount, .ref a_root, .ref a_rest, .ref a_square, .ref a_part, .ref a_plus, .ref a_minus, .ref a_low, .ref a_high, .ref a_one, .ref a_two, .int m_lowSign, .int m_highSign, .ref a_otherLow, .ref a_otherHigh, .ref a_digit, .ref a_topA, .ref a_underA, .ref a_topB, .ref a_underB, .ref a_quotient, .ref a_otherQuotient])), (a_square, aJ g 76 c_square), (a_rest, aJ g 76 uarest_3), (a_root, aJ g 76 uaroot_1), (a_part, aJ g 76 uapart_3)]) (sd_runS (rest := []) (As := [.ref a_part, .int (1 : Int32)]) S (ct_Model_twice l D g a_part (H.size) (1 : Int32) uapart_2 F (uapart_3) hc) kl_Model_168 (by decide) (by decide) hK hP hD [4] rfl (by decide) rfl hl d_Model_takeRoot_94 rfl (Nat.le_of_ble_eq_true rfl) ⟨Nat.zero_le _, Nat.zero_le _⟩) hP hD hS hA [4] [0, 1, 2, 3] rfl rfl (by decide) (by decide) rfl (fun H locs hP hD hS => ?_)
        refine lv_aload_n hx hb d_Model_takeRoot_97 rfl (lv_at hl 0 rfl) ?_
        refine va_get (D := D) (ci := 5) (v := .ref a_rest) (C := R_Model) (T := F_Model) (N := 31) hx hb htt i_Model hown hK hP 0 rfl rfl 11 (by decide) (htt _ kf_Model_39) (fun _ h9 => h9) rfl d_Model_takeRoot_98 ?_
        refine lv_aload_n hx hb d_Model_takeRoot_101 rfl (lv_at hl 0 rfl) ?_
        refine va_get (D := D) (ci := 5) (v := .ref a_part) (C := R_Model) (T := F_Model) (N := 31) hx hb htt i_Model hown hK hP 0 rfl rfl 13 (by decide) (htt _ kf_Model_45) (fun _ h9 => h9) rfl d_Model_takeRoot_102 ?_
        obtain ⟨r_3, hc, hm⟩ := sd_mb1 hm
        refine sd_ci0 (wr := [(mo, .inr (5, [.ref a_n, .ref a_d, .ref a_r, .ref a_count, .ref a_newN, .ref a_newD, .ref a_newR, .int m_made, .ref a_out, .int m_outCount, .ref a_root, .ref a_rest, .ref a_square, .ref a_part, .ref a_plus, .ref a_minus, .ref a_low, .ref a_high, .ref a_one, .ref a_two, .int m_lowSign, .int m_highSign, .ref a_otherLow, .ref a_otherHigh, .ref a_digit, .ref a_topA, .ref a_underA, .ref a_topB, .ref a_underB, .ref a_quotient, .ref a_otherQuotient])), (a_square, aJ g 76 c_square), (a_root, aJ g 76 uaroot_1)]) (w2 := [(mo, .inr (5, [.ref a_n, .ref a_d, .ref a_r, .ref a_count, .ref a_newN, .ref a_newD, .ref a_newR, .int m_made, .ref a_out, .int m_outCount, .ref a_root, .ref a_rest, .ref a_square, .ref a_part, .ref a_plus, .ref a_minus, .ref a_low, .ref a_high, .ref a_one, .ref a_two, .int m_lowSign, .int m_highSign, .ref a_otherLow, .ref a_otherHigh, .ref a_digit, .ref a_topA, .ref a_underA, .ref a_topB, .ref a_underB, .ref a_quotient, .ref a_otherQuotient])), (a_square, aJ g 76 c_square), (a_root, aJ g 76 uaroot_1), (a_rest, aJ g 76 uarest_3), (a_part, aJ g 76 uapart_3)]) (sd_runS (rest := []) (As := [.ref a_rest, .ref a_part]) S (ct_Model_compareRows l D g a_rest a_part (H.size) uarest_3 uapart_3 F (r_3) hc) kl_Model_176 (by decide) (by decide) hK hP hD [2, 4] rfl (by decide) rfl hl d_Model_takeRoot_105 rfl (Nat.le_of_ble_eq_true rfl) ⟨Nat.zero_le _, Nat.zero_le _⟩) hP hD hS hA [2, 4] [0, 1, 3] rfl rfl (by decide) (by decide) rfl (fun H locs hP hD hS => ?_)
        refine W.eq (g2 := F0 m 108 ls [.int r_3]) rfl ?_
        obtain ⟨y, hv, hm⟩ := sd_mb1 hm
        have J116_1 : ∀ (H : Heap) (locs : List Loc) (ls : Array Slot), va_P D classes [(mo, .inr (5, [.ref a_n, .ref a_d, .ref a_r, .ref a_count, .ref a_newN, .ref a_newD, .ref a_newR, .int m_made, .ref a_out, .int m_outCount, .ref a_root, .ref a_rest, .ref a_square, .ref a_part, .ref a_plus, .ref a_minus, .ref a_low, .ref a_high, .ref a_one, .ref a_two, .int m_lowSign, .int m_highSign, .ref a_otherLow, .ref a_otherHigh, .ref a_digit, .ref a_topA, .ref a_underA, .ref a_topB, .ref a_underB, .ref a_quotient, .ref a_otherQuotient])), (a_square, aJ g 76 c_square), (a_root, aJ g 76 uaroot_1), (a_rest, aJ g 76 uarest_3), (a_part, aJ g 76 uapart_3)] H → va_D A [(mo, .inr (5, [.ref a_n, .ref a_d, .ref a_r, .ref a_count, .ref a_newN, .ref a_newD, .ref a_newR, .int m_made, .ref a_out, .int m_outCount, .ref a_root, .ref a_rest, .ref a_square, .ref a_part, .ref a_plus, .ref a_minus, .ref a_low, .ref a_high, .ref a_one, .ref a_two, .int m_lowSign, .int m_highSign, .ref a_otherLow, .ref a_otherHigh, .ref a_digit, .ref a_topA, .ref a_underA, .ref a_topB, .ref a_underB, .ref a_quotient, .ref a_otherQuotient])), (a_square, aJ g 76 c_square), (a_root, aJ g 76 uaroot_1), (a_rest, aJ g 76 uarest_3), (a_part, aJ g 76 uapart_3)] → va_S A s.heap H locs → lv_has ls 3 [(0, .ref mo), (1, .int x1_1)] → W p l e rm_Model_takeRoot s m args below meth c H locs 0 0 Q (F0 m 116 ls [.int y]) := by
          intro H locs ls hP hD hS hl
          refine lv_istore_n (lv' := [(2, .int y), (0, .ref mo), (1, .int x1_1)]) hx hb d_Model_takeRoot_116 rfl hl (by decide) rfl (fun ls hl => ?_)
          refine lv_iload_n hx hb d_Model_takeRoot_117 rfl (lv_at hl 0 rfl) ?_
          obtain ⟨uarest_4, hv, hm⟩ := sd_mb1 hm
          have J132_2 : ∀ (H : Heap) (locs : List Loc) (ls : Array Slot), va_P D classes [(mo, .inr (5, [.ref a_n, .ref a_d, .ref a_r, .ref a_count, .ref a_newN, .ref a_newD, .ref a_newR, .int m_made, .ref a_out, .int m_outCount, .ref a_root, .ref a_rest, .ref a_square, .ref a_part, .ref a_plus, .ref a_minus, .ref a_low, .ref a_high, .ref a_one, .ref a_two, .int m_lowSign, .int m_highSign, .ref a_otherLow, .ref a_otherHigh, .ref a_digit, .ref a_topA, .ref a_underA, .ref a_topB, .ref a_underB, .ref a_quotient, .ref a_otherQuotient])), (a_square, aJ g 76 c_square), (a_root, aJ g 76 uaroot_1), (a_rest, aJ g 76 uarest_4), (a_part, aJ g 76 uapart_3)] H → va_D A [(mo, .inr (5, [.ref a_n, .ref a_d, .ref a_r, .ref a_count, .ref a_newN, .ref a_newD, .ref a_newR, .int m_made, .ref a_out, .int m_outCount, .ref a_root, .ref a_rest, .ref a_square, .ref a_part, .ref a_plus, .ref a_minus, .ref a_low, .ref a_high, .ref a_one, .ref a_two, .int m_lowSign, .int m_highSign, .ref a_otherLow, .ref a_otherHigh, .ref a_digit, .ref a_topA, .ref a_underA, .ref a_topB, .ref a_underB, .ref a_quotient, .ref a_otherQuotient])), (a_square, aJ g 76 c_square), (a_root, aJ g 76 uaroot_1), (a_rest, aJ g 76 uarest_4), (a_part, aJ g 76 uapart_3)] → va_S A s.heap H locs → lv_has ls 3 [(0, .ref mo), (1, .int x1_1), (2, .int y)] → W p l e rm_Model_takeRoot s m args below meth c H locs 0 0 Q (F0 m 132 ls []) := by
            intro H locs ls hP hD hS hl
            refine lv_aload_n hx hb d_Model_takeRoot_132 rfl (lv_at hl 0 rfl) ?_
            refine va_get (D := D) (ci := 5) (v := .ref a_root) (C := R_Model) (T := F_Model) (N := 31) hx hb htt i_Model hown hK hP 0 rfl rfl 10 (by decide) (htt _ kf_Model_36) (fun _ h9 => h9) rfl d_Model_takeRoot_133 ?_
            refine lv_iload_n hx hb d_Model_takeRoot_136 rfl (lv_at hl 2 rfl) ?_
            obtain ⟨y_1, hv, hm⟩ := sd_mb1 hm
            have J145_3 : ∀ (H : Heap) (locs : List Loc) (ls : Array Slot), va_P D classes [(mo, .inr (5, [.ref a_n, .ref a_d, .ref a_r, .ref a_count, .ref a_newN, .ref a_newD, .ref a_newR, .int m_made, .ref a_out, .int m_outCount, .ref a_root, .ref a_rest, .ref a_square, .ref a_part, .ref a_plus, .ref a_minus, .ref a_low, .ref a_high, .ref a_one, .ref a_two, .int m_lowSign, .int m_highSign, .ref a_otherLow, .ref a_otherHigh, .ref a_digit, .ref a_topA, .ref a_underA, .ref a_topB, .ref a_underB, .ref a_quotient, .ref a_otherQuotient])), (a_square, aJ g 76 c_square), (a_root, aJ g 76 uaroot_1), (a_rest, aJ g 76 uarest_4), (a_part, aJ g 76 uapart_3)] H → va_D A [(mo, .inr (5, [.ref a_n, .ref a_d, .ref a_r, .ref a_count, .ref a_newN, .ref a_newD, .ref a_newR, .int m_made, .ref a_out, .int m_outCount, .ref a_root, .ref a_rest, .ref a_square, .ref a_part, .ref a_plus, .ref a_minus, .ref a_low, .ref a_high, .ref a_one, .ref a_two, .int m_lowSign, .int m_highSign, .ref a_otherLow, .ref a_otherHigh, .ref a_digit, .ref a_topA, .ref a_underA, .ref a_topB, .ref a_underB, .ref a_quotient, .ref a_otherQuotient])), (a_square, aJ g 76 c_square), (a_root, aJ g 76 uaroot_1), (a_rest, aJ g 76 uarest_4), (a_part, aJ g 76 uapart_3)] → va_S A s.heap H locs → lv_has ls 3 [(0, .ref mo), (1, .int x1_1)] → W p l e rm_Model_takeRoot s m args below meth c H locs 0 0 Q (F0 m 145 ls [.int y_1, .ref a_root]) := by
              intro H locs ls hP hD hS hl
              obtain ⟨uaroot_2, hc, hm⟩ := sd_mb1 hm
              refine sd_cv1 (wr := [(mo, .inr (5, [.ref a_n, .ref a_d, .ref a_r, .ref a_count, .ref a_newN, .ref a_newD, .ref a_newR, .int m_made, .ref a_out, .int m_outCount, .ref a_root, .ref a_rest, .ref a_square, .ref a_part, .ref a_plus, .ref a_minus, .ref a_low, .ref a_high, .ref a_one, .ref a_two, .int m_lowSign, .int m_highSign, .ref a_otherLow, .ref a_otherHigh, .ref a_digit, .ref a_topA, .ref a_underA, .ref a_topB, .ref a_underB, .ref a_quotient, .ref a_otherQuotient])), (a_square, aJ g 76 c_square), (a_rest, aJ g 76 uarest_4), (a_part, aJ g 76 uapart_3)]) (w2 := [(mo, .inr (5, [.ref a_n, .ref a_d, .ref a_r, .ref a_count, .ref a_newN, .ref a_newD, .ref a_newR, .int m_made, .ref a_out, .int m_outCount, .ref a_root, .ref a_rest, .ref a_square, .ref a_part, .ref a_plus, .ref a_minus, .ref a_low, .ref a_high, .ref a_one, .ref a_two, .int m_lowSign, .int m_highSign, .ref a_otherLow, .ref a_otherHigh, .ref a_digit, .ref a_topA, .ref a_underA, .ref a_topB, .ref a_underB, .ref a_quotient, .ref a_otherQuotient])), (a_square, aJ g 76 c_square), (a_rest, aJ g 76 uarest_4), (a_part, aJ g 76 uapart_3), (a_root, aJ g 76 uaroot_2)]) (sd_runS (rest := []) (As := [.ref a_root, .int y_1]) S (ct_Model_twice l D g a_root (H.size) y_1 uaroot_1 F (uaroot_2) hc) kl_Model_168 (by decide) (by decide) hK hP hD [2] rfl (by decide) rfl hl d_Model_takeRoot_145 rfl (Nat.le_of_ble_eq_true rfl) ⟨Nat.zero_le _, Nat.zero_le _⟩) hP hD hS hA [2] [0, 1, 3, 4] rfl rfl (by decide) (by decide) rfl (fun H locs hP hD hS => ?_)
              obtain ⟨x1_2, ex1_2, hm⟩ := sd_mlet hm
              refine lv_iinc (v := x1_2) (lv' := [(1, .int x1_2), (0, .ref mo)]) hx hb d_Model_takeRoot_148 hl (k := 1) rfl (by rw [ex1_2]; rfl) (by decide) rfl (fun ls hl => ?_)
              refine lv_goto (tgt := 30) hx hb d_Model_takeRoot_151 (by decide) ?_
              exact ih x1_2 uapart_3 uaroot_2 uarest_4 ruapart ruaroot ruarest hm H locs ls (hP.sub [0, 3, 4, 2, 1] rfl) (hD.sub [0, 3, 4, 2, 1] (by decide) rfl) hS (lv_sub hl [1, 0] rfl) kx154
            replace hm := hv
            refine lv_if_eq (tgt := 144) hx hb d_Model_takeRoot_137 (by decide) (fun hc => ?_) (fun hc => ?_)
            · have hm := sd_mt hc hm
              refine lv_iconst (v := (0 : Int32)) hx hb d_Model_takeRoot_144 (by decide) ?_
              cases hm
              exact J145_3 H locs ls (hP.sub [0, 1, 2, 3, 4] rfl) (hD.sub [0, 1, 2, 3, 4] (by decide) rfl) hS (lv_sub hl [0, 1] rfl)
            · have hm := sd_mf hc hm
              refine lv_iconst (v := (1 : Int32)) hx hb d_Model_takeRoot_140 (by decide) ?_
              refine lv_goto (tgt := 145) hx hb d_Model_takeRoot_141 (by decide) ?_
              cases hm
              exact J145_3 H locs ls (hP.sub [0, 1, 2, 3, 4] rfl) (hD.sub [0, 1, 2, 3, 4] (by decide) rfl) hS (lv_sub hl [0, 1] rfl)
          replace hm := hv
          refine lv_if_eq (tgt := 132) hx hb d_Model_takeRoot_118 (by decide) (fun hc => ?_) (fun hc => ?_)
          · have hm := sd_mt hc hm
            cases hm
            exact J132_2 H locs ls (hP.sub [0, 1, 2, 3, 4] rfl) (hD.sub [0, 1, 2, 3, 4] (by decide) rfl) hS (lv_sub hl [1, 2, 0] rfl)
          · have hm := sd_mf hc hm
            refine lv_aload_n hx hb d_Model_takeRoot_121 rfl (lv_at hl 1 rfl) ?_
            refine va_get (D := D) (ci := 5) (v := .ref a_rest) (C := R_Model) (T := F_Model) (N := 31) hx hb htt i_Model hown hK hP 0 rfl rfl 11 (by decide) (htt _ kf_Model_39) (fun _ h9 => h9) rfl d_Model_takeRoot_122 ?_
            refine lv_aload_n hx hb d_Model_takeRoot_125 rfl (lv_at hl 1 rfl) ?_
            refine va_get (D := D) (ci := 5) (v := .ref a_part) (C := R_Model) (T := F_Model) (N := 31) hx hb htt i_Model hown hK hP 0 rfl rfl 13 (by decide) (htt _ kf_Model_45) (fun _ h9 => h9) rfl d_Model_takeRoot_126 ?_
            obtain ⟨uarest_5, hc, hm⟩ := sd_mb1 hm
            refine sd_cv1 (wr := [(mo, .inr (5, [.ref a_n, .ref a_d, .ref a_r, .ref a_count, .ref a_newN, .ref a_newD, .ref a_newR, .int m_made, .ref a_out, .int m_outCount, .ref a_root, .ref a_rest, .ref a_square, .ref a_part, .ref a_plus, .ref a_minus, .ref a_low, .ref a_high, .ref a_one, .ref a_two, .int m_lowSign, .int m_highSign, .ref a_otherLow, .ref a_otherHigh, .ref a_digit, .ref a_topA, .ref a_underA, .ref a_topB, .ref a_underB, .ref a_quotient, .ref a_otherQuotient])), (a_square, aJ g 76 c_square), (a_root, aJ g 76 uaroot_1)]) (w2 := [(mo, .inr (5, [.ref a_n, .ref a_d, .ref a_r, .ref a_count, .ref a_newN, .ref a_newD, .ref a_newR, .int m_made, .ref a_out, .int m_outCount, .ref a_root, .ref a_rest, .ref a_square, .ref a_part, .ref a_plus, .ref a_minus, .ref a_low, .ref a_high, .ref a_one, .ref a_two, .int m_lowSign, .int m_highSign, .ref a_otherLow, .ref a_otherHigh, .ref a_digit, .ref a_topA, .ref a_underA, .ref a_topB, .ref a_underB, .ref a_quotient, .ref a_otherQuotient])), (a_square, aJ g 76 c_square), (a_root, aJ g 76 uaroot_1), (a_rest, aJ g 76 uarest_5), (a_part, aJ g 76 uapart_3)]) (sd_runS (rest := []) (As := [.ref a_rest, .ref a_part]) S (ct_Model_subtract l D g a_rest a_part (H.size) uarest_3 uapart_3 F (uarest_5) hc) kl_Model_180 (by decide) (by decide) hK hP hD [3, 4] rfl (by decide) rfl hl d_Model_takeRoot_129 rfl (Nat.le_of_ble_eq_true rfl) ⟨Nat.zero_le _, Nat.zero_le _⟩) hP hD hS hA [3, 4] [0, 1, 2] rfl rfl (by decide) (by decide) rfl (fun H locs hP hD hS => ?_)
            cases hm
            exact J132_2 H locs ls (hP.sub [0, 1, 2, 3, 4] rfl) (hD.sub [0, 1, 2, 3, 4] (by decide) rfl) hS (lv_sub hl [1, 2, 0] rfl)
        replace hm := hv
        refine lv_if_lt (tgt := 115) hx hb d_Model_takeRoot_108 (by decide) (fun hc => ?_) (fun hc => ?_)
        · have hm := sd_mt hc hm
          refine lv_iconst (v := (0 : Int32)) hx hb d_Model_takeRoot_115 (by decide) ?_
          cases hm
          exact J116_1 H locs ls (hP.sub [0, 1, 2, 3, 4] rfl) (hD.sub [0, 1, 2, 3, 4] (by decide) rfl) hS (lv_sub hl [0, 1] rfl)
        · have hm := sd_mf hc hm
          refine lv_iconst (v := (1 : Int32)) hx hb d_Model_takeRoot_111 (by decide) ?_
          refine lv_goto (tgt := 116) hx hb d_Model_takeRoot_112 (by decide) ?_
          cases hm
          exact J116_1 H locs ls (hP.sub [0, 1, 2, 3, 4] rfl) (hD.sub [0, 1, 2, 3, 4] (by decide) rfl) hS (lv_sub hl [0, 1] rfl)
  obtain ⟨ruapart, ruaroot, ruarest, hc, hm⟩ := sd_mb3 hm
  refine L30 F x1 c_part uaroot uarest ruapart ruaroot ruarest hc H locs ls (hP.sub [0, 1, 2, 3, 4] rfl) (hD.sub [0, 1, 2, 3, 4] (by decide) rfl) hS (lv_sub hl [1, 0] rfl) ?_
  intro H locs ls hP hD hS hl
  exact sd_v1ret (u := (ruaroot, ruarest, ruapart)) hQ hx hb hr hlk hK (hP.sub [0, 2, 3, 4, 1] rfl) (hD.sub [0, 2, 3, 4, 1] (by decide) rfl) hS (Option.some.inj hm).symm d_Model_takeRoot_154
theorem d_Model_divideRoot_0 : decode b_Model_divideRoot 0 = .ok (.aload_n 0, 1) := by decide +kernel
theorem d_Model_divideRoot_1 : decode b_Model_divideRoot 1 = .ok (.getfield 45, 3) := by decide +kernel
theorem d_Model_divideRoot_4 : decode b_Model_divideRoot 4 = .ok (.lconst 0, 1) := by decide +kernel
theorem d_Model_divideRoot_5 : decode b_Model_divideRoot 5 = .ok (.invokestatic 157, 3) := by decide +kernel
theorem d_Model_divideRoot_8 : decode b_Model_divideRoot 8 = .ok (.lconst 0, 1) := by decide +kernel
theorem d_Model_divideRoot_9 : decode b_Model_divideRoot 9 = .ok (.lstore_n 3, 1) := by decide +kernel
theorem d_Model_divideRoot_10 : decode b_Model_divideRoot 10 = .ok (.aload_n 0, 1) := by decide +kernel
theorem d_Model_divideRoot_11 : decode b_Model_divideRoot 11 = .ok (.getfield 36, 3) := by decide +kernel
theorem d_Model_divideRoot_14 : decode b_Model_divideRoot 14 = .ok (.invokestatic 161, 3) := by decide +kernel
theorem d_Model_divideRoot_17 : decode b_Model_divideRoot 17 = .ok (.iconst 1, 1) := by decide +kernel
theorem d_Model_divideRoot_18 : decode b_Model_divideRoot 18 = .ok (.isub, 1) := by decide +kernel
theorem d_Model_divideRoot_19 : decode b_Model_divideRoot 19 = .ok (.istore 5, 2) := by decide +kernel
theorem d_Model_divideRoot_21 : decode b_Model_divideRoot 21 = .ok (.iload 5, 2) := by decide +kernel
theorem d_Model_divideRoot_23 : decode b_Model_divideRoot 23 = .ok (.ifCond .lt 65, 3) := by decide +kernel
theorem d_Model_divideRoot_26 : decode b_Model_divideRoot 26 = .ok (.ldc2_w 126, 3) := by decide +kernel
theorem d_Model_divideRoot_29 : decode b_Model_divideRoot 29 = .ok (.lload_n 3, 1) := by decide +kernel
theorem d_Model_divideRoot_30 : decode b_Model_divideRoot 30 = .ok (.lmul, 1) := by decide +kernel
theorem d_Model_divideRoot_31 : decode b_Model_divideRoot 31 = .ok (.aload_n 0, 1) := by decide +kernel
theorem d_Model_divideRoot_32 : decode b_Model_divideRoot 32 = .ok (.getfield 36, 3) := by decide +kernel
theorem d_Model_divideRoot_35 : decode b_Model_divideRoot 35 = .ok (.iload 5, 2) := by decide +kernel
theorem d_Model_divideRoot_37 : decode b_Model_divideRoot 37 = .ok (.invokestatic 164, 3) := by decide +kernel
theorem d_Model_divideRoot_40 : decode b_Model_divideRoot 40 = .ok (.i2l, 1) := by decide +kernel
theorem d_Model_divideRoot_41 : decode b_Model_divideRoot 41 = .ok (.ladd, 1) := by decide +kernel
theorem d_Model_divideRoot_42 : decode b_Model_divideRoot 42 = .ok (.lstore_n 3, 1) := by decide +kernel
theorem d_Model_divideRoot_43 : decode b_Model_divideRoot 43 = .ok (.lload_n 3, 1) := by decide +kernel
theorem d_Model_divideRoot_44 : decode b_Model_divideRoot 44 = .ok (.lload_n 1, 1) := by decide +kernel
theorem d_Model_divideRoot_45 : decode b_Model_divideRoot 45 = .ok (.lcmp, 1) := by decide +kernel
theorem d_Model_divideRoot_46 : decode b_Model_divideRoot 46 = .ok (.ifCond .lt 7, 3) := by decide +kernel
theorem d_Model_divideRoot_49 : decode b_Model_divideRoot 49 = .ok (.iconst 1, 1) := by decide +kernel
theorem d_Model_divideRoot_50 : decode b_Model_divideRoot 50 = .ok (.goto 4, 3) := by decide +kernel
theorem d_Model_divideRoot_53 : decode b_Model_divideRoot 53 = .ok (.iconst 0, 1) := by decide +kernel
theorem d_Model_divideRoot_54 : decode b_Model_divideRoot 54 = .ok (.istore 6, 2) := by decide +kernel
theorem d_Model_divideRoot_56 : decode b_Model_divideRoot 56 = .ok (.iload 6, 2) := by decide +kernel
theorem d_Model_divideRoot_58 : decode b_Model_divideRoot 58 = .ok (.ifCond .eq 7, 3) := by decide +kernel
theorem d_Model_divideRoot_61 : decode b_Model_divideRoot 61 = .ok (.lload_n 3, 1) := by decide +kernel
theorem d_Model_divideRoot_62 : decode b_Model_divideRoot 62 = .ok (.lload_n 1, 1) := by decide +kernel
theorem d_Model_divideRoot_63 : decode b_Model_divideRoot 63 = .ok (.lsub, 1) := by decide +kernel
theorem d_Model_divideRoot_64 : decode b_Model_divideRoot 64 = .ok (.lstore_n 3, 1) := by decide +kernel
theorem d_Model_divideRoot_65 : decode b_Model_divideRoot 65 = .ok (.aload_n 0, 1) := by decide +kernel
theorem d_Model_divideRoot_66 : decode b_Model_divideRoot 66 = .ok (.getfield 45, 3) := by decide +kernel
theorem d_Model_divideRoot_69 : decode b_Model_divideRoot 69 = .ok (.iload 6, 2) := by decide +kernel
theorem d_Model_divideRoot_71 : decode b_Model_divideRoot 71 = .ok (.ifCond .eq 7, 3) := by decide +kernel
theorem d_Model_divideRoot_74 : decode b_Model_divideRoot 74 = .ok (.iconst 1, 1) := by decide +kernel
theorem d_Model_divideRoot_75 : decode b_Model_divideRoot 75 = .ok (.goto 4, 3) := by decide +kernel
theorem d_Model_divideRoot_78 : decode b_Model_divideRoot 78 = .ok (.iconst 0, 1) := by decide +kernel
theorem d_Model_divideRoot_79 : decode b_Model_divideRoot 79 = .ok (.invokestatic 168, 3) := by decide +kernel
theorem d_Model_divideRoot_82 : decode b_Model_divideRoot 82 = .ok (.iinc 5 (-1), 3) := by decide +kernel
theorem d_Model_divideRoot_85 : decode b_Model_divideRoot 85 = .ok (.goto (-64), 3) := by decide +kernel
theorem d_Model_divideRoot_88 : decode b_Model_divideRoot 88 = .ok (.return_, 1) := by decide +kernel
def mf_Model_divideRoot_L21 (F : Nat) (c_root : Nat → Int64) (vBy : Int64) : Nat → Int64 → Int32 → (Nat → Int64) → Option ((Nat → Int64))
  | 0, _, _, _ => none
  | fu + 1, x3, x5_1, uapart_1 => (if x5_1 < 0 then (some (uapart_1)) else (sd_b1 (mf_Model_bit F x5_1 c_root) fun r_1 => (sd_let ((((2 : Int64) * x3) + (r_1.toInt64))) fun x3_1 => (sd_b1 (if x3_1 < vBy then (some ((0 : Int32))) else (some ((1 : Int32)))) fun y => (sd_b1 (if y = 0 then (some (x3_1)) else (sd_let ((x3_1 - vBy)) fun x3_3 => (some (x3_3)))) fun x3_2 => (sd_b1 (if y = 0 then (some ((0 : Int32))) else (some ((1 : Int32)))) fun y_1 => (sd_b1 (mf_Model_twice F y_1 uapart_1) fun uapart_2 => (sd_let (x5_1 + (-1 : Int32)) fun x5_2 => ((mf_Model_divideRoot_L21 F c_root vBy fu) x3_2 x5_2 uapart_2)))))))))
def mf_Model_divideRoot (F : Nat) (vBy : Int64) (m_made : Int32) (m_outCount : Int32) (m_lowSign : Int32) (m_highSign : Int32) (c_root : Nat → Int64) (c_part : Nat → Int64) : Option ((Nat → Int64)) :=
  (sd_b1 (mf_Model_set F (0 : Int64) c_part) fun uapart => (sd_b1 (mf_Model_bits F c_root) fun r => (sd_let ((r - (1 : Int32))) fun x5 => (sd_b1 (mf_Model_divideRoot_L21 F c_root vBy F (0 : Int64) x5 uapart) fun ruapart => (some (ruapart))))))
abbrev rm_Model_divideRoot : Room := { frames := 3, cells := 0, slots := 0, locals := 64 }
set_option maxHeartbeats 4000000 in
set_option maxRecDepth 100000 in
theorem ct_Model_divideRoot (l : Launch) (D : va_G) (g : G4) (mo : Nat) (a_n : Nat) (a_d : Nat) (a_r : Nat) (a_count : Nat) (a_newN : Nat) (a_newD : Nat) (a_newR : Nat) (a_out : Nat) (a_root : Nat) (a_rest : Nat) (a_square : Nat) (a_part : Nat) (a_plus : Nat) (a_minus : Nat) (a_low : Nat) (a_high : Nat) (a_one : Nat) (a_two : Nat) (a_otherLow : Nat) (a_otherHigh : Nat) (a_digit : Nat) (a_topA : Nat) (a_underA : Nat) (a_topB : Nat) (a_underB : Nat) (a_quotient : Nat) (a_otherQuotient : Nat) (sz : Nat) (vBy : Int64) (m_made : Int32) (m_outCount : Int32) (m_lowSign : Int32) (m_highSign : Int32) (c_root : Nat → Int64) (c_part : Nat → Int64) (F : Nat) (res : (Nat → Int64)) (hm : mf_Model_divideRoot F vBy m_made m_outCount m_lowSign m_highSign c_root c_part = some res) : Met l y_Model_divideRoot (.code y_Model_divideRoot b_Model_divideRoot 7 none :: sd_tb) rm_Model_divideRoot (sd_PW D g [.ref mo, .long vBy] sz [(mo, .inr (5, [.ref a_n, .ref a_d, .ref a_r, .ref a_count, .ref a_newN, .ref a_newD, .ref a_newR, .int m_made, .ref a_out, .int m_outCount, .ref a_root, .ref a_rest, .ref a_square, .ref a_part, .ref a_plus, .ref a_minus, .ref a_low, .ref a_high, .ref a_one, .ref a_two, .int m_lowSign, .int m_highSign, .ref a_otherLow, .ref a_otherHigh, .ref a_digit, .ref a_topA, .ref a_underA, .ref a_topB, .ref a_underB, .ref a_quotient, .ref a_otherQuotient])), (a_root, aJ g 76 c_root), (a_part, aJ g 76 c_part)]) (sd_Qv1 D g res (fun u : (Nat → Int64) => [(mo, .inr (5, [.ref a_n, .ref a_d, .ref a_r, .ref a_count, .ref a_newN, .ref a_newD, .ref a_newR, .int m_made, .ref a_out, .int m_outCount, .ref a_root, .ref a_rest, .ref a_square, .ref a_part, .ref a_plus, .ref a_minus, .ref a_low, .ref a_high, .ref a_one, .ref a_two, .int m_lowSign, .int m_highSign, .ref a_otherLow, .ref a_otherHigh, .ref a_digit, .ref a_topA, .ref a_underA, .ref a_topB, .ref a_underB, .ref a_quotient, .ref a_otherQuotient])), (a_root, aJ g 76 c_root), (a_part, aJ g 76 u)]) (va_A [(mo, .inr (5, [.ref a_n, .ref a_d, .ref a_r, .ref a_count, .ref a_newN, .ref a_newD, .ref a_newR, .int m_made, .ref a_out, .int m_outCount, .ref a_root, .ref a_rest, .ref a_square, .ref a_part, .ref a_plus, .ref a_minus, .ref a_low, .ref a_high, .ref a_one, .ref a_two, .int m_lowSign, .int m_highSign, .ref a_otherLow, .ref a_otherHigh, .ref a_digit, .ref a_topA, .ref a_underA, .ref a_topB, .ref a_underB, .ref a_quotient, .ref a_otherQuotient])), (a_root, aJ g 76 c_root), (a_part, aJ g 76 c_part)] sz)) 0 0 (va_A [(mo, .inr (5, [.ref a_n, .ref a_d, .ref a_r, .ref a_count, .ref a_newN, .ref a_newD, .ref a_newR, .int m_made, .ref a_out, .int m_outCount, .ref a_root, .ref a_rest, .ref a_square, .ref a_part, .ref a_plus, .ref a_minus, .ref a_low, .ref a_high, .ref a_one, .ref a_two, .int m_lowSign, .int m_highSign, .ref a_otherLow, .ref a_otherHigh, .ref a_digit, .ref a_topA, .ref a_underA, .ref a_topB, .ref a_underB, .ref a_quotient, .ref a_otherQuotient])), (a_root, aJ g 76 c_root), (a_part, aJ g 76 c_part)] sz) := by
  refine sd_met (Qf := fun A => sd_Qv1 D g res (fun u : (Nat → Int64) => [(mo, .inr (5, [.ref a_n, .ref a_d, .ref a_r, .ref a_count, .ref a_newN, .ref a_newD, .ref a_newR, .int m_made, .ref a_out, .int m_outCount, .ref a_root, .ref a_rest, .ref a_square, .ref a_part, .ref a_plus, .ref a_minus, .ref a_low, .ref a_high, .ref a_one, .ref a_two, .int m_lowSign, .int m_highSign, .ref a_otherLow, .ref a_otherHigh, .ref a_digit, .ref a_topA, .ref a_underA, .ref a_topB, .ref a_underB, .ref a_quotient, .ref a_otherQuotient])), (a_root, aJ g 76 c_root), (a_part, aJ g 76 u)]) A) (own := R_Model) (by decide +kernel) rfl (Nat.le_of_ble_eq_true rfl) ?_
  intro p e s m args below meth c S hr hlk hK A hA Q hQ H locs hP hD hS ls hl
  have hx := S.1
  have hb := S.2.1
  have hml := S.2.2.1
  have hown := S.2.2.2.1
  have htt := sd_tt S
  replace hl : lv_has ls 7 [(0, .ref mo), (1, .long vBy)] := hl
  unfold mf_Model_divideRoot at hm
  refine lv_aload_n hx hb d_Model_divideRoot_0 rfl (lv_at hl 0 rfl) ?_
  refine va_get (D := D) (ci := 5) (v := .ref a_part) (C := R_Model) (T := F_Model) (N := 31) hx hb htt i_Model hown hK hP 0 rfl rfl 13 (by decide) (htt _ kf_Model_45) (fun _ h9 => h9) rfl d_Model_divideRoot_1 ?_
  refine lv_lconst (v := (0 : Int64)) hx hb d_Model_divideRoot_4 (by decide) ?_
  obtain ⟨uapart, hc, hm⟩ := sd_mb1 hm
  refine sd_cv1 (wr := [(mo, .inr (5, [.ref a_n, .ref a_d, .ref a_r, .ref a_count, .ref a_newN, .ref a_newD, .ref a_newR, .int m_made, .ref a_out, .int m_outCount, .ref a_root, .ref a_rest, .ref a_square, .ref a_part, .ref a_plus, .ref a_minus, .ref a_low, .ref a_high, .ref a_one, .ref a_two, .int m_lowSign, .int m_highSign, .ref a_otherLow, .ref a_otherHigh, .ref a_digit, .ref a_topA, .ref a_underA, .ref a_topB, .ref a_underB, .ref a_quotient, .ref a_otherQuotient])), (a_root, aJ g 76 c_root)]) (w2 := [(mo, .inr (5, [.ref a_n, .ref a_d, .ref a_r, .ref a_count, .ref a_newN, .ref a_newD, .ref a_newR, .int m_made, .ref a_out, .int m_outCount, .ref a_root, .ref a_rest, .ref a_square, .ref a_part, .ref a_plus, .ref a_minus, .ref a_low, .ref a_high, .ref a_one, .ref a_two, .int m_lowSign, .int m_highSign, .ref a_otherLow, .ref a_otherHigh, .ref a_digit, .ref a_topA, .ref a_underA, .ref a_topB, .ref a_underB, .ref a_quotient, .ref a_otherQuotient])), (a_root, aJ g 76 c_root), (a_part, aJ g 76 uapart)]) (sd_runS (rest := []) (As := [.ref a_part, .long (0 : Int64)]) S (ct_Model_set l D g a_part (H.size) (0 : Int64) c_part F (uapart) hc) kl_Model_157 (by decide) (by decide) hK hP hD [2] rfl (by decide) rfl hl d_Model_divideRoot_5 rfl (Nat.le_of_ble_eq_true rfl) ⟨Nat.zero_le _, Nat.zero_le _⟩) hP hD hS hA [2] [0, 1] rfl rfl (by decide) (by decide) rfl (fun H locs hP hD hS => ?_)
  refine lv_lconst (v := (0 : Int64)) hx hb d_Model_divideRoot_8 (by decide) ?_
  refine lv_lstore_n (lv' := [(3, .long (0 : Int64)), (0, .ref mo), (1, .long vBy)]) hx hb d_Model_divideRoot_9 rfl hl (by decide) rfl (fun ls hl => ?_)
  refine lv_aload_n hx hb d_Model_divideRoot_10 rfl (lv_at hl 1 rfl) ?_
  refine va_get (D := D) (ci := 5) (v := .ref a_root) (C := R_Model) (T := F_Model) (N := 31) hx hb htt i_Model hown hK hP 0 rfl rfl 10 (by decide) (htt _ kf_Model_36) (fun _ h9 => h9) rfl d_Model_divideRoot_11 ?_
  obtain ⟨r, hc, hm⟩ := sd_mb1 hm
  refine sd_ci0 (wr := [(mo, .inr (5, [.ref a_n, .ref a_d, .ref a_r, .ref a_count, .ref a_newN, .ref a_newD, .ref a_newR, .int m_made, .ref a_out, .int m_outCount, .ref a_root, .ref a_rest, .ref a_square, .ref a_part, .ref a_plus, .ref a_minus, .ref a_low, .ref a_high, .ref a_one, .ref a_two, .int m_lowSign, .int m_highSign, .ref a_otherLow, .ref a_otherHigh, .ref a_digit, .ref a_topA, .ref a_underA, .ref a_topB, .ref a_underB, .ref a_quotient, .ref a_otherQuotient])), (a_part, aJ g 76 uapart)]) (w2 := [(mo, .inr (5, [.ref a_n, .ref a_d, .ref a_r, .ref a_count, .ref a_newN, .ref a_newD, .ref a_newR, .int m_made, .ref a_out, .int m_outCount, .ref a_root, .ref a_rest, .ref a_square, .ref a_part, .ref a_plus, .ref a_minus, .ref a_low, .ref a_high, .ref a_one, .ref a_two, .int m_lowSign, .int m_highSign, .ref a_otherLow, .ref a_otherHigh, .ref a_digit, .ref a_topA, .ref a_underA, .ref a_topB, .ref a_underB, .ref a_quotient, .ref a_otherQuotient])), (a_part, aJ g 76 uapart), (a_root, aJ g 76 c_root)]) (sd_runS (rest := []) (As := [.ref a_root]) S (ct_Model_bits l D g a_root (H.size) c_root F (r) hc) kl_Model_161 (by decide) (by decide) hK hP hD [1] rfl (by decide) rfl hl d_Model_divideRoot_14 rfl (Nat.le_of_ble_eq_true rfl) ⟨Nat.zero_le _, Nat.zero_le _⟩) hP hD hS hA [1] [0, 2] rfl rfl (by decide) (by decide) rfl (fun H locs hP hD hS => ?_)
  refine W.eq (g2 := F0 m 17 ls [.int r]) rfl ?_
  refine lv_iconst (v := (1 : Int32)) hx hb d_Model_divideRoot_17 (by decide) ?_
  refine lv_isub hx hb d_Model_divideRoot_18 ?_
  obtain ⟨x5, ex5, hm⟩ := sd_mlet hm
  refine sd_topi ex5 ?_
  refine lv_istore (lv' := [(5, .int x5), (3, .long (0 : Int64)), (0, .ref mo), (1, .long vBy)]) hx hb d_Model_divideRoot_19 hl (by decide) rfl (fun ls hl => ?_)
  have L21 : ∀ (fu : Nat) (x3 : Int64) (x5_1 : Int32) (uapart_1 : Nat → Int64) (ruapart : Nat → Int64), mf_Model_divideRoot_L21 F c_root vBy fu x3 x5_1 uapart_1 = some (ruapart) → ∀ (H : Heap) (locs : List Loc) (ls : Array Slot), va_P D classes [(mo, .inr (5, [.ref a_n, .ref a_d, .ref a_r, .ref a_count, .ref a_newN, .ref a_newD, .ref a_newR, .int m_made, .ref a_out, .int m_outCount, .ref a_root, .ref a_rest, .ref a_square, .ref a_part, .ref a_plus, .ref a_minus, .ref a_low, .ref a_high, .ref a_one, .ref a_two, .int m_lowSign, .int m_highSign, .ref a_otherLow, .ref a_otherHigh, .ref a_digit, .ref a_topA, .ref a_underA, .ref a_topB, .ref a_underB, .ref a_quotient, .ref a_otherQuotient])), (a_part, aJ g 76 uapart_1), (a_root, aJ g 76 c_root)] H → va_D A [(mo, .inr (5, [.ref a_n, .ref a_d, .ref a_r, .ref a_count, .ref a_newN, .ref a_newD, .ref a_newR, .int m_made, .ref a_out, .int m_outCount, .ref a_root, .ref a_rest, .ref a_square, .ref a_part, .ref a_plus, .ref a_minus, .ref a_low, .ref a_high, .ref a_one, .ref a_two, .int m_lowSign, .int m_highSign, .ref a_otherLow, .ref a_otherHigh, .ref a_digit, .ref a_topA, .ref a_underA, .ref a_topB, .ref a_underB, .ref a_quotient, .ref a_otherQuotient])), (a_part, aJ g 76 uapart_1), (a_root, aJ g 76 c_root)] → va_S A s.heap H locs → lv_has ls 7 [(0, .ref mo), (1, .long vBy), (3, .long x3), (5, .int x5_1)] → (∀ (H : Heap) (locs : List Loc) (ls : Array Slot), va_P D classes [(mo, .inr (5, [.ref a_n, .ref a_d, .ref a_r, .ref a_count, .ref a_newN, .ref a_newD, .ref a_newR, .int m_made, .ref a_out, .int m_outCount, .ref a_root, .ref a_rest, .ref a_square, .ref a_part, .ref a_plus, .ref a_minus, .ref a_low, .ref a_high, .ref a_one, .ref a_two, .int m_lowSign, .int m_highSign, .ref a_otherLow, .ref a_otherHigh, .ref a_digit, .ref a_topA, .ref a_underA, .ref a_topB, .ref a_underB, .ref a_quotient, .ref a_otherQuotient])), (a_part, aJ g 76 ruapart), (a_root, aJ g 76 c_root)] H → va_D A [(mo, .inr (5, [.ref a_n, .ref a_d, .ref a_r, .ref a_count, .ref a_newN, .ref a_newD, .ref a_newR, .int m_made, .ref a_out, .int m_outCount, .ref a_root, .ref a_rest, .ref a_square, .ref a_part, .ref a_plus, .ref a_minus, .ref a_low, .ref a_high, .ref a_one, .ref a_two, .int m_lowSign, .int m_highSign, .ref a_otherLow, .ref a_otherHigh, .ref a_digit, .ref a_topA, .ref a_underA, .ref a_topB, .ref a_underB, .ref a_quotient, .ref a_otherQuotient])), (a_part, aJ g 76 ruapart), (a_root, aJ g 76 c_root)] → va_S A s.heap H locs → lv_has ls 7 [] → W p l e rm_Model_divideRoot s m args below meth c H locs 0 0 Q (F0 m 88 ls [])) → W p l e rm_Model_divideRoot s m args below meth c H locs 0 0 Q (F0 m 21 ls []) := by
    intro fu
    induction fu with
    | zero => intro x3 x5_1 uapart_1 ruapart hm; exact absurd (show (none : Option ((Nat → Int64))) = some (ruapart) from hm) (fun h => nomatch h)
    | succ fu ih =>
      intro x3 x5_1 uapart_1 ruapart hm H locs ls hP hD hS hl kx88
      rw [mf_Model_divideRoot_L21] at hm
      refine lv_iload hx hb d_Model_divideRoot_21 (lv_at hl 3 rfl) ?_
      refine lv_if_lt (tgt := 88) hx hb d_Model_divideRoot_23 (by decide) (fun hc => ?_) (fun hc => ?_)
      · have hm := sd_mt hc hm
        cases hm
        exact kx88 H locs ls (hP.sub [0, 1, 2] rfl) (hD.sub [0, 1, 2] (by decide) rfl) hS (lv_sub hl [] rfl)
      · have hm := sd_mf hc hm
        refine sd_ldc2 (v := (2 : Int64)) hx hb hown (htt _ km_Model_126) d_Model_divideRoot_26 ?_
        refine lv_lload_n hx hb d_Model_divideRoot_29 rfl (lv_at hl 2 rfl) ?_
        refine lv_lmul hx hb d_Model_divideRoot_30 ?_
        refine lv_aload_n hx hb d_Model_divideRoot_31 rfl (lv_at hl 0 rfl) ?_
        refine va_get (D := D) (ci := 5) (v := .ref a_root) (C := R_Model) (T := F_Model) (N := 31) hx hb htt i_Model hown hK hP 0 rfl rfl 10 (by decide) (htt _ kf_Model_36) (fun _ h9 => h9) rfl d_Model_divideRoot_32 ?_
        refine lv_iload hx hb d_Model_divideRoot_35 (lv_at hl 3 rfl) ?_
        obtain ⟨r_1, hc, hm⟩ := sd_mb1 hm
        refine sd_ci0 (wr := [(mo, .inr (5, [.ref a_n, .ref a_d, .ref a_r, .ref a_count, .ref a_newN, .ref a_newD, .ref a_newR, .int m_made, .ref a_out, .int m_outCount, .ref a_root, .ref a_rest, .ref a_square, .ref a_part, .ref a_plus, .ref a_minus, .ref a_low, .ref a_high, .ref a_one, .ref a_two, .int m_lowSign, .int m_highSign, .ref a_otherLow, .ref a_otherHigh, .ref a_digit, .ref a_topA, .ref a_underA, .ref a_topB, .ref a_underB, .ref a_quotient, .ref a_otherQuotient])), (a_part, aJ g 76 uapart_1)]) (w2 := [(mo, .inr (5, [.ref a_n, .ref a_d, .ref a_r, .ref a_count, .ref a_newN, .ref a_newD, .ref a_newR, .int m_made, .ref a_out, .int m_outCount, .ref a_root, .ref a_rest, .ref a_square, .ref a_part, .ref a_plus, .ref a_minus, .ref a_low, .ref a_high, .ref a_one, .ref a_two, .int m_lowSign, .int m_highSign, .ref a_otherLow, .ref a_otherHigh, .ref a_digit, .ref a_topA, .ref a_underA, .ref a_topB, .ref a_underB, .ref a_quotient, .ref a_otherQuotient])), (a_part, aJ g 76 uapart_1), (a_root, aJ g 76 c_root)]) (sd_runS (rest := [.long ((2 : Int64) * x3)]) (As := [.ref a_root, .int x5_1]) S (ct_Model_bit l D g a_root (H.size) x5_1 c_root F (r_1) hc) kl_Model_164 (by decide) (by decide) hK hP hD [2] rfl (by decide) rfl hl d_Model_divideRoot_37 rfl (Nat.le_of_ble_eq_true rfl) ⟨Nat.zero_le _, Nat.zero_le _⟩) hP hD hS hA [2] [0, 1] rfl rfl (by decide) (by decide) rfl (fun H locs hP hD hS => ?_)
        refine W.eq (g2 := F0 m 40 ls [.int r_1, .long ((2 : Int64) * x3)]) rfl ?_
        refine lv_i2l hx hb d_Model_divideRoot_40 rfl ?_
        refine lv_ladd hx hb d_Model_divideRoot_41 ?_
        obtain ⟨x3_1, ex3_1, hm⟩ := sd_mlet hm
        refine sd_topj ex3_1 ?_
        refine lv_lstore_n (lv' := [(3, .long x3_1), (0, .ref mo), (1, .long vBy), (5, .int x5_1)]) hx hb d_Model_divideRoot_42 rfl hl (by decide) rfl (fun ls hl => ?_)
        refine lv_lload_n hx hb d_Model_divideRoot_43 rfl (lv_at hl 0 rfl) ?_
        refine lv_lload_n hx hb d_Model_divideRoot_44 rfl (lv_at hl 2 rfl) ?_
        obtain ⟨y, hv, hm⟩ := sd_mb1 hm
        have J54_1 : ∀ (H : Heap) (locs : List Loc) (ls : Array Slot), va_P D classes [(mo, .inr (5, [.ref a_n, .ref a_d, .ref a_r, .ref a_count, .ref a_newN, .ref a_newD, .ref a_newR, .int m_made, .ref a_out, .int m_outCount, .ref a_root, .ref a_rest, .ref a_square, .ref a_part, .ref a_plus, .ref a_minus, .ref a_low, .ref a_high, .ref a_one, .ref a_two, .int m_lowSign, .int m_highSign, .ref a_otherLow, .ref a_otherHigh, .ref a_digit, .ref a_topA, .ref a_underA, .ref a_topB, .ref a_underB, .ref a_quotient, .ref a_otherQuotient])), (a_part, aJ g 76 uapart_1), (a_root, aJ g 76 c_root)] H → va_D A [(mo, .inr (5, [.ref a_n, .ref a_d, .ref a_r, .ref a_count, .ref a_newN, .ref a_newD, .ref a_newR, .int m_made, .ref a_out, .int m_outCount, .ref a_root, .ref a_rest, .ref a_square, .ref a_part, .ref a_plus, .ref a_minus, .ref a_low, .ref a_high, .ref a_one, .ref a_two, .int m_lowSign, .int m_highSign, .ref a_otherLow, .ref a_otherHigh, .ref a_digit, .ref a_topA, .ref a_underA, .ref a_topB, .ref a_underB, .ref a_quotient, .ref a_otherQuotient])), (a_part, aJ g 76 uapart_1), (a_root, aJ g 76 c_root)] → va_S A s.heap H locs → lv_has ls 7 [(0, .ref mo), (1, .long vBy), (3, .long x3_1), (5, .int x5_1)] → W p l e rm_Model_divideRoot s m args below meth c H locs 0 0 Q (F0 m 54 ls [.int y]) := by
          intro H locs ls hP hD hS hl
          refine lv_istore (lv' := [(6, .int y), (0, .ref mo), (1, .long vBy), (3, .long x3_1), (5, .int x5_1)]) hx hb d_Model_divideRoot_54 hl (by decide) rfl (fun ls hl => ?_)
          refine lv_iload hx hb d_Model_divideRoot_56 (lv_at hl 0 rfl) ?_
          obtain ⟨x3_2, hv, hm⟩ := sd_mb1 hm
          have J65_2 : ∀ (H : Heap) (locs : List Loc) (ls : Array Slot), va_P D classes [(mo, .inr (5, [.ref a_n, .ref a_d, .ref a_r, .ref a_count, .ref a_newN, .ref a_newD, .ref a_newR, .int m_made, .ref a_out, .int m_outCount, .ref a_root, .ref a_rest, .ref a_square, .ref a_part, .ref a_plus, .ref a_minus, .ref a_low, .ref a_high, .ref a_one, .ref a_two, .int m_lowSign, .int m_highSign, .ref a_otherLow, .ref a_otherHigh, .ref a_digit, .ref a_topA, .ref a_underA, .ref a_topB, .ref a_underB, .ref a_quotient, .ref a_otherQuotient])), (a_part, aJ g 76 uapart_1), (a_root, aJ g 76 c_root)] H → va_D A [(mo, .inr (5, [.ref a_n, .ref a_d, .ref a_r, .ref a_count, .ref a_newN, .ref a_newD, .ref a_newR, .int m_made, .ref a_out, .int m_outCount, .ref a_root, .ref a_rest, .ref a_square, .ref a_part, .ref a_plus, .ref a_minus, .ref a_low, .ref a_high, .ref a_one, .ref a_two, .int m_lowSign, .int m_highSign, .ref a_otherLow, .ref a_otherHigh, .ref a_digit, .ref a_topA, .ref a_underA, .ref a_topB, .ref a_underB, .ref a_quotient, .ref a_otherQuotient])), (a_part, aJ g 76 uapart_1), (a_root, aJ g 76 c_root)] → va_S A s.heap H locs → lv_has ls 7 [(0, .ref mo), (1, .long vBy), (3, .long x3_2), (5, .int x5_1), (6, .int y)] → W p l e rm_Model_divideRoot s m args below meth c H locs 0 0 Q (F0 m 65 ls []) := by
            intro H locs ls hP hD hS hl
            refine lv_aload_n hx hb d_Model_divideRoot_65 rfl (lv_at hl 0 rfl) ?_
            refine va_get (D := D) (ci := 5) (v := .ref a_part) (C := R_Model) (T := F_Model) (N := 31) hx hb htt i_Model hown hK hP 0 rfl rfl 13 (by decide) (htt _ kf_Model_45) (fun _ h9 => h9) rfl d_Model_divideRoot_66 ?_
            refine lv_iload hx hb d_Model_divideRoot_69 (lv_at hl 4 rfl) ?_
            obtain ⟨y_1, hv, hm⟩ := sd_mb1 hm
            have J79_3 : ∀ (H : Heap) (locs : List Loc) (ls : Array Slot), va_P D classes [(mo, .inr (5, [.ref a_n, .ref a_d, .ref a_r, .ref a_count, .ref a_newN, .ref a_newD, .ref a_newR, .int m_made, .ref a_out, .int m_outCount, .ref a_root, .ref a_rest, .ref a_square, .ref a_part, .ref a_plus, .ref a_minus, .ref a_low, .ref a_high, .ref a_one, .ref a_two, .int m_lowSign, .int m_highSign, .ref a_otherLow, .ref a_otherHigh, .ref a_digit, .ref a_topA, .ref a_underA, .ref a_topB, .ref a_underB, .ref a_quotient, .ref a_otherQuotient])), (a_part, aJ g 76 uapart_1), (a_root, aJ g 76 c_root)] H → va_D A [(mo, .inr (5, [.ref a_n, .ref a_d, .ref a_r, .ref a_count, .ref a_newN, .ref a_newD, .ref a_newR, .int m_made, .ref a_out, .int m_outCount, .ref a_root, .ref a_rest, .ref a_square, .ref a_part, .ref a_plus, .ref a_minus, .ref a_low, .ref a_high, .ref a_one, .ref a_two, .int m_lowSign, .int m_highSign, .ref a_otherLow, .ref a_otherHigh, .ref a_digit, .ref a_topA, .ref a_underA, .ref a_topB, .ref a_underB, .ref a_quotient, .ref a_otherQuotient])), (a_part, aJ g 76 uapart_1), (a_root, aJ g 76 c_root)] → va_S A s.heap H locs → lv_has ls 7 [(0, .ref mo), (1, .long vBy), (3, .long x3_2), (5, .int x5_1)] → W p l e rm_Model_divideRoot s m args below meth c H locs 0 0 Q (F0 m 79 ls [.int y_1, .ref a_part]) := by
              intro H locs ls hP hD hS hl
              obtain ⟨uapart_2, hc, hm⟩ := sd_mb1 hm
              refine sd_cv1 (wr := [(mo, .inr (5, [.ref a_n, .ref a_d, .ref a_r, .ref a_count, .ref a_newN, .ref a_newD, .ref a_newR, .int m_made, .ref a_out, .int m_outCount, .ref a_root, .ref a_rest, .ref a_square, .ref a_part, .ref a_plus, .ref a_minus, .ref a_low, .ref a_high, .ref a_one, .ref a_two, .int m_lowSign, .int m_highSign, .ref a_otherLow, .ref a_otherHigh, .ref a_digit, .ref a_topA, .ref a_underA, .ref a_topB, .ref a_underB, .ref a_quotient, .ref a_otherQuotient])), (a_root, aJ g 76 c_root)]) (w2 := [(mo, .inr (5, [.ref a_n, .ref a_d, .ref a_r, .ref a_count, .ref a_newN, .ref a_newD, .ref a_newR, .int m_made, .ref a_out, .int m_outCount, .ref a_root, .ref a_rest, .ref a_square, .ref a_part, .ref a_plus, .ref a_minus, .ref a_low, .ref a_high, .ref a_one, .ref a_two, .int m_lowSign, .int m_highSign, .ref a_otherLow, .ref a_otherHigh, .ref a_digit, .ref a_topA, .ref a_underA, .ref a_topB, .ref a_underB, .ref a_quotient, .ref a_otherQuotient])), (a_root, aJ g 76 c_root), (a_part, aJ g 76 uapart_2)]) (sd_runS (rest := []) (As := [.ref a_part, .int y_1]) S (ct_Model_twice l D g a_part (H.size) y_1 uapart_1 F (uapart_2) hc) kl_Model_168 (by decide) (by decide) hK hP hD [1] rfl (by decide) rfl hl d_Model_divideRoot_79 rfl (Nat.le_of_ble_eq_true rfl) ⟨Nat.zero_le _, Nat.zero_le _⟩) hP hD hS hA [1] [0, 2] rfl rfl (by decide) (by decide) rfl (fun H locs hP hD hS => ?_)
              obtain ⟨x5_2, ex5_2, hm⟩ := sd_mlet hm
              refine lv_iinc (v := x5_2) (lv' := [(5, .int x5_2), (0, .ref mo), (1, .long vBy), (3, .long x3_2)]) hx hb d_Model_divideRoot_82 hl (k := 3) rfl (by rw [ex5_2]; rfl) (by decide) rfl (fun ls hl => ?_)
              refine lv_goto (tgt := 21) hx hb d_Model_divideRoot_85 (by decide) ?_
              exact ih x3_2 x5_2 uapart_2 ruapart hm H locs ls (hP.sub [0, 2, 1] rfl) (hD.sub [0, 2, 1] (by decide) rfl) hS (lv_sub hl [1, 2, 3, 0] rfl) kx88
            replace hm := hv
            refine lv_if_eq (tgt := 78) hx hb d_Model_divideRoot_71 (by decide) (fun hc => ?_) (fun hc => ?_)
            · have hm := sd_mt hc hm
              refine lv_iconst (v := (0 : Int32)) hx hb d_Model_divideRoot_78 (by decide) ?_
              cases hm
              exact J79_3 H locs ls (hP.sub [0, 1, 2] rfl) (hD.sub [0, 1, 2] (by decide) rfl) hS (lv_sub hl [0, 1, 2, 3] rfl)
            · have hm := sd_mf hc hm
              refine lv_iconst (v := (1 : Int32)) hx hb d_Model_divideRoot_74 (by decide) ?_
              refine lv_goto (tgt := 79) hx hb d_Model_divideRoot_75 (by decide) ?_
              cases hm
              exact J79_3 H locs ls (hP.sub [0, 1, 2] rfl) (hD.sub [0, 1, 2] (by decide) rfl) hS (lv_sub hl [0, 1, 2, 3] rfl)
          replace hm := hv
          refine lv_if_eq (tgt := 65) hx hb d_Model_divideRoot_58 (by decide) (fun hc => ?_) (fun hc => ?_)
          · have hm := sd_mt hc hm
            cases hm
            exact J65_2 H locs ls (hP.sub [0, 1, 2] rfl) (hD.sub [0, 1, 2] (by decide) rfl) hS (lv_sub hl [1, 2, 3, 4, 0] rfl)
          · have hm := sd_mf hc hm
            refine lv_lload_n hx hb d_Model_divideRoot_61 rfl (lv_at hl 3 rfl) ?_
            refine lv_lload_n hx hb d_Model_divideRoot_62 rfl (lv_at hl 2 rfl) ?_
            refine lv_lsub hx hb d_Model_divideRoot_63 ?_
            obtain ⟨x3_3, ex3_3, hm⟩ := sd_mlet hm
            refine sd_topj ex3_3 ?_
            refine lv_lstore_n (lv' := [(3, .long x3_3), (6, .int y), (0, .ref mo), (1, .long vBy), (5, .int x5_1)]) hx hb d_Model_divideRoot_64 rfl hl (by decide) rfl (fun ls hl => ?_)
            cases hm
            exact J65_2 H locs ls (hP.sub [0, 1, 2] rfl) (hD.sub [0, 1, 2] (by decide) rfl) hS (lv_sub hl [2, 3, 0, 4, 1] rfl)
        replace hm := hv
        refine sd_llt (tgt := 53) hx hb d_Model_divideRoot_45 d_Model_divideRoot_46 (by decide) (fun hc => ?_) (fun hc => ?_)
        · have hm := sd_mt hc hm
          refine lv_iconst (v := (0 : Int32)) hx hb d_Model_divideRoot_53 (by decide) ?_
          cases hm
          exact J54_1 H locs ls (hP.sub [0, 1, 2] rfl) (hD.sub [0, 1, 2] (by decide) rfl) hS (lv_sub hl [1, 2, 0, 3] rfl)
        · have hm := sd_mf hc hm
          refine lv_iconst (v := (1 : Int32)) hx hb d_Model_divideRoot_49 (by decide) ?_
          refine lv_goto (tgt := 54) hx hb d_Model_divideRoot_50 (by decide) ?_
          cases hm
          exact J54_1 H locs ls (hP.sub [0, 1, 2] rfl) (hD.sub [0, 1, 2] (by decide) rfl) hS (lv_sub hl [1, 2, 0, 3] rfl)
  obtain ⟨ruapart, hc, hm⟩ := sd_mb1 hm
  refine L21 F (0 : Int64) x5 uapart ruapart hc H locs ls (hP.sub [0, 1, 2] rfl) (hD.sub [0, 1, 2] (by decide) rfl) hS (lv_sub hl [2, 3, 1, 0] rfl) ?_
  intro H locs ls hP hD hS hl
  exact sd_v1ret (u := (ruapart)) hQ hx hb hr hlk hK (hP.sub [0, 2, 1] rfl) (hD.sub [0, 2, 1] (by decide) rfl) hS (Option.some.inj hm).symm d_Model_divideRoot_88
theorem d_Model_measure_0 : decode b_Model_measure 0 = .ok (.aload_n 0, 1) := by decide +kernel
theorem d_Model_measure_1 : decode b_Model_measure 1 = .ok (.getfield 9, 3) := by decide +kernel
theorem d_Model_measure_4 : decode b_Model_measure 4 = .ok (.iload_n 1, 1) := by decide +kernel
theorem d_Model_measure_5 : decode b_Model_measure 5 = .ok (.laload, 1) := by decide +kernel
theorem d_Model_measure_6 : decode b_Model_measure 6 = .ok (.invokestatic 132, 3) := by decide +kernel
theorem d_Model_measure_9 : decode b_Model_measure 9 = .ok (.lstore_n 2, 1) := by decide +kernel
theorem d_Model_measure_10 : decode b_Model_measure 10 = .ok (.aload_n 0, 1) := by decide +kernel
theorem d_Model_measure_11 : decode b_Model_measure 11 = .ok (.getfield 42, 3) := by decide +kernel
theorem d_Model_measure_14 : decode b_Model_measure 14 = .ok (.lload_n 2, 1) := by decide +kernel
theorem d_Model_measure_15 : decode b_Model_measure 15 = .ok (.invokestatic 157, 3) := by decide +kernel
theorem d_Model_measure_18 : decode b_Model_measure 18 = .ok (.aload_n 0, 1) := by decide +kernel
theorem d_Model_measure_19 : decode b_Model_measure 19 = .ok (.getfield 42, 3) := by decide +kernel
theorem d_Model_measure_22 : decode b_Model_measure 22 = .ok (.lload_n 2, 1) := by decide +kernel
theorem d_Model_measure_23 : decode b_Model_measure 23 = .ok (.invokestatic 183, 3) := by decide +kernel
theorem d_Model_measure_26 : decode b_Model_measure 26 = .ok (.aload_n 0, 1) := by decide +kernel
theorem d_Model_measure_27 : decode b_Model_measure 27 = .ok (.getfield 42, 3) := by decide +kernel
theorem d_Model_measure_30 : decode b_Model_measure 30 = .ok (.aload_n 0, 1) := by decide +kernel
theorem d_Model_measure_31 : decode b_Model_measure 31 = .ok (.getfield 16, 3) := by decide +kernel
theorem d_Model_measure_34 : decode b_Model_measure 34 = .ok (.iload_n 1, 1) := by decide +kernel
theorem d_Model_measure_35 : decode b_Model_measure 35 = .ok (.laload, 1) := by decide +kernel
theorem d_Model_measure_36 : decode b_Model_measure 36 = .ok (.invokestatic 183, 3) := by decide +kernel
theorem d_Model_measure_39 : decode b_Model_measure 39 = .ok (.aload_n 0, 1) := by decide +kernel
theorem d_Model_measure_40 : decode b_Model_measure 40 = .ok (.getfield 42, 3) := by decide +kernel
theorem d_Model_measure_43 : decode b_Model_measure 43 = .ok (.sipush 2048, 3) := by decide +kernel
theorem d_Model_measure_46 : decode b_Model_measure 46 = .ok (.invokestatic 185, 3) := by decide +kernel
theorem d_Model_measure_49 : decode b_Model_measure 49 = .ok (.aload_n 0, 1) := by decide +kernel
theorem d_Model_measure_50 : decode b_Model_measure 50 = .ok (.invokevirtual 188, 3) := by decide +kernel
theorem d_Model_measure_53 : decode b_Model_measure 53 = .ok (.aload_n 0, 1) := by decide +kernel
theorem d_Model_measure_54 : decode b_Model_measure 54 = .ok (.aload_n 0, 1) := by decide +kernel
theorem d_Model_measure_55 : decode b_Model_measure 55 = .ok (.getfield 13, 3) := by decide +kernel
theorem d_Model_measure_58 : decode b_Model_measure 58 = .ok (.iload_n 1, 1) := by decide +kernel
theorem d_Model_measure_59 : decode b_Model_measure 59 = .ok (.laload, 1) := by decide +kernel
theorem d_Model_measure_60 : decode b_Model_measure 60 = .ok (.invokevirtual 191, 3) := by decide +kernel
theorem d_Model_measure_63 : decode b_Model_measure 63 = .ok (.return_, 1) := by decide +kernel
def mf_Model_measure (F : Nat) (vT : Int32) (m_made : Int32) (m_outCount : Int32) (m_lowSign : Int32) (m_highSign : Int32) (c_n : Nat → Int64) (c_d : Nat → Int64) (c_r : Nat → Int64) (c_root : Nat → Int64) (c_rest : Nat → Int64) (c_square : Nat → Int64) (c_part : Nat → Int64) : Option ((Nat → Int64) × (Nat → Int64) × (Nat → Int64) × (Nat → Int64)) :=
  (sd_g (sd_ix vT 64) (sd_let ((if 0 < (c_n vT.toNatClampNeg) then (c_n vT.toNatClampNeg) else -(c_n vT.toNatClampNeg))) fun x2 => (sd_b1 (mf_Model_set F x2 c_square) fun uasquare => (sd_b1 (mf_Model_multiplyRow F x2 uasquare) fun uasquare_1 => (sd_g (sd_ix vT 64) (sd_b1 (mf_Model_multiplyRow F (c_r vT.toNatClampNeg) uasquare_1) fun uasquare_2 => (sd_b1 (mf_Model_shift F (2048 : Int32) uasquare_2) fun uasquare_3 => (sd_b3 (mf_Model_takeRoot F m_made m_outCount m_lowSign m_highSign c_root c_rest uasquare_3 c_part) fun uaroot uarest uapart => (sd_g (sd_ix vT 64) (sd_b1 (mf_Model_divideRoot F (c_d vT.toNatClampNeg) m_made m_outCount m_lowSign m_highSign uaroot uapart) fun uapart_1 => (some (uaroot, uarest, uasquare_3, uapart_1))))))))))))
abbrev rm_Model_measure : Room := { frames := 4, cells := 0, slots := 0, locals := 90 }
set_option maxHeartbeats 4000000 in
set_option maxRecDepth 100000 in
theorem ct_Model_measure (l : Launch) (D : va_G) (g : G4) (mo : Nat) (a_n : Nat) (a_d : Nat) (a_r : Nat) (a_count : Nat) (a_newN : Nat) (a_newD : Nat) (a_newR : Nat) (a_out : Nat) (a_root : Nat) (a_rest : Nat) (a_square : Nat) (a_part : Nat) (a_plus : Nat) (a_minus : Nat) (a_low : Nat) (a_high : Nat) (a_one : Nat) (a_two : Nat) (a_otherLow : Nat) (a_otherHigh : Nat) (a_digit : Nat) (a_topA : Nat) (a_underA : Nat) (a_topB : Nat) (a_underB : Nat) (a_quotient : Nat) (a_otherQuotient : Nat) (sz : Nat) (vT : Int32) (m_made : Int32) (m_outCount : Int32) (m_lowSign : Int32) (m_highSign : Int32) (c_n : Nat → Int64) (c_d : Nat → Int64) (c_r : Nat → Int64) (c_root : Nat → Int64) (c_rest : Nat → Int64) (c_square : Nat → Int64) (c_part : Nat → Int64) (F : Nat) (res : (Nat → Int64) × (Nat → Int64) × (Nat → Int64) × (Nat → Int64)) (hm : mf_Model_measure F vT m_made m_outCount m_lowSign m_highSign c_n c_d c_r c_root c_rest c_square c_part = some res) : Met l y_Model_measure (.code y_Model_measure b_Model_measure 4 none :: sd_tb) rm_Model_measure (sd_PW D g [.ref mo, .int vT] sz [(mo, .inr (5, [.ref a_n, .ref a_d, .ref a_r, .ref a_count, .ref a_newN, .ref a_newD, .ref a_newR, .int m_made, .ref a_out, .int m_outCount, .ref a_root, .ref a_rest, .ref a_square, .ref a_part, .ref a_plus, .ref a_minus, .ref a_low, .ref a_high, .ref a_one, .ref a_two, .int m_lowSign, .int m_highSign, .ref a_otherLow, .ref a_otherHigh, .ref a_digit, .ref a_topA, .ref a_underA, .ref a_topB, .ref a_underB, .ref a_quotient, .ref a_otherQuotient])), (a_n, aJ g 64 c_n), (a_d, aJ g 64 c_d), (a_r, aJ g 64 c_r), (a_root, aJ g 76 c_root), (a_rest, aJ g 76 c_rest), (a_square, aJ g 76 c_square), (a_part, aJ g 76 c_part)]) (sd_Qv1 D g res (fun u : (Nat → Int64) × (Nat → Int64) × (Nat → Int64) × (Nat → Int64) => [(mo, .inr (5, [.ref a_n, .ref a_d, .ref a_r, .ref a_count, .ref a_newN, .ref a_newD, .ref a_newR, .int m_made, .ref a_out, .int m_outCount, .ref a_root, .ref a_rest, .ref a_square, .ref a_part, .ref a_plus, .ref a_minus, .ref a_low, .ref a_high, .ref a_one, .ref a_two, .int m_lowSign, .int m_highSign, .ref a_otherLow, .ref a_otherHigh, .ref a_digit, .ref a_topA, .ref a_underA, .ref a_topB, .ref a_underB, .ref a_quotient, .ref a_otherQuotient])), (a_n, aJ g 64 c_n), (a_d, aJ g 64 c_d), (a_r, aJ g 64 c_r), (a_root, aJ g 76 (u.1)), (a_rest, aJ g 76 (u.2.1)), (a_square, aJ g 76 (u.2.2.1)), (a_part, aJ g 76 (u.2.2.2))]) (va_A [(mo, .inr (5, [.ref a_n, .ref a_d, .ref a_r, .ref a_count, .ref a_newN, .ref a_newD, .ref a_newR, .int m_made, .ref a_out, .int m_outCount, .ref a_root, .ref a_rest, .ref a_square, .ref a_part, .ref a_plus, .ref a_minus, .ref a_low, .ref a_high, .ref a_one, .ref a_two, .int m_lowSign, .int m_highSign, .ref a_otherLow, .ref a_otherHigh, .ref a_digit, .ref a_topA, .ref a_underA, .ref a_topB, .ref a_underB, .ref a_quotient, .ref a_otherQuotient])), (a_n, aJ g 64 c_n), (a_d, aJ g 64 c_d), (a_r, aJ g 64 c_r), (a_root, aJ g 76 c_root), (a_rest, aJ g 76 c_rest), (a_square, aJ g 76 c_square), (a_part, aJ g 76 c_part)] sz)) 0 0 (va_A [(mo, .inr (5, [.ref a_n, .ref a_d, .ref a_r, .ref a_count, .ref a_newN, .ref a_newD, .ref a_newR, .int m_made, .ref a_out, .int m_outCount, .ref a_root, .ref a_rest, .ref a_square, .ref a_part, .ref a_plus, .ref a_minus, .ref a_low, .ref a_high, .ref a_one, .ref a_two, .int m_lowSign, .int m_highSign, .ref a_otherLow, .ref a_otherHigh, .ref a_digit, .ref a_topA, .ref a_underA, .ref a_topB, .ref a_underB, .ref a_quotient, .ref a_otherQuotient])), (a_n, aJ g 64 c_n), (a_d, aJ g 64 c_d), (a_r, aJ g 64 c_r), (a_root, aJ g 76 c_root), (a_rest, aJ g 76 c_rest), (a_square, aJ g 76 c_square), (a_part, aJ g 76 c_part)] sz) := by
  refine sd_met (Qf := fun A => sd_Qv1 D g res (fun u : (Nat → Int64) × (Nat → Int64) × (Nat → Int64) × (Nat → Int64) => [(mo, .inr (5, [.ref a_n, .ref a_d, .ref a_r, .ref a_count, .ref a_newN, .ref a_newD, .ref a_newR, .int m_made, .ref a_out, .int m_outCount, .ref a_root, .ref a_rest, .ref a_square, .ref a_part, .ref a_plus, .ref a_minus, .ref a_low, .ref a_high, .ref a_one, .ref a_two, .int m_lowSign, .int m_highSign, .ref a_otherLow, .ref a_otherHigh, .ref a_digit, .ref a_topA, .ref a_underA, .ref a_topB, .ref a_underB, .ref a_quotient, .ref a_otherQuotient])), (a_n, aJ g 64 c_n), (a_d, aJ g 64 c_d), (a_r, aJ g 64 c_r), (a_root, aJ g 76 (u.1)), (a_rest, aJ g 76 (u.2.1)), (a_square, aJ g 76 (u.2.2.1)), (a_part, aJ g 76 (u.2.2.2))]) A) (own := R_Model) (by decide +kernel) rfl (Nat.le_of_ble_eq_true rfl) ?_
  intro p e s m args below meth c S hr hlk hK A hA Q hQ H locs hP hD hS ls hl
  have hx := S.1
  have hb := S.2.1
  have hml := S.2.2.1
  have hown := S.2.2.2.1
  have htt := sd_tt S
  replace hl : lv_has ls 4 [(0, .ref mo), (1, .int vT)] := hl
  unfold mf_Model_measure at hm
  refine lv_aload_n hx hb d_Model_measure_0 rfl (lv_at hl 0 rfl) ?_
  refine va_get (D := D) (ci := 5) (v := .ref a_n) (C := R_Model) (T := F_Model) (N := 31) hx hb htt i_Model hown hK hP 0 rfl rfl 0 (by decide) (htt _ kf_Model_9) (fun _ h9 => h9) rfl d_Model_measure_1 ?_
  refine lv_iload_n hx hb d_Model_measure_4 rfl (lv_at hl 1 rfl) ?_
  obtain ⟨h_1, hm⟩ := sd_mg hm
  refine sd_lald hx hb hK hP 1 rfl h_1 d_Model_measure_5 ?_
  refine sd_abs hx hb hml hown kl_Model_132 htt hl d_Model_measure_6 (Nat.le_of_ble_eq_true rfl) (Nat.le_of_ble_eq_true rfl) ?_
  obtain ⟨x2, ex2, hm⟩ := sd_mlet hm
  refine sd_topj ex2 ?_
  refine lv_lstore_n (lv' := [(2, .long x2), (0, .ref mo), (1, .int vT)]) hx hb d_Model_measure_9 rfl hl (by decide) rfl (fun ls hl => ?_)
  refine lv_aload_n hx hb d_Model_measure_10 rfl (lv_at hl 1 rfl) ?_
  refine va_get (D := D) (ci := 5) (v := .ref a_square) (C := R_Model) (T := F_Model) (N := 31) hx hb htt i_Model hown hK hP 0 rfl rfl 12 (by decide) (htt _ kf_Model_42) (fun _ h9 => h9) rfl d_Model_measure_11 ?_
  refine lv_lload_n hx hb d_Model_measure_14 rfl (lv_at hl 0 rfl) ?_
  obtain ⟨uasquare, hc, hm⟩ := sd_mb1 hm
  refine sd_cv1 (wr := [(mo, .inr (5, [.ref a_n, .ref a_d, .ref a_r, .ref a_count, .ref a_newN, .ref a_newD, .ref a_newR, .int m_made, .ref a_out, .int m_outCount, .ref a_root, .ref a_rest, .ref a_square, .ref a_part, .ref a_plus, .ref a_minus, .ref a_low, .ref a_high, .ref a_one, .ref a_two, .int m_lowSign, .int m_highSign, .ref a_otherLow, .ref a_otherHigh, .ref a_digit, .ref a_topA, .ref a_underA, .ref a_topB, .ref a_underB, .ref a_quotient, .ref a_otherQuotient])), (a_n, aJ g 64 c_n), (a_d, aJ g 64 c_d), (a_r, aJ g 64 c_r), (a_root, aJ g 76 c_root), (a_rest, aJ g 76 c_rest), (a_part, aJ g 76 c_part)]) (w2 := [(mo, .inr (5, [.ref a_n, .ref a_d, .ref a_r, .ref a_count, .ref a_newN, .ref a_newD, .ref a_newR, .int m_made, .ref a_out, .int m_outCount, .ref a_root, .ref a_rest, .ref a_square, .ref a_part, .ref a_plus, .ref a_minus, .ref a_low, .ref a_high, .ref a_one, .ref a_two, .int m_lowSign, .int m_highSign, .ref a_otherLow, .ref a_otherHigh, .ref a_digit, .ref a_topA, .ref a_underA, .ref a_topB, .ref a_underB, .ref a_quotient, .ref a_otherQuotient])), (a_n, aJ g 64 c_n), (a_d, aJ g 64 c_d), (a_r, aJ g 64 c_r), (a_root, aJ g 76 c_root), (a_rest, aJ g 76 c_rest), (a_part, aJ g 76 c_part), (a_square, aJ g 76 uasquare)]) (sd_runS (rest := []) (As := [.ref a_square, .long x2]) S (ct_Model_set l D g a_square (H.size) x2 c_square F (uasquare) hc) kl_Model_157 (by decide) (by decide) hK hP hD [6] rfl (by decide) rfl hl d_Model_measure_15 rfl (Nat.le_of_ble_eq_true rfl) ⟨Nat.zero_le _, Nat.zero_le _⟩) hP hD hS hA [6] [0, 1, 2, 3, 4, 5, 7] rfl rfl (by decide) (by decide) rfl (fun H locs hP hD hS => ?_)
  refine lv_aload_n hx hb d_Model_measure_18 rfl (lv_at hl 1 rfl) ?_
  refine va_get (D := D) (ci := 5) (v := .ref a_square) (C := R_Model) (T := F_Model) (N := 31) hx hb htt i_Model hown hK hP 0 rfl rfl 12 (by decide) (htt _ kf_Model_42) (fun _ h9 => h9) rfl d_Model_measure_19 ?_
  refine lv_lload_n hx hb d_Model_measure_22 rfl (lv_at hl 0 rfl) ?_
  obtain ⟨uasquare_1, hc, hm⟩ := sd_mb1 hm
  refine sd_cv1 (wr := [(mo, .inr (5, [.ref a_n, .ref a_d, .ref a_r, .ref a_count, .ref a_newN, .ref a_newD, .ref a_newR, .int m_made, .ref a_out, .int m_outCount, .ref a_root, .ref a_rest, .ref a_square, .ref a_part, .ref a_plus, .ref a_minus, .ref a_low, .ref a_high, .ref a_one, .ref a_two, .int m_lowSign, .int m_highSign, .ref a_otherLow, .ref a_otherHigh, .ref a_digit, .ref a_topA, .ref a_underA, .ref a_topB, .ref a_underB, .ref a_quotient, .ref a_otherQuotient])), (a_n, aJ g 64 c_n), (a_d, aJ g 64 c_d), (a_r, aJ g 64 c_r), (a_root, aJ g 76 c_root), (a_rest, aJ g 76 c_rest), (a_part, aJ g 76 c_part)]) (w2 := [(mo, .inr (5, [.ref a_n, .ref a_d, .ref a_r, .ref a_count, .ref a_newN, .ref a_newD, .ref a_newR, .int m_made, .ref a_out, .int m_outCount, .ref a_root, .ref a_rest, .ref a_square, .ref a_part, .ref a_plus, .ref a_minus, .ref a_low, .ref a_high, .ref a_one, .ref a_two, .int m_lowSign, .int m_highSign, .ref a_otherLow, .ref a_otherHigh, .ref a_digit, .ref a_topA, .ref a_underA, .ref a_topB, .ref a_underB, .ref a_quotient, .ref a_otherQuotient])), (a_n, aJ g 64 c_n), (a_d, aJ g 64 c_d), (a_r, aJ g 64 c_r), (a_root, aJ g 76 c_root), (a_rest, aJ g 76 c_rest), (a_part, aJ g 76 c_part), (a_square, aJ g 76 uasquare_1)]) (sd_runS (rest := []) (As := [.ref a_square, .long x2]) S (ct_Model_multiplyRow l D g a_square (H.size) x2 uasquare F (uasquare_1) hc) kl_Model_183 (by decide) (by decide) hK hP hD [7] rfl (by decide) rfl hl d_Model_measure_23 rfl (Nat.le_of_ble_eq_true rfl) ⟨Nat.zero_le _, Nat.zero_le _⟩) hP hD hS hA [7] [0, 1, 2, 3, 4, 5, 6] rfl rfl (by decide) (by decide) rfl (fun H locs hP hD hS => ?_)
  refine lv_aload_n hx hb d_Model_measure_26 rfl (lv_at hl 1 rfl) ?_
  refine va_get (D := D) (ci := 5) (v := .ref a_square) (C := R_Model) (T := F_Model) (N := 31) hx hb htt i_Model hown hK hP 0 rfl rfl 12 (by decide) (htt _ kf_Model_42) (fun _ h9 => h9) rfl d_Model_measure_27 ?_
  refine lv_aload_n hx hb d_Model_measure_30 rfl (lv_at hl 1 rfl) ?_
  refine va_get (D := D) (ci := 5) (v := .ref a_r) (C := R_Model) (T := F_Model) (N := 31) hx hb htt i_Model hown hK hP 0 rfl rfl 2 (by decide) (htt _ kf_Model_16) (fun _ h9 => h9) rfl d_Model_measure_31 ?_
  refine lv_iload_n hx hb d_Model_measure_34 rfl (lv_at hl 2 rfl) ?_
  obtain ⟨h_2, hm⟩ := sd_mg hm
  refine sd_lald hx hb hK hP 3 rfl h_2 d_Model_measure_35 ?_
  obtain ⟨uasquare_2, hc, hm⟩ := sd_mb1 hm
  refine sd_cv1 (wr := [(mo, .inr (5, [.ref a_n, .ref a_d, .ref a_r, .ref a_count, .ref a_newN, .ref a_newD, .ref a_newR, .int m_made, .ref a_out, .int m_outCount, .ref a_root, .ref a_rest, .ref a_square, .ref a_part, .ref a_plus, .ref a_minus, .ref a_low, .ref a_high, .ref a_one, .ref a_two, .int m_lowSign, .int m_highSign, .ref a_otherLow, .ref a_otherHigh, .ref a_digit, .ref a_topA, .ref a_underA, .ref a_topB, .ref a_underB, .ref a_quotient, .ref a_otherQuotient])), (a_n, aJ g 64 c_n), (a_d, aJ g 64 c_d), (a_r, aJ g 64 c_r), (a_root, aJ g 76 c_root), (a_rest, aJ g 76 c_rest), (a_part, aJ g 76 c_part)]) (w2 := [(mo, .inr (5, [.ref a_n, .ref a_d, .ref a_r, .ref a_count, .ref a_newN, .ref a_newD, .ref a_newR, .int m_made, .ref a_out, .int m_outCount, .ref a_root, .ref a_rest, .ref a_square, .ref a_part, .ref a_plus, .ref a_minus, .ref a_low, .ref a_high, .ref a_one, .ref a_two, .int m_lowSign, .int m_highSign, .ref a_otherLow, .ref a_otherHigh, .ref a_digit, .ref a_topA, .ref a_underA, .ref a_topB, .ref a_underB, .ref a_quotient, .ref a_otherQuotient])), (a_n, aJ g 64 c_n), (a_d, aJ g 64 c_d), (a_r, aJ g 64 c_r), (a_root, aJ g 76 c_root), (a_rest, aJ g 76 c_rest), (a_part, aJ g 76 c_part), (a_square, aJ g 76 uasquare_2)]) (sd_runS (rest := []) (As := [.ref a_square, .long (c_r vT.toNatClampNeg)]) S (ct_Model_multiplyRow l D g a_square (H.size) (c_r vT.toNatClampNeg) uasquare_1 F (uasquare_2) hc) kl_Model_183 (by decide) (by decide) hK hP hD [7] rfl (by decide) rfl hl d_Model_measure_36 rfl (Nat.le_of_ble_eq_true rfl) ⟨Nat.zero_le _, Nat.zero_le _⟩) hP hD hS hA [7] [0, 1, 2, 3, 4, 5, 6] rfl rfl (by decide) (by decide) rfl (fun H locs hP hD hS => ?_)
  refine lv_aload_n hx hb d_Model_measure_39 rfl (lv_at hl 1 rfl) ?_
  refine va_get (D := D) (ci := 5) (v := .ref a_square) (C := R_Model) (T := F_Model) (N := 31) hx hb htt i_Model hown hK hP 0 rfl rfl 12 (by decide) (htt _ kf_Model_42) (fun _ h9 => h9) rfl d_Model_measure_40 ?_
  refine lv_sipush (v := (2048 : Int32)) hx hb d_Model_measure_43 (by decide) ?_
  obtain ⟨uasquare_3, hc, hm⟩ := sd_mb1 hm
  refine sd_cv1 (wr := [(mo, .inr (5, [.ref a_n, .ref a_d, .ref a_r, .ref a_count, .ref a_newN, .ref a_newD, .ref a_newR, .int m_made, .ref a_out, .int m_outCount, .ref a_root, .ref a_rest, .ref a_square, .ref a_part, .ref a_plus, .ref a_minus, .ref a_low, .ref a_high, .ref a_one, .ref a_two, .int m_lowSign, .int m_highSign, .ref a_otherLow, .ref a_otherHigh, .ref a_digit, .ref a_topA, .ref a_underA, .ref a_topB, .ref a_underB, .ref a_quotient, .ref a_otherQuotient])), (a_n, aJ g 64 c_n), (a_d, aJ g 64 c_d), (a_r, aJ g 64 c_r), (a_root, aJ g 76 c_root), (a_rest, aJ g 76 c_rest), (a_part, aJ g 76 c_part)]) (w2 := [(mo, .inr (5, [.ref a_n, .ref a_d, .ref a_r, .ref a_count, .ref a_newN, .ref a_newD, .ref a_newR, .int m_made, .ref a_out, .int m_outCount, .ref a_root, .ref a_rest, .ref a_square, .ref a_part, .ref a_plus, .ref a_minus, .ref a_low, .ref a_high, .ref a_one, .ref a_two, .int m_lowSign, .int m_highSign, .ref a_otherLow, .ref a_otherHigh, .ref a_digit, .ref a_topA, .ref a_underA, .ref a_topB, .ref a_underB, .ref a_quotient, .ref a_otherQuotient])), (a_n, aJ g 64 c_n), (a_d, aJ g 64 c_d), (a_r, aJ g 64 c_r), (a_root, aJ g 76 c_root), (a_rest, aJ g 76 c_rest), (a_part, aJ g 76 c_part), (a_square, aJ g 76 uasquare_3)]) (sd_runS (rest := []) (As := [.ref a_square, .int (2048 : Int32)]) S (ct_Model_shift l D g a_square (H.size) (2048 : Int32) uasquare_2 F (uasquare_3) hc) kl_Model_185 (by decide) (by decide) hK hP hD [7] rfl (by decide) rfl hl d_Model_measure_46 rfl (Nat.le_of_ble_eq_true rfl) ⟨Nat.zero_le _, Nat.zero_le _⟩) hP hD hS hA [7] [0, 1, 2, 3, 4, 5, 6] rfl rfl (by decide) (by decide) rfl (fun H locs hP hD hS => ?_)
  refine lv_aload_n hx hb d_Model_measure_49 rfl (lv_at hl 1 rfl) ?_
  obtain ⟨uaroot, uarest, uapart, hc, hm⟩ := sd_mb3 hm
  refine sd_cv1 (wr := [(a_n, aJ g 64 c_n), (a_d, aJ g 64 c_d), (a_r, aJ g 64 c_r)]) (w2 := [(a_n, aJ g 64 c_n), (a_d, aJ g 64 c_d), (a_r, aJ g 64 c_r), (mo, .inr (5, [.ref a_n, .ref a_d, .ref a_r, .ref a_count, .ref a_newN, .ref a_newD, .ref a_newR, .int m_made, .ref a_out, .int m_outCount, .ref a_root, .ref a_rest, .ref a_square, .ref a_part, .ref a_plus, .ref a_minus, .ref a_low, .ref a_high, .ref a_one, .ref a_two, .int m_lowSign, .int m_highSign, .ref a_otherLow, .ref a_otherHigh, .ref a_digit, .ref a_topA, .ref a_underA, .ref a_topB, .ref a_underB, .ref a_quotient, .ref a_otherQuotient])), (a_root, aJ g 76 uaroot), (a_rest, aJ g 76 uarest), (a_square, aJ g 76 uasquare_3), (a_part, aJ g 76 uapart)]) (sd_runV (rest := []) (As := []) S (ct_Model_takeRoot l D g mo a_n a_d a_r a_count a_newN a_newD a_newR a_out a_root a_rest a_square a_part a_plus a_minus a_low a_high a_one a_two a_otherLow a_otherHigh a_digit a_topA a_underA a_topB a_underB a_quotient a_otherQuotient (H.size) m_made m_outCount m_lowSign m_highSign c_root c_rest uasquare_3 c_part F (uaroot, uarest, uapart) hc) kl_Model_188 (by decide) (by decide) hK hP hD [0, 4, 5, 7, 6] rfl (by decide) rfl hl d_Model_measure_50 rfl (Nat.le_of_ble_eq_true rfl) ⟨Nat.zero_le _, Nat.zero_le _⟩ 0 rfl rfl) hP hD hS hA [0, 4, 5, 7, 6] [1, 2, 3] rfl rfl (by decide) (by decide) rfl (fun H locs hP hD hS => ?_)
  refine lv_aload_n hx hb d_Model_measure_53 rfl (lv_at hl 1 rfl) ?_
  refine lv_aload_n hx hb d_Model_measure_54 rfl (lv_at hl 1 rfl) ?_
  refine va_get (D := D) (ci := 5) (v := .ref a_d) (C := R_Model) (T := F_Model) (N := 31) hx hb htt i_Model hown hK hP 3 rfl rfl 1 (by decide) (htt _ kf_Model_13) (fun _ h9 => h9) rfl d_Model_measure_55 ?_
  refine lv_iload_n hx hb d_Model_measure_58 rfl (lv_at hl 2 rfl) ?_
  obtain ⟨h_3, hm⟩ := sd_mg hm
  refine sd_lald hx hb hK hP 1 rfl h_3 d_Model_measure_59 ?_
  obtain ⟨uapart_1, hc, hm⟩ := sd_mb1 hm
  refine sd_cv1 (wr := [(a_n, aJ g 64 c_n), (a_d, aJ g 64 c_d), (a_r, aJ g 64 c_r), (a_rest, aJ g 76 uarest), (a_square, aJ g 76 uasquare_3)]) (w2 := [(a_n, aJ g 64 c_n), (a_d, aJ g 64 c_d), (a_r, aJ g 64 c_r), (a_rest, aJ g 76 uarest), (a_square, aJ g 76 uasquare_3), (mo, .inr (5, [.ref a_n, .ref a_d, .ref a_r, .ref a_count, .ref a_newN, .ref a_newD, .ref a_newR, .int m_made, .ref a_out, .int m_outCount, .ref a_root, .ref a_rest, .ref a_square, .ref a_part, .ref a_plus, .ref a_minus, .ref a_low, .ref a_high, .ref a_one, .ref a_two, .int m_lowSign, .int m_highSign, .ref a_otherLow, .ref a_otherHigh, .ref a_digit, .ref a_topA, .ref a_underA, .ref a_topB, .ref a_underB, .ref a_quotient, .ref a_otherQuotient])), (a_root, aJ g 76 uaroot), (a_part, aJ g 76 uapart_1)]) (sd_runV (rest := []) (As := [.long (c_d vT.toNatClampNeg)]) S (ct_Model_divideRoot l D g mo a_n a_d a_r a_count a_newN a_newD a_newR a_out a_root a_rest a_square a_part a_plus a_minus a_low a_high a_one a_two a_otherLow a_otherHigh a_digit a_topA a_underA a_topB a_underB a_quotient a_otherQuotient (H.size) (c_d vT.toNatClampNeg) m_made m_outCount m_lowSign m_highSign uaroot uapart F (uapart_1) hc) kl_Model_191 (by decide) (by decide) hK hP hD [3, 4, 7] rfl (by decide) rfl hl d_Model_measure_60 rfl (Nat.le_of_ble_eq_true rfl) ⟨Nat.zero_le _, Nat.zero_le _⟩ 3 rfl rfl) hP hD hS hA [3, 4, 7] [0, 1, 2, 5, 6] rfl rfl (by decide) (by decide) rfl (fun H locs hP hD hS => ?_)
  exact sd_v1ret (u := (uaroot, uarest, uasquare_3, uapart_1)) hQ hx hb hr hlk hK (hP.sub [5, 0, 1, 2, 6, 3, 4, 7] rfl) (hD.sub [5, 0, 1, 2, 6, 3, 4, 7] (by decide) rfl) hS (Option.some.inj hm).symm d_Model_measure_63
theorem d_Model_betweenRows_0 : decode b_Model_betweenRows 0 = .ok (.aload_n 0, 1) := by decide +kernel
theorem d_Model_betweenRows_1 : decode b_Model_betweenRows 1 = .ok (.aload_n 1, 1) := by decide +kernel
theorem d_Model_betweenRows_2 : decode b_Model_betweenRows 2 = .ok (.invokestatic 176, 3) := by decide +kernel
theorem d_Model_betweenRows_5 : decode b_Model_betweenRows 5 = .ok (.istore_n 3, 1) := by decide +kernel
theorem d_Model_betweenRows_6 : decode b_Model_betweenRows 6 = .ok (.iload_n 3, 1) := by decide +kernel
theorem d_Model_betweenRows_7 : decode b_Model_betweenRows 7 = .ok (.ifCond .ge 7, 3) := by decide +kernel
theorem d_Model_betweenRows_10 : decode b_Model_betweenRows 10 = .ok (.aload_n 1, 1) := by decide +kernel
theorem d_Model_betweenRows_11 : decode b_Model_betweenRows 11 = .ok (.goto 4, 3) := by decide +kernel
theorem d_Model_betweenRows_14 : decode b_Model_betweenRows 14 = .ok (.aload_n 0, 1) := by decide +kernel
theorem d_Model_betweenRows_15 : decode b_Model_betweenRows 15 = .ok (.aload_n 2, 1) := by decide +kernel
theorem d_Model_betweenRows_16 : decode b_Model_betweenRows 16 = .ok (.invokestatic 172, 3) := by decide +kernel
theorem d_Model_betweenRows_19 : decode b_Model_betweenRows 19 = .ok (.aload_n 2, 1) := by decide +kernel
theorem d_Model_betweenRows_20 : decode b_Model_betweenRows 20 = .ok (.iload_n 3, 1) := by decide +kernel
theorem d_Model_betweenRows_21 : decode b_Model_betweenRows 21 = .ok (.ifCond .ge 7, 3) := by decide +kernel
theorem d_Model_betweenRows_24 : decode b_Model_betweenRows 24 = .ok (.aload_n 0, 1) := by decide +kernel
theorem d_Model_betweenRows_25 : decode b_Model_betweenRows 25 = .ok (.goto 4, 3) := by decide +kernel
theorem d_Model_betweenRows_28 : decode b_Model_betweenRows 28 = .ok (.aload_n 1, 1) := by decide +kernel
theorem d_Model_betweenRows_29 : decode b_Model_betweenRows 29 = .ok (.invokestatic 180, 3) := by decide +kernel
theorem d_Model_betweenRows_32 : decode b_Model_betweenRows 32 = .ok (.iload_n 3, 1) := by decide +kernel
theorem d_Model_betweenRows_33 : decode b_Model_betweenRows 33 = .ok (.ireturn, 1) := by decide +kernel
def mf_Model_betweenRows (F : Nat) (cE : Nat → Int64) (cT : Nat → Int64) (cU : Nat → Int64) : Option (Int32 × (Nat → Int64)) :=
  (sd_b1 (mf_Model_compareRows F cE cT) fun r => (if 0 ≤ r then (sd_b1 (mf_Model_copy F cE cU) fun uaU => (if 0 ≤ r then (sd_b1 (mf_Model_subtract F uaU cT) fun uaU_1 => (some (r, uaU_1))) else (sd_b1 (mf_Model_subtract F uaU cE) fun uaU_2 => (some (r, uaU_2))))) else (sd_b1 (mf_Model_copy F cT cU) fun uaU_3 => (if 0 ≤ r then (sd_b1 (mf_Model_subtract F uaU_3 cT) fun uaU_4 => (some (r, uaU_4))) else (sd_b1 (mf_Model_subtract F uaU_3 cE) fun uaU_5 => (some (r, uaU_5)))))))
abbrev rm_Model_betweenRows : Room := { frames := 2, cells := 0, slots := 0, locals := 46 }
set_option maxHeartbeats 4000000 in
set_option maxRecDepth 100000 in
theorem ct_Model_betweenRows (l : Launch) (D : va_G) (g : G4) (aE : Nat) (aT : Nat) (aU : Nat) (sz : Nat) (cE : Nat → Int64) (cT : Nat → Int64) (cU : Nat → Int64) (F : Nat) (res : Int32 × (Nat → Int64)) (hm : mf_Model_betweenRows F cE cT cU = some res) : Met l y_Model_betweenRows (.code y_Model_betweenRows b_Model_betweenRows 4 (some .int) :: sd_tb) rm_Model_betweenRows (sd_PW D g [.ref aE, .ref aT, .ref aU] sz [(aE, aJ g 76 cE), (aT, aJ g 76 cT), (aU, aJ g 76 cU)]) (sd_Qi1 D g res (fun u : (Nat → Int64) => [(aE, aJ g 76 cE), (aT, aJ g 76 cT), (aU, aJ g 76 u)]) (va_A [(aE, aJ g 76 cE), (aT, aJ g 76 cT), (aU, aJ g 76 cU)] sz)) 0 0 (va_A [(aE, aJ g 76 cE), (aT, aJ g 76 cT), (aU, aJ g 76 cU)] sz) := by
  refine sd_met (Qf := fun A => sd_Qi1 D g res (fun u : (Nat → Int64) => [(aE, aJ g 76 cE), (aT, aJ g 76 cT), (aU, aJ g 76 u)]) A) (own := R_Model) (by decide +kernel) rfl (Nat.le_of_ble_eq_true rfl) ?_
  intro p e s m args below meth c S hr hlk hK A hA Q hQ H locs hP hD hS ls hl
  have hx := S.1
  have hb := S.2.1
  have hml := S.2.2.1
  have hown := S.2.2.2.1
  have htt := sd_tt S
  replace hl : lv_has ls 4 [(0, .ref aE), (1, .ref aT), (2, .ref aU)] := hl
  unfold mf_Model_betweenRows at hm
  refine lv_aload_n hx hb d_Model_betweenRows_0 rfl (lv_at hl 0 rfl) ?_
  refine lv_aload_n hx hb d_Model_betweenRows_1 rfl (lv_at hl 1 rfl) ?_
  obtain ⟨r, hc, hm⟩ := sd_mb1 hm
  refine sd_ci0 (wr := [(aU, aJ g 76 cU)]) (w2 := [(aU, aJ g 76 cU), (aE, aJ g 76 cE), (aT, aJ g 76 cT)]) (sd_runS (rest := []) (As := [.ref aE, .ref aT]) S (ct_Model_compareRows l D g aE aT (H.size) cE cT F (r) hc) kl_Model_176 (by decide) (by decide) hK hP hD [0, 1] rfl (by decide) rfl hl d_Model_betweenRows_2 rfl (Nat.le_of_ble_eq_true rfl) ⟨Nat.zero_le _, Nat.zero_le _⟩) hP hD hS hA [0, 1] [2] rfl rfl (by decide) (by decide) rfl (fun H locs hP hD hS => ?_)
  refine W.eq (g2 := F0 m 5 ls [.int r]) rfl ?_
  refine lv_istore_n (lv' := [(3, .int r), (0, .ref aE), (1, .ref aT), (2, .ref aU)]) hx hb d_Model_betweenRows_5 rfl hl (by decide) rfl (fun ls hl => ?_)
  refine lv_iload_n hx hb d_Model_betweenRows_6 rfl (lv_at hl 0 rfl) ?_
  refine lv_if_ge (tgt := 14) hx hb d_Model_betweenRows_7 (by decide) (fun hc => ?_) (fun hc => ?_)
  · have hm := sd_mt hc hm
    refine lv_aload_n hx hb d_Model_betweenRows_14 rfl (lv_at hl 1 rfl) ?_
    refine lv_aload_n hx hb d_Model_betweenRows_15 rfl (lv_at hl 3 rfl) ?_
    obtain ⟨uaU, hc, hm⟩ := sd_mb1 hm
    refine sd_cv1 (wr := [(aT, aJ g 76 cT)]) (w2 := [(aT, aJ g 76 cT), (aE, aJ g 76 cE), (aU, aJ g 76 uaU)]) (sd_runS (rest := []) (As := [.ref aE, .ref aU]) S (ct_Model_copy l D g aE aU (H.size) cE cU F (uaU) hc) kl_Model_172 (by decide) (by decide) hK hP hD [1, 0] rfl (by decide) rfl hl d_Model_betweenRows_16 rfl (Nat.le_of_ble_eq_true rfl) ⟨Nat.zero_le _, Nat.zero_le _⟩) hP hD hS hA [1, 0] [2] rfl rfl (by decide) (by decide) rfl (fun H locs hP hD hS => ?_)
    refine lv_aload_n hx hb d_Model_betweenRows_19 rfl (lv_at hl 3 rfl) ?_
    refine lv_iload_n hx hb d_Model_betweenRows_20 rfl (lv_at hl 0 rfl) ?_
    refine lv_if_ge (tgt := 28) hx hb d_Model_betweenRows_21 (by decide) (fun hc => ?_) (fun hc => ?_)
    · have hm := sd_mt hc hm
      refine lv_aload_n hx hb d_Model_betweenRows_28 rfl (lv_at hl 2 rfl) ?_
      obtain ⟨uaU_1, hc, hm⟩ := sd_mb1 hm
      refine sd_cv1 (wr := [(aE, aJ g 76 cE)]) (w2 := [(aE, aJ g 76 cE), (aU, aJ g 76 uaU_1), (aT, aJ g 76 cT)]) (sd_runS (rest := []) (As := [.ref aU, .ref aT]) S (ct_Model_subtract l D g aU aT (H.size) uaU cT F (uaU_1) hc) kl_Model_180 (by decide) (by decide) hK hP hD [2, 0] rfl (by decide) rfl hl d_Model_betweenRows_29 rfl (Nat.le_of_ble_eq_true rfl) ⟨Nat.zero_le _, Nat.zero_le _⟩) hP hD hS hA [2, 0] [1] rfl rfl (by decide) (by decide) rfl (fun H locs hP hD hS => ?_)
      refine lv_iload_n hx hb d_Model_betweenRows_32 rfl (lv_at hl 0 rfl) ?_
      exact sd_i1ret (u := (uaU_1)) hQ hx hb hr hlk hK (hP.sub [0, 2, 1] rfl) (hD.sub [0, 2, 1] (by decide) rfl) hS (Option.some.inj hm).symm d_Model_betweenRows_33
    · have hm := sd_mf hc hm
      refine lv_aload_n hx hb d_Model_betweenRows_24 rfl (lv_at hl 1 rfl) ?_
      refine lv_goto (tgt := 29) hx hb d_Model_betweenRows_25 (by decide) ?_
      obtain ⟨uaU_2, hc, hm⟩ := sd_mb1 hm
      refine sd_cv1 (wr := [(aT, aJ g 76 cT)]) (w2 := [(aT, aJ g 76 cT), (aU, aJ g 76 uaU_2), (aE, aJ g 76 cE)]) (sd_runS (rest := []) (As := [.ref aU, .ref aE]) S (ct_Model_subtract l D g aU aE (H.size) uaU cE F (uaU_2) hc) kl_Model_180 (by decide) (by decide) hK hP hD [2, 1] rfl (by decide) rfl hl d_Model_betweenRows_29 rfl (Nat.le_of_ble_eq_true rfl) ⟨Nat.zero_le _, Nat.zero_le _⟩) hP hD hS hA [2, 1] [0] rfl rfl (by decide) (by decide) rfl (fun H locs hP hD hS => ?_)
      refine lv_iload_n hx hb d_Model_betweenRows_32 rfl (lv_at hl 0 rfl) ?_
      exact sd_i1ret (u := (uaU_2)) hQ hx hb hr hlk hK (hP.sub [2, 0, 1] rfl) (hD.sub [2, 0, 1] (by decide) rfl) hS (Option.some.inj hm).symm d_Model_betweenRows_33
  · have hm := sd_mf hc hm
    refine lv_aload_n hx hb d_Model_betweenRows_10 rfl (lv_at hl 2 rfl) ?_
    refine lv_goto (tgt := 15) hx hb d_Model_betweenRows_11 (by decide) ?_
    refine lv_aload_n hx hb d_Model_betweenRows_15 rfl (lv_at hl 3 rfl) ?_
    obtain ⟨uaU_3, hc, hm⟩ := sd_mb1 hm
    refine sd_cv1 (wr := [(aE, aJ g 76 cE)]) (w2 := [(aE, aJ g 76 cE), (aT, aJ g 76 cT), (aU, aJ g 76 uaU_3)]) (sd_runS (rest := []) (As := [.ref aT, .ref aU]) S (ct_Model_copy l D g aT aU (H.size) cT cU F (uaU_3) hc) kl_Model_172 (by decide) (by decide) hK hP hD [2, 0] rfl (by decide) rfl hl d_Model_betweenRows_16 rfl (Nat.le_of_ble_eq_true rfl) ⟨Nat.zero_le _, Nat.zero_le _⟩) hP hD hS hA [2, 0] [1] rfl rfl (by decide) (by decide) rfl (fun H locs hP hD hS => ?_)
    refine lv_aload_n hx hb d_Model_betweenRows_19 rfl (lv_at hl 3 rfl) ?_
    refine lv_iload_n hx hb d_Model_betweenRows_20 rfl (lv_at hl 0 rfl) ?_
    refine lv_if_ge (tgt := 28) hx hb d_Model_betweenRows_21 (by decide) (fun hc => ?_) (fun hc => ?_)
    · have hm := sd_mt hc hm
      refine lv_aload_n hx hb d_Model_betweenRows_28 rfl (lv_at hl 2 rfl) ?_
      obtain ⟨uaU_4, hc, hm⟩ := sd_mb1 hm
      refine sd_cv1 (wr := [(aE, aJ g 76 cE)]) (w2 := [(aE, aJ g 76 cE), (aU, aJ g 76 uaU_4), (aT, aJ g 76 cT)]) (sd_runS (rest := []) (As := [.ref aU, .ref aT]) S (ct_Model_subtract l D g aU aT (H.size) uaU_3 cT F (uaU_4) hc) kl_Model_180 (by decide) (by decide) hK hP hD [2, 1] rfl (by decide) rfl hl d_Model_betweenRows_29 rfl (Nat.le_of_ble_eq_true rfl) ⟨Nat.zero_le _, Nat.zero_le _⟩) hP hD hS hA [2, 1] [0] rfl rfl (by decide) (by decide) rfl (fun H locs hP hD hS => ?_)
      refine lv_iload_n hx hb d_Model_betweenRows_32 rfl (lv_at hl 0 rfl) ?_
      exact sd_i1ret (u := (uaU_4)) hQ hx hb hr hlk hK (hP.sub [0, 2, 1] rfl) (hD.sub [0, 2, 1] (by decide) rfl) hS (Option.some.inj hm).symm d_Model_betweenRows_33
    · have hm := sd_mf hc hm
      refine lv_aload_n hx hb d_Model_betweenRows_24 rfl (lv_at hl 1 rfl) ?_
      refine lv_goto (tgt := 29) hx hb d_Model_betweenRows_25 (by decide) ?_
      obtain ⟨uaU_5, hc, hm⟩ := sd_mb1 hm
      refine sd_cv1 (wr := [(aT, aJ g 76 cT)]) (w2 := [(aT, aJ g 76 cT), (aU, aJ g 76 uaU_5), (aE, aJ g 76 cE)]) (sd_runS (rest := []) (As := [.ref aU, .ref aE]) S (ct_Model_subtract l D g aU aE (H.size) uaU_3 cE F (uaU_5) hc) kl_Model_180 (by decide) (by decide) hK hP hD [2, 0] rfl (by decide) rfl hl d_Model_betweenRows_29 rfl (Nat.le_of_ble_eq_true rfl) ⟨Nat.zero_le _, Nat.zero_le _⟩) hP hD hS hA [2, 0] [1] rfl rfl (by decide) (by decide) rfl (fun H locs hP hD hS => ?_)
      refine lv_iload_n hx hb d_Model_betweenRows_32 rfl (lv_at hl 0 rfl) ?_
      exact sd_i1ret (u := (uaU_5)) hQ hx hb hr hlk hK (hP.sub [2, 0, 1] rfl) (hD.sub [2, 0, 1] (by decide) rfl) hS (Option.some.inj hm).symm d_Model_betweenRows_33
theorem d_Model_ends_0 : decode b_Model_ends 0 = .ok (.aload_n 0, 1) := by decide +kernel
theorem d_Model_ends_1 : decode b_Model_ends 1 = .ok (.getfield 48, 3) := by decide +kernel
theorem d_Model_ends_4 : decode b_Model_ends 4 = .ok (.lconst 0, 1) := by decide +kernel
theorem d_Model_ends_5 : decode b_Model_ends 5 = .ok (.invokestatic 157, 3) := by decide +kernel
theorem d_Model_ends_8 : decode b_Model_ends 8 = .ok (.aload_n 0, 1) := by decide +kernel
theorem d_Model_ends_9 : decode b_Model_ends 9 = .ok (.getfield 51, 3) := by decide +kernel
theorem d_Model_ends_12 : decode b_Model_ends 12 = .ok (.lconst 0, 1) := by decide +kernel
theorem d_Model_ends_13 : decode b_Model_ends 13 = .ok (.invokestatic 157, 3) := by decide +kernel
theorem d_Model_ends_16 : decode b_Model_ends 16 = .ok (.iconst 0, 1) := by decide +kernel
theorem d_Model_ends_17 : decode b_Model_ends 17 = .ok (.istore_n 2, 1) := by decide +kernel
theorem d_Model_ends_18 : decode b_Model_ends 18 = .ok (.iconst 0, 1) := by decide +kernel
theorem d_Model_ends_19 : decode b_Model_ends 19 = .ok (.istore_n 3, 1) := by decide +kernel
theorem d_Model_ends_20 : decode b_Model_ends 20 = .ok (.bipush 8, 2) := by decide +kernel
theorem d_Model_ends_22 : decode b_Model_ends 22 = .ok (.iload_n 1, 1) := by decide +kernel
theorem d_Model_ends_23 : decode b_Model_ends 23 = .ok (.imul, 1) := by decide +kernel
theorem d_Model_ends_24 : decode b_Model_ends 24 = .ok (.istore 4, 2) := by decide +kernel
theorem d_Model_ends_26 : decode b_Model_ends 26 = .ok (.iload 4, 2) := by decide +kernel
theorem d_Model_ends_28 : decode b_Model_ends 28 = .ok (.bipush 8, 2) := by decide +kernel
theorem d_Model_ends_30 : decode b_Model_ends 30 = .ok (.iload_n 1, 1) := by decide +kernel
theorem d_Model_ends_31 : decode b_Model_ends 31 = .ok (.imul, 1) := by decide +kernel
theorem d_Model_ends_32 : decode b_Model_ends 32 = .ok (.aload_n 0, 1) := by decide +kernel
theorem d_Model_ends_33 : decode b_Model_ends 33 = .ok (.getfield 19, 3) := by decide +kernel
theorem d_Model_ends_36 : decode b_Model_ends 36 = .ok (.iload_n 1, 1) := by decide +kernel
theorem d_Model_ends_37 : decode b_Model_ends 37 = .ok (.iaload, 1) := by decide +kernel
theorem d_Model_ends_38 : decode b_Model_ends 38 = .ok (.iadd, 1) := by decide +kernel
theorem d_Model_ends_39 : decode b_Model_ends 39 = .ok (.if_icmp .ge 66, 3) := by decide +kernel
theorem d_Model_ends_42 : decode b_Model_ends 42 = .ok (.aload_n 0, 1) := by decide +kernel
theorem d_Model_ends_43 : decode b_Model_ends 43 = .ok (.iload 4, 2) := by decide +kernel
theorem d_Model_ends_45 : decode b_Model_ends 45 = .ok (.invokevirtual 195, 3) := by decide +kernel
theorem d_Model_ends_48 : decode b_Model_ends 48 = .ok (.aload_n 0, 1) := by decide +kernel
theorem d_Model_ends_49 : decode b_Model_ends 49 = .ok (.getfield 9, 3) := by decide +kernel
theorem d_Model_ends_52 : decode b_Model_ends 52 = .ok (.iload 4, 2) := by decide +kernel
theorem d_Model_ends_54 : decode b_Model_ends 54 = .ok (.laload, 1) := by decide +kernel
theorem d_Model_ends_55 : decode b_Model_ends 55 = .ok (.lconst 0, 1) := by decide +kernel
theorem d_Model_ends_56 : decode b_Model_ends 56 = .ok (.lcmp, 1) := by decide +kernel
theorem d_Model_ends_57 : decode b_Model_ends 57 = .ok (.ifCond .ge 10, 3) := by decide +kernel
theorem d_Model_ends_60 : decode b_Model_ends 60 = .ok (.aload_n 0, 1) := by decide +kernel
theorem d_Model_ends_61 : decode b_Model_ends 61 = .ok (.getfield 51, 3) := by decide +kernel
theorem d_Model_ends_64 : decode b_Model_ends 64 = .ok (.goto 7, 3) := by decide +kernel
theorem d_Model_ends_67 : decode b_Model_ends 67 = .ok (.aload_n 0, 1) := by decide +kernel
theorem d_Model_ends_68 : decode b_Model_ends 68 = .ok (.getfield 48, 3) := by decide +kernel
theorem d_Model_ends_71 : decode b_Model_ends 71 = .ok (.aload_n 0, 1) := by decide +kernel
theorem d_Model_ends_72 : decode b_Model_ends 72 = .ok (.getfield 45, 3) := by decide +kernel
theorem d_Model_ends_75 : decode b_Model_ends 75 = .ok (.invokestatic 199, 3) := by decide +kernel
theorem d_Model_ends_78 : decode b_Model_ends 78 = .ok (.aload_n 0, 1) := by decide +kernel
theorem d_Model_ends_79 : decode b_Model_ends 79 = .ok (.getfield 9, 3) := by decide +kernel
theorem d_Model_ends_82 : decode b_Model_ends 82 = .ok (.iload 4, 2) := by decide +kernel
theorem d_Model_ends_84 : decode b_Model_ends 84 = .ok (.laload, 1) := by decide +kernel
theorem d_Model_ends_85 : decode b_Model_ends 85 = .ok (.lconst 0, 1) := by decide +kernel
theorem d_Model_ends_86 : decode b_Model_ends 86 = .ok (.lcmp, 1) := by decide +kernel
theorem d_Model_ends_87 : decode b_Model_ends 87 = .ok (.ifCond .ge 9, 3) := by decide +kernel
theorem d_Model_ends_90 : decode b_Model_ends 90 = .ok (.iinc 3 1, 3) := by decide +kernel
theorem d_Model_ends_93 : decode b_Model_ends 93 = .ok (.goto 6, 3) := by decide +kernel
theorem d_Model_ends_96 : decode b_Model_ends 96 = .ok (.iinc 2 1, 3) := by decide +kernel
theorem d_Model_ends_99 : decode b_Model_ends 99 = .ok (.iinc 4 1, 3) := by decide +kernel
theorem d_Model_ends_102 : decode b_Model_ends 102 = .ok (.goto (-76), 3) := by decide +kernel
theorem d_Model_ends_105 : decode b_Model_ends 105 = .ok (.aload_n 0, 1) := by decide +kernel
theorem d_Model_ends_106 : decode b_Model_ends 106 = .ok (.getfield 51, 3) := by decide +kernel
theorem d_Model_ends_109 : decode b_Model_ends 109 = .ok (.iload_n 3, 1) := by decide +kernel
theorem d_Model_ends_110 : decode b_Model_ends 110 = .ok (.i2l, 1) := by decide +kernel
theorem d_Model_ends_111 : decode b_Model_ends 111 = .ok (.invokestatic 201, 3) := by decide +kernel
theorem d_Model_ends_114 : decode b_Model_ends 114 = .ok (.aload_n 0, 1) := by decide +kernel
theorem d_Model_ends_115 : decode b_Model_ends 115 = .ok (.aload_n 0, 1) := by decide +kernel
theorem d_Model_ends_116 : decode b_Model_ends 116 = .ok (.getfield 48, 3) := by decide +kernel
theorem d_Model_ends_119 : decode b_Model_ends 119 = .ok (.aload_n 0, 1) := by decide +kernel
theorem d_Model_ends_120 : decode b_Model_ends 120 = .ok (.getfield 51, 3) := by decide +kernel
theorem d_Model_ends_123 : decode b_Model_ends 123 = .ok (.aload_n 0, 1) := by decide +kernel
theorem d_Model_ends_124 : decode b_Model_ends 124 = .ok (.getfield 54, 3) := by decide +kernel
theorem d_Model_ends_127 : decode b_Model_ends 127 = .ok (.invokestatic 204, 3) := by decide +kernel
theorem d_Model_ends_130 : decode b_Model_ends 130 = .ok (.putfield 208, 3) := by decide +kernel
theorem d_Model_ends_133 : decode b_Model_ends 133 = .ok (.aload_n 0, 1) := by decide +kernel
theorem d_Model_ends_134 : decode b_Model_ends 134 = .ok (.getfield 60, 3) := by decide +kernel
theorem d_Model_ends_137 : decode b_Model_ends 137 = .ok (.iload_n 3, 1) := by decide +kernel
theorem d_Model_ends_138 : decode b_Model_ends 138 = .ok (.i2l, 1) := by decide +kernel
theorem d_Model_ends_139 : decode b_Model_ends 139 = .ok (.invokestatic 157, 3) := by decide +kernel
theorem d_Model_ends_142 : decode b_Model_ends 142 = .ok (.aload_n 0, 1) := by decide +kernel
theorem d_Model_ends_143 : decode b_Model_ends 143 = .ok (.getfield 51, 3) := by decide +kernel
theorem d_Model_ends_146 : decode b_Model_ends 146 = .ok (.aload_n 0, 1) := by decide +kernel
theorem d_Model_ends_147 : decode b_Model_ends 147 = .ok (.getfield 60, 3) := by decide +kernel
theorem d_Model_ends_150 : decode b_Model_ends 150 = .ok (.invokestatic 180, 3) := by decide +kernel
theorem d_Model_ends_153 : decode b_Model_ends 153 = .ok (.aload_n 0, 1) := by decide +kernel
theorem d_Model_ends_154 : decode b_Model_ends 154 = .ok (.getfield 48, 3) := by decide +kernel
theorem d_Model_ends_157 : decode b_Model_ends 157 = .ok (.iload_n 2, 1) := by decide +kernel
theorem d_Model_ends_158 : decode b_Model_ends 158 = .ok (.i2l, 1) := by decide +kernel
theorem d_Model_ends_159 : decode b_Model_ends 159 = .ok (.invokestatic 201, 3) := by decide +kernel
theorem d_Model_ends_162 : decode b_Model_ends 162 = .ok (.aload_n 0, 1) := by decide +kernel
theorem d_Model_ends_163 : decode b_Model_ends 163 = .ok (.aload_n 0, 1) := by decide +kernel
theorem d_Model_ends_164 : decode b_Model_ends 164 = .ok (.getfield 48, 3) := by decide +kernel
theorem d_Model_ends_167 : decode b_Model_ends 167 = .ok (.aload_n 0, 1) := by decide +kernel
theorem d_Model_ends_168 : decode b_Model_ends 168 = .ok (.getfield 51, 3) := by decide +kernel
theorem d_Model_ends_171 : decode b_Model_ends 171 = .ok (.aload_n 0, 1) := by decide +kernel
theorem d_Model_ends_172 : decode b_Model_ends 172 = .ok (.getfield 57, 3) := by decide +kernel
theorem d_Model_ends_175 : decode b_Model_ends 175 = .ok (.invokestatic 204, 3) := by decide +kernel
theorem d_Model_ends_178 : decode b_Model_ends 178 = .ok (.putfield 211, 3) := by decide +kernel
theorem d_Model_ends_181 : decode b_Model_ends 181 = .ok (.return_, 1) := by decide +kernel
def mf_Model_ends_L26 (vI : Int32) (c_count : Nat → Int32) (F : Nat) (m_made : Int32) (m_outCount : Int32) (m_lowSign : Int32) (m_highSign : Int32) (c_n : Nat → Int64) (c_d : Nat → Int64) (c_r : Nat → Int64) : Nat → Int32 → Int32 → Int32 → (Nat → Int64) → (Nat → Int64) → (Nat → Int64) → (Nat → Int64) → (Nat → Int64) → (Nat → Int64) → Option (Int32 × Int32 × (Nat → Int64) × (Nat → Int64) × (Nat → Int64) × (Nat → Int64) × (Nat → Int64) × (Nat → Int64))
  | 0, _, _, _, _, _, _, _, _, _ => none
  | fu + 1, x2, x3, x4_1, uaroot, uarest, uasquare, uapart, uaplus_1, uaminus_1 => (sd_g (sd_ix vI 8) (if (((8 : Int32) * vI) + (c_count vI.toNatClampNeg)) ≤ x4_1 then (some (x2, x3, uaroot, uarest, uasquare, uapart, uaplus_1, uaminus_1)) else (sd_b4 (mf_Model_measure F x4_1 m_made m_outCount m_lowSign m_highSign c_n c_d c_r uaroot uarest uasquare uapart) fun uaroot_1 uarest_1 uasquare_1 uapart_1 => (sd_g (sd_ix x4_1 64) (if (0 : Int64) ≤ (c_n x4_1.toNatClampNeg) then (sd_b1 (mf_Model_addRows F uaplus_1 uapart_1) fun uaplus_2 => (sd_g (sd_ix x4_1 64) (sd_b2 (if (0 : Int64) ≤ (c_n x4_1.toNatClampNeg) then (sd_let (x2 + (1 : Int32)) fun x2_2 => (some (x2_2, x3))) else (sd_let (x3 + (1 : Int32)) fun x3_2 => (some (x2, x3_2)))) fun x2_1 x3_1 => (sd_let (x4_1 + (1 : Int32)) fun x4_2 => ((mf_Model_ends_L26 vI c_count F m_made m_outCount m_lowSign m_highSign c_n c_d c_r fu) x2_1 x3_1 x4_2 uaroot_1 uarest_1 uasquare_1 uapart_1 uaplus_2 uaminus_1))))) else (sd_b1 (mf_Model_addRows F uaminus_1 uapart_1) fun uaminus_2 => (sd_g (sd_ix x4_1 64) (sd_b2 (if (0 : Int64) ≤ (c_n x4_1.toNatClampNeg) then (sd_let (x2 + (1 : Int32)) fun x2_4 => (some (x2_4, x3))) else (sd_let (x3 + (1 : Int32)) fun x3_4 => (some (x2, x3_4)))) fun x2_3 x3_3 => (sd_let (x4_1 + (1 : Int32)) fun x4_3 => ((mf_Model_ends_L26 vI c_count F m_made m_outCount m_lowSign m_highSign c_n c_d c_r fu) x2_3 x3_3 x4_3 uaroot_1 uarest_1 uasquare_1 uapart_1 uaplus_1 uaminus_2))))))))))
def mf_Model_ends (F : Nat) (vI : Int32) (m_made : Int32) (m_outCount : Int32) (m_lowSign : Int32) (m_highSign : Int32) (c_n : Nat → Int64) (c_d : Nat → Int64) (c_r : Nat → Int64) (c_count : Nat → Int32) (c_root : Nat → Int64) (c_rest : Nat → Int64) (c_square : Nat → Int64) (c_part : Nat → Int64) (c_plus : Nat → Int64) (c_minus : Nat → Int64) (c_low : Nat → Int64) (c_high : Nat → Int64) (c_one : Nat → Int64) : Option (Int32 × Int32 × (Nat → Int64) × (Nat → Int64) × (Nat → Int64) × (Nat → Int64) × (Nat → Int64) × (Nat → Int64) × (Nat → Int64) × (Nat → Int64) × (Nat → Int64)) :=
  (sd_b1 (mf_Model_set F (0 : Int64) c_plus) fun uaplus => (sd_b1 (mf_Model_set F (0 : Int64) c_minus) fun uaminus => (sd_let (((8 : Int32) * vI)) fun x4 => (sd_b8 (mf_Model_ends_L26 vI c_count F m_made m_outCount m_lowSign m_highSign c_n c_d c_r F (0 : Int32) (0 : Int32) x4 c_root c_rest c_square c_part uaplus uaminus) fun rx2 rx3 ruaroot ruarest ruasquare ruapart ruaplus ruaminus => (sd_b1 (mf_Model_addSmall F (rx3.toInt64) ruaminus) fun uaminus_3 => (sd_b2 (mf_Model_betweenRows F ruaplus uaminus_3 c_low) fun r ualow => (sd_b1 (mf_Model_set F (rx3.toInt64) c_one) fun uaone => (sd_b1 (mf_Model_subtract F uaminus_3 uaone) fun uaminus_4 => (sd_b1 (mf_Model_addSmall F (rx2.toInt64) ruaplus) fun uaplus_3 => (sd_b2 (mf_Model_betweenRows F uaplus_3 uaminus_4 c_high) fun r_1 uahigh => (some (r, r_1, ruaroot, ruarest, ruasquare, ruapart, uaplus_3, uaminus_4, ualow, uahigh, uaone))))))))))))
abbrev rm_Model_ends : Room := { frames := 5, cells := 0, slots := 0, locals := 113 }
set_option maxHeartbeats 4000000 in
set_option maxRecDepth 100000 in
theorem ct_Model_ends (l : Launch) (D : va_G) (g : G4) (mo : Nat) (a_n : Nat) (a_d : Nat) (a_r : Nat) (a_count : Nat) (a_newN : Nat) (a_newD : Nat) (a_newR : Nat) (a_out : Nat) (a_root : Nat) (a_rest : Nat) (a_square : Nat) (a_part : Nat) (a_plus : Nat) (a_minus : Nat) (a_low : Nat) (a_high : Nat) (a_one : Nat) (a_two : Nat) (a_otherLow : Nat) (a_otherHigh : Nat) (a_digit : Nat) (a_topA : Nat) (a_underA : Nat) (a_topB : Nat) (a_underB : Nat) (a_quotient : Nat) (a_otherQuotient : Nat) (sz : Nat) (vI : Int32) (m_made : Int32) (m_outCount : Int32) (m_lowSign : Int32) (m_highSign : Int32) (c_n : Nat → Int64) (c_d : Nat → Int64) (c_r : Nat → Int64) (c_count : Nat → Int32) (c_root : Nat → Int64) (c_rest : Nat → Int64) (c_square : Nat → Int64) (c_part : Nat → Int64) (c_plus : Nat → Int64) (c_minus : Nat → Int64) (c_low : Nat → Int64) (c_high : Nat → Int64) (c_one : Nat → Int64) (F : Nat) (res : Int32 × Int32 × (Nat → Int64) × (Nat → Int64) × (Nat → Int64) × (Nat → Int64) × (Nat → Int64) × (Nat → Int64) × (Nat → Int64) × (Nat → Int64) × (Nat → Int64)) (hm : mf_Model_ends F vI m_made m_outCount m_lowSign m_highSign c_n c_d c_r c_count c_root c_rest c_square c_part c_plus c_minus c_low c_high c_one = some res) : Met l y_Model_ends (.code y_Model_ends b_Model_ends 5 none :: sd_tb) rm_Model_ends (sd_PW D g [.ref mo, .int vI] sz [(mo, .inr (5, [.ref a_n, .ref a_d, .ref a_r, .ref a_count, .ref a_newN, .ref a_newD, .ref a_newR, .int m_made, .ref a_out, .int m_outCount, .ref a_root, .ref a_rest, .ref a_square, .ref a_part, .ref a_plus, .ref a_minus, .ref a_low, .ref a_high, .ref a_one, .ref a_two, .int m_lowSign, .int m_highSign, .ref a_otherLow, .ref a_otherHigh, .ref a_digit, .ref a_topA, .ref a_underA, .ref a_topB, .ref a_underB, .ref a_quotient, .ref a_otherQuotient])), (a_n, aJ g 64 c_n), (a_d, aJ g 64 c_d), (a_r, aJ g 64 c_r), (a_count, aI g 8 c_count), (a_root, aJ g 76 c_root), (a_rest, aJ g 76 c_rest), (a_square, aJ g 76 c_square), (a_part, aJ g 76 c_part), (a_plus, aJ g 76 c_plus), (a_minus, aJ g 76 c_minus), (a_low, aJ g 76 c_low), (a_high, aJ g 76 c_high), (a_one, aJ g 76 c_one)]) (sd_Qv1 D g res (fun u : Int32 × Int32 × (Nat → Int64) × (Nat → Int64) × (Nat → Int64) × (Nat → Int64) × (Nat → Int64) × (Nat → Int64) × (Nat → Int64) × (Nat → Int64) × (Nat → Int64) => [(mo, .inr (5, [.ref a_n, .ref a_d, .ref a_r, .ref a_count, .ref a_newN, .ref a_newD, .ref a_newR, .int m_made, .ref a_out, .int m_outCount, .ref a_root, .ref a_rest, .ref a_square, .ref a_part, .ref a_plus, .ref a_minus, .ref a_low, .ref a_high, .ref a_one, .ref a_two, .int (u.1), .int (u.2.1), .ref a_otherLow, .ref a_otherHigh, .ref a_digit, .ref a_topA, .ref a_underA, .ref a_topB, .ref a_underB, .ref a_quotient, .ref a_otherQuotient])), (a_n, aJ g 64 c_n), (a_d, aJ g 64 c_d), (a_r, aJ g 64 c_r), (a_count, aI g 8 c_count), (a_root, aJ g 76 (u.2.2.1)), (a_rest, aJ g 76 (u.2.2.2.1)), (a_square, aJ g 76 (u.2.2.2.2.1)), (a_part, aJ g 76 (u.2.2.2.2.2.1)), (a_plus, aJ g 76 (u.2.2.2.2.2.2.1)), (a_minus, aJ g 76 (u.2.2.2.2.2.2.2.1)), (a_low, aJ g 76 (u.2.2.2.2.2.2.2.2.1)), (a_high, aJ g 76 (u.2.2.2.2.2.2.2.2.2.1)), (a_one, aJ g 76 (u.2.2.2.2.2.2.2.2.2.2))]) (va_A [(mo, .inr (5, [.ref a_n, .ref a_d, .ref a_r, .ref a_count, .ref a_newN, .ref a_newD, .ref a_newR, .int m_made, .ref a_out, .int m_outCount, .ref a_root, .ref a_rest, .ref a_square, .ref a_part, .ref a_plus, .ref a_minus, .ref a_low, .ref a_high, .ref a_one, .ref a_two, .int m_lowSign, .int m_highSign, .ref a_otherLow, .ref a_otherHigh, .ref a_digit, .ref a_topA, .ref a_underA, .ref a_topB, .ref a_underB, .ref a_quotient, .ref a_otherQuotient])), (a_n, aJ g 64 c_n), (a_d, aJ g 64 c_d), (a_r, aJ g 64 c_r), (a_count, aI g 8 c_count), (a_root, aJ g 76 c_root), (a_rest, aJ g 76 c_rest), (a_square, aJ g 76 c_square), (a_part, aJ g 76 c_part), (a_plus, aJ g 76 c_plus), (a_minus, aJ g 76 c_minus), (a_low, aJ g 76 c_low), (a_high, aJ g 76 c_high), (a_one, aJ g 76 c_one)] sz)) 0 0 (va_A [(mo, .inr (5, [.ref a_n, .ref a_d, .ref a_r, .ref a_count, .ref a_newN, .ref a_newD, .ref a_newR, .int m_made, .ref a_out, .int m_outCount, .ref a_root, .ref a_rest, .ref a_square, .ref a_part, .ref a_plus, .ref a_minus, .ref a_low, .ref a_high, .ref a_one, .ref a_two, .int m_lowSign, .int m_highSign, .ref a_otherLow, .ref a_otherHigh, .ref a_digit, .ref a_topA, .ref a_underA, .ref a_topB, .ref a_underB, .ref a_quotient, .ref a_otherQuotient])), (a_n, aJ g 64 c_n), (a_d, aJ g 64 c_d), (a_r, aJ g 64 c_r), (a_count, aI g 8 c_count), (a_root, aJ g 76 c_root), (a_rest, aJ g 76 c_rest), (a_square, aJ g 76 c_square), (a_part, aJ g 76 c_part), (a_plus, aJ g 76 c_plus), (a_minus, aJ g 76 c_minus), (a_low, aJ g 76 c_low), (a_high, aJ g 76 c_high), (a_one, aJ g 76 c_one)] sz) := by
  refine sd_met (Qf := fun A => sd_Qv1 D g res (fun u : Int32 × Int32 × (Nat → Int64) × (Nat → Int64) × (Nat → Int64) × (Nat → Int64) × (Nat → Int64) × (Nat → Int64) × (Nat → Int64) × (Nat → Int64) × (Nat → Int64) => [(mo, .inr (5, [.ref a_n, .ref a_d, .ref a_r, .ref a_count, .ref a_newN, .ref a_newD, .ref a_newR, .int m_made, .ref a_out, .int m_outCount, .ref a_root, .ref a_rest, .ref a_square, .ref a_part, .ref a_plus, .ref a_minus, .ref a_low, .ref a_high, .ref a_one, .ref a_two, .int (u.1), .int (u.2.1), .ref a_otherLow, .ref a_otherHigh, .ref a_digit, .ref a_topA, .ref a_underA, .ref a_topB, .ref a_underB, .ref a_quotient, .ref a_otherQuotient])), (a_n, aJ g 64 c_n), (a_d, aJ g 64 c_d), (a_r, aJ g 64 c_r), (a_count, aI g 8 c_count), (a_root, aJ g 76 (u.2.2.1)), (a_rest, aJ g 76 (u.2.2.2.1)), (a_square, aJ g 76 (u.2.2.2.2.1)), (a_part, aJ g 76 (u.2.2.2.2.2.1)), (a_plus, aJ g 76 (u.2.2.2.2.2.2.1)), (a_minus, aJ g 76 (u.2.2.2.2.2.2.2.1)), (a_low, aJ g 76 (u.2.2.2.2.2.2.2.2.1)), (a_high, aJ g 76 (u.2.2.2.2.2.2.2.2.2.1)), (a_one, aJ g 76 (u.2.2.2.2.2.2.2.2.2.2))]) A) (own := R_Model) (by decide +kernel) rfl (Nat.le_of_ble_eq_true rfl) ?_
  intro p e s m args below meth c S hr hlk hK A hA Q hQ H locs hP hD hS ls hl
  have hx := S.1
  have hb := S.2.1
  have hml := S.2.2.1
  have hown := S.2.2.2.1
  have htt := sd_tt S
  replace hl : lv_has ls 5 [(0, .ref mo), (1, .int vI)] := hl
  unfold mf_Model_ends at hm
  refine lv_aload_n hx hb d_Model_ends_0 rfl (lv_at hl 0 rfl) ?_
  refine va_get (D := D) (ci := 5) (v := .ref a_plus) (C := R_Model) (T := F_Model) (N := 31) hx hb htt i_Model hown hK hP 0 rfl rfl 14 (by decide) (htt _ kf_Model_48) (fun _ h9 => h9) rfl d_Model_ends_1 ?_
  refine lv_lconst (v := (0 : Int64)) hx hb d_Model_ends_4 (by decide) ?_
  obtain ⟨uaplus, hc, hm⟩ := sd_mb1 hm
  refine sd_cv1 (wr := [(mo, .inr (5, [.ref a_n, .ref a_d, .ref a_r, .ref a_count, .ref a_newN, .ref a_newD, .ref a_newR, .int m_made, .ref a_out, .int m_outCount, .ref a_root, .ref a_rest, .ref a_square, .ref a_part, .ref a_plus, .ref a_minus, .ref a_low, .ref a_high, .ref a_one, .ref a_two, .int m_lowSign, .int m_highSign, .ref a_otherLow, .ref a_otherHigh, .ref a_digit, .ref a_topA, .ref a_underA, .ref a_topB, .ref a_underB, .ref a_quotient, .ref a_otherQuotient])), (a_n, aJ g 64 c_n), (a_d, aJ g 64 c_d), (a_r, aJ g 64 c_r), (a_count, aI g 8 c_count), (a_root, aJ g 76 c_root), (a_rest, aJ g 76 c_rest), (a_square, aJ g 76 c_square), (a_part, aJ g 76 c_part), (a_minus, aJ g 76 c_minus), (a_low, aJ g 76 c_low), (a_high, aJ g 76 c_high), (a_one, aJ g 76 c_one)]) (w2 := [(mo, .inr (5, [.ref a_n, .ref a_d, .ref a_r, .ref a_count, .ref a_newN, .ref a_newD, .ref a_newR, .int m_made, .ref a_out, .int m_outCount, .ref a_root, .ref a_rest, .ref a_square, .ref a_part, .ref a_plus, .ref a_minus, .ref a_low, .ref a_high, .ref a_one, .ref a_two, .int m_lowSign, .int m_highSign, .ref a_otherLow, .ref a_otherHigh, .ref a_digit, .ref a_topA, .ref a_underA, .ref a_topB, .ref a_underB, .ref a_quotient, .ref a_otherQuotient])), (a_n, aJ g 64 c_n), (a_d, aJ g 64 c_d), (a_r, aJ g 64 c_r), (a_count, aI g 8 c_count), (a_root, aJ g 76 c_root), (a_rest, aJ g 76 c_rest), (a_square, aJ g 76 c_square), (a_part, aJ g 76 c_part), (a_minus, aJ g 76 c_minus), (a_low, aJ g 76 c_low), (a_high, aJ g 76 c_high), (a_one, aJ g 76 c_one), (a_plus, aJ g 76 uaplus)]) (sd_runS (rest := []) (As := [.ref a_plus, .long (0 : Int64)]) S (ct_Model_set l D g a_plus (H.size) (0 : Int64) c_plus F (uaplus) hc) kl_Model_157 (by decide) (by decide) hK hP hD [9] rfl (by decide) rfl hl d_Model_ends_5 rfl (Nat.le_of_ble_eq_true rfl) ⟨Nat.zero_le _, Nat.zero_le _⟩) hP hD hS hA [9] [0, 1, 2, 3, 4, 5, 6, 7, 8, 10, 11, 12, 13] rfl rfl (by decide) (by decide) rfl (fun H locs hP hD hS => ?_)
  refine lv_aload_n hx hb d_Model_ends_8 rfl (lv_at hl 0 rfl) ?_
  refine va_get (D := D) (ci := 5) (v := .ref a_minus) (C := R_Model) (T := F_Model) (N := 31) hx hb htt i_Model hown hK hP 0 rfl rfl 15 (by decide) (htt _ kf_Model_51) (fun _ h9 => h9) rfl d_Model_ends_9 ?_
  refine lv_lconst (v := (0 : Int64)) hx hb d_Model_ends_12 (by decide) ?_
  obtain ⟨uaminus, hc, hm⟩ := sd_mb1 hm
  refine sd_cv1 (wr := [(mo, .inr (5, [.ref a_n, .ref a_d, .ref a_r, .ref a_count, .ref a_newN, .ref a_newD, .ref a_newR, .int m_made, .ref a_out, .int m_outCount, .ref a_root, .ref a_rest, .ref a_square, .ref a_part, .ref a_plus, .ref a_minus, .ref a_low, .ref a_high, .ref a_one, .ref a_two, .int m_lowSign, .int m_highSign, .ref a_otherLow, .ref a_otherHigh, .ref a_digit, .ref a_topA, .ref a_underA, .ref a_topB, .ref a_underB, .ref a_quotient, .ref a_otherQuotient])), (a_n, aJ g 64 c_n), (a_d, aJ g 64 c_d), (a_r, aJ g 64 c_r), (a_count, aI g 8 c_count), (a_root, aJ g 76 c_root), (a_rest, aJ g 76 c_rest), (a_square, aJ g 76 c_square), (a_part, aJ g 76 c_part), (a_low, aJ g 76 c_low), (a_high, aJ g 76 c_high), (a_one, aJ g 76 c_one), (a_plus, aJ g 76 uaplus)]) (w2 := [(mo, .inr (5, [.ref a_n, .ref a_d, .ref a_r, .ref a_count, .ref a_newN, .ref a_newD, .ref a_newR, .int m_made, .ref a_out, .int m_outCount, .ref a_root, .ref a_rest, .ref a_square, .ref a_part, .ref a_plus, .ref a_minus, .ref a_low, .ref a_high, .ref a_one, .ref a_two, .int m_lowSign, .int m_highSign, .ref a_otherLow, .ref a_otherHigh, .ref a_digit, .ref a_topA, .ref a_underA, .ref a_topB, .ref a_underB, .ref a_quotient, .ref a_otherQuotient])), (a_n, aJ g 64 c_n), (a_d, aJ g 64 c_d), (a_r, aJ g 64 c_r), (a_count, aI g 8 c_count), (a_root, aJ g 76 c_root), (a_rest, aJ g 76 c_rest), (a_square, aJ g 76 c_square), (a_part, aJ g 76 c_part), (a_low, aJ g 76 c_low), (a_high, aJ g 76 c_high), (a_one, aJ g 76 c_one), (a_plus, aJ g 76 uaplus), (a_minus, aJ g 76 uaminus)]) (sd_runS (rest := []) (As := [.ref a_minus, .long (0 : Int64)]) S (ct_Model_set l D g a_minus (H.size) (0 : Int64) c_minus F (uaminus) hc) kl_Model_157 (by decide) (by decide) hK hP hD [9] rfl (by decide) rfl hl d_Model_ends_13 rfl (Nat.le_of_ble_eq_true rfl) ⟨Nat.zero_le _, Nat.zero_le _⟩) hP hD hS hA [9] [0, 1, 2, 3, 4, 5, 6, 7, 8, 10, 11, 12, 13] rfl rfl (by decide) (by decide) rfl (fun H locs hP hD hS => ?_)
  refine lv_iconst (v := (0 : Int32)) hx hb d_Model_ends_16 (by decide) ?_
  refine lv_istore_n (lv' := [(2, .int (0 : Int32)), (0, .ref mo), (1, .int vI)]) hx hb d_Model_ends_17 rfl hl (by decide) rfl (fun ls hl => ?_)
  refine lv_iconst (v := (0 : Int32)) hx hb d_Model_ends_18 (by decide) ?_
  refine lv_istore_n (lv' := [(3, .int (0 : Int32)), (2, .int (0 : Int32)), (0, .ref mo), (1, .int vI)]) hx hb d_Model_ends_19 rfl hl (by decide) rfl (fun ls hl => ?_)
  refine lv_bipush (v := (8 : Int32)) hx hb d_Model_ends_20 (by decide) ?_
  refine lv_iload_n hx hb d_Model_ends_22 rfl (lv_at hl 3 rfl) ?_
  refine lv_imul hx hb d_Model_ends_23 ?_
  obtain ⟨x4, ex4, hm⟩ := sd_mlet hm
  refine sd_topi ex4 ?_
  refine lv_istore (lv' := [(4, .int x4), (3, .int (0 : Int32)), (2, .int (0 : Int32)), (0, .ref mo), (1, .int vI)]) hx hb d_Model_ends_24 hl (by decide) rfl (fun ls hl => ?_)
  have L26 : ∀ (fu : Nat) (x2 : Int32) (x3 : Int32) (x4_1 : Int32) (uaroot : Nat → Int64) (uarest : Nat → Int64) (uasquare : Nat → Int64) (uapart : Nat → Int64) (uaplus_1 : Nat → Int64) (uaminus_1 : Nat → Int64) (rx2 : Int32) (rx3 : Int32) (ruaroot : Nat → Int64) (ruarest : Nat → Int64) (ruasquare : Nat → Int64) (ruapart : Nat → Int64) (ruaplus : Nat → Int64) (ruaminus : Nat → Int64), mf_Model_ends_L26 vI c_count F m_made m_outCount m_lowSign m_highSign c_n c_d c_r fu x2 x3 x4_1 uaroot uarest uasquare uapart uaplus_1 uaminus_1 = some (rx2, rx3, ruaroot, ruarest, ruasquare, ruapart, ruaplus, ruaminus) → ∀ (H : Heap) (locs : List Loc) (ls : Array Slot), va_P D classes [(mo, .inr (5, [.ref a_n, .ref a_d, .ref a_r, .ref a_count, .ref a_newN, .ref a_newD, .ref a_newR, .int m_made, .ref a_out, .int m_outCount, .ref a_root, .ref a_rest, .ref a_square, .ref a_part, .ref a_plus, .ref a_minus, .ref a_low, .ref a_high, .ref a_one, .ref a_two, .int m_lowSign, .int m_highSign, .ref a_otherLow, .ref a_otherHigh, .ref a_digit, .ref a_topA, .ref a_underA, .ref a_topB, .ref a_underB, .ref a_quotient, .ref a_otherQuotient])), (a_n, aJ g 64 c_n), (a_d, aJ g 64 c_d), (a_r, aJ g 64 c_r), (a_count, aI g 8 c_count), (a_root, aJ g 76 uaroot), (a_rest, aJ g 76 uarest), (a_square, aJ g 76 uasquare), (a_part, aJ g 76 uapart), (a_low, aJ g 76 c_low), (a_high, aJ g 76 c_high), (a_one, aJ g 76 c_one), (a_plus, aJ g 76 uaplus_1), (a_minus, aJ g 76 uaminus_1)] H → va_D A [(mo, .inr (5, [.ref a_n, .ref a_d, .ref a_r, .ref a_count, .ref a_newN, .ref a_newD, .ref a_newR, .int m_made, .ref a_out, .int m_outCount, .ref a_root, .ref a_rest, .ref a_square, .ref a_part, .ref a_plus, .ref a_minus, .ref a_low, .ref a_high, .ref a_one, .ref a_two, .int m_lowSign, .int m_highSign, .ref a_otherLow, .ref a_otherHigh, .ref a_digit, .ref a_topA, .ref a_underA, .ref a_topB, .ref a_underB, .ref a_quotient, .ref a_otherQuotient])), (a_n, aJ g 64 c_n), (a_d, aJ g 64 c_d), (a_r, aJ g 64 c_r), (a_count, aI g 8 c_count), (a_root, aJ g 76 uaroot), (a_rest, aJ g 76 uarest), (a_square, aJ g 76 uasquare), (a_part, aJ g 76 uapart), (a_low, aJ g 76 c_low), (a_high, aJ g 76 c_high), (a_one, aJ g 76 c_one), (a_plus, aJ g 76 uaplus_1), (a_minus, aJ g 76 uaminus_1)] → va_S A s.heap H locs → lv_has ls 5 [(0, .ref mo), (1, .int vI), (2, .int x2), (3, .int x3), (4, .int x4_1)] → (∀ (H : Heap) (locs : List Loc) (ls : Array Slot), va_P D classes [(mo, .inr (5, [.ref a_n, .ref a_d, .ref a_r, .ref a_count, .ref a_newN, .ref a_newD, .ref a_newR, .int m_made, .ref a_out, .int m_outCount, .ref a_root, .ref a_rest, .ref a_square, .ref a_part, .ref a_plus, .ref a_minus, .ref a_low, .ref a_high, .ref a_one, .ref a_two, .int m_lowSign, .int m_highSign, .ref a_otherLow, .ref a_otherHigh, .ref a_digit, .ref a_topA, .ref a_underA, .ref a_topB, .ref a_underB, .ref a_quotient, .ref a_otherQuotient])), (a_n, aJ g 64 c_n), (a_d, aJ g 64 c_d), (a_r, aJ g 64 c_r), (a_count, aI g 8 c_count), (a_root, aJ g 76 ruaroot), (a_rest, aJ g 76 ruarest), (a_square, aJ g 76 ruasquare), (a_part, aJ g 76 ruapart), (a_low, aJ g 76 c_low), (a_high, aJ g 76 c_high), (a_one, aJ g 76 c_one), (a_plus, aJ g 76 ruaplus), (a_minus, aJ g 76 ruaminus)] H → va_D A [(mo, .inr (5, [.ref a_n, .ref a_d, .ref a_r, .ref a_count, .ref a_newN, .ref a_newD, .ref a_newR, .int m_made, .ref a_out, .int m_outCount, .ref a_root, .ref a_rest, .ref a_square, .ref a_part, .ref a_plus, .ref a_minus, .ref a_low, .ref a_high, .ref a_one, .ref a_two, .int m_lowSign, .int m_highSign, .ref a_otherLow, .ref a_otherHigh, .ref a_digit, .ref a_topA, .ref a_underA, .ref a_topB, .ref a_underB, .ref a_quotient, .ref a_otherQuotient])), (a_n, aJ g 64 c_n), (a_d, aJ g 64 c_d), (a_r, aJ g 64 c_r), (a_count, aI g 8 c_count), (a_root, aJ g 76 ruaroot), (a_rest, aJ g 76 ruarest), (a_square, aJ g 76 ruasquare), (a_part, aJ g 76 ruapart), (a_low, aJ g 76 c_low), (a_high, aJ g 76 c_high), (a_one, aJ g 76 c_one), (a_plus, aJ g 76 ruaplus), (a_minus, aJ g 76 ruaminus)] → va_S A s.heap H locs → lv_has ls 5 [(0, .ref mo), (2, .int rx2), (3, .int rx3)] → W p l e rm_Model_ends s m args below meth c H locs 0 0 Q (F0 m 105 ls [])) → W p l e rm_Model_ends s m args below meth c H locs 0 0 Q (F0 m 26 ls []) := by
    intro fu
    induction fu with
    | zero => intro x2 x3 x4_1 uaroot uarest uasquare uapart uaplus_1 uaminus_1 rx2 rx3 ruaroot ruarest ruasquare ruapart ruaplus ruaminus hm; exact absurd (show (none : Option (Int32 × Int32 × (Nat → Int64) × (Nat → Int64) × (Nat → Int64) × (Nat → Int64) × (Nat → Int64) × (Nat → Int64))) = some (rx2, rx3, ruaroot, ruarest, ruasquare, ruapart, ruaplus, ruaminus) from hm) (fun h => nomatch h)
    | succ fu ih =>
      intro x2 x3 x4_1 uaroot uarest uasquare uapart uaplus_1 uaminus_1 rx2 rx3 ruaroot ruarest ruasquare ruapart ruaplus ruaminus hm H locs ls hP hD hS hl kx105
      rw [mf_Model_ends_L26] at hm
      refine lv_iload hx hb d_Model_ends_26 (lv_at hl 4 rfl) ?_
      refine lv_bipush (v := (8 : Int32)) hx hb d_Model_ends_28 (by decide) ?_
      refine lv_iload_n hx hb d_Model_ends_30 rfl (lv_at hl 1 rfl) ?_
      refine lv_imul hx hb d_Model_ends_31 ?_
      refine lv_aload_n hx hb d_Model_ends_32 rfl (lv_at hl 0 rfl) ?_
      refine va_get (D := D) (ci := 5) (v := .ref a_count) (C := R_Model) (T := F_Model) (N := 31) hx hb htt i_Model hown hK hP 0 rfl rfl 3 (by decide) (htt _ kf_Model_19) (fun _ h9 => h9) rfl d_Model_ends_33 ?_
      refine lv_iload_n hx hb d_Model_ends_36 rfl (lv_at hl 1 rfl) ?_
      obtain ⟨h_1, hm⟩ := sd_mg hm
      refine sd_iald hx hb hK hP 4 rfl h_1 d_Model_ends_37 ?_
      refine lv_iadd hx hb d_Model_ends_38 ?_
      refine lv_icmp_ge (tgt := 105) hx hb d_Model_ends_39 (by decide) (fun hc => ?_) (fun hc => ?_)
      · have hm := sd_mt hc hm
        cases hm
        exact kx105 H locs ls (hP.sub [0, 1, 2, 3, 4, 5, 6, 7, 8, 9, 10, 11, 12, 13] rfl) (hD.sub [0, 1, 2, 3, 4, 5, 6, 7, 8, 9, 10, 11, 12, 13] (by decide) rfl) hS (lv_sub hl [0, 2, 3] rfl)
      · have hm := sd_mf hc hm
        refine lv_aload_n hx hb d_Model_ends_42 rfl (lv_at hl 0 rfl) ?_
        refine lv_iload hx hb d_Model_ends_43 (lv_at hl 4 rfl) ?_
        obtain ⟨uaroot_1, uarest_1, uasquare_1, uapart_1, hc, hm⟩ := sd_mb4 hm
        refine sd_cv1 (wr := [(a_count, aI g 8 c_count), (a_low, aJ g 76 c_low), (a_high, aJ g 76 c_high), (a_one, aJ g 76 c_one), (a_plus, aJ g 76 uaplus_1), (a_minus, aJ g 76 uaminus_1)]) (w2 := [(a_count, aI g 8 c_count), (a_low, aJ g 76 c_low), (a_high, aJ g 76 c_high), (a_one, aJ g 76 c_one), (a_plus, aJ g 76 uaplus_1), (a_minus, aJ g 76 uaminus_1), (mo, .inr (5, [.ref a_n, .ref a_d, .ref a_r, .ref a_count, .ref a_newN, .ref a_newD, .ref a_newR, .int m_made, .ref a_out, .int m_outCount, .ref a_root, .ref a_rest, .ref a_square, .ref a_part, .ref a_plus, .ref a_minus, .ref a_low, .ref a_high, .ref a_one, .ref a_two, .int m_lowSign, .int m_highSign, .ref a_otherLow, .ref a_otherHigh, .ref a_digit, .ref a_topA, .ref a_underA, .ref a_topB, .ref a_underB, .ref a_quotient, .ref a_otherQuotient])), (a_n, aJ g 64 c_n), (a_d, aJ g 64 c_d), (a_r, aJ g 64 c_r), (a_root, aJ g 76 uaroot_1), (a_rest, aJ g 76 uarest_1), (a_square, aJ g 76 uasquare_1), (a_part, aJ g 76 uapart_1)]) (sd_runV (rest := []) (As := [.int x4_1]) S (ct_Model_measure l D g mo a_n a_d a_r a_count a_newN a_newD a_newR a_out a_root a_rest a_square a_part a_plus a_minus a_low a_high a_one a_two a_otherLow a_otherHigh a_digit a_topA a_underA a_topB a_underB a_quotient a_otherQuotient (H.size) x4_1 m_made m_outCount m_lowSign m_highSign c_n c_d c_r uaroot uarest uasquare uapart F (uaroot_1, uarest_1, uasquare_1, uapart_1) hc) kl_Model_195 (by decide) (by decide) hK hP hD [0, 1, 2, 3, 5, 6, 7, 8] rfl (by decide) rfl hl d_Model_ends_45 rfl (Nat.le_of_ble_eq_true rfl) ⟨Nat.zero_le _, Nat.zero_le _⟩ 0 rfl rfl) hP hD hS hA [0, 1, 2, 3, 5, 6, 7, 8] [4, 9, 10, 11, 12, 13] rfl rfl (by decide) (by decide) rfl (fun H locs hP hD hS => ?_)
        refine lv_aload_n hx hb d_Model_ends_48 rfl (lv_at hl 0 rfl) ?_
        refine va_get (D := D) (ci := 5) (v := .ref a_n) (C := R_Model) (T := F_Model) (N := 31) hx hb htt i_Model hown hK hP 6 rfl rfl 0 (by decide) (htt _ kf_Model_9) (fun _ h9 => h9) rfl d_Model_ends_49 ?_
        refine lv_iload hx hb d_Model_ends_52 (lv_at hl 4 rfl) ?_
        obtain ⟨h_2, hm⟩ := sd_mg hm
        refine sd_lald hx hb hK hP 7 rfl h_2 d_Model_ends_54 ?_
        refine lv_lconst (v := (0 : Int64)) hx hb d_Model_ends_55 (by decide) ?_
        refine sd_lge (tgt := 67) hx hb d_Model_ends_56 d_Model_ends_57 (by decide) (fun hc => ?_) (fun hc => ?_)
        · have hm := sd_mt hc hm
          refine lv_aload_n hx hb d_Model_ends_67 rfl (lv_at hl 0 rfl) ?_
          refine va_get (D := D) (ci := 5) (v := .ref a_plus) (C := R_Model) (T := F_Model) (N := 31) hx hb htt i_Model hown hK hP 6 rfl rfl 14 (by decide) (htt _ kf_Model_48) (fun _ h9 => h9) rfl d_Model_ends_68 ?_
          refine lv_aload_n hx hb d_Model_ends_71 rfl (lv_at hl 0 rfl) ?_
          refine va_get (D := D) (ci := 5) (v := .ref a_part) (C := R_Model) (T := F_Model) (N := 31) hx hb htt i_Model hown hK hP 6 rfl rfl 13 (by decide) (htt _ kf_Model_45) (fun _ h9 => h9) rfl d_Model_ends_72 ?_
          obtain ⟨uaplus_2, hc, hm⟩ := sd_mb1 hm
          refine sd_cv1 (wr := [(a_count, aI g 8 c_count), (a_low, aJ g 76 c_low), (a_high, aJ g 76 c_high), (a_one, aJ g 76 c_one), (a_minus, aJ g 76 uaminus_1), (mo, .inr (5, [.ref a_n, .ref a_d, .ref a_r, .ref a_count, .ref a_newN, .ref a_newD, .ref a_newR, .int m_made, .ref a_out, .int m_outCount, .ref a_root, .ref a_rest, .ref a_square, .ref a_part, .ref a_plus, .ref a_minus, .ref a_low, .ref a_high, .ref a_one, .ref a_two, .int m_lowSign, .int m_highSign, .ref a_otherLow, .ref a_otherHigh, .ref a_digit, .ref a_topA, .ref a_underA, .ref a_topB, .ref a_underB, .ref a_quotient, .ref a_otherQuotient])), (a_n, aJ g 64 c_n), (a_d, aJ g 64 c_d), (a_r, aJ g 64 c_r), (a_root, aJ g 76 uaroot_1), (a_rest, aJ g 76 uarest_1), (a_square, aJ g 76 uasquare_1)]) (w2 := [(a_count, aI g 8 c_count), (a_low, aJ g 76 c_low), (a_high, aJ g 76 c_high), (a_one, aJ g 76 c_one), (a_minus, aJ g 76 uaminus_1), (mo, .inr (5, [.ref a_n, .ref a_d, .ref a_r, .ref a_count, .ref a_newN, .ref a_newD, .ref a_newR, .int m_made, .ref a_out, .int m_outCount, .ref a_root, .ref a_rest, .ref a_square, .ref a_part, .ref a_plus, .ref a_minus, .ref a_low, .ref a_high, .ref a_one, .ref a_two, .int m_lowSign, .int m_highSign, .ref a_otherLow, .ref a_otherHigh, .ref a_digit, .ref a_topA, .ref a_underA, .ref a_topB, .ref a_underB, .ref a_quotient, .ref a_otherQuotient])), (a_n, aJ g 64 c_n), (a_d, aJ g 64 c_d), (a_r, aJ g 64 c_r), (a_root, aJ g 76 uaroot_1), (a_rest, aJ g 76 uarest_1), (a_square, aJ g 76 uasquare_1), (a_plus, aJ g 76 uaplus_2), (a_part, aJ g 76 uapart_1)]) (sd_runS (rest := []) (As := [.ref a_plus, .ref a_part]) S (ct_Model_addRows l D g a_plus a_part (H.size) uaplus_1 uapart_1 F (uaplus_2) hc) kl_Model_199 (by decide) (by decide) hK hP hD [4, 13] rfl (by decide) rfl hl d_Model_ends_75 rfl (Nat.le_of_ble_eq_true rfl) ⟨Nat.zero_le _, Nat.zero_le _⟩) hP hD hS hA [4, 13] [0, 1, 2, 3, 5, 6, 7, 8, 9, 10, 11, 12] rfl rfl (by decide) (by decide) rfl (fun H locs hP hD hS => ?_)
          refine lv_aload_n hx hb d_Model_ends_78 rfl (lv_at hl 0 rfl) ?_
          refine va_get (D := D) (ci := 5) (v := .ref a_n) (C := R_Model) (T := F_Model) (N := 31) hx hb htt i_Model hown hK hP 5 rfl rfl 0 (by decide) (htt _ kf_Model_9) (fun _ h9 => h9) rfl d_Model_ends_79 ?_
          refine lv_iload hx hb d_Model_ends_82 (lv_at hl 4 rfl) ?_
          obtain ⟨h_3, hm⟩ := sd_mg hm
          refine sd_lald hx hb hK hP 6 rfl h_3 d_Model_ends_84 ?_
          refine lv_lconst (v := (0 : Int64)) hx hb d_Model_ends_85 (by decide) ?_
          obtain ⟨x2_1, x3_1, hv, hm⟩ := sd_mb2 hm
          have J99_4 : ∀ (H : Heap) (locs : List Loc) (ls : Array Slot), va_P D classes [(a_count, aI g 8 c_count), (a_low, aJ g 76 c_low), (a_high, aJ g 76 c_high), (a_one, aJ g 76 c_one), (a_minus, aJ g 76 uaminus_1), (mo, .inr (5, [.ref a_n, .ref a_d, .ref a_r, .ref a_count, .ref a_newN, .ref a_newD, .ref a_newR, .int m_made, .ref a_out, .int m_outCount, .ref a_root, .ref a_rest, .ref a_square, .ref a_part, .ref a_plus, .ref a_minus, .ref a_low, .ref a_high, .ref a_one, .ref a_two, .int m_lowSign, .int m_highSign, .ref a_otherLow, .ref a_otherHigh, .ref a_digit, .ref a_topA, .ref a_underA, .ref a_topB, .ref a_underB, .ref a_quotient, .ref a_otherQuotient])), (a_n, aJ g 64 c_n), (a_d, aJ g 64 c_d), (a_r, aJ g 64 c_r), (a_root, aJ g 76 uaroot_1), (a_rest, aJ g 76 uarest_1), (a_square, aJ g 76 uasquare_1), (a_plus, aJ g 76 uaplus_2), (a_part, aJ g 76 uapart_1)] H → va_D A [(a_count, aI g 8 c_count), (a_low, aJ g 76 c_low), (a_high, aJ g 76 c_high), (a_one, aJ g 76 c_one), (a_minus, aJ g 76 uaminus_1), (mo, .inr (5, [.ref a_n, .ref a_d, .ref a_r, .ref a_count, .ref a_newN, .ref a_newD, .ref a_newR, .int m_made, .ref a_out, .int m_outCount, .ref a_root, .ref a_rest, .ref a_square, .ref a_part, .ref a_plus, .ref a_minus, .ref a_low, .ref a_high, .ref a_one, .ref a_two, .int m_lowSign, .int m_highSign, .ref a_otherLow, .ref a_otherHigh, .ref a_digit, .ref a_topA, .ref a_underA, .ref a_topB, .ref a_underB, .ref a_quotient, .ref a_otherQuotient])), (a_n, aJ g 64 c_n), (a_d, aJ g 64 c_d), (a_r, aJ g 64 c_r), (a_root, aJ g 76 uaroot_1), (a_rest, aJ g 76 uarest_1), (a_square, aJ g 76 uasquare_1), (a_plus, aJ g 76 uaplus_2), (a_part, aJ g 76 uapart_1)] → va_S A s.heap H locs → lv_has ls 5 [(0, .ref mo), (1, .int vI), (2, .int x2_1), (3, .int x3_1), (4, .int x4_1)] → W p l e rm_Model_ends s m args below meth c H locs 0 0 Q (F0 m 99 ls []) := by
            intro H locs ls hP hD hS hl
            obtain ⟨x4_2, ex4_2, hm⟩ := sd_mlet hm
            refine lv_iinc (v := x4_2) (lv' := [(4, .int x4_2), (0, .ref mo), (1, .int vI), (2, .int x2_1), (3, .int x3_1)]) hx hb d_Model_ends_99 hl (k := 4) rfl (by rw [ex4_2]; rfl) (by decide) rfl (fun ls hl => ?_)
            refine lv_goto (tgt := 26) hx hb d_Model_ends_102 (by decide) ?_
            exact ih x2_1 x3_1 x4_2 uaroot_1 uarest_1 uasquare_1 uapart_1 uaplus_2 uaminus_1 rx2 rx3 ruaroot ruarest ruasquare ruapart ruaplus ruaminus hm H locs ls (hP.sub [5, 6, 7, 8, 0, 9, 10, 11, 13, 1, 2, 3, 12, 4] rfl) (hD.sub [5, 6, 7, 8, 0, 9, 10, 11, 13, 1, 2, 3, 12, 4] (by decide) rfl) hS (lv_sub hl [1, 2, 3, 4, 0] rfl) kx105
          replace hm := hv
          refine sd_lge (tgt := 96) hx hb d_Model_ends_86 d_Model_ends_87 (by decide) (fun hc => ?_) (fun hc => ?_)
          · have hm := sd_mt hc hm
            obtain ⟨x2_2, ex2_2, hm⟩ := sd_mlet hm
            refine lv_iinc (v := x2_2) (lv' := [(2, .int x2_2), (0, .ref mo), (1, .int vI), (3, .int x3), (4, .int x4_1)]) hx hb d_Model_ends_96 hl (k := 2) rfl (by rw [ex2_2]; rfl) (by decide) rfl (fun ls hl => ?_)
            cases hm
            exact J99_4 H locs ls (hP.sub [0, 1, 2, 3, 4, 5, 6, 7, 8, 9, 10, 11, 12, 13] rfl) (hD.sub [0, 1, 2, 3, 4, 5, 6, 7, 8, 9, 10, 11, 12, 13] (by decide) rfl) hS (lv_sub hl [1, 2, 0, 3, 4] rfl)
          · have hm := sd_mf hc hm
            obtain ⟨x3_2, ex3_2, hm⟩ := sd_mlet hm
            refine lv_iinc (v := x3_2) (lv' := [(3, .int x3_2), (0, .ref mo), (1, .int vI), (2, .int x2), (4, .int x4_1)]) hx hb d_Model_ends_90 hl (k := 3) rfl (by rw [ex3_2]; rfl) (by decide) rfl (fun ls hl => ?_)
            refine lv_goto (tgt := 99) hx hb d_Model_ends_93 (by decide) ?_
            cases hm
            exact J99_4 H locs ls (hP.sub [0, 1, 2, 3, 4, 5, 6, 7, 8, 9, 10, 11, 12, 13] rfl) (hD.sub [0, 1, 2, 3, 4, 5, 6, 7, 8, 9, 10, 11, 12, 13] (by decide) rfl) hS (lv_sub hl [1, 2, 3, 0, 4] rfl)
        · have hm := sd_mf hc hm
          refine lv_aload_n hx hb d_Model_ends_60 rfl (lv_at hl 0 rfl) ?_
          refine va_get (D := D) (ci := 5) (v := .ref a_minus) (C := R_Model) (T := F_Model) (N := 31) hx hb htt i_Model hown hK hP 6 rfl rfl 15 (by decide) (htt _ kf_Model_51) (fun _ h9 => h9) rfl d_Model_ends_61 ?_
          refine lv_goto (tgt := 71) hx hb d_Model_ends_64 (by decide) ?_
          refine lv_aload_n hx hb d_Model_ends_71 rfl (lv_at hl 0 rfl) ?_
          refine va_get (D := D) (ci := 5) (v := .ref a_part) (C := R_Model) (T := F_Model) (N := 31) hx hb htt i_Model hown hK hP 6 rfl rfl 13 (by decide) (htt _ kf_Model_45) (fun _ h9 => h9) rfl d_Model_ends_72 ?_
          obtain ⟨uaminus_2, hc, hm⟩ := sd_mb1 hm
          refine sd_cv1 (wr := [(a_count, aI g 8 c_count), (a_low, aJ g 76 c_low), (a_high, aJ g 76 c_high), (a_one, aJ g 76 c_one), (a_plus, aJ g 76 uaplus_1), (mo, .inr (5, [.ref a_n, .ref a_d, .ref a_r, .ref a_count, .ref a_newN, .ref a_newD, .ref a_newR, .int m_made, .ref a_out, .int m_outCount, .ref a_root, .ref a_rest, .ref a_square, .ref a_part, .ref a_plus, .ref a_minus, .ref a_low, .ref a_high, .ref a_one, .ref a_two, .int m_lowSign, .int m_highSign, .ref a_otherLow, .ref a_otherHigh, .ref a_digit, .ref a_topA, .ref a_underA, .ref a_topB, .ref a_underB, .ref a_quotient, .ref a_otherQuotient])), (a_n, aJ g 64 c_n), (a_d, aJ g 64 c_d), (a_r, aJ g 64 c_r), (a_root, aJ g 76 uaroot_1), (a_rest, aJ g 76 uarest_1), (a_square, aJ g 76 uasquare_1)]) (w2 := [(a_count, aI g 8 c_count), (a_low, aJ g 76 c_low), (a_high, aJ g 76 c_high), (a_one, aJ g 76 c_one), (a_plus, aJ g 76 uaplus_1), (mo, .inr (5, [.ref a_n, .ref a_d, .ref a_r, .ref a_count, .ref a_newN, .ref a_newD, .ref a_newR, .int m_made, .ref a_out, .int m_outCount, .ref a_root, .ref a_rest, .ref a_square, .ref a_part, .ref a_plus, .ref a_minus, .ref a_low, .ref a_high, .ref a_one, .ref a_two, .int m_lowSign, .int m_highSign, .ref a_otherLow, .ref a_otherHigh, .ref a_digit, .ref a_topA, .ref a_underA, .ref a_topB, .ref a_underB, .ref a_quotient, .ref a_otherQuotient])), (a_n, aJ g 64 c_n), (a_d, aJ g 64 c_d), (a_r, aJ g 64 c_r), (a_root, aJ g 76 uaroot_1), (a_rest, aJ g 76 uarest_1), (a_square, aJ g 76 uasquare_1), (a_minus, aJ g 76 uaminus_2), (a_part, aJ g 76 uapart_1)]) (sd_runS (rest := []) (As := [.ref a_minus, .ref a_part]) S (ct_Model_addRows l D g a_minus a_part (H.size) uaminus_1 uapart_1 F (uaminus_2) hc) kl_Model_199 (by decide) (by decide) hK hP hD [5, 13] rfl (by decide) rfl hl d_Model_ends_75 rfl (Nat.le_of_ble_eq_true rfl) ⟨Nat.zero_le _, Nat.zero_le _⟩) hP hD hS hA [5, 13] [0, 1, 2, 3, 4, 6, 7, 8, 9, 10, 11, 12] rfl rfl (by decide) (by decide) rfl (fun H locs hP hD hS => ?_)
          refine lv_aload_n hx hb d_Model_ends_78 rfl (lv_at hl 0 rfl) ?_
          refine va_get (D := D) (ci := 5) (v := .ref a_n) (C := R_Model) (T := F_Model) (N := 31) hx hb htt i_Model hown hK hP 5 rfl rfl 0 (by decide) (htt _ kf_Model_9) (fun _ h9 => h9) rfl d_Model_ends_79 ?_
          refine lv_iload hx hb d_Model_ends_82 (lv_at hl 4 rfl) ?_
          obtain ⟨h_5, hm⟩ := sd_mg hm
          refine sd_lald hx hb hK hP 6 rfl h_5 d_Model_ends_84 ?_
          refine lv_lconst (v := (0 : Int64)) hx hb d_Model_ends_85 (by decide) ?_
          obtain ⟨x2_3, x3_3, hv, hm⟩ := sd_mb2 hm
          have J99_6 : ∀ (H : Heap) (locs : List Loc) (ls : Array Slot), va_P D classes [(a_count, aI g 8 c_count), (a_low, aJ g 76 c_low), (a_high, aJ g 76 c_high), (a_one, aJ g 76 c_one), (a_plus, aJ g 76 uaplus_1), (mo, .inr (5, [.ref a_n, .ref a_d, .ref a_r, .ref a_count, .ref a_newN, .ref a_newD, .ref a_newR, .int m_made, .ref a_out, .int m_outCount, .ref a_root, .ref a_rest, .ref a_square, .ref a_part, .ref a_plus, .ref a_minus, .ref a_low, .ref a_high, .ref a_one, .ref a_two, .int m_lowSign, .int m_highSign, .ref a_otherLow, .ref a_otherHigh, .ref a_digit, .ref a_topA, .ref a_underA, .ref a_topB, .ref a_underB, .ref a_quotient, .ref a_otherQuotient])), (a_n, aJ g 64 c_n), (a_d, aJ g 64 c_d), (a_r, aJ g 64 c_r), (a_root, aJ g 76 uaroot_1), (a_rest, aJ g 76 uarest_1), (a_square, aJ g 76 uasquare_1), (a_minus, aJ g 76 uaminus_2), (a_part, aJ g 76 uapart_1)] H → va_D A [(a_count, aI g 8 c_count), (a_low, aJ g 76 c_low), (a_high, aJ g 76 c_high), (a_one, aJ g 76 c_one), (a_plus, aJ g 76 uaplus_1), (mo, .inr (5, [.ref a_n, .ref a_d, .ref a_r, .ref a_count, .ref a_newN, .ref a_newD, .ref a_newR, .int m_made, .ref a_out, .int m_outCount, .ref a_root, .ref a_rest, .ref a_square, .ref a_part, .ref a_plus, .ref a_minus, .ref a_low, .ref a_high, .ref a_one, .ref a_two, .int m_lowSign, .int m_highSign, .ref a_otherLow, .ref a_otherHigh, .ref a_digit, .ref a_topA, .ref a_underA, .ref a_topB, .ref a_underB, .ref a_quotient, .ref a_otherQuotient])), (a_n, aJ g 64 c_n), (a_d, aJ g 64 c_d), (a_r, aJ g 64 c_r), (a_root, aJ g 76 uaroot_1), (a_rest, aJ g 76 uarest_1), (a_square, aJ g 76 uasquare_1), (a_minus, aJ g 76 uaminus_2), (a_part, aJ g 76 uapart_1)] → va_S A s.heap H locs → lv_has ls 5 [(0, .ref mo), (1, .int vI), (2, .int x2_3), (3, .int x3_3), (4, .int x4_1)] → W p l e rm_Model_ends s m args below meth c H locs 0 0 Q (F0 m 99 ls []) := by
            intro H locs ls hP hD hS hl
            obtain ⟨x4_3, ex4_3, hm⟩ := sd_mlet hm
            refine lv_iinc (v := x4_3) (lv' := [(4, .int x4_3), (0, .ref mo), (1, .int vI), (2, .int x2_3), (3, .int x3_3)]) hx hb d_Model_ends_99 hl (k := 4) rfl (by rw [ex4_3]; rfl) (by decide) rfl (fun ls hl => ?_)
            refine lv_goto (tgt := 26) hx hb d_Model_ends_102 (by decide) ?_
            exact ih x2_3 x3_3 x4_3 uaroot_1 uarest_1 uasquare_1 uapart_1 uaplus_1 uaminus_2 rx2 rx3 ruaroot ruarest ruasquare ruapart ruaplus ruaminus hm H locs ls (hP.sub [5, 6, 7, 8, 0, 9, 10, 11, 13, 1, 2, 3, 4, 12] rfl) (hD.sub [5, 6, 7, 8, 0, 9, 10, 11, 13, 1, 2, 3, 4, 12] (by decide) rfl) hS (lv_sub hl [1, 2, 3, 4, 0] rfl) kx105
          replace hm := hv
          refine sd_lge (tgt := 96) hx hb d_Model_ends_86 d_Model_ends_87 (by decide) (fun hc => ?_) (fun hc => ?_)
          · have hm := sd_mt hc hm
            obtain ⟨x2_4, ex2_4, hm⟩ := sd_mlet hm
            refine lv_iinc (v := x2_4) (lv' := [(2, .int x2_4), (0, .ref mo), (1, .int vI), (3, .int x3), (4, .int x4_1)]) hx hb d_Model_ends_96 hl (k := 2) rfl (by rw [ex2_4]; rfl) (by decide) rfl (fun ls hl => ?_)
            cases hm
            exact J99_6 H locs ls (hP.sub [0, 1, 2, 3, 4, 5, 6, 7, 8, 9, 10, 11, 12, 13] rfl) (hD.sub [0, 1, 2, 3, 4, 5, 6, 7, 8, 9, 10, 11, 12, 13] (by decide) rfl) hS (lv_sub hl [1, 2, 0, 3, 4] rfl)
          · have hm := sd_mf hc hm
            obtain ⟨x3_4, ex3_4, hm⟩ := sd_mlet hm
            refine lv_iinc (v := x3_4) (lv' := [(3, .int x3_4), (0, .ref mo), (1, .int vI), (2, .int x2), (4, .int x4_1)]) hx hb d_Model_ends_90 hl (k := 3) rfl (by rw [ex3_4]; rfl) (by decide) rfl (fun ls hl => ?_)
            refine lv_goto (tgt := 99) hx hb d_Model_ends_93 (by decide) ?_
            cases hm
            exact J99_6 H locs ls (hP.sub [0, 1, 2, 3, 4, 5, 6, 7, 8, 9, 10, 11, 12, 13] rfl) (hD.sub [0, 1, 2, 3, 4, 5, 6, 7, 8, 9, 10, 11, 12, 13] (by decide) rfl) hS (lv_sub hl [1, 2, 3, 0, 4] rfl)
  obtain ⟨rx2, rx3, ruaroot, ruarest, ruasquare, ruapart, ruaplus, ruaminus, hc, hm⟩ := sd_mb8 hm
  refine L26 F (0 : Int32) (0 : Int32) x4 c_root c_rest c_square c_part uaplus uaminus rx2 rx3 ruaroot ruarest ruasquare ruapart ruaplus ruaminus hc H locs ls (hP.sub [0, 1, 2, 3, 4, 5, 6, 7, 8, 9, 10, 11, 12, 13] rfl) (hD.sub [0, 1, 2, 3, 4, 5, 6, 7, 8, 9, 10, 11, 12, 13] (by decide) rfl) hS (lv_sub hl [3, 4, 2, 1, 0] rfl) ?_
  intro H locs ls hP hD hS hl
  refine lv_aload_n hx hb d_Model_ends_105 rfl (lv_at hl 0 rfl) ?_
  refine va_get (D := D) (ci := 5) (v := .ref a_minus) (C := R_Model) (T := F_Model) (N := 31) hx hb htt i_Model hown hK hP 0 rfl rfl 15 (by decide) (htt _ kf_Model_51) (fun _ h9 => h9) rfl d_Model_ends_106 ?_
  refine lv_iload_n hx hb d_Model_ends_109 rfl (lv_at hl 2 rfl) ?_
  refine lv_i2l hx hb d_Model_ends_110 rfl ?_
  obtain ⟨uaminus_3, hc, hm⟩ := sd_mb1 hm
  refine sd_cv1 (wr := [(mo, .inr (5, [.ref a_n, .ref a_d, .ref a_r, .ref a_count, .ref a_newN, .ref a_newD, .ref a_newR, .int m_made, .ref a_out, .int m_outCount, .ref a_root, .ref a_rest, .ref a_square, .ref a_part, .ref a_plus, .ref a_minus, .ref a_low, .ref a_high, .ref a_one, .ref a_two, .int m_lowSign, .int m_highSign, .ref a_otherLow, .ref a_otherHigh, .ref a_digit, .ref a_topA, .ref a_underA, .ref a_topB, .ref a_underB, .ref a_quotient, .ref a_otherQuotient])), (a_n, aJ g 64 c_n), (a_d, aJ g 64 c_d), (a_r, aJ g 64 c_r), (a_count, aI g 8 c_count), (a_root, aJ g 76 ruaroot), (a_rest, aJ g 76 ruarest), (a_square, aJ g 76 ruasquare), (a_part, aJ g 76 ruapart), (a_low, aJ g 76 c_low), (a_high, aJ g 76 c_high), (a_one, aJ g 76 c_one), (a_plus, aJ g 76 ruaplus)]) (w2 := [(mo, .inr (5, [.ref a_n, .ref a_d, .ref a_r, .ref a_count, .ref a_newN, .ref a_newD, .ref a_newR, .int m_made, .ref a_out, .int m_outCount, .ref a_root, .ref a_rest, .ref a_square, .ref a_part, .ref a_plus, .ref a_minus, .ref a_low, .ref a_high, .ref a_one, .ref a_two, .int m_lowSign, .int m_highSign, .ref a_otherLow, .ref a_otherHigh, .ref a_digit, .ref a_topA, .ref a_underA, .ref a_topB, .ref a_underB, .ref a_quotient, .ref a_otherQuotient])), (a_n, aJ g 64 c_n), (a_d, aJ g 64 c_d), (a_r, aJ g 64 c_r), (a_count, aI g 8 c_count), (a_root, aJ g 76 ruaroot), (a_rest, aJ g 76 ruarest), (a_square, aJ g 76 ruasquare), (a_part, aJ g 76 ruapart), (a_low, aJ g 76 c_low), (a_high, aJ g 76 c_high), (a_one, aJ g 76 c_one), (a_plus, aJ g 76 ruaplus), (a_minus, aJ g 76 uaminus_3)]) (sd_runS (rest := []) (As := [.ref a_minus, .long (rx3.toInt64)]) S (ct_Model_addSmall l D g a_minus (H.size) (rx3.toInt64) ruaminus F (uaminus_3) hc) kl_Model_201 (by decide) (by decide) hK hP hD [13] rfl (by decide) rfl hl d_Model_ends_111 rfl (Nat.le_of_ble_eq_true rfl) ⟨Nat.zero_le _, Nat.zero_le _⟩) hP hD hS hA [13] [0, 1, 2, 3, 4, 5, 6, 7, 8, 9, 10, 11, 12] rfl rfl (by decide) (by decide) rfl (fun H locs hP hD hS => ?_)
  refine lv_aload_n hx hb d_Model_ends_114 rfl (lv_at hl 0 rfl) ?_
  refine lv_aload_n hx hb d_Model_ends_115 rfl (lv_at hl 0 rfl) ?_
  refine va_get (D := D) (ci := 5) (v := .ref a_plus) (C := R_Model) (T := F_Model) (N := 31) hx hb htt i_Model hown hK hP 0 rfl rfl 14 (by decide) (htt _ kf_Model_48) (fun _ h9 => h9) rfl d_Model_ends_116 ?_
  refine lv_aload_n hx hb d_Model_ends_119 rfl (lv_at hl 0 rfl) ?_
  refine va_get (D := D) (ci := 5) (v := .ref a_minus) (C := R_Model) (T := F_Model) (N := 31) hx hb htt i_Model hown hK hP 0 rfl rfl 15 (by decide) (htt _ kf_Model_51) (fun _ h9 => h9) rfl d_Model_ends_120 ?_
  refine lv_aload_n hx hb d_Model_ends_123 rfl (lv_at hl 0 rfl) ?_
  refine va_get (D := D) (ci := 5) (v := .ref a_low) (C := R_Model) (T := F_Model) (N := 31) hx hb htt i_Model hown hK hP 0 rfl rfl 16 (by decide) (htt _ kf_Model_54) (fun _ h9 => h9) rfl d_Model_ends_124 ?_
  obtain ⟨r, ualow, hc, hm⟩ := sd_mb2 hm
  refine sd_ci1 (wr := [(mo, .inr (5, [.ref a_n, .ref a_d, .ref a_r, .ref a_count, .ref a_newN, .ref a_newD, .ref a_newR, .int m_made, .ref a_out, .int m_outCount, .ref a_root, .ref a_rest, .ref a_square, .ref a_part, .ref a_plus, .ref a_minus, .ref a_low, .ref a_high, .ref a_one, .ref a_two, .int m_lowSign, .int m_highSign, .ref a_otherLow, .ref a_otherHigh, .ref a_digit, .ref a_topA, .ref a_underA, .ref a_topB, .ref a_underB, .ref a_quotient, .ref a_otherQuotient])), (a_n, aJ g 64 c_n), (a_d, aJ g 64 c_d), (a_r, aJ g 64 c_r), (a_count, aI g 8 c_count), (a_root, aJ g 76 ruaroot), (a_rest, aJ g 76 ruarest), (a_square, aJ g 76 ruasquare), (a_part, aJ g 76 ruapart), (a_high, aJ g 76 c_high), (a_one, aJ g 76 c_one)]) (w2 := [(mo, .inr (5, [.ref a_n, .ref a_d, .ref a_r, .ref a_count, .ref a_newN, .ref a_newD, .ref a_newR, .int m_made, .ref a_out, .int m_outCount, .ref a_root, .ref a_rest, .ref a_square, .ref a_part, .ref a_plus, .ref a_minus, .ref a_low, .ref a_high, .ref a_one, .ref a_two, .int m_lowSign, .int m_highSign, .ref a_otherLow, .ref a_otherHigh, .ref a_digit, .ref a_topA, .ref a_underA, .ref a_topB, .ref a_underB, .ref a_quotient, .ref a_otherQuotient])), (a_n, aJ g 64 c_n), (a_d, aJ g 64 c_d), (a_r, aJ g 64 c_r), (a_count, aI g 8 c_count), (a_root, aJ g 76 ruaroot), (a_rest, aJ g 76 ruarest), (a_square, aJ g 76 ruasquare), (a_part, aJ g 76 ruapart), (a_high, aJ g 76 c_high), (a_one, aJ g 76 c_one), (a_plus, aJ g 76 ruaplus), (a_minus, aJ g 76 uaminus_3), (a_low, aJ g 76 ualow)]) (sd_runS (rest := [.ref mo]) (As := [.ref a_plus, .ref a_minus, .ref a_low]) S (ct_Model_betweenRows l D g a_plus a_minus a_low (H.size) ruaplus uaminus_3 c_low F (r, ualow) hc) kl_Model_204 (by decide) (by decide) hK hP hD [12, 13, 9] rfl (by decide) rfl hl d_Model_ends_127 rfl (Nat.le_of_ble_eq_true rfl) ⟨Nat.zero_le _, Nat.zero_le _⟩) hP hD hS hA [12, 13, 9] [0, 1, 2, 3, 4, 5, 6, 7, 8, 10, 11] rfl rfl (by decide) (by decide) rfl (fun H locs hP hD hS => ?_)
  refine W.eq (g2 := F0 m 130 ls [.int r, .ref mo]) rfl ?_
  refine sd_put (ci := 5) (v := .int r) (ty := .int) (C := R_Model) (T := F_Model) (N := 31) (ws2 := [(mo, .inr (5, [.ref a_n, .ref a_d, .ref a_r, .ref a_count, .ref a_newN, .ref a_newD, .ref a_newR, .int m_made, .ref a_out, .int m_outCount, .ref a_root, .ref a_rest, .ref a_square, .ref a_part, .ref a_plus, .ref a_minus, .ref a_low, .ref a_high, .ref a_one, .ref a_two, .int r, .int m_highSign, .ref a_otherLow, .ref a_otherHigh, .ref a_digit, .ref a_topA, .ref a_underA, .ref a_topB, .ref a_underB, .ref a_quotient, .ref a_otherQuotient])), (a_n, aJ g 64 c_n), (a_d, aJ g 64 c_d), (a_r, aJ g 64 c_r), (a_count, aI g 8 c_count), (a_root, aJ g 76 ruaroot), (a_rest, aJ g 76 ruarest), (a_square, aJ g 76 ruasquare), (a_part, aJ g 76 ruapart), (a_high, aJ g 76 c_high), (a_one, aJ g 76 c_one), (a_plus, aJ g 76 ruaplus), (a_minus, aJ g 76 uaminus_3), (a_low, aJ g 76 ualow)]) hx hb htt i_Model t_Model t_Model_ok n_Model hown hK hP hD hS 0 rfl rfl 20 (by decide) kf_Model_208 (fun _ h9 => h9) rfl (by decide +kernel) rfl rfl (Nat.le_of_ble_eq_true rfl) rfl d_Model_ends_130 (fun H locs hP hD hS => ?_)
  refine lv_aload_n hx hb d_Model_ends_133 rfl (lv_at hl 0 rfl) ?_
  refine va_get (D := D) (ci := 5) (v := .ref a_one) (C := R_Model) (T := F_Model) (N := 31) hx hb htt i_Model hown hK hP 0 rfl rfl 18 (by decide) (htt _ kf_Model_60) (fun _ h9 => h9) rfl d_Model_ends_134 ?_
  refine lv_iload_n hx hb d_Model_ends_137 rfl (lv_at hl 2 rfl) ?_
  refine lv_i2l hx hb d_Model_ends_138 rfl ?_
  obtain ⟨uaone, hc, hm⟩ := sd_mb1 hm
  refine sd_cv1 (wr := [(mo, .inr (5, [.ref a_n, .ref a_d, .ref a_r, .ref a_count, .ref a_newN, .ref a_newD, .ref a_newR, .int m_made, .ref a_out, .int m_outCount, .ref a_root, .ref a_rest, .ref a_square, .ref a_part, .ref a_plus, .ref a_minus, .ref a_low, .ref a_high, .ref a_one, .ref a_two, .int r, .int m_highSign, .ref a_otherLow, .ref a_otherHigh, .ref a_digit, .ref a_topA, .ref a_underA, .ref a_topB, .ref a_underB, .ref a_quotient, .ref a_otherQuotient])), (a_n, aJ g 64 c_n), (a_d, aJ g 64 c_d), (a_r, aJ g 64 c_r), (a_count, aI g 8 c_count), (a_root, aJ g 76 ruaroot), (a_rest, aJ g 76 ruarest), (a_square, aJ g 76 ruasquare), (a_part, aJ g 76 ruapart), (a_high, aJ g 76 c_high), (a_plus, aJ g 76 ruaplus), (a_minus, aJ g 76 uaminus_3), (a_low, aJ g 76 ualow)]) (w2 := [(mo, .inr (5, [.ref a_n, .ref a_d, .ref a_r, .ref a_count, .ref a_newN, .ref a_newD, .ref a_newR, .int m_made, .ref a_out, .int m_outCount, .ref a_root, .ref a_rest, .ref a_square, .ref a_part, .ref a_plus, .ref a_minus, .ref a_low, .ref a_high, .ref a_one, .ref a_two, .int r, .int m_highSign, .ref a_otherLow, .ref a_otherHigh, .ref a_digit, .ref a_topA, .ref a_underA, .ref a_topB, .ref a_underB, .ref a_quotient, .ref a_otherQuotient])), (a_n, aJ g 64 c_n), (a_d, aJ g 64 c_d), (a_r, aJ g 64 c_r), (a_count, aI g 8 c_count), (a_root, aJ g 76 ruaroot), (a_rest, aJ g 76 ruarest), (a_square, aJ g 76 ruasquare), (a_part, aJ g 76 ruapart), (a_high, aJ g 76 c_high), (a_plus, aJ g 76 ruaplus), (a_minus, aJ g 76 uaminus_3), (a_low, aJ g 76 ualow), (a_one, aJ g 76 uaone)]) (sd_runS (rest := []) (As := [.ref a_one, .long (rx3.toInt64)]) S (ct_Model_set l D g a_one (H.size) (rx3.toInt64) c_one F (uaone) hc) kl_Model_157 (by decide) (by decide) hK hP hD [10] rfl (by decide) rfl hl d_Model_ends_139 rfl (Nat.le_of_ble_eq_true rfl) ⟨Nat.zero_le _, Nat.zero_le _⟩) hP hD hS hA [10] [0, 1, 2, 3, 4, 5, 6, 7, 8, 9, 11, 12, 13] rfl rfl (by decide) (by decide) rfl (fun H locs hP hD hS => ?_)
  refine lv_aload_n hx hb d_Model_ends_142 rfl (lv_at hl 0 rfl) ?_
  refine va_get (D := D) (ci := 5) (v := .ref a_minus) (C := R_Model) (T := F_Model) (N := 31) hx hb htt i_Model hown hK hP 0 rfl rfl 15 (by decide) (htt _ kf_Model_51) (fun _ h9 => h9) rfl d_Model_ends_143 ?_
  refine lv_aload_n hx hb d_Model_ends_146 rfl (lv_at hl 0 rfl) ?_
  refine va_get (D := D) (ci := 5) (v := .ref a_one) (C := R_Model) (T := F_Model) (N := 31) hx hb htt i_Model hown hK hP 0 rfl rfl 18 (by decide) (htt _ kf_Model_60) (fun _ h9 => h9) rfl d_Model_ends_147 ?_
  obtain ⟨uaminus_4, hc, hm⟩ := sd_mb1 hm
  refine sd_cv1 (wr := [(mo, .inr (5, [.ref a_n, .ref a_d, .ref a_r, .ref a_count, .ref a_newN, .ref a_newD, .ref a_newR, .int m_made, .ref a_out, .int m_outCount, .ref a_root, .ref a_rest, .ref a_square, .ref a_part, .ref a_plus, .ref a_minus, .ref a_low, .ref a_high, .ref a_one, .ref a_two, .int r, .int m_highSign, .ref a_otherLow, .ref a_otherHigh, .ref a_digit, .ref a_topA, .ref a_underA, .ref a_topB, .ref a_underB, .ref a_quotient, .ref a_otherQuotient])), (a_n, aJ g 64 c_n), (a_d, aJ g 64 c_d), (a_r, aJ g 64 c_r), (a_count, aI g 8 c_count), (a_root, aJ g 76 ruaroot), (a_rest, aJ g 76 ruarest), (a_square, aJ g 76 ruasquare), (a_part, aJ g 76 ruapart), (a_high, aJ g 76 c_high), (a_plus, aJ g 76 ruaplus), (a_low, aJ g 76 ualow)]) (w2 := [(mo, .inr (5, [.ref a_n, .ref a_d, .ref a_r, .ref a_count, .ref a_newN, .ref a_newD, .ref a_newR, .int m_made, .ref a_out, .int m_outCount, .ref a_root, .ref a_rest, .ref a_square, .ref a_part, .ref a_plus, .ref a_minus, .ref a_low, .ref a_high, .ref a_one, .ref a_two, .int r, .int m_highSign, .ref a_otherLow, .ref a_otherHigh, .ref a_digit, .ref a_topA, .ref a_underA, .ref a_topB, .ref a_underB, .ref a_quotient, .ref a_otherQuotient])), (a_n, aJ g 64 c_n), (a_d, aJ g 64 c_d), (a_r, aJ g 64 c_r), (a_count, aI g 8 c_count), (a_root, aJ g 76 ruaroot), (a_rest, aJ g 76 ruarest), (a_square, aJ g 76 ruasquare), (a_part, aJ g 76 ruapart), (a_high, aJ g 76 c_high), (a_plus, aJ g 76 ruaplus), (a_low, aJ g 76 ualow), (a_minus, aJ g 76 uaminus_4), (a_one, aJ g 76 uaone)]) (sd_runS (rest := []) (As := [.ref a_minus, .ref a_one]) S (ct_Model_subtract l D g a_minus a_one (H.size) uaminus_3 uaone F (uaminus_4) hc) kl_Model_180 (by decide) (by decide) hK hP hD [11, 13] rfl (by decide) rfl hl d_Model_ends_150 rfl (Nat.le_of_ble_eq_true rfl) ⟨Nat.zero_le _, Nat.zero_le _⟩) hP hD hS hA [11, 13] [0, 1, 2, 3, 4, 5, 6, 7, 8, 9, 10, 12] rfl rfl (by decide) (by decide) rfl (fun H locs hP hD hS => ?_)
  refine lv_aload_n hx hb d_Model_ends_153 rfl (lv_at hl 0 rfl) ?_
  refine va_get (D := D) (ci := 5) (v := .ref a_plus) (C := R_Model) (T := F_Model) (N := 31) hx hb htt i_Model hown hK hP 0 rfl rfl 14 (by decide) (htt _ kf_Model_48) (fun _ h9 => h9) rfl d_Model_ends_154 ?_
  refine lv_iload_n hx hb d_Model_ends_157 rfl (lv_at hl 1 rfl) ?_
  refine lv_i2l hx hb d_Model_ends_158 rfl ?_
  obtain ⟨uaplus_3, hc, hm⟩ := sd_mb1 hm
  refine sd_cv1 (wr := [(mo, .inr (5, [.ref a_n, .ref a_d, .ref a_r, .ref a_count, .ref a_newN, .ref a_newD, .ref a_newR, .int m_made, .ref a_out, .int m_outCount, .ref a_root, .ref a_rest, .ref a_square, .ref a_part, .ref a_plus, .ref a_minus, .ref a_low, .ref a_high, .ref a_one, .ref a_two, .int r, .int m_highSign, .ref a_otherLow, .ref a_otherHigh, .ref a_digit, .ref a_topA, .ref a_underA, .ref a_topB, .ref a_underB, .ref a_quotient, .ref a_otherQuotient])), (a_n, aJ g 64 c_n), (a_d, aJ g 64 c_d), (a_r, aJ g 64 c_r), (a_count, aI g 8 c_count), (a_root, aJ g 76 ruaroot), (a_rest, aJ g 76 ruarest), (a_square, aJ g 76 ruasquare), (a_part, aJ g 76 ruapart), (a_high, aJ g 76 c_high), (a_low, aJ g 76 ualow), (a_minus, aJ g 76 uaminus_4), (a_one, aJ g 76 uaone)]) (w2 := [(mo, .inr (5, [.ref a_n, .ref a_d, .ref a_r, .ref a_count, .ref a_newN, .ref a_newD, .ref a_newR, .int m_made, .ref a_out, .int m_outCount, .ref a_root, .ref a_rest, .ref a_square, .ref a_part, .ref a_plus, .ref a_minus, .ref a_low, .ref a_high, .ref a_one, .ref a_two, .int r, .int m_highSign, .ref a_otherLow, .ref a_otherHigh, .ref a_digit, .ref a_topA, .ref a_underA, .ref a_topB, .ref a_underB, .ref a_quotient, .ref a_otherQuotient])), (a_n, aJ g 64 c_n), (a_d, aJ g 64 c_d), (a_r, aJ g 64 c_r), (a_count, aI g 8 c_count), (a_root, aJ g 76 ruaroot), (a_rest, aJ g 76 ruarest), (a_square, aJ g 76 ruasquare), (a_part, aJ g 76 ruapart), (a_high, aJ g 76 c_high), (a_low, aJ g 76 ualow), (a_minus, aJ g 76 uaminus_4), (a_one, aJ g 76 uaone), (a_plus, aJ g 76 uaplus_3)]) (sd_runS (rest := []) (As := [.ref a_plus, .long (rx2.toInt64)]) S (ct_Model_addSmall l D g a_plus (H.size) (rx2.toInt64) ruaplus F (uaplus_3) hc) kl_Model_201 (by decide) (by decide) hK hP hD [10] rfl (by decide) rfl hl d_Model_ends_159 rfl (Nat.le_of_ble_eq_true rfl) ⟨Nat.zero_le _, Nat.zero_le _⟩) hP hD hS hA [10] [0, 1, 2, 3, 4, 5, 6, 7, 8, 9, 11, 12, 13] rfl rfl (by decide) (by decide) rfl (fun H locs hP hD hS => ?_)
  refine lv_aload_n hx hb d_Model_ends_162 rfl (lv_at hl 0 rfl) ?_
  refine lv_aload_n hx hb d_Model_ends_163 rfl (lv_at hl 0 rfl) ?_
  refine va_get (D := D) (ci := 5) (v := .ref a_plus) (C := R_Model) (T := F_Model) (N := 31) hx hb htt i_Model hown hK hP 0 rfl rfl 14 (by decide) (htt _ kf_Model_48) (fun _ h9 => h9) rfl d_Model_ends_164 ?_
  refine lv_aload_n hx hb d_Model_ends_167 rfl (lv_at hl 0 rfl) ?_
  refine va_get (D := D) (ci := 5) (v := .ref a_minus) (C := R_Model) (T := F_Model) (N := 31) hx hb htt i_Model hown hK hP 0 rfl rfl 15 (by decide) (htt _ kf_Model_51) (fun _ h9 => h9) rfl d_Model_ends_168 ?_
  refine lv_aload_n hx hb d_Model_ends_171 rfl (lv_at hl 0 rfl) ?_
  refine va_get (D := D) (ci := 5) (v := .ref a_high) (C := R_Model) (T := F_Model) (N := 31) hx hb htt i_Model hown hK hP 0 rfl rfl 17 (by decide) (htt _ kf_Model_57) (fun _ h9 => h9) rfl d_Model_ends_172 ?_
  obtain ⟨r_1, uahigh, hc, hm⟩ := sd_mb2 hm
  refine sd_ci1 (wr := [(mo, .inr (5, [.ref a_n, .ref a_d, .ref a_r, .ref a_count, .ref a_newN, .ref a_newD, .ref a_newR, .int m_made, .ref a_out, .int m_outCount, .ref a_root, .ref a_rest, .ref a_square, .ref a_part, .ref a_plus, .ref a_minus, .ref a_low, .ref a_high, .ref a_one, .ref a_two, .int r, .int m_highSign, .ref a_otherLow, .ref a_otherHigh, .ref a_digit, .ref a_topA, .ref a_underA, .ref a_topB, .ref a_underB, .ref a_quotient, .ref a_otherQuotient])), (a_n, aJ g 64 c_n), (a_d, aJ g 64 c_d), (a_r, aJ g 64 c_r), (a_count, aI g 8 c_count), (a_root, aJ g 76 ruaroot), (a_rest, aJ g 76 ruarest), (a_square, aJ g 76 ruasquare), (a_part, aJ g 76 ruapart), (a_low, aJ g 76 ualow), (a_one, aJ g 76 uaone)]) (w2 := [(mo, .inr (5, [.ref a_n, .ref a_d, .ref a_r, .ref a_count, .ref a_newN, .ref a_newD, .ref a_newR, .int m_made, .ref a_out, .int m_outCount, .ref a_root, .ref a_rest, .ref a_square, .ref a_part, .ref a_plus, .ref a_minus, .ref a_low, .ref a_high, .ref a_one, .ref a_two, .int r, .int m_highSign, .ref a_otherLow, .ref a_otherHigh, .ref a_digit, .ref a_topA, .ref a_underA, .ref a_topB, .ref a_underB, .ref a_quotient, .ref a_otherQuotient])), (a_n, aJ g 64 c_n), (a_d, aJ g 64 c_d), (a_r, aJ g 64 c_r), (a_count, aI g 8 c_count), (a_root, aJ g 76 ruaroot), (a_rest, aJ g 76 ruarest), (a_square, aJ g 76 ruasquare), (a_part, aJ g 76 ruapart), (a_low, aJ g 76 ualow), (a_one, aJ g 76 uaone), (a_plus, aJ g 76 uaplus_3), (a_minus, aJ g 76 uaminus_4), (a_high, aJ g 76 uahigh)]) (sd_runS (rest := [.ref mo]) (As := [.ref a_plus, .ref a_minus, .ref a_high]) S (ct_Model_betweenRows l D g a_plus a_minus a_high (H.size) uaplus_3 uaminus_4 c_high F (r_1, uahigh) hc) kl_Model_204 (by decide) (by decide) hK hP hD [13, 11, 9] rfl (by decide) rfl hl d_Model_ends_175 rfl (Nat.le_of_ble_eq_true rfl) ⟨Nat.zero_le _, Nat.zero_le _⟩) hP hD hS hA [13, 11, 9] [0, 1, 2, 3, 4, 5, 6, 7, 8, 10, 12] rfl rfl (by decide) (by decide) rfl (fun H locs hP hD hS => ?_)
  refine W.eq (g2 := F0 m 178 ls [.int r_1, .ref mo]) rfl ?_
  refine sd_put (ci := 5) (v := .int r_1) (ty := .int) (C := R_Model) (T := F_Model) (N := 31) (ws2 := [(mo, .inr (5, [.ref a_n, .ref a_d, .ref a_r, .ref a_count, .ref a_newN, .ref a_newD, .ref a_newR, .int m_made, .ref a_out, .int m_outCount, .ref a_root, .ref a_rest, .ref a_square, .ref a_part, .ref a_plus, .ref a_minus, .ref a_low, .ref a_high, .ref a_one, .ref a_two, .int r, .int r_1, .ref a_otherLow, .ref a_otherHigh, .ref a_digit, .ref a_topA, .ref a_underA, .ref a_topB, .ref a_underB, .ref a_quotient, .ref a_otherQuotient])), (a_n, aJ g 64 c_n), (a_d, aJ g 64 c_d), (a_r, aJ g 64 c_r), (a_count, aI g 8 c_count), (a_root, aJ g 76 ruaroot), (a_rest, aJ g 76 ruarest), (a_square, aJ g 76 ruasquare), (a_part, aJ g 76 ruapart), (a_low, aJ g 76 ualow), (a_one, aJ g 76 uaone), (a_plus, aJ g 76 uaplus_3), (a_minus, aJ g 76 uaminus_4), (a_high, aJ g 76 uahigh)]) hx hb htt i_Model t_Model t_Model_ok n_Model hown hK hP hD hS 0 rfl rfl 21 (by decide) kf_Model_211 (fun _ h9 => h9) rfl (by decide +kernel) rfl rfl (Nat.le_of_ble_eq_true rfl) rfl d_Model_ends_178 (fun H locs hP hD hS => ?_)
  exact sd_v1ret (u := (r, r_1, ruaroot, ruarest, ruasquare, ruapart, uaplus_3, uaminus_4, ualow, uahigh, uaone)) hQ hx hb hr hlk hK (hP.sub [0, 1, 2, 3, 4, 5, 6, 7, 8, 11, 12, 9, 13, 10] rfl) (hD.sub [0, 1, 2, 3, 4, 5, 6, 7, 8, 11, 12, 9, 13, 10] (by decide) rfl) hS (Option.some.inj hm).symm d_Model_ends_181
theorem d_Model_isBelow_0 : decode b_Model_isBelow 0 = .ok (.iload_n 0, 1) := by decide +kernel
theorem d_Model_isBelow_1 : decode b_Model_isBelow 1 = .ok (.iload_n 2, 1) := by decide +kernel
theorem d_Model_isBelow_2 : decode b_Model_isBelow 2 = .ok (.if_icmp .eq 14, 3) := by decide +kernel
theorem d_Model_isBelow_5 : decode b_Model_isBelow 5 = .ok (.iload_n 0, 1) := by decide +kernel
theorem d_Model_isBelow_6 : decode b_Model_isBelow 6 = .ok (.iload_n 2, 1) := by decide +kernel
theorem d_Model_isBelow_7 : decode b_Model_isBelow 7 = .ok (.if_icmp .ge 7, 3) := by decide +kernel
theorem d_Model_isBelow_10 : decode b_Model_isBelow 10 = .ok (.iconst 1, 1) := by decide +kernel
theorem d_Model_isBelow_11 : decode b_Model_isBelow 11 = .ok (.goto 4, 3) := by decide +kernel
theorem d_Model_isBelow_14 : decode b_Model_isBelow 14 = .ok (.iconst 0, 1) := by decide +kernel
theorem d_Model_isBelow_15 : decode b_Model_isBelow 15 = .ok (.ireturn, 1) := by decide +kernel
theorem d_Model_isBelow_16 : decode b_Model_isBelow 16 = .ok (.iload_n 0, 1) := by decide +kernel
theorem d_Model_isBelow_17 : decode b_Model_isBelow 17 = .ok (.ifCond .ge 19, 3) := by decide +kernel
theorem d_Model_isBelow_20 : decode b_Model_isBelow 20 = .ok (.aload_n 1, 1) := by decide +kernel
theorem d_Model_isBelow_21 : decode b_Model_isBelow 21 = .ok (.aload_n 3, 1) := by decide +kernel
theorem d_Model_isBelow_22 : decode b_Model_isBelow 22 = .ok (.invokestatic 176, 3) := by decide +kernel
theorem d_Model_isBelow_25 : decode b_Model_isBelow 25 = .ok (.ifCond .le 7, 3) := by decide +kernel
theorem d_Model_isBelow_28 : decode b_Model_isBelow 28 = .ok (.iconst 1, 1) := by decide +kernel
theorem d_Model_isBelow_29 : decode b_Model_isBelow 29 = .ok (.goto 20, 3) := by decide +kernel
theorem d_Model_isBelow_32 : decode b_Model_isBelow 32 = .ok (.iconst 0, 1) := by decide +kernel
theorem d_Model_isBelow_33 : decode b_Model_isBelow 33 = .ok (.goto 16, 3) := by decide +kernel
theorem d_Model_isBelow_36 : decode b_Model_isBelow 36 = .ok (.aload_n 1, 1) := by decide +kernel
theorem d_Model_isBelow_37 : decode b_Model_isBelow 37 = .ok (.aload_n 3, 1) := by decide +kernel
theorem d_Model_isBelow_38 : decode b_Model_isBelow 38 = .ok (.invokestatic 176, 3) := by decide +kernel
theorem d_Model_isBelow_41 : decode b_Model_isBelow 41 = .ok (.ifCond .ge 7, 3) := by decide +kernel
theorem d_Model_isBelow_44 : decode b_Model_isBelow 44 = .ok (.iconst 1, 1) := by decide +kernel
theorem d_Model_isBelow_45 : decode b_Model_isBelow 45 = .ok (.goto 4, 3) := by decide +kernel
theorem d_Model_isBelow_48 : decode b_Model_isBelow 48 = .ok (.iconst 0, 1) := by decide +kernel
theorem d_Model_isBelow_49 : decode b_Model_isBelow 49 = .ok (.ireturn, 1) := by decide +kernel
def mf_Model_isBelow (F : Nat) (vS : Int32) (vO : Int32) (cE : Nat → Int64) (cT : Nat → Int64) : Option (Int32) :=
  (if vS = vO then (sd_b1 (if 0 ≤ vS then (sd_b1 (mf_Model_compareRows F cE cT) fun r => (if 0 ≤ r then (some ((0 : Int32))) else (some ((1 : Int32))))) else (sd_b1 (mf_Model_compareRows F cE cT) fun r_1 => (if r_1 ≤ 0 then (some ((0 : Int32))) else (some ((1 : Int32)))))) fun y => (sd_g (sd_b01 y) (some (y)))) else (sd_b1 (if vO ≤ vS then (some ((0 : Int32))) else (some ((1 : Int32)))) fun y_1 => (sd_g (sd_b01 y_1) (some (y_1)))))
abbrev rm_Model_isBelow : Room := { frames := 1, cells := 0, slots := 0, locals := 22 }
set_option maxHeartbeats 4000000 in
set_option maxRecDepth 100000 in
theorem ct_Model_isBelow (l : Launch) (D : va_G) (g : G4) (aE : Nat) (aT : Nat) (sz : Nat) (vS : Int32) (vO : Int32) (cE : Nat → Int64) (cT : Nat → Int64) (F : Nat) (res : Int32) (hm : mf_Model_isBelow F vS vO cE cT = some res) : Met l y_Model_isBelow (.code y_Model_isBelow b_Model_isBelow 4 (some .boolean) :: sd_tb) rm_Model_isBelow (sd_PW D g [.int vS, .ref aE, .int vO, .ref aT] sz [(aE, aJ g 76 cE), (aT, aJ g 76 cT)]) (sd_Qi0 D g res [(aE, aJ g 76 cE), (aT, aJ g 76 cT)] (va_A [(aE, aJ g 76 cE), (aT, aJ g 76 cT)] sz)) 0 0 (va_A [(aE, aJ g 76 cE), (aT, aJ g 76 cT)] sz) := by
  refine sd_met (Qf := fun A => sd_Qi0 D g res [(aE, aJ g 76 cE), (aT, aJ g 76 cT)] A) (own := R_Model) (by decide +kernel) rfl (Nat.le_of_ble_eq_true rfl) ?_
  intro p e s m args below meth c S hr hlk hK A hA Q hQ H locs hP hD hS ls hl
  have hx := S.1
  have hb := S.2.1
  have hml := S.2.2.1
  have hown := S.2.2.2.1
  have htt := sd_tt S
  replace hl : lv_has ls 4 [(0, .int vS), (1, .ref aE), (2, .int vO), (3, .ref aT)] := hl
  unfold mf_Model_isBelow at hm
  refine lv_iload_n hx hb d_Model_isBelow_0 rfl (lv_at hl 0 rfl) ?_
  refine lv_iload_n hx hb d_Model_isBelow_1 rfl (lv_at hl 2 rfl) ?_
  refine lv_icmp_eq (tgt := 16) hx hb d_Model_isBelow_2 (by decide) (fun hc => ?_) (fun hc => ?_)
  · have hm := sd_mt hc hm
    refine lv_iload_n hx hb d_Model_isBelow_16 rfl (lv_at hl 0 rfl) ?_
    obtain ⟨y, hv, hm⟩ := sd_mb1 hm
    have J49_1 : ∀ (H : Heap) (locs : List Loc) (ls : Array Slot), va_P D classes [(aE, aJ g 76 cE), (aT, aJ g 76 cT)] H → va_D A [(aE, aJ g 76 cE), (aT, aJ g 76 cT)] → va_S A s.heap H locs → lv_has ls 4 [] → W p l e rm_Model_isBelow s m args below meth c H locs 0 0 Q (F0 m 49 ls [.int y]) := by
      intro H locs ls hP hD hS hl
      obtain ⟨h_2, hm⟩ := sd_mg hm
      exact sd_z0ret hQ hx hb hr hlk (sd_zb h_2) hK (hP.sub [0, 1] rfl) (hD.sub [0, 1] (by decide) rfl) hS (Option.some.inj hm).symm d_Model_isBelow_49
    replace hm := hv
    refine lv_if_ge (tgt := 36) hx hb d_Model_isBelow_17 (by decide) (fun hc => ?_) (fun hc => ?_)
    · have hm := sd_mt hc hm
      refine lv_aload_n hx hb d_Model_isBelow_36 rfl (lv_at hl 1 rfl) ?_
      refine lv_aload_n hx hb d_Model_isBelow_37 rfl (lv_at hl 3 rfl) ?_
      obtain ⟨r, hc, hm⟩ := sd_mb1 hm
      refine sd_ci0 (wr := []) (w2 := [(aE, aJ g 76 cE), (aT, aJ g 76 cT)]) (sd_runS (rest := []) (As := [.ref aE, .ref aT]) S (ct_Model_compareRows l D g aE aT (H.size) cE cT F (r) hc) kl_Model_176 (by decide) (by decide) hK hP hD [0, 1] rfl (by decide) rfl hl d_Model_isBelow_38 rfl (Nat.le_of_ble_eq_true rfl) ⟨Nat.zero_le _, Nat.zero_le _⟩) hP hD hS hA [0, 1] [] rfl rfl (by decide) (by decide) rfl (fun H locs hP hD hS => ?_)
      refine W.eq (g2 := F0 m 41 ls [.int r]) rfl ?_
      refine lv_if_ge (tgt := 48) hx hb d_Model_isBelow_41 (by decide) (fun hc => ?_) (fun hc => ?_)
      · have hm := sd_mt hc hm
        refine lv_iconst (v := (0 : Int32)) hx hb d_Model_isBelow_48 (by decide) ?_
        cases hm
        exact J49_1 H locs ls (hP.sub [0, 1] rfl) (hD.sub [0, 1] (by decide) rfl) hS (lv_sub hl [] rfl)
      · have hm := sd_mf hc hm
        refine lv_iconst (v := (1 : Int32)) hx hb d_Model_isBelow_44 (by decide) ?_
        refine lv_goto (tgt := 49) hx hb d_Model_isBelow_45 (by decide) ?_
        cases hm
        exact J49_1 H locs ls (hP.sub [0, 1] rfl) (hD.sub [0, 1] (by decide) rfl) hS (lv_sub hl [] rfl)
    · have hm := sd_mf hc hm
      refine lv_aload_n hx hb d_Model_isBelow_20 rfl (lv_at hl 1 rfl) ?_
      refine lv_aload_n hx hb d_Model_isBelow_21 rfl (lv_at hl 3 rfl) ?_
      obtain ⟨r_1, hc, hm⟩ := sd_mb1 hm
      refine sd_ci0 (wr := []) (w2 := [(aE, aJ g 76 cE), (aT, aJ g 76 cT)]) (sd_runS (rest := []) (As := [.ref aE, .ref aT]) S (ct_Model_compareRows l D g aE aT (H.size) cE cT F (r_1) hc) kl_Model_176 (by decide) (by decide) hK hP hD [0, 1] rfl (by decide) rfl hl d_Model_isBelow_22 rfl (Nat.le_of_ble_eq_true rfl) ⟨Nat.zero_le _, Nat.zero_le _⟩) hP hD hS hA [0, 1] [] rfl rfl (by decide) (by decide) rfl (fun H locs hP hD hS => ?_)
      refine W.eq (g2 := F0 m 25 ls [.int r_1]) rfl ?_
      refine lv_if_le (tgt := 32) hx hb d_Model_isBelow_25 (by decide) (fun hc => ?_) (fun hc => ?_)
      · have hm := sd_mt hc hm
        refine lv_iconst (v := (0 : Int32)) hx hb d_Model_isBelow_32 (by decide) ?_
        refine lv_goto (tgt := 49) hx hb d_Model_isBelow_33 (by decide) ?_
        cases hm
        exact J49_1 H locs ls (hP.sub [0, 1] rfl) (hD.sub [0, 1] (by decide) rfl) hS (lv_sub hl [] rfl)
      · have hm := sd_mf hc hm
        refine lv_iconst (v := (1 : Int32)) hx hb d_Model_isBelow_28 (by decide) ?_
        refine lv_goto (tgt := 49) hx hb d_Model_isBelow_29 (by decide) ?_
        cases hm
        exact J49_1 H locs ls (hP.sub [0, 1] rfl) (hD.sub [0, 1] (by decide) rfl) hS (lv_sub hl [] rfl)
  · have hm := sd_mf hc hm
    refine lv_iload_n hx hb d_Model_isBelow_5 rfl (lv_at hl 0 rfl) ?_
    refine lv_iload_n hx hb d_Model_isBelow_6 rfl (lv_at hl 2 rfl) ?_
    obtain ⟨y_1, hv, hm⟩ := sd_mb1 hm
    have J15_3 : ∀ (H : Heap) (locs : List Loc) (ls : Array Slot), va_P D classes [(aE, aJ g 76 cE), (aT, aJ g 76 cT)] H → va_D A [(aE, aJ g 76 cE), (aT, aJ g 76 cT)] → va_S A s.heap H locs → lv_has ls 4 [] → W p l e rm_Model_isBelow s m args below meth c H locs 0 0 Q (F0 m 15 ls [.int y_1]) := by
      intro H locs ls hP hD hS hl
      obtain ⟨h_4, hm⟩ := sd_mg hm
      exact sd_z0ret hQ hx hb hr hlk (sd_zb h_4) hK (hP.sub [0, 1] rfl) (hD.sub [0, 1] (by decide) rfl) hS (Option.some.inj hm).symm d_Model_isBelow_15
    replace hm := hv
    refine lv_icmp_ge (tgt := 14) hx hb d_Model_isBelow_7 (by decide) (fun hc => ?_) (fun hc => ?_)
    · have hm := sd_mt hc hm
      refine lv_iconst (v := (0 : Int32)) hx hb d_Model_isBelow_14 (by decide) ?_
      cases hm
      exact J15_3 H locs ls (hP.sub [0, 1] rfl) (hD.sub [0, 1] (by decide) rfl) hS (lv_sub hl [] rfl)
    · have hm := sd_mf hc hm
      refine lv_iconst (v := (1 : Int32)) hx hb d_Model_isBelow_10 (by decide) ?_
      refine lv_goto (tgt := 15) hx hb d_Model_isBelow_11 (by decide) ?_
      cases hm
      exact J15_3 H locs ls (hP.sub [0, 1] rfl) (hD.sub [0, 1] (by decide) rfl) hS (lv_sub hl [] rfl)
theorem d_Model_same_0 : decode b_Model_same 0 = .ok (.iload_n 1, 1) := by decide +kernel
theorem d_Model_same_1 : decode b_Model_same 1 = .ok (.invokestatic 109, 3) := by decide +kernel
theorem d_Model_same_4 : decode b_Model_same 4 = .ok (.ifCond .eq 25, 3) := by decide +kernel
theorem d_Model_same_7 : decode b_Model_same 7 = .ok (.iload_n 2, 1) := by decide +kernel
theorem d_Model_same_8 : decode b_Model_same 8 = .ok (.invokestatic 109, 3) := by decide +kernel
theorem d_Model_same_11 : decode b_Model_same 11 = .ok (.ifCond .eq 18, 3) := by decide +kernel
theorem d_Model_same_14 : decode b_Model_same 14 = .ok (.aload_n 0, 1) := by decide +kernel
theorem d_Model_same_15 : decode b_Model_same 15 = .ok (.getfield 19, 3) := by decide +kernel
theorem d_Model_same_18 : decode b_Model_same 18 = .ok (.iload_n 1, 1) := by decide +kernel
theorem d_Model_same_19 : decode b_Model_same 19 = .ok (.iaload, 1) := by decide +kernel
theorem d_Model_same_20 : decode b_Model_same 20 = .ok (.aload_n 0, 1) := by decide +kernel
theorem d_Model_same_21 : decode b_Model_same 21 = .ok (.getfield 19, 3) := by decide +kernel
theorem d_Model_same_24 : decode b_Model_same 24 = .ok (.iload_n 2, 1) := by decide +kernel
theorem d_Model_same_25 : decode b_Model_same 25 = .ok (.iaload, 1) := by decide +kernel
theorem d_Model_same_26 : decode b_Model_same 26 = .ok (.if_icmp .eq 5, 3) := by decide +kernel
theorem d_Model_same_29 : decode b_Model_same 29 = .ok (.iconst 0, 1) := by decide +kernel
theorem d_Model_same_30 : decode b_Model_same 30 = .ok (.ireturn, 1) := by decide +kernel
theorem d_Model_same_31 : decode b_Model_same 31 = .ok (.iconst 0, 1) := by decide +kernel
theorem d_Model_same_32 : decode b_Model_same 32 = .ok (.istore_n 3, 1) := by decide +kernel
theorem d_Model_same_33 : decode b_Model_same 33 = .ok (.iload_n 3, 1) := by decide +kernel
theorem d_Model_same_34 : decode b_Model_same 34 = .ok (.aload_n 0, 1) := by decide +kernel
theorem d_Model_same_35 : decode b_Model_same 35 = .ok (.getfield 19, 3) := by decide +kernel
theorem d_Model_same_38 : decode b_Model_same 38 = .ok (.iload_n 1, 1) := by decide +kernel
theorem d_Model_same_39 : decode b_Model_same 39 = .ok (.iaload, 1) := by decide +kernel
theorem d_Model_same_40 : decode b_Model_same 40 = .ok (.if_icmp .ge 89, 3) := by decide +kernel
theorem d_Model_same_43 : decode b_Model_same 43 = .ok (.aload_n 0, 1) := by decide +kernel
theorem d_Model_same_44 : decode b_Model_same 44 = .ok (.getfield 9, 3) := by decide +kernel
theorem d_Model_same_47 : decode b_Model_same 47 = .ok (.bipush 8, 2) := by decide +kernel
theorem d_Model_same_49 : decode b_Model_same 49 = .ok (.iload_n 1, 1) := by decide +kernel
theorem d_Model_same_50 : decode b_Model_same 50 = .ok (.imul, 1) := by decide +kernel
theorem d_Model_same_51 : decode b_Model_same 51 = .ok (.iload_n 3, 1) := by decide +kernel
theorem d_Model_same_52 : decode b_Model_same 52 = .ok (.iadd, 1) := by decide +kernel
theorem d_Model_same_53 : decode b_Model_same 53 = .ok (.laload, 1) := by decide +kernel
theorem d_Model_same_54 : decode b_Model_same 54 = .ok (.aload_n 0, 1) := by decide +kernel
theorem d_Model_same_55 : decode b_Model_same 55 = .ok (.getfield 9, 3) := by decide +kernel
theorem d_Model_same_58 : decode b_Model_same 58 = .ok (.bipush 8, 2) := by decide +kernel
theorem d_Model_same_60 : decode b_Model_same 60 = .ok (.iload_n 2, 1) := by decide +kernel
theorem d_Model_same_61 : decode b_Model_same 61 = .ok (.imul, 1) := by decide +kernel
theorem d_Model_same_62 : decode b_Model_same 62 = .ok (.iload_n 3, 1) := by decide +kernel
theorem d_Model_same_63 : decode b_Model_same 63 = .ok (.iadd, 1) := by decide +kernel
theorem d_Model_same_64 : decode b_Model_same 64 = .ok (.laload, 1) := by decide +kernel
theorem d_Model_same_65 : decode b_Model_same 65 = .ok (.lcmp, 1) := by decide +kernel
theorem d_Model_same_66 : decode b_Model_same 66 = .ok (.ifCond .ne 55, 3) := by decide +kernel
theorem d_Model_same_69 : decode b_Model_same 69 = .ok (.aload_n 0, 1) := by decide +kernel
theorem d_Model_same_70 : decode b_Model_same 70 = .ok (.getfield 13, 3) := by decide +kernel
theorem d_Model_same_73 : decode b_Model_same 73 = .ok (.bipush 8, 2) := by decide +kernel
theorem d_Model_same_75 : decode b_Model_same 75 = .ok (.iload_n 1, 1) := by decide +kernel
theorem d_Model_same_76 : decode b_Model_same 76 = .ok (.imul, 1) := by decide +kernel
theorem d_Model_same_77 : decode b_Model_same 77 = .ok (.iload_n 3, 1) := by decide +kernel
theorem d_Model_same_78 : decode b_Model_same 78 = .ok (.iadd, 1) := by decide +kernel
theorem d_Model_same_79 : decode b_Model_same 79 = .ok (.laload, 1) := by decide +kernel
theorem d_Model_same_80 : decode b_Model_same 80 = .ok (.aload_n 0, 1) := by decide +kernel
theorem d_Model_same_81 : decode b_Model_same 81 = .ok (.getfield 13, 3) := by decide +kernel
theorem d_Model_same_84 : decode b_Model_same 84 = .ok (.bipush 8, 2) := by decide +kernel
theorem d_Model_same_86 : decode b_Model_same 86 = .ok (.iload_n 2, 1) := by decide +kernel
theorem d_Model_same_87 : decode b_Model_same 87 = .ok (.imul, 1) := by decide +kernel
theorem d_Model_same_88 : decode b_Model_same 88 = .ok (.iload_n 3, 1) := by decide +kernel
theorem d_Model_same_89 : decode b_Model_same 89 = .ok (.iadd, 1) := by decide +kernel
theorem d_Model_same_90 : decode b_Model_same 90 = .ok (.laload, 1) := by decide +kernel
theorem d_Model_same_91 : decode b_Model_same 91 = .ok (.lcmp, 1) := by decide +kernel
theorem d_Model_same_92 : decode b_Model_same 92 = .ok (.ifCond .ne 29, 3) := by decide +kernel
theorem d_Model_same_95 : decode b_Model_same 95 = .ok (.aload_n 0, 1) := by decide +kernel
theorem d_Model_same_96 : decode b_Model_same 96 = .ok (.getfield 16, 3) := by decide +kernel
theorem d_Model_same_99 : decode b_Model_same 99 = .ok (.bipush 8, 2) := by decide +kernel
theorem d_Model_same_101 : decode b_Model_same 101 = .ok (.iload_n 1, 1) := by decide +kernel
theorem d_Model_same_102 : decode b_Model_same 102 = .ok (.imul, 1) := by decide +kernel
theorem d_Model_same_103 : decode b_Model_same 103 = .ok (.iload_n 3, 1) := by decide +kernel
theorem d_Model_same_104 : decode b_Model_same 104 = .ok (.iadd, 1) := by decide +kernel
theorem d_Model_same_105 : decode b_Model_same 105 = .ok (.laload, 1) := by decide +kernel
theorem d_Model_same_106 : decode b_Model_same 106 = .ok (.aload_n 0, 1) := by decide +kernel
theorem d_Model_same_107 : decode b_Model_same 107 = .ok (.getfield 16, 3) := by decide +kernel
theorem d_Model_same_110 : decode b_Model_same 110 = .ok (.bipush 8, 2) := by decide +kernel
theorem d_Model_same_112 : decode b_Model_same 112 = .ok (.iload_n 2, 1) := by decide +kernel
theorem d_Model_same_113 : decode b_Model_same 113 = .ok (.imul, 1) := by decide +kernel
theorem d_Model_same_114 : decode b_Model_same 114 = .ok (.iload_n 3, 1) := by decide +kernel
theorem d_Model_same_115 : decode b_Model_same 115 = .ok (.iadd, 1) := by decide +kernel
theorem d_Model_same_116 : decode b_Model_same 116 = .ok (.laload, 1) := by decide +kernel
theorem d_Model_same_117 : decode b_Model_same 117 = .ok (.lcmp, 1) := by decide +kernel
theorem d_Model_same_118 : decode b_Model_same 118 = .ok (.ifCond .eq 5, 3) := by decide +kernel
theorem d_Model_same_121 : decode b_Model_same 121 = .ok (.iconst 0, 1) := by decide +kernel
theorem d_Model_same_122 : decode b_Model_same 122 = .ok (.ireturn, 1) := by decide +kernel
theorem d_Model_same_123 : decode b_Model_same 123 = .ok (.iinc 3 1, 3) := by decide +kernel
theorem d_Model_same_126 : decode b_Model_same 126 = .ok (.goto (-93), 3) := by decide +kernel
theorem d_Model_same_129 : decode b_Model_same 129 = .ok (.iconst 1, 1) := by decide +kernel
theorem d_Model_same_130 : decode b_Model_same 130 = .ok (.ireturn, 1) := by decide +kernel
def mf_Model_same_L33 (vI : Int32) (c_count : Nat → Int32) (vJ : Int32) (c_n : Nat → Int64) (c_d : Nat → Int64) (c_r : Nat → Int64) : Nat → Int32 → Option (Nat)
  | 0, _ => none
  | fu + 1, x3 => (sd_g (sd_ix vI 8) (if (c_count vI.toNatClampNeg) ≤ x3 then (some (1)) else (sd_g (sd_ix (((8 : Int32) * vI) + x3) 64) (sd_g (sd_ix (((8 : Int32) * vJ) + x3) 64) (if (c_n (((8 : Int32) * vI) + x3).toNatClampNeg) = (c_n (((8 : Int32) * vJ) + x3).toNatClampNeg) then (sd_g (sd_ix (((8 : Int32) * vI) + x3) 64) (sd_g (sd_ix (((8 : Int32) * vJ) + x3) 64) (if (c_d (((8 : Int32) * vI) + x3).toNatClampNeg) = (c_d (((8 : Int32) * vJ) + x3).toNatClampNeg) then (sd_g (sd_ix (((8 : Int32) * vI) + x3) 64) (sd_g (sd_ix (((8 : Int32) * vJ) + x3) 64) (if (c_r (((8 : Int32) * vI) + x3).toNatClampNeg) = (c_r (((8 : Int32) * vJ) + x3).toNatClampNeg) then (sd_let (x3 + (1 : Int32)) fun x3_1 => ((mf_Model_same_L33 vI c_count vJ c_n c_d c_r fu) x3_1)) else (some (0))))) else (some (0))))) else (some (0)))))))
def mf_Model_same (F : Nat) (vI : Int32) (vJ : Int32) (m_made : Int32) (m_outCount : Int32) (m_lowSign : Int32) (m_highSign : Int32) (c_n : Nat → Int64) (c_d : Nat → Int64) (c_r : Nat → Int64) (c_count : Nat → Int32) : Option (Int32) :=
  (sd_b1 (mf_Model_is F vI) fun r => (if r = 0 then (some ((0 : Int32))) else (sd_b1 (mf_Model_is F vJ) fun r_1 => (if r_1 = 0 then (some ((0 : Int32))) else (sd_g (sd_ix vI 8) (sd_g (sd_ix vJ 8) (if (c_count vI.toNatClampNeg) = (c_count vJ.toNatClampNeg) then (sd_b1 (mf_Model_same_L33 vI c_count vJ c_n c_d c_r F (0 : Int32)) fun tg => (if tg = 0 then (some ((0 : Int32))) else (some ((1 : Int32))))) else (some ((0 : Int32))))))))))
abbrev rm_Model_same : Room := { frames := 1, cells := 0, slots := 0, locals := 20 }
set_option maxHeartbeats 4000000 in
set_option maxRecDepth 100000 in
theorem ct_Model_same (l : Launch) (D : va_G) (g : G4) (mo : Nat) (a_n : Nat) (a_d : Nat) (a_r : Nat) (a_count : Nat) (a_newN : Nat) (a_newD : Nat) (a_newR : Nat) (a_out : Nat) (a_root : Nat) (a_rest : Nat) (a_square : Nat) (a_part : Nat) (a_plus : Nat) (a_minus : Nat) (a_low : Nat) (a_high : Nat) (a_one : Nat) (a_two : Nat) (a_otherLow : Nat) (a_otherHigh : Nat) (a_digit : Nat) (a_topA : Nat) (a_underA : Nat) (a_topB : Nat) (a_underB : Nat) (a_quotient : Nat) (a_otherQuotient : Nat) (sz : Nat) (vI : Int32) (vJ : Int32) (m_made : Int32) (m_outCount : Int32) (m_lowSign : Int32) (m_highSign : Int32) (c_n : Nat → Int64) (c_d : Nat → Int64) (c_r : Nat → Int64) (c_count : Nat → Int32) (F : Nat) (res : Int32) (hm : mf_Model_same F vI vJ m_made m_outCount m_lowSign m_highSign c_n c_d c_r c_count = some res) : Met l y_Model_same (.code y_Model_same b_Model_same 4 (some .boolean) :: sd_tb) rm_Model_same (sd_PW D g [.ref mo, .int vI, .int vJ] sz [(mo, .inr (5, [.ref a_n, .ref a_d, .ref a_r, .ref a_count, .ref a_newN, .ref a_newD, .ref a_newR, .int m_made, .ref a_out, .int m_outCount, .ref a_root, .ref a_rest, .ref a_square, .ref a_part, .ref a_plus, .ref a_minus, .ref a_low, .ref a_high, .ref a_one, .ref a_two, .int m_lowSign, .int m_highSign, .ref a_otherLow, .ref a_otherHigh, .ref a_digit, .ref a_topA, .ref a_underA, .ref a_topB, .ref a_underB, .ref a_quotient, .ref a_otherQuotient])), (a_n, aJ g 64 c_n), (a_d, aJ g 64 c_d), (a_r, aJ g 64 c_r), (a_count, aI g 8 c_count)]) (sd_Qi0 D g res [(mo, .inr (5, [.ref a_n, .ref a_d, .ref a_r, .ref a_count, .ref a_newN, .ref a_newD, .ref a_newR, .int m_made, .ref a_out, .int m_outCount, .ref a_root, .ref a_rest, .ref a_square, .ref a_part, .ref a_plus, .ref a_minus, .ref a_low, .ref a_high, .ref a_one, .ref a_two, .int m_lowSign, .int m_highSign, .ref a_otherLow, .ref a_otherHigh, .ref a_digit, .ref a_topA, .ref a_underA, .ref a_topB, .ref a_underB, .ref a_quotient, .ref a_otherQuotient])), (a_n, aJ g 64 c_n), (a_d, aJ g 64 c_d), (a_r, aJ g 64 c_r), (a_count, aI g 8 c_count)] (va_A [(mo, .inr (5, [.ref a_n, .ref a_d, .ref a_r, .ref a_count, .ref a_newN, .ref a_newD, .ref a_newR, .int m_made, .ref a_out, .int m_outCount, .ref a_root, .ref a_rest, .ref a_square, .ref a_part, .ref a_plus, .ref a_minus, .ref a_low, .ref a_high, .ref a_one, .ref a_two, .int m_lowSign, .int m_highSign, .ref a_otherLow, .ref a_otherHigh, .ref a_digit, .ref a_topA, .ref a_underA, .ref a_topB, .ref a_underB, .ref a_quotient, .ref a_otherQuotient])), (a_n, aJ g 64 c_n), (a_d, aJ g 64 c_d), (a_r, aJ g 64 c_r), (a_count, aI g 8 c_count)] sz)) 0 0 (va_A [(mo, .inr (5, [.ref a_n, .ref a_d, .ref a_r, .ref a_count, .ref a_newN, .ref a_newD, .ref a_newR, .int m_made, .ref a_out, .int m_outCount, .ref a_root, .ref a_rest, .ref a_square, .ref a_part, .ref a_plus, .ref a_minus, .ref a_low, .ref a_high, .ref a_one, .ref a_two, .int m_lowSign, .int m_highSign, .ref a_otherLow, .ref a_otherHigh, .ref a_digit, .ref a_topA, .ref a_underA, .ref a_topB, .ref a_underB, .ref a_quotient, .ref a_otherQuotient])), (a_n, aJ g 64 c_n), (a_d, aJ g 64 c_d), (a_r, aJ g 64 c_r), (a_count, aI g 8 c_count)] sz) := by
  refine sd_met (Qf := fun A => sd_Qi0 D g res [(mo, .inr (5, [.ref a_n, .ref a_d, .ref a_r, .ref a_count, .ref a_newN, .ref a_newD, .ref a_newR, .int m_made, .ref a_out, .int m_outCount, .ref a_root, .ref a_rest, .ref a_square, .ref a_part, .ref a_plus, .ref a_minus, .ref a_low, .ref a_high, .ref a_one, .ref a_two, .int m_lowSign, .int m_highSign, .ref a_otherLow, .ref a_otherHigh, .ref a_digit, .ref a_topA, .ref a_underA, .ref a_topB, .ref a_underB, .ref a_quotient, .ref a_otherQuotient])), (a_n, aJ g 64 c_n), (a_d, aJ g 64 c_d), (a_r, aJ g 64 c_r), (a_count, aI g 8 c_count)] A) (own := R_Model) (by decide +kernel) rfl (Nat.le_of_ble_eq_true rfl) ?_
  intro p e s m args below meth c S hr hlk hK A hA Q hQ H locs hP hD hS ls hl
  have hx := S.1
  have hb := S.2.1
  have hml := S.2.2.1
  have hown := S.2.2.2.1
  have htt := sd_tt S
  replace hl : lv_has ls 4 [(0, .ref mo), (1, .int vI), (2, .int vJ)] := hl
  unfold mf_Model_same at hm
  refine lv_iload_n hx hb d_Model_same_0 rfl (lv_at hl 1 rfl) ?_
  obtain ⟨r, hc, hm⟩ := sd_mb1 hm
  refine sd_ci0 (wr := [(mo, .inr (5, [.ref a_n, .ref a_d, .ref a_r, .ref a_count, .ref a_newN, .ref a_newD, .ref a_newR, .int m_made, .ref a_out, .int m_outCount, .ref a_root, .ref a_rest, .ref a_square, .ref a_part, .ref a_plus, .ref a_minus, .ref a_low, .ref a_high, .ref a_one, .ref a_two, .int m_lowSign, .int m_highSign, .ref a_otherLow, .ref a_otherHigh, .ref a_digit, .ref a_topA, .ref a_underA, .ref a_topB, .ref a_underB, .ref a_quotient, .ref a_otherQuotient])), (a_n, aJ g 64 c_n), (a_d, aJ g 64 c_d), (a_r, aJ g 64 c_r), (a_count, aI g 8 c_count)]) (w2 := [(mo, .inr (5, [.ref a_n, .ref a_d, .ref a_r, .ref a_count, .ref a_newN, .ref a_newD, .ref a_newR, .int m_made, .ref a_out, .int m_outCount, .ref a_root, .ref a_rest, .ref a_square, .ref a_part, .ref a_plus, .ref a_minus, .ref a_low, .ref a_high, .ref a_one, .ref a_two, .int m_lowSign, .int m_highSign, .ref a_otherLow, .ref a_otherHigh, .ref a_digit, .ref a_topA, .ref a_underA, .ref a_topB, .ref a_underB, .ref a_quotient, .ref a_otherQuotient])), (a_n, aJ g 64 c_n), (a_d, aJ g 64 c_d), (a_r, aJ g 64 c_r), (a_count, aI g 8 c_count)]) (sd_runS (rest := []) (As := [.int vI]) S (ct_Model_is l D g (H.size) vI F (r) hc) kl_Model_109 (by decide) (by decide) hK hP hD [] rfl (by decide) rfl hl d_Model_same_1 rfl (Nat.le_of_ble_eq_true rfl) ⟨Nat.zero_le _, Nat.zero_le _⟩) hP hD hS hA [] [0, 1, 2, 3, 4] rfl rfl (by decide) (by decide) rfl (fun H locs hP hD hS => ?_)
  refine W.eq (g2 := F0 m 4 ls [.int r]) rfl ?_
  refine lv_if_eq (tgt := 29) hx hb d_Model_same_4 (by decide) (fun hc => ?_) (fun hc => ?_)
  · have hm := sd_mt hc hm
    refine lv_iconst (v := (0 : Int32)) hx hb d_Model_same_29 (by decide) ?_
    exact sd_z0ret hQ hx hb hr hlk rfl hK (hP.sub [0, 1, 2, 3, 4] rfl) (hD.sub [0, 1, 2, 3, 4] (by decide) rfl) hS (Option.some.inj hm).symm d_Model_same_30
  · have hm := sd_mf hc hm
    refine lv_iload_n hx hb d_Model_same_7 rfl (lv_at hl 2 rfl) ?_
    obtain ⟨r_1, hc, hm⟩ := sd_mb1 hm
    refine sd_ci0 (wr := [(mo, .inr (5, [.ref a_n, .ref a_d, .ref a_r, .ref a_count, .ref a_newN, .ref a_newD, .ref a_newR, .int m_made, .ref a_out, .int m_outCount, .ref a_root, .ref a_rest, .ref a_square, .ref a_part, .ref a_plus, .ref a_minus, .ref a_low, .ref a_high, .ref a_one, .ref a_two, .int m_lowSign, .int m_highSign, .ref a_otherLow, .ref a_otherHigh, .ref a_digit, .ref a_topA, .ref a_underA, .ref a_topB, .ref a_underB, .ref a_quotient, .ref a_otherQuotient])), (a_n, aJ g 64 c_n), (a_d, aJ g 64 c_d), (a_r, aJ g 64 c_r), (a_count, aI g 8 c_count)]) (w2 := [(mo, .inr (5, [.ref a_n, .ref a_d, .ref a_r, .ref a_count, .ref a_newN, .ref a_newD, .ref a_newR, .int m_made, .ref a_out, .int m_outCount, .ref a_root, .ref a_rest, .ref a_square, .ref a_part, .ref a_plus, .ref a_minus, .ref a_low, .ref a_high, .ref a_one, .ref a_two, .int m_lowSign, .int m_highSign, .ref a_otherLow, .ref a_otherHigh, .ref a_digit, .ref a_topA, .ref a_underA, .ref a_topB, .ref a_underB, .ref a_quotient, .ref a_otherQuotient])), (a_n, aJ g 64 c_n), (a_d, aJ g 64 c_d), (a_r, aJ g 64 c_r), (a_count, aI g 8 c_count)]) (sd_runS (rest := []) (As := [.int vJ]) S (ct_Model_is l D g (H.size) vJ F (r_1) hc) kl_Model_109 (by decide) (by decide) hK hP hD [] rfl (by decide) rfl hl d_Model_same_8 rfl (Nat.le_of_ble_eq_true rfl) ⟨Nat.zero_le _, Nat.zero_le _⟩) hP hD hS hA [] [0, 1, 2, 3, 4] rfl rfl (by decide) (by decide) rfl (fun H locs hP hD hS => ?_)
    refine W.eq (g2 := F0 m 11 ls [.int r_1]) rfl ?_
    refine lv_if_eq (tgt := 29) hx hb d_Model_same_11 (by decide) (fun hc => ?_) (fun hc => ?_)
    · have hm := sd_mt hc hm
      refine lv_iconst (v := (0 : Int32)) hx hb d_Model_same_29 (by decide) ?_
      exact sd_z0ret hQ hx hb hr hlk rfl hK (hP.sub [0, 1, 2, 3, 4] rfl) (hD.sub [0, 1, 2, 3, 4] (by decide) rfl) hS (Option.some.inj hm).symm d_Model_same_30
    · have hm := sd_mf hc hm
      refine lv_aload_n hx hb d_Model_same_14 rfl (lv_at hl 0 rfl) ?_
      refine va_get (D := D) (ci := 5) (v := .ref a_count) (C := R_Model) (T := F_Model) (N := 31) hx hb htt i_Model hown hK hP 0 rfl rfl 3 (by decide) (htt _ kf_Model_19) (fun _ h9 => h9) rfl d_Model_same_15 ?_
      refine lv_iload_n hx hb d_Model_same_18 rfl (lv_at hl 1 rfl) ?_
      obtain ⟨h_1, hm⟩ := sd_mg hm
      refine sd_iald hx hb hK hP 4 rfl h_1 d_Model_same_19 ?_
      refine lv_aload_n hx hb d_Model_same_20 rfl (lv_at hl 0 rfl) ?_
      refine va_get (D := D) (ci := 5) (v := .ref a_count) (C := R_Model) (T := F_Model) (N := 31) hx hb htt i_Model hown hK hP 0 rfl rfl 3 (by decide) (htt _ kf_Model_19) (fun _ h9 => h9) rfl d_Model_same_21 ?_
      refine lv_iload_n hx hb d_Model_same_24 rfl (lv_at hl 2 rfl) ?_
      obtain ⟨h_2, hm⟩ := sd_mg hm
      refine sd_iald hx hb hK hP 4 rfl h_2 d_Model_same_25 ?_
      refine lv_icmp_eq (tgt := 31) hx hb d_Model_same_26 (by decide) (fun hc => ?_) (fun hc => ?_)
      · have hm := sd_mt hc hm
        refine lv_iconst (v := (0 : Int32)) hx hb d_Model_same_31 (by decide) ?_
        refine lv_istore_n (lv' := [(3, .int (0 : Int32)), (0, .ref mo), (1, .int vI), (2, .int vJ)]) hx hb d_Model_same_32 rfl hl (by decide) rfl (fun ls hl => ?_)
        have L33 : ∀ (fu : Nat) (x3 : Int32) (tg : Nat), mf_Model_same_L33 vI c_count vJ c_n c_d c_r fu x3 = some (tg) → ∀ (H : Heap) (locs : List Loc) (ls : Array Slot), va_P D classes [(mo, .inr (5, [.ref a_n, .ref a_d, .ref a_r, .ref a_count, .ref a_newN, .ref a_newD, .ref a_newR, .int m_made, .ref a_out, .int m_outCount, .ref a_root, .ref a_rest, .ref a_square, .ref a_part, .ref a_plus, .ref a_minus, .ref a_low, .ref a_high, .ref a_one, .ref a_two, .int m_lowSign, .int m_highSign, .ref a_otherLow, .ref a_otherHigh, .ref a_digit, .ref a_topA, .ref a_underA, .ref a_topB, .ref a_underB, .ref a_quotient, .ref a_otherQuotient])), (a_n, aJ g 64 c_n), (a_d, aJ g 64 c_d), (a_r, aJ g 64 c_r), (a_count, aI g 8 c_count)] H → va_D A [(mo, .inr (5, [.ref a_n, .ref a_d, .ref a_r, .ref a_count, .ref a_newN, .ref a_newD, .ref a_newR, .int m_made, .ref a_out, .int m_outCount, .ref a_root, .ref a_rest, .ref a_square, .ref a_part, .ref a_plus, .ref a_minus, .ref a_low, .ref a_high, .ref a_one, .ref a_two, .int m_lowSign, .int m_highSign, .ref a_otherLow, .ref a_otherHigh, .ref a_digit, .ref a_topA, .ref a_underA, .ref a_topB, .ref a_underB, .ref a_quotient, .ref a_otherQuotient])), (a_n, aJ g 64 c_n), (a_d, aJ g 64 c_d), (a_r, aJ g 64 c_r), (a_count, aI g 8 c_count)] → va_S A s.heap H locs → lv_has ls 4 [(0, .ref mo), (1, .int vI), (2, .int vJ), (3, .int x3)] → (tg = 0 → ∀ (H : Heap) (locs : List Loc) (ls : Array Slot), va_P D classes [(mo, .inr (5, [.ref a_n, .ref a_d, .ref a_r, .ref a_count, .ref a_newN, .ref a_newD, .ref a_newR, .int m_made, .ref a_out, .int m_outCount, .ref a_root, .ref a_rest, .ref a_square, .ref a_part, .ref a_plus, .ref a_minus, .ref a_low, .ref a_high, .ref a_one, .ref a_two, .int m_lowSign, .int m_highSign, .ref a_otherLow, .ref a_otherHigh, .ref a_digit, .ref a_topA, .ref a_underA, .ref a_topB, .ref a_underB, .ref a_quotient, .ref a_otherQuotient])), (a_n, aJ g 64 c_n), (a_d, aJ g 64 c_d), (a_r, aJ g 64 c_r), (a_count, aI g 8 c_count)] H → va_D A [(mo, .inr (5, [.ref a_n, .ref a_d, .ref a_r, .ref a_count, .ref a_newN, .ref a_newD, .ref a_newR, .int m_made, .ref a_out, .int m_outCount, .ref a_root, .ref a_rest, .ref a_square, .ref a_part, .ref a_plus, .ref a_minus, .ref a_low, .ref a_high, .ref a_one, .ref a_two, .int m_lowSign, .int m_highSign, .ref a_otherLow, .ref a_otherHigh, .ref a_digit, .ref a_topA, .ref a_underA, .ref a_topB, .ref a_underB, .ref a_quotient, .ref a_otherQuotient])), (a_n, aJ g 64 c_n), (a_d, aJ g 64 c_d), (a_r, aJ g 64 c_r), (a_count, aI g 8 c_count)] → va_S A s.heap H locs → lv_has ls 4 [] → W p l e rm_Model_same s m args below meth c H locs 0 0 Q (F0 m 121 ls [])) → (tg = 1 → ∀ (H : Heap) (locs : List Loc) (ls : Array Slot), va_P D classes [(mo, .inr (5, [.ref a_n, .ref a_d, .ref a_r, .ref a_count, .ref a_newN, .ref a_newD, .ref a_newR, .int m_made, .ref a_out, .int m_outCount, .ref a_root, .ref a_rest, .ref a_square, .ref a_part, .ref a_plus, .ref a_minus, .ref a_low, .ref a_high, .ref a_one, .ref a_two, .int m_lowSign, .int m_highSign, .ref a_otherLow, .ref a_otherHigh, .ref a_digit, .ref a_topA, .ref a_underA, .ref a_topB, .ref a_underB, .ref a_quotient, .ref a_otherQuotient])), (a_n, aJ g 64 c_n), (a_d, aJ g 64 c_d), (a_r, aJ g 64 c_r), (a_count, aI g 8 c_count)] H → va_D A [(mo, .inr (5, [.ref a_n, .ref a_d, .ref a_r, .ref a_count, .ref a_newN, .ref a_newD, .ref a_newR, .int m_made, .ref a_out, .int m_outCount, .ref a_root, .ref a_rest, .ref a_square, .ref a_part, .ref a_plus, .ref a_minus, .ref a_low, .ref a_high, .ref a_one, .ref a_two, .int m_lowSign, .int m_highSign, .ref a_otherLow, .ref a_otherHigh, .ref a_digit, .ref a_topA, .ref a_underA, .ref a_topB, .ref a_underB, .ref a_quotient, .ref a_otherQuotient])), (a_n, aJ g 64 c_n), (a_d, aJ g 64 c_d), (a_r, aJ g 64 c_r), (a_count, aI g 8 c_count)] → va_S A s.heap H locs → lv_has ls 4 [] → W p l e rm_Model_same s m args below meth c H locs 0 0 Q (F0 m 129 ls [])) → W p l e rm_Model_same s m args below meth c H locs 0 0 Q (F0 m 33 ls []) := by
          intro fu
          induction fu with
          | zero => intro x3 tg hm; exact absurd (show (none : Option (Nat)) = some (tg) from hm) (fun h => nomatch h)
          | succ fu ih =>
            intro x3 tg hm H locs ls hP hD hS hl kx121 kx129
            rw [mf_Model_same_L33] at hm
            refine lv_iload_n hx hb d_Model_same_33 rfl (lv_at hl 3 rfl) ?_
            refine lv_aload_n hx hb d_Model_same_34 rfl (lv_at hl 0 rfl) ?_
            refine va_get (D := D) (ci := 5) (v := .ref a_count) (C := R_Model) (T := F_Model) (N := 31) hx hb htt i_Model hown hK hP 0 rfl rfl 3 (by decide) (htt _ kf_Model_19) (fun _ h9 => h9) rfl d_Model_same_35 ?_
            refine lv_iload_n hx hb d_Model_same_38 rfl (lv_at hl 1 rfl) ?_
            obtain ⟨h_3, hm⟩ := sd_mg hm
            refine sd_iald hx hb hK hP 4 rfl h_3 d_Model_same_39 ?_
            refine lv_icmp_ge (tgt := 129) hx hb d_Model_same_40 (by decide) (fun hc => ?_) (fun hc => ?_)
            · have hm := sd_mt hc hm
              cases hm
              exact kx129 rfl H locs ls (hP.sub [0, 1, 2, 3, 4] rfl) (hD.sub [0, 1, 2, 3, 4] (by decide) rfl) hS (lv_sub hl [] rfl)
            · have hm := sd_mf hc hm
              refine lv_aload_n hx hb d_Model_same_43 rfl (lv_at hl 0 rfl) ?_
              refine va_get (D := D) (ci := 5) (v := .ref a_n) (C := R_Model) (T := F_Model) (N := 31) hx hb htt i_Model hown hK hP 0 rfl rfl 0 (by decide) (htt _ kf_Model_9) (fun _ h9 => h9) rfl d_Model_same_44 ?_
              refine lv_bipush (v := (8 : Int32)) hx hb d_Model_same_47 (by decide) ?_
              refine lv_iload_n hx hb d_Model_same_49 rfl (lv_at hl 1 rfl) ?_
              refine lv_imul hx hb d_Model_same_50 ?_
              refine lv_iload_n hx hb d_Model_same_51 rfl (lv_at hl 3 rfl) ?_
              refine lv_iadd hx hb d_Model_same_52 ?_
              obtain ⟨h_4, hm⟩ := sd_mg hm
              refine sd_lald hx hb hK hP 1 rfl h_4 d_Model_same_53 ?_
              refine lv_aload_n hx hb d_Model_same_54 rfl (lv_at hl 0 rfl) ?_
              refine va_get (D := D) (ci := 5) (v := .ref a_n) (C := R_Model) (T := F_Model) (N := 31) hx hb htt i_Model hown hK hP 0 rfl rfl 0 (by decide) (htt _ kf_Model_9) (fun _ h9 => h9) rfl d_Model_same_55 ?_
              refine lv_bipush (v := (8 : Int32)) hx hb d_Model_same_58 (by decide) ?_
              refine lv_iload_n hx hb d_Model_same_60 rfl (lv_at hl 2 rfl) ?_
              refine lv_imul hx hb d_Model_same_61 ?_
              refine lv_iload_n hx hb d_Model_same_62 rfl (lv_at hl 3 rfl) ?_
              refine lv_iadd hx hb d_Model_same_63 ?_
              obtain ⟨h_5, hm⟩ := sd_mg hm
              refine sd_lald hx hb hK hP 1 rfl h_5 d_Model_same_64 ?_
              refine sd_lne (tgt := 121) hx hb d_Model_same_65 d_Model_same_66 (by decide) (fun hc => ?_) (fun hc => ?_)
              · have hm := sd_mf hc hm
                cases hm
                exact kx121 rfl H locs ls (hP.sub [0, 1, 2, 3, 4] rfl) (hD.sub [0, 1, 2, 3, 4] (by decide) rfl) hS (lv_sub hl [] rfl)
              · have hm := sd_mt hc hm
                refine lv_aload_n hx hb d_Model_same_69 rfl (lv_at hl 0 rfl) ?_
                refine va_get (D := D) (ci := 5) (v := .ref a_d) (C := R_Model) (T := F_Model) (N := 31) hx hb htt i_Model hown hK hP 0 rfl rfl 1 (by decide) (htt _ kf_Model_13) (fun _ h9 => h9) rfl d_Model_same_70 ?_
                refine lv_bipush (v := (8 : Int32)) hx hb d_Model_same_73 (by decide) ?_
                refine lv_iload_n hx hb d_Model_same_75 rfl (lv_at hl 1 rfl) ?_
                refine lv_imul hx hb d_Model_same_76 ?_
                refine lv_iload_n hx hb d_Model_same_77 rfl (lv_at hl 3 rfl) ?_
                refine lv_iadd hx hb d_Model_same_78 ?_
                obtain ⟨h_6, hm⟩ := sd_mg hm
                refine sd_lald hx hb hK hP 2 rfl h_6 d_Model_same_79 ?_
                refine lv_aload_n hx hb d_Model_same_80 rfl (lv_at hl 0 rfl) ?_
                refine va_get (D := D) (ci := 5) (v := .ref a_d) (C := R_Model) (T := F_Model) (N := 31) hx hb htt i_Model hown hK hP 0 rfl rfl 1 (by decide) (htt _ kf_Model_13) (fun _ h9 => h9) rfl d_Model_same_81 ?_
                refine lv_bipush (v := (8 : Int32)) hx hb d_Model_same_84 (by decide) ?_
                refine lv_iload_n hx hb d_Model_same_86 rfl (lv_at hl 2 rfl) ?_
                refine lv_imul hx hb d_Model_same_87 ?_
                refine lv_iload_n hx hb d_Model_same_88 rfl (lv_at hl 3 rfl) ?_
                refine lv_iadd hx hb d_Model_same_89 ?_
                obtain ⟨h_7, hm⟩ := sd_mg hm
                refine sd_lald hx hb hK hP 2 rfl h_7 d_Model_same_90 ?_
                refine sd_lne (tgt := 121) hx hb d_Model_same_91 d_Model_same_92 (by decide) (fun hc => ?_) (fun hc => ?_)
                · have hm := sd_mf hc hm
                  cases hm
                  exact kx121 rfl H locs ls (hP.sub [0, 1, 2, 3, 4] rfl) (hD.sub [0, 1, 2, 3, 4] (by decide) rfl) hS (lv_sub hl [] rfl)
                · have hm := sd_mt hc hm
                  refine lv_aload_n hx hb d_Model_same_95 rfl (lv_at hl 0 rfl) ?_
                  refine va_get (D := D) (ci := 5) (v := .ref a_r) (C := R_Model) (T := F_Model) (N := 31) hx hb htt i_Model hown hK hP 0 rfl rfl 2 (by decide) (htt _ kf_Model_16) (fun _ h9 => h9) rfl d_Model_same_96 ?_
                  refine lv_bipush (v := (8 : Int32)) hx hb d_Model_same_99 (by decide) ?_
                  refine lv_iload_n hx hb d_Model_same_101 rfl (lv_at hl 1 rfl) ?_
                  refine lv_imul hx hb d_Model_same_102 ?_
                  refine lv_iload_n hx hb d_Model_same_103 rfl (lv_at hl 3 rfl) ?_
                  refine lv_iadd hx hb d_Model_same_104 ?_
                  obtain ⟨h_8, hm⟩ := sd_mg hm
                  refine sd_lald hx hb hK hP 3 rfl h_8 d_Model_same_105 ?_
                  refine lv_aload_n hx hb d_Model_same_106 rfl (lv_at hl 0 rfl) ?_
                  refine va_get (D := D) (ci := 5) (v := .ref a_r) (C := R_Model) (T := F_Model) (N := 31) hx hb htt i_Model hown hK hP 0 rfl rfl 2 (by decide) (htt _ kf_Model_16) (fun _ h9 => h9) rfl d_Model_same_107 ?_
                  refine lv_bipush (v := (8 : Int32)) hx hb d_Model_same_110 (by decide) ?_
                  refine lv_iload_n hx hb d_Model_same_112 rfl (lv_at hl 2 rfl) ?_
                  refine lv_imul hx hb d_Model_same_113 ?_
                  refine lv_iload_n hx hb d_Model_same_114 rfl (lv_at hl 3 rfl) ?_
                  refine lv_iadd hx hb d_Model_same_115 ?_
                  obtain ⟨h_9, hm⟩ := sd_mg hm
                  refine sd_lald hx hb hK hP 3 rfl h_9 d_Model_same_116 ?_
                  refine sd_leq (tgt := 123) hx hb d_Model_same_117 d_Model_same_118 (by decide) (fun hc => ?_) (fun hc => ?_)
                  · have hm := sd_mt hc hm
                    obtain ⟨x3_1, ex3_1, hm⟩ := sd_mlet hm
                    refine lv_iinc (v := x3_1) (lv' := [(3, .int x3_1), (0, .ref mo), (1, .int vI), (2, .int vJ)]) hx hb d_Model_same_123 hl (k := 3) rfl (by rw [ex3_1]; rfl) (by decide) rfl (fun ls hl => ?_)
                    refine lv_goto (tgt := 33) hx hb d_Model_same_126 (by decide) ?_
                    exact ih x3_1 tg hm H locs ls (hP.sub [0, 1, 2, 3, 4] rfl) (hD.sub [0, 1, 2, 3, 4] (by decide) rfl) hS (lv_sub hl [1, 2, 3, 0] rfl) kx121 kx129
                  · have hm := sd_mf hc hm
                    cases hm
                    exact kx121 rfl H locs ls (hP.sub [0, 1, 2, 3, 4] rfl) (hD.sub [0, 1, 2, 3, 4] (by decide) rfl) hS (lv_sub hl [] rfl)
        obtain ⟨tg, hc, hm⟩ := sd_mb1 hm
        refine L33 F (0 : Int32) tg hc H locs ls (hP.sub [0, 1, 2, 3, 4] rfl) (hD.sub [0, 1, 2, 3, 4] (by decide) rfl) hS (lv_sub hl [1, 2, 3, 0] rfl) ?_ ?_
        · intro ht H locs ls hP hD hS hl
          have hm := sd_mt ht hm
          refine lv_iconst (v := (0 : Int32)) hx hb d_Model_same_121 (by decide) ?_
          exact sd_z0ret hQ hx hb hr hlk rfl hK (hP.sub [0, 1, 2, 3, 4] rfl) (hD.sub [0, 1, 2, 3, 4] (by decide) rfl) hS (Option.some.inj hm).symm d_Model_same_122
        · intro ht H locs ls hP hD hS hl
          have hm := sd_mf (by rw [ht]; decide) hm
          refine lv_iconst (v := (1 : Int32)) hx hb d_Model_same_129 (by decide) ?_
          exact sd_z0ret hQ hx hb hr hlk rfl hK (hP.sub [0, 1, 2, 3, 4] rfl) (hD.sub [0, 1, 2, 3, 4] (by decide) rfl) hS (Option.some.inj hm).symm d_Model_same_130
      · have hm := sd_mf hc hm
        refine lv_iconst (v := (0 : Int32)) hx hb d_Model_same_29 (by decide) ?_
        exact sd_z0ret hQ hx hb hr hlk rfl hK (hP.sub [0, 1, 2, 3, 4] rfl) (hD.sub [0, 1, 2, 3, 4] (by decide) rfl) hS (Option.some.inj hm).symm d_Model_same_30
theorem d_Model_compare_0 : decode b_Model_compare 0 = .ok (.iload_n 1, 1) := by decide +kernel
theorem d_Model_compare_1 : decode b_Model_compare 1 = .ok (.invokestatic 109, 3) := by decide +kernel
theorem d_Model_compare_4 : decode b_Model_compare 4 = .ok (.ifCond .eq 10, 3) := by decide +kernel
theorem d_Model_compare_7 : decode b_Model_compare 7 = .ok (.iload_n 2, 1) := by decide +kernel
theorem d_Model_compare_8 : decode b_Model_compare 8 = .ok (.invokestatic 109, 3) := by decide +kernel
theorem d_Model_compare_11 : decode b_Model_compare 11 = .ok (.ifCond .ne 6, 3) := by decide +kernel
theorem d_Model_compare_14 : decode b_Model_compare 14 = .ok (.bipush (-2), 2) := by decide +kernel
theorem d_Model_compare_16 : decode b_Model_compare 16 = .ok (.ireturn, 1) := by decide +kernel
theorem d_Model_compare_17 : decode b_Model_compare 17 = .ok (.aload_n 0, 1) := by decide +kernel
theorem d_Model_compare_18 : decode b_Model_compare 18 = .ok (.iload_n 1, 1) := by decide +kernel
theorem d_Model_compare_19 : decode b_Model_compare 19 = .ok (.iload_n 2, 1) := by decide +kernel
theorem d_Model_compare_20 : decode b_Model_compare 20 = .ok (.invokevirtual 214, 3) := by decide +kernel
theorem d_Model_compare_23 : decode b_Model_compare 23 = .ok (.ifCond .eq 5, 3) := by decide +kernel
theorem d_Model_compare_26 : decode b_Model_compare 26 = .ok (.iconst 0, 1) := by decide +kernel
theorem d_Model_compare_27 : decode b_Model_compare 27 = .ok (.ireturn, 1) := by decide +kernel
theorem d_Model_compare_28 : decode b_Model_compare 28 = .ok (.aload_n 0, 1) := by decide +kernel
theorem d_Model_compare_29 : decode b_Model_compare 29 = .ok (.iload_n 2, 1) := by decide +kernel
theorem d_Model_compare_30 : decode b_Model_compare 30 = .ok (.invokevirtual 218, 3) := by decide +kernel
theorem d_Model_compare_33 : decode b_Model_compare 33 = .ok (.aload_n 0, 1) := by decide +kernel
theorem d_Model_compare_34 : decode b_Model_compare 34 = .ok (.getfield 54, 3) := by decide +kernel
theorem d_Model_compare_37 : decode b_Model_compare 37 = .ok (.aload_n 0, 1) := by decide +kernel
theorem d_Model_compare_38 : decode b_Model_compare 38 = .ok (.getfield 66, 3) := by decide +kernel
theorem d_Model_compare_41 : decode b_Model_compare 41 = .ok (.invokestatic 172, 3) := by decide +kernel
theorem d_Model_compare_44 : decode b_Model_compare 44 = .ok (.aload_n 0, 1) := by decide +kernel
theorem d_Model_compare_45 : decode b_Model_compare 45 = .ok (.getfield 57, 3) := by decide +kernel
theorem d_Model_compare_48 : decode b_Model_compare 48 = .ok (.aload_n 0, 1) := by decide +kernel
theorem d_Model_compare_49 : decode b_Model_compare 49 = .ok (.getfield 69, 3) := by decide +kernel
theorem d_Model_compare_52 : decode b_Model_compare 52 = .ok (.invokestatic 172, 3) := by decide +kernel
theorem d_Model_compare_55 : decode b_Model_compare 55 = .ok (.aload_n 0, 1) := by decide +kernel
theorem d_Model_compare_56 : decode b_Model_compare 56 = .ok (.getfield 208, 3) := by decide +kernel
theorem d_Model_compare_59 : decode b_Model_compare 59 = .ok (.istore_n 3, 1) := by decide +kernel
theorem d_Model_compare_60 : decode b_Model_compare 60 = .ok (.aload_n 0, 1) := by decide +kernel
theorem d_Model_compare_61 : decode b_Model_compare 61 = .ok (.getfield 211, 3) := by decide +kernel
theorem d_Model_compare_64 : decode b_Model_compare 64 = .ok (.istore 4, 2) := by decide +kernel
theorem d_Model_compare_66 : decode b_Model_compare 66 = .ok (.aload_n 0, 1) := by decide +kernel
theorem d_Model_compare_67 : decode b_Model_compare 67 = .ok (.iload_n 1, 1) := by decide +kernel
theorem d_Model_compare_68 : decode b_Model_compare 68 = .ok (.invokevirtual 218, 3) := by decide +kernel
theorem d_Model_compare_71 : decode b_Model_compare 71 = .ok (.aload_n 0, 1) := by decide +kernel
theorem d_Model_compare_72 : decode b_Model_compare 72 = .ok (.getfield 211, 3) := by decide +kernel
theorem d_Model_compare_75 : decode b_Model_compare 75 = .ok (.aload_n 0, 1) := by decide +kernel
theorem d_Model_compare_76 : decode b_Model_compare 76 = .ok (.getfield 57, 3) := by decide +kernel
theorem d_Model_compare_79 : decode b_Model_compare 79 = .ok (.iload_n 3, 1) := by decide +kernel
theorem d_Model_compare_80 : decode b_Model_compare 80 = .ok (.aload_n 0, 1) := by decide +kernel
theorem d_Model_compare_81 : decode b_Model_compare 81 = .ok (.getfield 66, 3) := by decide +kernel
theorem d_Model_compare_84 : decode b_Model_compare 84 = .ok (.invokestatic 221, 3) := by decide +kernel
theorem d_Model_compare_87 : decode b_Model_compare 87 = .ok (.ifCond .eq 5, 3) := by decide +kernel
theorem d_Model_compare_90 : decode b_Model_compare 90 = .ok (.iconst (-1), 1) := by decide +kernel
theorem d_Model_compare_91 : decode b_Model_compare 91 = .ok (.ireturn, 1) := by decide +kernel
theorem d_Model_compare_92 : decode b_Model_compare 92 = .ok (.iload 4, 2) := by decide +kernel
theorem d_Model_compare_94 : decode b_Model_compare 94 = .ok (.aload_n 0, 1) := by decide +kernel
theorem d_Model_compare_95 : decode b_Model_compare 95 = .ok (.getfield 69, 3) := by decide +kernel
theorem d_Model_compare_98 : decode b_Model_compare 98 = .ok (.aload_n 0, 1) := by decide +kernel
theorem d_Model_compare_99 : decode b_Model_compare 99 = .ok (.getfield 208, 3) := by decide +kernel
theorem d_Model_compare_102 : decode b_Model_compare 102 = .ok (.aload_n 0, 1) := by decide +kernel
theorem d_Model_compare_103 : decode b_Model_compare 103 = .ok (.getfield 54, 3) := by decide +kernel
theorem d_Model_compare_106 : decode b_Model_compare 106 = .ok (.invokestatic 221, 3) := by decide +kernel
theorem d_Model_compare_109 : decode b_Model_compare 109 = .ok (.ifCond .eq 7, 3) := by decide +kernel
theorem d_Model_compare_112 : decode b_Model_compare 112 = .ok (.iconst 1, 1) := by decide +kernel
theorem d_Model_compare_113 : decode b_Model_compare 113 = .ok (.goto 5, 3) := by decide +kernel
theorem d_Model_compare_116 : decode b_Model_compare 116 = .ok (.bipush (-4), 2) := by decide +kernel
theorem d_Model_compare_118 : decode b_Model_compare 118 = .ok (.ireturn, 1) := by decide +kernel
def mf_Model_compare (F : Nat) (vI : Int32) (vJ : Int32) (m_made : Int32) (m_outCount : Int32) (m_lowSign : Int32) (m_highSign : Int32) (c_n : Nat → Int64) (c_d : Nat → Int64) (c_r : Nat → Int64) (c_count : Nat → Int32) (c_root : Nat → Int64) (c_rest : Nat → Int64) (c_square : Nat → Int64) (c_part : Nat → Int64) (c_plus : Nat → Int64) (c_minus : Nat → Int64) (c_low : Nat → Int64) (c_high : Nat → Int64) (c_one : Nat → Int64) (c_otherLow : Nat → Int64) (c_otherHigh : Nat → Int64) : Option (Int32 × Int32 × Int32 × (Nat → Int64) × (Nat → Int64) × (Nat → Int64) × (Nat → Int64) × (Nat → Int64) × (Nat → Int64) × (Nat → Int64) × (Nat → Int64) × (Nat → Int64) × (Nat → Int64) × (Nat → Int64)) :=
  (sd_b1 (mf_Model_is F vI) fun r => (if r = 0 then (some ((-2 : Int32), m_lowSign, m_highSign, c_root, c_rest, c_square, c_part, c_plus, c_minus, c_low, c_high, c_one, c_otherLow, c_otherHigh)) else (sd_b1 (mf_Model_is F vJ) fun r_1 => (if r_1 = 0 then (some ((-2 : Int32), m_lowSign, m_highSign, c_root, c_rest, c_square, c_part, c_plus, c_minus, c_low, c_high, c_one, c_otherLow, c_otherHigh)) else (sd_b1 (mf_Model_same F vI vJ m_made m_outCount m_lowSign m_highSign c_n c_d c_r c_count) fun r_2 => (if r_2 = 0 then (sd_b11 (mf_Model_ends F vJ m_made m_outCount m_lowSign m_highSign c_n c_d c_r c_count c_root c_rest c_square c_part c_plus c_minus c_low c_high c_one) fun umo umo_1 uaroot uarest uasquare uapart uaplus uaminus ualow uahigh uaone => (sd_b1 (mf_Model_copy F ualow c_otherLow) fun uaotherLow => (sd_b1 (mf_Model_copy F uahigh c_otherHigh) fun uaotherHigh => (sd_b11 (mf_Model_ends F vI m_made m_outCount umo umo_1 c_n c_d c_r c_count uaroot uarest uasquare uapart uaplus uaminus ualow uahigh uaone) fun umo_2 umo_3 uaroot_1 uarest_1 uasquare_1 uapart_1 uaplus_1 uaminus_1 ualow_1 uahigh_1 uaone_1 => (sd_b1 (mf_Model_isBelow F umo_3 umo uahigh_1 uaotherLow) fun r_3 => (if r_3 = 0 then (sd_b1 (mf_Model_isBelow F umo_1 umo_2 uaotherHigh ualow_1) fun r_4 => (sd_b1 (if r_4 = 0 then (some ((-4 : Int32))) else (some ((1 : Int32)))) fun y => (some (y, umo_2, umo_3, uaroot_1, uarest_1, uasquare_1, uapart_1, uaplus_1, uaminus_1, ualow_1, uahigh_1, uaone_1, uaotherLow, uaotherHigh)))) else (some ((-1 : Int32), umo_2, umo_3, uaroot_1, uarest_1, uasquare_1, uapart_1, uaplus_1, uaminus_1, ualow_1, uahigh_1, uaone_1, uaotherLow, uaotherHigh)))))))) else (some ((0 : Int32), m_lowSign, m_highSign, c_root, c_rest, c_square, c_part, c_plus, c_minus, c_low, c_high, c_one, c_otherLow, c_otherHigh))))))))
abbrev rm_Model_compare : Room := { frames := 6, cells := 0, slots := 0, locals := 137 }
set_option maxHeartbeats 4000000 in
set_option maxRecDepth 100000 in
theorem ct_Model_compare (l : Launch) (D : va_G) (g : G4) (mo : Nat) (a_n : Nat) (a_d : Nat) (a_r : Nat) (a_count : Nat) (a_newN : Nat) (a_newD : Nat) (a_newR : Nat) (a_out : Nat) (a_root : Nat) (a_rest : Nat) (a_square : Nat) (a_part : Nat) (a_plus : Nat) (a_minus : Nat) (a_low : Nat) (a_high : Nat) (a_one : Nat) (a_two : Nat) (a_otherLow : Nat) (a_otherHigh : Nat) (a_digit : Nat) (a_topA : Nat) (a_underA : Nat) (a_topB : Nat) (a_underB : Nat) (a_quotient : Nat) (a_otherQuotient : Nat) (sz : Nat) (vI : Int32) (vJ : Int32) (m_made : Int32) (m_outCount : Int32) (m_lowSign : Int32) (m_highSign : Int32) (c_n : Nat → Int64) (c_d : Nat → Int64) (c_r : Nat → Int64) (c_count : Nat → Int32) (c_root : Nat → Int64) (c_rest : Nat → Int64) (c_square : Nat → Int64) (c_part : Nat → Int64) (c_plus : Nat → Int64) (c_minus : Nat → Int64) (c_low : Nat → Int64) (c_high : Nat → Int64) (c_one : Nat → Int64) (c_otherLow : Nat → Int64) (c_otherHigh : Nat → Int64) (F : Nat) (res : Int32 × Int32 × Int32 × (Nat → Int64) × (Nat → Int64) × (Nat → Int64) × (Nat → Int64) × (Nat → Int64) × (Nat → Int64) × (Nat → Int64) × (Nat → Int64) × (Nat → Int64) × (Nat → Int64) × (Nat → Int64)) (hm : mf_Model_compare F vI vJ m_made m_outCount m_lowSign m_highSign c_n c_d c_r c_count c_root c_rest c_square c_part c_plus c_minus c_low c_high c_one c_otherLow c_otherHigh = some res) : Met l y_Model_compare (.code y_Model_compare b_Model_compare 5 (some .int) :: sd_tb) rm_Model_compare (sd_PW D g [.ref mo, .int vI, .int vJ] sz [(mo, .inr (5, [.ref a_n, .ref a_d, .ref a_r, .ref a_count, .ref a_newN, .ref a_newD, .ref a_newR, .int m_made, .ref a_out, .int m_outCount, .ref a_root, .ref a_rest, .ref a_square, .ref a_part, .ref a_plus, .ref a_minus, .ref a_low, .ref a_high, .ref a_one, .ref a_two, .int m_lowSign, .int m_highSign, .ref a_otherLow, .ref a_otherHigh, .ref a_digit, .ref a_topA, .ref a_underA, .ref a_topB, .ref a_underB, .ref a_quotient, .ref a_otherQuotient])), (a_n, aJ g 64 c_n), (a_d, aJ g 64 c_d), (a_r, aJ g 64 c_r), (a_count, aI g 8 c_count), (a_root, aJ g 76 c_root), (a_rest, aJ g 76 c_rest), (a_square, aJ g 76 c_square), (a_part, aJ g 76 c_part), (a_plus, aJ g 76 c_plus), (a_minus, aJ g 76 c_minus), (a_low, aJ g 76 c_low), (a_high, aJ g 76 c_high), (a_one, aJ g 76 c_one), (a_otherLow, aJ g 76 c_otherLow), (a_otherHigh, aJ g 76 c_otherHigh)]) (sd_Qi1 D g res (fun u : Int32 × Int32 × (Nat → Int64) × (Nat → Int64) × (Nat → Int64) × (Nat → Int64) × (Nat → Int64) × (Nat → Int64) × (Nat → Int64) × (Nat → Int64) × (Nat → Int64) × (Nat → Int64) × (Nat → Int64) => [(mo, .inr (5, [.ref a_n, .ref a_d, .ref a_r, .ref a_count, .ref a_newN, .ref a_newD, .ref a_newR, .int m_made, .ref a_out, .int m_outCount, .ref a_root, .ref a_rest, .ref a_square, .ref a_part, .ref a_plus, .ref a_minus, .ref a_low, .ref a_high, .ref a_one, .ref a_two, .int (u.1), .int (u.2.1), .ref a_otherLow, .ref a_otherHigh, .ref a_digit, .ref a_topA, .ref a_underA, .ref a_topB, .ref a_underB, .ref a_quotient, .ref a_otherQuotient])), (a_n, aJ g 64 c_n), (a_d, aJ g 64 c_d), (a_r, aJ g 64 c_r), (a_count, aI g 8 c_count), (a_root, aJ g 76 (u.2.2.1)), (a_rest, aJ g 76 (u.2.2.2.1)), (a_square, aJ g 76 (u.2.2.2.2.1)), (a_part, aJ g 76 (u.2.2.2.2.2.1)), (a_plus, aJ g 76 (u.2.2.2.2.2.2.1)), (a_minus, aJ g 76 (u.2.2.2.2.2.2.2.1)), (a_low, aJ g 76 (u.2.2.2.2.2.2.2.2.1)), (a_high, aJ g 76 (u.2.2.2.2.2.2.2.2.2.1)), (a_one, aJ g 76 (u.2.2.2.2.2.2.2.2.2.2.1)), (a_otherLow, aJ g 76 (u.2.2.2.2.2.2.2.2.2.2.2.1)), (a_otherHigh, aJ g 76 (u.2.2.2.2.2.2.2.2.2.2.2.2))]) (va_A [(mo, .inr (5, [.ref a_n, .ref a_d, .ref a_r, .ref a_count, .ref a_newN, .ref a_newD, .ref a_newR, .int m_made, .ref a_out, .int m_outCount, .ref a_root, .ref a_rest, .ref a_square, .ref a_part, .ref a_plus, .ref a_minus, .ref a_low, .ref a_high, .ref a_one, .ref a_two, .int m_lowSign, .int m_highSign, .ref a_otherLow, .ref a_otherHigh, .ref a_digit, .ref a_topA, .ref a_underA, .ref a_topB, .ref a_underB, .ref a_quotient, .ref a_otherQuotient])), (a_n, aJ g 64 c_n), (a_d, aJ g 64 c_d), (a_r, aJ g 64 c_r), (a_count, aI g 8 c_count), (a_root, aJ g 76 c_root), (a_rest, aJ g 76 c_rest), (a_square, aJ g 76 c_square), (a_part, aJ g 76 c_part), (a_plus, aJ g 76 c_plus), (a_minus, aJ g 76 c_minus), (a_low, aJ g 76 c_low), (a_high, aJ g 76 c_high), (a_one, aJ g 76 c_one), (a_otherLow, aJ g 76 c_otherLow), (a_otherHigh, aJ g 76 c_otherHigh)] sz)) 0 0 (va_A [(mo, .inr (5, [.ref a_n, .ref a_d, .ref a_r, .ref a_count, .ref a_newN, .ref a_newD, .ref a_newR, .int m_made, .ref a_out, .int m_outCount, .ref a_root, .ref a_rest, .ref a_square, .ref a_part, .ref a_plus, .ref a_minus, .ref a_low, .ref a_high, .ref a_one, .ref a_two, .int m_lowSign, .int m_highSign, .ref a_otherLow, .ref a_otherHigh, .ref a_digit, .ref a_topA, .ref a_underA, .ref a_topB, .ref a_underB, .ref a_quotient, .ref a_otherQuotient])), (a_n, aJ g 64 c_n), (a_d, aJ g 64 c_d), (a_r, aJ g 64 c_r), (a_count, aI g 8 c_count), (a_root, aJ g 76 c_root), (a_rest, aJ g 76 c_rest), (a_square, aJ g 76 c_square), (a_part, aJ g 76 c_part), (a_plus, aJ g 76 c_plus), (a_minus, aJ g 76 c_minus), (a_low, aJ g 76 c_low), (a_high, aJ g 76 c_high), (a_one, aJ g 76 c_one), (a_otherLow, aJ g 76 c_otherLow), (a_otherHigh, aJ g 76 c_otherHigh)] sz) := by
  refine sd_met (Qf := fun A => sd_Qi1 D g res (fun u : Int32 × Int32 × (Nat → Int64) × (Nat → Int64) × (Nat → Int64) × (Nat → Int64) × (Nat → Int64) × (Nat → Int64) × (Nat → Int64) × (Nat → Int64) × (Nat → Int64) × (Nat → Int64) × (Nat → Int64) => [(mo, .inr (5, [.ref a_n, .ref a_d, .ref a_r, .ref a_count, .ref a_newN, .ref a_newD, .ref a_newR, .int m_made, .ref a_out, .int m_outCount, .ref a_root, .ref a_rest, .ref a_square, .ref a_part, .ref a_plus, .ref a_minus, .ref a_low, .ref a_high, .ref a_one, .ref a_two, .int (u.1), .int (u.2.1), .ref a_otherLow, .ref a_otherHigh, .ref a_digit, .ref a_topA, .ref a_underA, .ref a_topB, .ref a_underB, .ref a_quotient, .ref a_otherQuotient])), (a_n, aJ g 64 c_n), (a_d, aJ g 64 c_d), (a_r, aJ g 64 c_r), (a_count, aI g 8 c_count), (a_root, aJ g 76 (u.2.2.1)), (a_rest, aJ g 76 (u.2.2.2.1)), (a_square, aJ g 76 (u.2.2.2.2.1)), (a_part, aJ g 76 (u.2.2.2.2.2.1)), (a_plus, aJ g 76 (u.2.2.2.2.2.2.1)), (a_minus, aJ g 76 (u.2.2.2.2.2.2.2.1)), (a_low, aJ g 76 (u.2.2.2.2.2.2.2.2.1)), (a_high, aJ g 76 (u.2.2.2.2.2.2.2.2.2.1)), (a_one, aJ g 76 (u.2.2.2.2.2.2.2.2.2.2.1)), (a_otherLow, aJ g 76 (u.2.2.2.2.2.2.2.2.2.2.2.1)), (a_otherHigh, aJ g 76 (u.2.2.2.2.2.2.2.2.2.2.2.2))]) A) (own := R_Model) (by decide +kernel) rfl (Nat.le_of_ble_eq_true rfl) ?_
  intro p e s m args below meth c S hr hlk hK A hA Q hQ H locs hP hD hS ls hl
  have hx := S.1
  have hb := S.2.1
  have hml := S.2.2.1
  have hown := S.2.2.2.1
  have htt := sd_tt S
  replace hl : lv_has ls 5 [(0, .ref mo), (1, .int vI), (2, .int vJ)] := hl
  unfold mf_Model_compare at hm
  refine lv_iload_n hx hb d_Model_compare_0 rfl (lv_at hl 1 rfl) ?_
  obtain ⟨r, hc, hm⟩ := sd_mb1 hm
  refine sd_ci0 (wr := [(mo, .inr (5, [.ref a_n, .ref a_d, .ref a_r, .ref a_count, .ref a_newN, .ref a_newD, .ref a_newR, .int m_made, .ref a_out, .int m_outCount, .ref a_root, .ref a_rest, .ref a_square, .ref a_part, .ref a_plus, .ref a_minus, .ref a_low, .ref a_high, .ref a_one, .ref a_two, .int m_lowSign, .int m_highSign, .ref a_otherLow, .ref a_otherHigh, .ref a_digit, .ref a_topA, .ref a_underA, .ref a_topB, .ref a_underB, .ref a_quotient, .ref a_otherQuotient])), (a_n, aJ g 64 c_n), (a_d, aJ g 64 c_d), (a_r, aJ g 64 c_r), (a_count, aI g 8 c_count), (a_root, aJ g 76 c_root), (a_rest, aJ g 76 c_rest), (a_square, aJ g 76 c_square), (a_part, aJ g 76 c_part), (a_plus, aJ g 76 c_plus), (a_minus, aJ g 76 c_minus), (a_low, aJ g 76 c_low), (a_high, aJ g 76 c_high), (a_one, aJ g 76 c_one), (a_otherLow, aJ g 76 c_otherLow), (a_otherHigh, aJ g 76 c_otherHigh)]) (w2 := [(mo, .inr (5, [.ref a_n, .ref a_d, .ref a_r, .ref a_count, .ref a_newN, .ref a_newD, .ref a_newR, .int m_made, .ref a_out, .int m_outCount, .ref a_root, .ref a_rest, .ref a_square, .ref a_part, .ref a_plus, .ref a_minus, .ref a_low, .ref a_high, .ref a_one, .ref a_two, .int m_lowSign, .int m_highSign, .ref a_otherLow, .ref a_otherHigh, .ref a_digit, .ref a_topA, .ref a_underA, .ref a_topB, .ref a_underB, .ref a_quotient, .ref a_otherQuotient])), (a_n, aJ g 64 c_n), (a_d, aJ g 64 c_d), (a_r, aJ g 64 c_r), (a_count, aI g 8 c_count), (a_root, aJ g 76 c_root), (a_rest, aJ g 76 c_rest), (a_square, aJ g 76 c_square), (a_part, aJ g 76 c_part), (a_plus, aJ g 76 c_plus), (a_minus, aJ g 76 c_minus), (a_low, aJ g 76 c_low), (a_high, aJ g 76 c_high), (a_one, aJ g 76 c_one), (a_otherLow, aJ g 76 c_otherLow), (a_otherHigh, aJ g 76 c_otherHigh)]) (sd_runS (rest := []) (As := [.int vI]) S (ct_Model_is l D g (H.size) vI F (r) hc) kl_Model_109 (by decide) (by decide) hK hP hD [] rfl (by decide) rfl hl d_Model_compare_1 rfl (Nat.le_of_ble_eq_true rfl) ⟨Nat.zero_le _, Nat.zero_le _⟩) hP hD hS hA [] [0, 1, 2, 3, 4, 5, 6, 7, 8, 9, 10, 11, 12, 13, 14, 15] rfl rfl (by decide) (by decide) rfl (fun H locs hP hD hS => ?_)
  refine W.eq (g2 := F0 m 4 ls [.int r]) rfl ?_
  refine lv_if_eq (tgt := 14) hx hb d_Model_compare_4 (by decide) (fun hc => ?_) (fun hc => ?_)
  · have hm := sd_mt hc hm
    refine lv_bipush (v := (-2 : Int32)) hx hb d_Model_compare_14 (by decide) ?_
    exact sd_i1ret (u := (m_lowSign, m_highSign, c_root, c_rest, c_square, c_part, c_plus, c_minus, c_low, c_high, c_one, c_otherLow, c_otherHigh)) hQ hx hb hr hlk hK (hP.sub [0, 1, 2, 3, 4, 5, 6, 7, 8, 9, 10, 11, 12, 13, 14, 15] rfl) (hD.sub [0, 1, 2, 3, 4, 5, 6, 7, 8, 9, 10, 11, 12, 13, 14, 15] (by decide) rfl) hS (Option.some.inj hm).symm d_Model_compare_16
  · have hm := sd_mf hc hm
    refine lv_iload_n hx hb d_Model_compare_7 rfl (lv_at hl 2 rfl) ?_
    obtain ⟨r_1, hc, hm⟩ := sd_mb1 hm
    refine sd_ci0 (wr := [(mo, .inr (5, [.ref a_n, .ref a_d, .ref a_r, .ref a_count, .ref a_newN, .ref a_newD, .ref a_newR, .int m_made, .ref a_out, .int m_outCount, .ref a_root, .ref a_rest, .ref a_square, .ref a_part, .ref a_plus, .ref a_minus, .ref a_low, .ref a_high, .ref a_one, .ref a_two, .int m_lowSign, .int m_highSign, .ref a_otherLow, .ref a_otherHigh, .ref a_digit, .ref a_topA, .ref a_underA, .ref a_topB, .ref a_underB, .ref a_quotient, .ref a_otherQuotient])), (a_n, aJ g 64 c_n), (a_d, aJ g 64 c_d), (a_r, aJ g 64 c_r), (a_count, aI g 8 c_count), (a_root, aJ g 76 c_root), (a_rest, aJ g 76 c_rest), (a_square, aJ g 76 c_square), (a_part, aJ g 76 c_part), (a_plus, aJ g 76 c_plus), (a_minus, aJ g 76 c_minus), (a_low, aJ g 76 c_low), (a_high, aJ g 76 c_high), (a_one, aJ g 76 c_one), (a_otherLow, aJ g 76 c_otherLow), (a_otherHigh, aJ g 76 c_otherHigh)]) (w2 := [(mo, .inr (5, [.ref a_n, .ref a_d, .ref a_r, .ref a_count, .ref a_newN, .ref a_newD, .ref a_newR, .int m_made, .ref a_out, .int m_outCount, .ref a_root, .ref a_rest, .ref a_square, .ref a_part, .ref a_plus, .ref a_minus, .ref a_low, .ref a_high, .ref a_one, .ref a_two, .int m_lowSign, .int m_highSign, .ref a_otherLow, .ref a_otherHigh, .ref a_digit, .ref a_topA, .ref a_underA, .ref a_topB, .ref a_underB, .ref a_quotient, .ref a_otherQuotient])), (a_n, aJ g 64 c_n), (a_d, aJ g 64 c_d), (a_r, aJ g 64 c_r), (a_count, aI g 8 c_count), (a_root, aJ g 76 c_root), (a_rest, aJ g 76 c_rest), (a_square, aJ g 76 c_square), (a_part, aJ g 76 c_part), (a_plus, aJ g 76 c_plus), (a_minus, aJ g 76 c_minus), (a_low, aJ g 76 c_low), (a_high, aJ g 76 c_high), (a_one, aJ g 76 c_one), (a_otherLow, aJ g 76 c_otherLow), (a_otherHigh, aJ g 76 c_otherHigh)]) (sd_runS (rest := []) (As := [.int vJ]) S (ct_Model_is l D g (H.size) vJ F (r_1) hc) kl_Model_109 (by decide) (by decide) hK hP hD [] rfl (by decide) rfl hl d_Model_compare_8 rfl (Nat.le_of_ble_eq_true rfl) ⟨Nat.zero_le _, Nat.zero_le _⟩) hP hD hS hA [] [0, 1, 2, 3, 4, 5, 6, 7, 8, 9, 10, 11, 12, 13, 14, 15] rfl rfl (by decide) (by decide) rfl (fun H locs hP hD hS => ?_)
    refine W.eq (g2 := F0 m 11 ls [.int r_1]) rfl ?_
    refine lv_if_ne (tgt := 17) hx hb d_Model_compare_11 (by decide) (fun hc => ?_) (fun hc => ?_)
    · have hm := sd_mf hc hm
      refine lv_aload_n hx hb d_Model_compare_17 rfl (lv_at hl 0 rfl) ?_
      refine lv_iload_n hx hb d_Model_compare_18 rfl (lv_at hl 1 rfl) ?_
      refine lv_iload_n hx hb d_Model_compare_19 rfl (lv_at hl 2 rfl) ?_
      obtain ⟨r_2, hc, hm⟩ := sd_mb1 hm
      refine sd_ci0 (wr := [(a_root, aJ g 76 c_root), (a_rest, aJ g 76 c_rest), (a_square, aJ g 76 c_square), (a_part, aJ g 76 c_part), (a_plus, aJ g 76 c_plus), (a_minus, aJ g 76 c_minus), (a_low, aJ g 76 c_low), (a_high, aJ g 76 c_high), (a_one, aJ g 76 c_one), (a_otherLow, aJ g 76 c_otherLow), (a_otherHigh, aJ g 76 c_otherHigh)]) (w2 := [(a_root, aJ g 76 c_root), (a_rest, aJ g 76 c_rest), (a_square, aJ g 76 c_square), (a_part, aJ g 76 c_part), (a_plus, aJ g 76 c_plus), (a_minus, aJ g 76 c_minus), (a_low, aJ g 76 c_low), (a_high, aJ g 76 c_high), (a_one, aJ g 76 c_one), (a_otherLow, aJ g 76 c_otherLow), (a_otherHigh, aJ g 76 c_otherHigh), (mo, .inr (5, [.ref a_n, .ref a_d, .ref a_r, .ref a_count, .ref a_newN, .ref a_newD, .ref a_newR, .int m_made, .ref a_out, .int m_outCount, .ref a_root, .ref a_rest, .ref a_square, .ref a_part, .ref a_plus, .ref a_minus, .ref a_low, .ref a_high, .ref a_one, .ref a_two, .int m_lowSign, .int m_highSign, .ref a_otherLow, .ref a_otherHigh, .ref a_digit, .ref a_topA, .ref a_underA, .ref a_topB, .ref a_underB, .ref a_quotient, .ref a_otherQuotient])), (a_n, aJ g 64 c_n), (a_d, aJ g 64 c_d), (a_r, aJ g 64 c_r), (a_count, aI g 8 c_count)]) (sd_runV (rest := []) (As := [.int vI, .int vJ]) S (ct_Model_same l D g mo a_n a_d a_r a_count a_newN a_newD a_newR a_out a_root a_rest a_square a_part a_plus a_minus a_low a_high a_one a_two a_otherLow a_otherHigh a_digit a_topA a_underA a_topB a_underB a_quotient a_otherQuotient (H.size) vI vJ m_made m_outCount m_lowSign m_highSign c_n c_d c_r c_count F (r_2) hc) kl_Model_214 (by decide) (by decide) hK hP hD [0, 1, 2, 3, 4] rfl (by decide) rfl hl d_Model_compare_20 rfl (Nat.le_of_ble_eq_true rfl) ⟨Nat.zero_le _, Nat.zero_le _⟩ 0 rfl rfl) hP hD hS hA [0, 1, 2, 3, 4] [5, 6, 7, 8, 9, 10, 11, 12, 13, 14, 15] rfl rfl (by decide) (by decide) rfl (fun H locs hP hD hS => ?_)
      refine W.eq (g2 := F0 m 23 ls [.int r_2]) rfl ?_
      refine lv_if_eq (tgt := 28) hx hb d_Model_compare_23 (by decide) (fun hc => ?_) (fun hc => ?_)
      · have hm := sd_mt hc hm
        refine lv_aload_n hx hb d_Model_compare_28 rfl (lv_at hl 0 rfl) ?_
        refine lv_iload_n hx hb d_Model_compare_29 rfl (lv_at hl 2 rfl) ?_
        obtain ⟨umo, umo_1, uaroot, uarest, uasquare, uapart, uaplus, uaminus, ualow, uahigh, uaone, hc, hm⟩ := sd_mb11 hm
        refine sd_cv1 (wr := [(a_otherLow, aJ g 76 c_otherLow), (a_otherHigh, aJ g 76 c_otherHigh)]) (w2 := [(a_otherLow, aJ g 76 c_otherLow), (a_otherHigh, aJ g 76 c_otherHigh), (mo, .inr (5, [.ref a_n, .ref a_d, .ref a_r, .ref a_count, .ref a_newN, .ref a_newD, .ref a_newR, .int m_made, .ref a_out, .int m_outCount, .ref a_root, .ref a_rest, .ref a_square, .ref a_part, .ref a_plus, .ref a_minus, .ref a_low, .ref a_high, .ref a_one, .ref a_two, .int umo, .int umo_1, .ref a_otherLow, .ref a_otherHigh, .ref a_digit, .ref a_topA, .ref a_underA, .ref a_topB, .ref a_underB, .ref a_quotient, .ref a_otherQuotient])), (a_n, aJ g 64 c_n), (a_d, aJ g 64 c_d), (a_r, aJ g 64 c_r), (a_count, aI g 8 c_count), (a_root, aJ g 76 uaroot), (a_rest, aJ g 76 uarest), (a_square, aJ g 76 uasquare), (a_part, aJ g 76 uapart), (a_plus, aJ g 76 uaplus), (a_minus, aJ g 76 uaminus), (a_low, aJ g 76 ualow), (a_high, aJ g 76 uahigh), (a_one, aJ g 76 uaone)]) (sd_runV (rest := []) (As := [.int vJ]) S (ct_Model_ends l D g mo a_n a_d a_r a_count a_newN a_newD a_newR a_out a_root a_rest a_square a_part a_plus a_minus a_low a_high a_one a_two a_otherLow a_otherHigh a_digit a_topA a_underA a_topB a_underB a_quotient a_otherQuotient (H.size) vJ m_made m_outCount m_lowSign m_highSign c_n c_d c_r c_count c_root c_rest c_square c_part c_plus c_minus c_low c_high c_one F (umo, umo_1, uaroot, uarest, uasquare, uapart, uaplus, uaminus, ualow, uahigh, uaone) hc) kl_Model_218 (by decide) (by decide) hK hP hD [11, 12, 13, 14, 15, 0, 1, 2, 3, 4, 5, 6, 7, 8] rfl (by decide) rfl hl d_Model_compare_30 rfl (Nat.le_of_ble_eq_true rfl) ⟨Nat.zero_le _, Nat.zero_le _⟩ 11 rfl rfl) hP hD hS hA [11, 12, 13, 14, 15, 0, 1, 2, 3, 4, 5, 6, 7, 8] [9, 10] rfl rfl (by decide) (by decide) rfl (fun H locs hP hD hS => ?_)
        refine lv_aload_n hx hb d_Model_compare_33 rfl (lv_at hl 0 rfl) ?_
        refine va_get (D := D) (ci := 5) (v := .ref a_low) (C := R_Model) (T := F_Model) (N := 31) hx hb htt i_Model hown hK hP 2 rfl rfl 16 (by decide) (htt _ kf_Model_54) (fun _ h9 => h9) rfl d_Model_compare_34 ?_
        refine lv_aload_n hx hb d_Model_compare_37 rfl (lv_at hl 0 rfl) ?_
        refine va_get (D := D) (ci := 5) (v := .ref a_otherLow) (C := R_Model) (T := F_Model) (N := 31) hx hb htt i_Model hown hK hP 2 rfl rfl 22 (by decide) (htt _ kf_Model_66) (fun _ h9 => h9) rfl d_Model_compare_38 ?_
        obtain ⟨uaotherLow, hc, hm⟩ := sd_mb1 hm
        refine sd_cv1 (wr := [(a_otherHigh, aJ g 76 c_otherHigh), (mo, .inr (5, [.ref a_n, .ref a_d, .ref a_r, .ref a_count, .ref a_newN, .ref a_newD, .ref a_newR, .int m_made, .ref a_out, .int m_outCount, .ref a_root, .ref a_rest, .ref a_square, .ref a_part, .ref a_plus, .ref a_minus, .ref a_low, .ref a_high, .ref a_one, .ref a_two, .int umo, .int umo_1, .ref a_otherLow, .ref a_otherHigh, .ref a_digit, .ref a_topA, .ref a_underA, .ref a_topB, .ref a_underB, .ref a_quotient, .ref a_otherQuotient])), (a_n, aJ g 64 c_n), (a_d, aJ g 64 c_d), (a_r, aJ g 64 c_r), (a_count, aI g 8 c_count), (a_root, aJ g 76 uaroot), (a_rest, aJ g 76 uarest), (a_square, aJ g 76 uasquare), (a_part, aJ g 76 uapart), (a_plus, aJ g 76 uaplus), (a_minus, aJ g 76 uaminus), (a_high, aJ g 76 uahigh), (a_one, aJ g 76 uaone)]) (w2 := [(a_otherHigh, aJ g 76 c_otherHigh), (mo, .inr (5, [.ref a_n, .ref a_d, .ref a_r, .ref a_count, .ref a_newN, .ref a_newD, .ref a_newR, .int m_made, .ref a_out, .int m_outCount, .ref a_root, .ref a_rest, .ref a_square, .ref a_part, .ref a_plus, .ref a_minus, .ref a_low, .ref a_high, .ref a_one, .ref a_two, .int umo, .int umo_1, .ref a_otherLow, .ref a_otherHigh, .ref a_digit, .ref a_topA, .ref a_underA, .ref a_topB, .ref a_underB, .ref a_quotient, .ref a_otherQuotient])), (a_n, aJ g 64 c_n), (a_d, aJ g 64 c_d), (a_r, aJ g 64 c_r), (a_count, aI g 8 c_count), (a_root, aJ g 76 uaroot), (a_rest, aJ g 76 uarest), (a_square, aJ g 76 uasquare), (a_part, aJ g 76 uapart), (a_plus, aJ g 76 uaplus), (a_minus, aJ g 76 uaminus), (a_high, aJ g 76 uahigh), (a_one, aJ g 76 uaone), (a_low, aJ g 76 ualow), (a_otherLow, aJ g 76 uaotherLow)]) (sd_runS (rest := []) (As := [.ref a_low, .ref a_otherLow]) S (ct_Model_copy l D g a_low a_otherLow (H.size) ualow c_otherLow F (uaotherLow) hc) kl_Model_172 (by decide) (by decide) hK hP hD [13, 0] rfl (by decide) rfl hl d_Model_compare_41 rfl (Nat.le_of_ble_eq_true rfl) ⟨Nat.zero_le _, Nat.zero_le _⟩) hP hD hS hA [13, 0] [1, 2, 3, 4, 5, 6, 7, 8, 9, 10, 11, 12, 14, 15] rfl rfl (by decide) (by decide) rfl (fun H locs hP hD hS => ?_)
        refine lv_aload_n hx hb d_Model_compare_44 rfl (lv_at hl 0 rfl) ?_
        refine va_get (D := D) (ci := 5) (v := .ref a_high) (C := R_Model) (T := F_Model) (N := 31) hx hb htt i_Model hown hK hP 1 rfl rfl 17 (by decide) (htt _ kf_Model_57) (fun _ h9 => h9) rfl d_Model_compare_45 ?_
        refine lv_aload_n hx hb d_Model_compare_48 rfl (lv_at hl 0 rfl) ?_
        refine va_get (D := D) (ci := 5) (v := .ref a_otherHigh) (C := R_Model) (T := F_Model) (N := 31) hx hb htt i_Model hown hK hP 1 rfl rfl 23 (by decide) (htt _ kf_Model_69) (fun _ h9 => h9) rfl d_Model_compare_49 ?_
        obtain ⟨uaotherHigh, hc, hm⟩ := sd_mb1 hm
        refine sd_cv1 (wr := [(mo, .inr (5, [.ref a_n, .ref a_d, .ref a_r, .ref a_count, .ref a_newN, .ref a_newD, .ref a_newR, .int m_made, .ref a_out, .int m_outCount, .ref a_root, .ref a_rest, .ref a_square, .ref a_part, .ref a_plus, .ref a_minus, .ref a_low, .ref a_high, .ref a_one, .ref a_two, .int umo, .int umo_1, .ref a_otherLow, .ref a_otherHigh, .ref a_digit, .ref a_topA, .ref a_underA, .ref a_topB, .ref a_underB, .ref a_quotient, .ref a_otherQuotient])), (a_n, aJ g 64 c_n), (a_d, aJ g 64 c_d), (a_r, aJ g 64 c_r), (a_count, aI g 8 c_count), (a_root, aJ g 76 uaroot), (a_rest, aJ g 76 uarest), (a_square, aJ g 76 uasquare), (a_part, aJ g 76 uapart), (a_plus, aJ g 76 uaplus), (a_minus, aJ g 76 uaminus), (a_one, aJ g 76 uaone), (a_low, aJ g 76 ualow), (a_otherLow, aJ g 76 uaotherLow)]) (w2 := [(mo, .inr (5, [.ref a_n, .ref a_d, .ref a_r, .ref a_count, .ref a_newN, .ref a_newD, .ref a_newR, .int m_made, .ref a_out, .int m_outCount, .ref a_root, .ref a_rest, .ref a_square, .ref a_part, .ref a_plus, .ref a_minus, .ref a_low, .ref a_high, .ref a_one, .ref a_two, .int umo, .int umo_1, .ref a_otherLow, .ref a_otherHigh, .ref a_digit, .ref a_topA, .ref a_underA, .ref a_topB, .ref a_underB, .ref a_quotient, .ref a_otherQuotient])), (a_n, aJ g 64 c_n), (a_d, aJ g 64 c_d), (a_r, aJ g 64 c_r), (a_count, aI g 8 c_count), (a_root, aJ g 76 uaroot), (a_rest, aJ g 76 uarest), (a_square, aJ g 76 uasquare), (a_part, aJ g 76 uapart), (a_plus, aJ g 76 uaplus), (a_minus, aJ g 76 uaminus), (a_one, aJ g 76 uaone), (a_low, aJ g 76 ualow), (a_otherLow, aJ g 76 uaotherLow), (a_high, aJ g 76 uahigh), (a_otherHigh, aJ g 76 uaotherHigh)]) (sd_runS (rest := []) (As := [.ref a_high, .ref a_otherHigh]) S (ct_Model_copy l D g a_high a_otherHigh (H.size) uahigh c_otherHigh F (uaotherHigh) hc) kl_Model_172 (by decide) (by decide) hK hP hD [12, 0] rfl (by decide) rfl hl d_Model_compare_52 rfl (Nat.le_of_ble_eq_true rfl) ⟨Nat.zero_le _, Nat.zero_le _⟩) hP hD hS hA [12, 0] [1, 2, 3, 4, 5, 6, 7, 8, 9, 10, 11, 13, 14, 15] rfl rfl (by decide) (by decide) rfl (fun H locs hP hD hS => ?_)
        refine lv_aload_n hx hb d_Model_compare_55 rfl (lv_at hl 0 rfl) ?_
        refine va_get (D := D) (ci := 5) (v := .int umo) (C := R_Model) (T := F_Model) (N := 31) hx hb htt i_Model hown hK hP 0 rfl rfl 20 (by decide) (htt _ kf_Model_208) (fun _ h9 => h9) rfl d_Model_compare_56 ?_
        refine lv_istore_n (lv' := [(3, .int umo), (0, .ref mo), (1, .int vI), (2, .int vJ)]) hx hb d_Model_compare_59 rfl hl (by decide) rfl (fun ls hl => ?_)
        refine lv_aload_n hx hb d_Model_compare_60 rfl (lv_at hl 1 rfl) ?_
        refine va_get (D := D) (ci := 5) (v := .int umo_1) (C := R_Model) (T := F_Model) (N := 31) hx hb htt i_Model hown hK hP 0 rfl rfl 21 (by decide) (htt _ kf_Model_211) (fun _ h9 => h9) rfl d_Model_compare_61 ?_
        refine lv_istore (lv' := [(4, .int umo_1), (3, .int umo), (0, .ref mo), (1, .int vI), (2, .int vJ)]) hx hb d_Model_compare_64 hl (by decide) rfl (fun ls hl => ?_)
        refine lv_aload_n hx hb d_Model_compare_66 rfl (lv_at hl 2 rfl) ?_
        refine lv_iload_n hx hb d_Model_compare_67 rfl (lv_at hl 3 rfl) ?_
        obtain ⟨umo_2, umo_3, uaroot_1, uarest_1, uasquare_1, uapart_1, uaplus_1, uaminus_1, ualow_1, uahigh_1, uaone_1, hc, hm⟩ := sd_mb11 hm
        refine sd_cv1 (wr := [(a_otherLow, aJ g 76 uaotherLow), (a_otherHigh, aJ g 76 uaotherHigh)]) (w2 := [(a_otherLow, aJ g 76 uaotherLow), (a_otherHigh, aJ g 76 uaotherHigh), (mo, .inr (5, [.ref a_n, .ref a_d, .ref a_r, .ref a_count, .ref a_newN, .ref a_newD, .ref a_newR, .int m_made, .ref a_out, .int m_outCount, .ref a_root, .ref a_rest, .ref a_square, .ref a_part, .ref a_plus, .ref a_minus, .ref a_low, .ref a_high, .ref a_one, .ref a_two, .int umo_2, .int umo_3, .ref a_otherLow, .ref a_otherHigh, .ref a_digit, .ref a_topA, .ref a_underA, .ref a_topB, .ref a_underB, .ref a_quotient, .ref a_otherQuotient])), (a_n, aJ g 64 c_n), (a_d, aJ g 64 c_d), (a_r, aJ g 64 c_r), (a_count, aI g 8 c_count), (a_root, aJ g 76 uaroot_1), (a_rest, aJ g 76 uarest_1), (a_square, aJ g 76 uasquare_1), (a_part, aJ g 76 uapart_1), (a_plus, aJ g 76 uaplus_1), (a_minus, aJ g 76 uaminus_1), (a_low, aJ g 76 ualow_1), (a_high, aJ g 76 uahigh_1), (a_one, aJ g 76 uaone_1)]) (sd_runV (rest := []) (As := [.int vI]) S (ct_Model_ends l D g mo a_n a_d a_r a_count a_newN a_newD a_newR a_out a_root a_rest a_square a_part a_plus a_minus a_low a_high a_one a_two a_otherLow a_otherHigh a_digit a_topA a_underA a_topB a_underB a_quotient a_otherQuotient (H.size) vI m_made m_outCount umo umo_1 c_n c_d c_r c_count uaroot uarest uasquare uapart uaplus uaminus ualow uahigh uaone F (umo_2, umo_3, uaroot_1, uarest_1, uasquare_1, uapart_1, uaplus_1, uaminus_1, ualow_1, uahigh_1, uaone_1) hc) kl_Model_218 (by decide) (by decide) hK hP hD [0, 1, 2, 3, 4, 5, 6, 7, 8, 9, 10, 12, 14, 11] rfl (by decide) rfl hl d_Model_compare_68 rfl (Nat.le_of_ble_eq_true rfl) ⟨Nat.zero_le _, Nat.zero_le _⟩ 0 rfl rfl) hP hD hS hA [0, 1, 2, 3, 4, 5, 6, 7, 8, 9, 10, 12, 14, 11] [13, 15] rfl rfl (by decide) (by decide) rfl (fun H locs hP hD hS => ?_)
        refine lv_aload_n hx hb d_Model_compare_71 rfl (lv_at hl 2 rfl) ?_
        refine va_get (D := D) (ci := 5) (v := .int umo_3) (C := R_Model) (T := F_Model) (N := 31) hx hb htt i_Model hown hK hP 2 rfl rfl 21 (by decide) (htt _ kf_Model_211) (fun _ h9 => h9) rfl d_Model_compare_72 ?_
        refine lv_aload_n hx hb d_Model_compare_75 rfl (lv_at hl 2 rfl) ?_
        refine va_get (D := D) (ci := 5) (v := .ref a_high) (C := R_Model) (T := F_Model) (N := 31) hx hb htt i_Model hown hK hP 2 rfl rfl 17 (by decide) (htt _ kf_Model_57) (fun _ h9 => h9) rfl d_Model_compare_76 ?_
        refine lv_iload_n hx hb d_Model_compare_79 rfl (lv_at hl 1 rfl) ?_
        refine lv_aload_n hx hb d_Model_compare_80 rfl (lv_at hl 2 rfl) ?_
        refine va_get (D := D) (ci := 5) (v := .ref a_otherLow) (C := R_Model) (T := F_Model) (N := 31) hx hb htt i_Model hown hK hP 2 rfl rfl 22 (by decide) (htt _ kf_Model_66) (fun _ h9 => h9) rfl d_Model_compare_81 ?_
        obtain ⟨r_3, hc, hm⟩ := sd_mb1 hm
        refine sd_ci0 (wr := [(a_otherHigh, aJ g 76 uaotherHigh), (mo, .inr (5, [.ref a_n, .ref a_d, .ref a_r, .ref a_count, .ref a_newN, .ref a_newD, .ref a_newR, .int m_made, .ref a_out, .int m_outCount, .ref a_root, .ref a_rest, .ref a_square, .ref a_part, .ref a_plus, .ref a_minus, .ref a_low, .ref a_high, .ref a_one, .ref a_two, .int umo_2, .int umo_3, .ref a_otherLow, .ref a_otherHigh, .ref a_digit, .ref a_topA, .ref a_underA, .ref a_topB, .ref a_underB, .ref a_quotient, .ref a_otherQuotient])), (a_n, aJ g 64 c_n), (a_d, aJ g 64 c_d), (a_r, aJ g 64 c_r), (a_count, aI g 8 c_count), (a_root, aJ g 76 uaroot_1), (a_rest, aJ g 76 uarest_1), (a_square, aJ g 76 uasquare_1), (a_part, aJ g 76 uapart_1), (a_plus, aJ g 76 uaplus_1), (a_minus, aJ g 76 uaminus_1), (a_low, aJ g 76 ualow_1), (a_one, aJ g 76 uaone_1)]) (w2 := [(a_otherHigh, aJ g 76 uaotherHigh), (mo, .inr (5, [.ref a_n, .ref a_d, .ref a_r, .ref a_count, .ref a_newN, .ref a_newD, .ref a_newR, .int m_made, .ref a_out, .int m_outCount, .ref a_root, .ref a_rest, .ref a_square, .ref a_part, .ref a_plus, .ref a_minus, .ref a_low, .ref a_high, .ref a_one, .ref a_two, .int umo_2, .int umo_3, .ref a_otherLow, .ref a_otherHigh, .ref a_digit, .ref a_topA, .ref a_underA, .ref a_topB, .ref a_underB, .ref a_quotient, .ref a_otherQuotient])), (a_n, aJ g 64 c_n), (a_d, aJ g 64 c_d), (a_r, aJ g 64 c_r), (a_count, aI g 8 c_count), (a_root, aJ g 76 uaroot_1), (a_rest, aJ g 76 uarest_1), (a_square, aJ g 76 uasquare_1), (a_part, aJ g 76 uapart_1), (a_plus, aJ g 76 uaplus_1), (a_minus, aJ g 76 uaminus_1), (a_low, aJ g 76 ualow_1), (a_one, aJ g 76 uaone_1), (a_high, aJ g 76 uahigh_1), (a_otherLow, aJ g 76 uaotherLow)]) (sd_runS (rest := []) (As := [.int umo_3, .ref a_high, .int umo, .ref a_otherLow]) S (ct_Model_isBelow l D g a_high a_otherLow (H.size) umo_3 umo uahigh_1 uaotherLow F (r_3) hc) kl_Model_221 (by decide) (by decide) hK hP hD [14, 0] rfl (by decide) rfl hl d_Model_compare_84 rfl (Nat.le_of_ble_eq_true rfl) ⟨Nat.zero_le _, Nat.zero_le _⟩) hP hD hS hA [14, 0] [1, 2, 3, 4, 5, 6, 7, 8, 9, 10, 11, 12, 13, 15] rfl rfl (by decide) (by decide) rfl (fun H locs hP hD hS => ?_)
        refine W.eq (g2 := F0 m 87 ls [.int r_3]) rfl ?_
        refine lv_if_eq (tgt := 92) hx hb d_Model_compare_87 (by decide) (fun hc => ?_) (fun hc => ?_)
        · have hm := sd_mt hc hm
          refine lv_iload hx hb d_Model_compare_92 (lv_at hl 0 rfl) ?_
          refine lv_aload_n hx hb d_Model_compare_94 rfl (lv_at hl 2 rfl) ?_
          refine va_get (D := D) (ci := 5) (v := .ref a_otherHigh) (C := R_Model) (T := F_Model) (N := 31) hx hb htt i_Model hown hK hP 1 rfl rfl 23 (by decide) (htt _ kf_Model_69) (fun _ h9 => h9) rfl d_Model_compare_95 ?_
          refine lv_aload_n hx hb d_Model_compare_98 rfl (lv_at hl 2 rfl) ?_
          refine va_get (D := D) (ci := 5) (v := .int umo_2) (C := R_Model) (T := F_Model) (N := 31) hx hb htt i_Model hown hK hP 1 rfl rfl 20 (by decide) (htt _ kf_Model_208) (fun _ h9 => h9) rfl d_Model_compare_99 ?_
          refine lv_aload_n hx hb d_Model_compare_102 rfl (lv_at hl 2 rfl) ?_
          refine va_get (D := D) (ci := 5) (v := .ref a_low) (C := R_Model) (T := F_Model) (N := 31) hx hb htt i_Model hown hK hP 1 rfl rfl 16 (by decide) (htt _ kf_Model_54) (fun _ h9 => h9) rfl d_Model_compare_103 ?_
          obtain ⟨r_4, hc, hm⟩ := sd_mb1 hm
          refine sd_ci0 (wr := [(mo, .inr (5, [.ref a_n, .ref a_d, .ref a_r, .ref a_count, .ref a_newN, .ref a_newD, .ref a_newR, .int m_made, .ref a_out, .int m_outCount, .ref a_root, .ref a_rest, .ref a_square, .ref a_part, .ref a_plus, .ref a_minus, .ref a_low, .ref a_high, .ref a_one, .ref a_two, .int umo_2, .int umo_3, .ref a_otherLow, .ref a_otherHigh, .ref a_digit, .ref a_topA, .ref a_underA, .ref a_topB, .ref a_underB, .ref a_quotient, .ref a_otherQuotient])), (a_n, aJ g 64 c_n), (a_d, aJ g 64 c_d), (a_r, aJ g 64 c_r), (a_count, aI g 8 c_count), (a_root, aJ g 76 uaroot_1), (a_rest, aJ g 76 uarest_1), (a_square, aJ g 76 uasquare_1), (a_part, aJ g 76 uapart_1), (a_plus, aJ g 76 uaplus_1), (a_minus, aJ g 76 uaminus_1), (a_one, aJ g 76 uaone_1), (a_high, aJ g 76 uahigh_1), (a_otherLow, aJ g 76 uaotherLow)]) (w2 := [(mo, .inr (5, [.ref a_n, .ref a_d, .ref a_r, .ref a_count, .ref a_newN, .ref a_newD, .ref a_newR, .int m_made, .ref a_out, .int m_outCount, .ref a_root, .ref a_rest, .ref a_square, .ref a_part, .ref a_plus, .ref a_minus, .ref a_low, .ref a_high, .ref a_one, .ref a_two, .int umo_2, .int umo_3, .ref a_otherLow, .ref a_otherHigh, .ref a_digit, .ref a_topA, .ref a_underA, .ref a_topB, .ref a_underB, .ref a_quotient, .ref a_otherQuotient])), (a_n, aJ g 64 c_n), (a_d, aJ g 64 c_d), (a_r, aJ g 64 c_r), (a_count, aI g 8 c_count), (a_root, aJ g 76 uaroot_1), (a_rest, aJ g 76 uarest_1), (a_square, aJ g 76 uasquare_1), (a_part, aJ g 76 uapart_1), (a_plus, aJ g 76 uaplus_1), (a_minus, aJ g 76 uaminus_1), (a_one, aJ g 76 uaone_1), (a_high, aJ g 76 uahigh_1), (a_otherLow, aJ g 76 uaotherLow), (a_otherHigh, aJ g 76 uaotherHigh), (a_low, aJ g 76 ualow_1)]) (sd_runS (rest := []) (As := [.int umo_1, .ref a_otherHigh, .int umo_2, .ref a_low]) S (ct_Model_isBelow l D g a_otherHigh a_low (H.size) umo_1 umo_2 uaotherHigh ualow_1 F (r_4) hc) kl_Model_221 (by decide) (by decide) hK hP hD [0, 12] rfl (by decide) rfl hl d_Model_compare_106 rfl (Nat.le_of_ble_eq_true rfl) ⟨Nat.zero_le _, Nat.zero_le _⟩) hP hD hS hA [0, 12] [1, 2, 3, 4, 5, 6, 7, 8, 9, 10, 11, 13, 14, 15] rfl rfl (by decide) (by decide) rfl (fun H locs hP hD hS => ?_)
          refine W.eq (g2 := F0 m 109 ls [.int r_4]) rfl ?_
          obtain ⟨y, hv, hm⟩ := sd_mb1 hm
          have J118_1 : ∀ (H : Heap) (locs : List Loc) (ls : Array Slot), va_P D classes [(mo, .inr (5, [.ref a_n, .ref a_d, .ref a_r, .ref a_count, .ref a_newN, .ref a_newD, .ref a_newR, .int m_made, .ref a_out, .int m_outCount, .ref a_root, .ref a_rest, .ref a_square, .ref a_part, .ref a_plus, .ref a_minus, .ref a_low, .ref a_high, .ref a_one, .ref a_two, .int umo_2, .int umo_3, .ref a_otherLow, .ref a_otherHigh, .ref a_digit, .ref a_topA, .ref a_underA, .ref a_topB, .ref a_underB, .ref a_quotient, .ref a_otherQuotient])), (a_n, aJ g 64 c_n), (a_d, aJ g 64 c_d), (a_r, aJ g 64 c_r), (a_count, aI g 8 c_count), (a_root, aJ g 76 uaroot_1), (a_rest, aJ g 76 uarest_1), (a_square, aJ g 76 uasquare_1), (a_part, aJ g 76 uapart_1), (a_plus, aJ g 76 uaplus_1), (a_minus, aJ g 76 uaminus_1), (a_one, aJ g 76 uaone_1), (a_high, aJ g 76 uahigh_1), (a_otherLow, aJ g 76 uaotherLow), (a_otherHigh, aJ g 76 uaotherHigh), (a_low, aJ g 76 ualow_1)] H → va_D A [(mo, .inr (5, [.ref a_n, .ref a_d, .ref a_r, .ref a_count, .ref a_newN, .ref a_newD, .ref a_newR, .int m_made, .ref a_out, .int m_outCount, .ref a_root, .ref a_rest, .ref a_square, .ref a_part, .ref a_plus, .ref a_minus, .ref a_low, .ref a_high, .ref a_one, .ref a_two, .int umo_2, .int umo_3, .ref a_otherLow, .ref a_otherHigh, .ref a_digit, .ref a_topA, .ref a_underA, .ref a_topB, .ref a_underB, .ref a_quotient, .ref a_otherQuotient])), (a_n, aJ g 64 c_n), (a_d, aJ g 64 c_d), (a_r, aJ g 64 c_r), (a_count, aI g 8 c_count), (a_root, aJ g 76 uaroot_1), (a_rest, aJ g 76 uarest_1), (a_square, aJ g 76 uasquare_1), (a_part, aJ g 76 uapart_1), (a_plus, aJ g 76 uaplus_1), (a_minus, aJ g 76 uaminus_1), (a_one, aJ g 76 uaone_1), (a_high, aJ g 76 uahigh_1), (a_otherLow, aJ g 76 uaotherLow), (a_otherHigh, aJ g 76 uaotherHigh), (a_low, aJ g 76 ualow_1)] → va_S A s.heap H locs → lv_has ls 5 [] → W p l e rm_Model_compare s m args below meth c H locs 0 0 Q (F0 m 118 ls [.int y]) := by
            intro H locs ls hP hD hS hl
            exact sd_i1ret (u := (umo_2, umo_3, uaroot_1, uarest_1, uasquare_1, uapart_1, uaplus_1, uaminus_1, ualow_1, uahigh_1, uaone_1, uaotherLow, uaotherHigh)) hQ hx hb hr hlk hK (hP.sub [0, 1, 2, 3, 4, 5, 6, 7, 8, 9, 10, 15, 12, 11, 13, 14] rfl) (hD.sub [0, 1, 2, 3, 4, 5, 6, 7, 8, 9, 10, 15, 12, 11, 13, 14] (by decide) rfl) hS (Option.some.inj hm).symm d_Model_compare_118
          replace hm := hv
          refine lv_if_eq (tgt := 116) hx hb d_Model_compare_109 (by decide) (fun hc => ?_) (fun hc => ?_)
          · have hm := sd_mt hc hm
            refine lv_bipush (v := (-4 : Int32)) hx hb d_Model_compare_116 (by decide) ?_
            cases hm
            exact J118_1 H locs ls (hP.sub [0, 1, 2, 3, 4, 5, 6, 7, 8, 9, 10, 11, 12, 13, 14, 15] rfl) (hD.sub [0, 1, 2, 3, 4, 5, 6, 7, 8, 9, 10, 11, 12, 13, 14, 15] (by decide) rfl) hS (lv_sub hl [] rfl)
          · have hm := sd_mf hc hm
            refine lv_iconst (v := (1 : Int32)) hx hb d_Model_compare_112 (by decide) ?_
            refine lv_goto (tgt := 118) hx hb d_Model_compare_113 (by decide) ?_
            cases hm
            exact J118_1 H locs ls (hP.sub [0, 1, 2, 3, 4, 5, 6, 7, 8, 9, 10, 11, 12, 13, 14, 15] rfl) (hD.sub [0, 1, 2, 3, 4, 5, 6, 7, 8, 9, 10, 11, 12, 13, 14, 15] (by decide) rfl) hS (lv_sub hl [] rfl)
        · have hm := sd_mf hc hm
          refine lv_iconst (v := (-1 : Int32)) hx hb d_Model_compare_90 (by decide) ?_
          exact sd_i1ret (u := (umo_2, umo_3, uaroot_1, uarest_1, uasquare_1, uapart_1, uaplus_1, uaminus_1, ualow_1, uahigh_1, uaone_1, uaotherLow, uaotherHigh)) hQ hx hb hr hlk hK (hP.sub [1, 2, 3, 4, 5, 6, 7, 8, 9, 10, 11, 12, 14, 13, 15, 0] rfl) (hD.sub [1, 2, 3, 4, 5, 6, 7, 8, 9, 10, 11, 12, 14, 13, 15, 0] (by decide) rfl) hS (Option.some.inj hm).symm d_Model_compare_91
      · have hm := sd_mf hc hm
        refine lv_iconst (v := (0 : Int32)) hx hb d_Model_compare_26 (by decide) ?_
        exact sd_i1ret (u := (m_lowSign, m_highSign, c_root, c_rest, c_square, c_part, c_plus, c_minus, c_low, c_high, c_one, c_otherLow, c_otherHigh)) hQ hx hb hr hlk hK (hP.sub [11, 12, 13, 14, 15, 0, 1, 2, 3, 4, 5, 6, 7, 8, 9, 10] rfl) (hD.sub [11, 12, 13, 14, 15, 0, 1, 2, 3, 4, 5, 6, 7, 8, 9, 10] (by decide) rfl) hS (Option.some.inj hm).symm d_Model_compare_27
    · have hm := sd_mt hc hm
      refine lv_bipush (v := (-2 : Int32)) hx hb d_Model_compare_14 (by decide) ?_
      exact sd_i1ret (u := (m_lowSign, m_highSign, c_root, c_rest, c_square, c_part, c_plus, c_minus, c_low, c_high, c_one, c_otherLow, c_otherHigh)) hQ hx hb hr hlk hK (hP.sub [0, 1, 2, 3, 4, 5, 6, 7, 8, 9, 10, 11, 12, 13, 14, 15] rfl) (hD.sub [0, 1, 2, 3, 4, 5, 6, 7, 8, 9, 10, 11, 12, 13, 14, 15] (by decide) rfl) hS (Option.some.inj hm).symm d_Model_compare_16
theorem d_Model_small_0 : decode b_Model_small 0 = .ok (.aload_n 1, 1) := by decide +kernel
theorem d_Model_small_1 : decode b_Model_small 1 = .ok (.iconst 1, 1) := by decide +kernel
theorem d_Model_small_2 : decode b_Model_small 2 = .ok (.laload, 1) := by decide +kernel
theorem d_Model_small_3 : decode b_Model_small 3 = .ok (.bipush 32, 2) := by decide +kernel
theorem d_Model_small_5 : decode b_Model_small 5 = .ok (.lshl, 1) := by decide +kernel
theorem d_Model_small_6 : decode b_Model_small 6 = .ok (.aload_n 1, 1) := by decide +kernel
theorem d_Model_small_7 : decode b_Model_small 7 = .ok (.iconst 0, 1) := by decide +kernel
theorem d_Model_small_8 : decode b_Model_small 8 = .ok (.laload, 1) := by decide +kernel
theorem d_Model_small_9 : decode b_Model_small 9 = .ok (.lor, 1) := by decide +kernel
theorem d_Model_small_10 : decode b_Model_small 10 = .ok (.lreturn, 1) := by decide +kernel
def mf_Model_small (F : Nat) (m_made : Int32) (m_outCount : Int32) (m_lowSign : Int32) (m_highSign : Int32) (cE : Nat → Int64) : Option (Int64) :=
  (some ((((cE (1 : Int32).toNatClampNeg) <<< ((32 : Int32).toInt64 &&& 63)) ||| (cE (0 : Int32).toNatClampNeg))))
abbrev rm_Model_small : Room := { frames := 0, cells := 0, slots := 0, locals := 0 }
set_option maxHeartbeats 4000000 in
set_option maxRecDepth 100000 in
theorem ct_Model_small (l : Launch) (D : va_G) (g : G4) (mo : Nat) (a_n : Nat) (a_d : Nat) (a_r : Nat) (a_count : Nat) (a_newN : Nat) (a_newD : Nat) (a_newR : Nat) (a_out : Nat) (a_root : Nat) (a_rest : Nat) (a_square : Nat) (a_part : Nat) (a_plus : Nat) (a_minus : Nat) (a_low : Nat) (a_high : Nat) (a_one : Nat) (a_two : Nat) (a_otherLow : Nat) (a_otherHigh : Nat) (a_digit : Nat) (a_topA : Nat) (a_underA : Nat) (a_topB : Nat) (a_underB : Nat) (a_quotient : Nat) (a_otherQuotient : Nat) (aE : Nat) (sz : Nat) (m_made : Int32) (m_outCount : Int32) (m_lowSign : Int32) (m_highSign : Int32) (cE : Nat → Int64) (F : Nat) (res : Int64) (hm : mf_Model_small F m_made m_outCount m_lowSign m_highSign cE = some res) : Met l y_Model_small (.code y_Model_small b_Model_small 2 (some .long) :: sd_tb) rm_Model_small (sd_PW D g [.ref mo, .ref aE] sz [(mo, .inr (5, [.ref a_n, .ref a_d, .ref a_r, .ref a_count, .ref a_newN, .ref a_newD, .ref a_newR, .int m_made, .ref a_out, .int m_outCount, .ref a_root, .ref a_rest, .ref a_square, .ref a_part, .ref a_plus, .ref a_minus, .ref a_low, .ref a_high, .ref a_one, .ref a_two, .int m_lowSign, .int m_highSign, .ref a_otherLow, .ref a_otherHigh, .ref a_digit, .ref a_topA, .ref a_underA, .ref a_topB, .ref a_underB, .ref a_quotient, .ref a_otherQuotient])), (aE, aJ g 76 cE)]) (sd_Ql0 D g res [(mo, .inr (5, [.ref a_n, .ref a_d, .ref a_r, .ref a_count, .ref a_newN, .ref a_newD, .ref a_newR, .int m_made, .ref a_out, .int m_outCount, .ref a_root, .ref a_rest, .ref a_square, .ref a_part, .ref a_plus, .ref a_minus, .ref a_low, .ref a_high, .ref a_one, .ref a_two, .int m_lowSign, .int m_highSign, .ref a_otherLow, .ref a_otherHigh, .ref a_digit, .ref a_topA, .ref a_underA, .ref a_topB, .ref a_underB, .ref a_quotient, .ref a_otherQuotient])), (aE, aJ g 76 cE)] (va_A [(mo, .inr (5, [.ref a_n, .ref a_d, .ref a_r, .ref a_count, .ref a_newN, .ref a_newD, .ref a_newR, .int m_made, .ref a_out, .int m_outCount, .ref a_root, .ref a_rest, .ref a_square, .ref a_part, .ref a_plus, .ref a_minus, .ref a_low, .ref a_high, .ref a_one, .ref a_two, .int m_lowSign, .int m_highSign, .ref a_otherLow, .ref a_otherHigh, .ref a_digit, .ref a_topA, .ref a_underA, .ref a_topB, .ref a_underB, .ref a_quotient, .ref a_otherQuotient])), (aE, aJ g 76 cE)] sz)) 0 0 (va_A [(mo, .inr (5, [.ref a_n, .ref a_d, .ref a_r, .ref a_count, .ref a_newN, .ref a_newD, .ref a_newR, .int m_made, .ref a_out, .int m_outCount, .ref a_root, .ref a_rest, .ref a_square, .ref a_part, .ref a_plus, .ref a_minus, .ref a_low, .ref a_high, .ref a_one, .ref a_two, .int m_lowSign, .int m_highSign, .ref a_otherLow, .ref a_otherHigh, .ref a_digit, .ref a_topA, .ref a_underA, .ref a_topB, .ref a_underB, .ref a_quotient, .ref a_otherQuotient])), (aE, aJ g 76 cE)] sz) := by
  refine sd_met (Qf := fun A => sd_Ql0 D g res [(mo, .inr (5, [.ref a_n, .ref a_d, .ref a_r, .ref a_count, .ref a_newN, .ref a_newD, .ref a_newR, .int m_made, .ref a_out, .int m_outCount, .ref a_root, .ref a_rest, .ref a_square, .ref a_part, .ref a_plus, .ref a_minus, .ref a_low, .ref a_high, .ref a_one, .ref a_two, .int m_lowSign, .int m_highSign, .ref a_otherLow, .ref a_otherHigh, .ref a_digit, .ref a_topA, .ref a_underA, .ref a_topB, .ref a_underB, .ref a_quotient, .ref a_otherQuotient])), (aE, aJ g 76 cE)] A) (own := R_Model) (by decide +kernel) rfl (Nat.le_of_ble_eq_true rfl) ?_
  intro p e s m args below meth c S hr hlk hK A hA Q hQ H locs hP hD hS ls hl
  have hx := S.1
  have hb := S.2.1
  have hml := S.2.2.1
  have hown := S.2.2.2.1
  have htt := sd_tt S
  replace hl : lv_has ls 2 [(0, .ref mo), (1, .ref aE)] := hl
  unfold mf_Model_small at hm
  refine lv_aload_n hx hb d_Model_small_0 rfl (lv_at hl 1 rfl) ?_
  refine lv_iconst (v := (1 : Int32)) hx hb d_Model_small_1 (by decide) ?_
  refine sd_lald hx hb hK hP 1 rfl (by decide) d_Model_small_2 ?_
  refine lv_bipush (v := (32 : Int32)) hx hb d_Model_small_3 (by decide) ?_
  refine lv_lshl hx hb d_Model_small_5 rfl ?_
  refine lv_aload_n hx hb d_Model_small_6 rfl (lv_at hl 1 rfl) ?_
  refine lv_iconst (v := (0 : Int32)) hx hb d_Model_small_7 (by decide) ?_
  refine sd_lald hx hb hK hP 1 rfl (by decide) d_Model_small_8 ?_
  refine lv_lor hx hb d_Model_small_9 ?_
  exact sd_l0ret hQ hx hb hr hlk hK (hP.sub [0, 1] rfl) (hD.sub [0, 1] (by decide) rfl) hS (Option.some.inj hm).symm d_Model_small_10
theorem d_Model_floorOf_0 : decode b_Model_floorOf 0 = .ok (.aload_n 2, 1) := by decide +kernel
theorem d_Model_floorOf_1 : decode b_Model_floorOf 1 = .ok (.aload_n 0, 1) := by decide +kernel
theorem d_Model_floorOf_2 : decode b_Model_floorOf 2 = .ok (.getfield 60, 3) := by decide +kernel
theorem d_Model_floorOf_5 : decode b_Model_floorOf 5 = .ok (.invokestatic 172, 3) := by decide +kernel
theorem d_Model_floorOf_8 : decode b_Model_floorOf 8 = .ok (.aload_n 0, 1) := by decide +kernel
theorem d_Model_floorOf_9 : decode b_Model_floorOf 9 = .ok (.getfield 60, 3) := by decide +kernel
theorem d_Model_floorOf_12 : decode b_Model_floorOf 12 = .ok (.sipush 1024, 3) := by decide +kernel
theorem d_Model_floorOf_15 : decode b_Model_floorOf 15 = .ok (.invokestatic 225, 3) := by decide +kernel
theorem d_Model_floorOf_18 : decode b_Model_floorOf 18 = .ok (.aload_n 0, 1) := by decide +kernel
theorem d_Model_floorOf_19 : decode b_Model_floorOf 19 = .ok (.aload_n 0, 1) := by decide +kernel
theorem d_Model_floorOf_20 : decode b_Model_floorOf 20 = .ok (.getfield 60, 3) := by decide +kernel
theorem d_Model_floorOf_23 : decode b_Model_floorOf 23 = .ok (.invokevirtual 228, 3) := by decide +kernel
theorem d_Model_floorOf_26 : decode b_Model_floorOf 26 = .ok (.lstore 4, 2) := by decide +kernel
theorem d_Model_floorOf_28 : decode b_Model_floorOf 28 = .ok (.aload_n 0, 1) := by decide +kernel
theorem d_Model_floorOf_29 : decode b_Model_floorOf 29 = .ok (.getfield 60, 3) := by decide +kernel
theorem d_Model_floorOf_32 : decode b_Model_floorOf 32 = .ok (.sipush 1024, 3) := by decide +kernel
theorem d_Model_floorOf_35 : decode b_Model_floorOf 35 = .ok (.invokestatic 185, 3) := by decide +kernel
theorem d_Model_floorOf_38 : decode b_Model_floorOf 38 = .ok (.aload_n 2, 1) := by decide +kernel
theorem d_Model_floorOf_39 : decode b_Model_floorOf 39 = .ok (.aload_n 3, 1) := by decide +kernel
theorem d_Model_floorOf_40 : decode b_Model_floorOf 40 = .ok (.invokestatic 172, 3) := by decide +kernel
theorem d_Model_floorOf_43 : decode b_Model_floorOf 43 = .ok (.aload_n 3, 1) := by decide +kernel
theorem d_Model_floorOf_44 : decode b_Model_floorOf 44 = .ok (.aload_n 0, 1) := by decide +kernel
theorem d_Model_floorOf_45 : decode b_Model_floorOf 45 = .ok (.getfield 60, 3) := by decide +kernel
theorem d_Model_floorOf_48 : decode b_Model_floorOf 48 = .ok (.invokestatic 180, 3) := by decide +kernel
theorem d_Model_floorOf_51 : decode b_Model_floorOf 51 = .ok (.iload_n 1, 1) := by decide +kernel
theorem d_Model_floorOf_52 : decode b_Model_floorOf 52 = .ok (.ifCond .lt 6, 3) := by decide +kernel
theorem d_Model_floorOf_55 : decode b_Model_floorOf 55 = .ok (.lload 4, 2) := by decide +kernel
theorem d_Model_floorOf_57 : decode b_Model_floorOf 57 = .ok (.lreturn, 1) := by decide +kernel
theorem d_Model_floorOf_58 : decode b_Model_floorOf 58 = .ok (.aload_n 3, 1) := by decide +kernel
theorem d_Model_floorOf_59 : decode b_Model_floorOf 59 = .ok (.invokestatic 140, 3) := by decide +kernel
theorem d_Model_floorOf_62 : decode b_Model_floorOf 62 = .ok (.ifCond .ne 7, 3) := by decide +kernel
theorem d_Model_floorOf_65 : decode b_Model_floorOf 65 = .ok (.lload 4, 2) := by decide +kernel
theorem d_Model_floorOf_67 : decode b_Model_floorOf 67 = .ok (.lneg, 1) := by decide +kernel
theorem d_Model_floorOf_68 : decode b_Model_floorOf 68 = .ok (.lreturn, 1) := by decide +kernel
theorem d_Model_floorOf_69 : decode b_Model_floorOf 69 = .ok (.aload_n 0, 1) := by decide +kernel
theorem d_Model_floorOf_70 : decode b_Model_floorOf 70 = .ok (.getfield 63, 3) := by decide +kernel
theorem d_Model_floorOf_73 : decode b_Model_floorOf 73 = .ok (.lconst 1, 1) := by decide +kernel
theorem d_Model_floorOf_74 : decode b_Model_floorOf 74 = .ok (.invokestatic 157, 3) := by decide +kernel
theorem d_Model_floorOf_77 : decode b_Model_floorOf 77 = .ok (.aload_n 0, 1) := by decide +kernel
theorem d_Model_floorOf_78 : decode b_Model_floorOf 78 = .ok (.getfield 63, 3) := by decide +kernel
theorem d_Model_floorOf_81 : decode b_Model_floorOf 81 = .ok (.sipush 1024, 3) := by decide +kernel
theorem d_Model_floorOf_84 : decode b_Model_floorOf 84 = .ok (.invokestatic 185, 3) := by decide +kernel
theorem d_Model_floorOf_87 : decode b_Model_floorOf 87 = .ok (.aload_n 0, 1) := by decide +kernel
theorem d_Model_floorOf_88 : decode b_Model_floorOf 88 = .ok (.getfield 63, 3) := by decide +kernel
theorem d_Model_floorOf_91 : decode b_Model_floorOf 91 = .ok (.aload_n 3, 1) := by decide +kernel
theorem d_Model_floorOf_92 : decode b_Model_floorOf 92 = .ok (.invokestatic 180, 3) := by decide +kernel
theorem d_Model_floorOf_95 : decode b_Model_floorOf 95 = .ok (.aload_n 0, 1) := by decide +kernel
theorem d_Model_floorOf_96 : decode b_Model_floorOf 96 = .ok (.getfield 63, 3) := by decide +kernel
theorem d_Model_floorOf_99 : decode b_Model_floorOf 99 = .ok (.aload_n 3, 1) := by decide +kernel
theorem d_Model_floorOf_100 : decode b_Model_floorOf 100 = .ok (.invokestatic 172, 3) := by decide +kernel
theorem d_Model_floorOf_103 : decode b_Model_floorOf 103 = .ok (.lload 4, 2) := by decide +kernel
theorem d_Model_floorOf_105 : decode b_Model_floorOf 105 = .ok (.lneg, 1) := by decide +kernel
theorem d_Model_floorOf_106 : decode b_Model_floorOf 106 = .ok (.lconst 1, 1) := by decide +kernel
theorem d_Model_floorOf_107 : decode b_Model_floorOf 107 = .ok (.lsub, 1) := by decide +kernel
theorem d_Model_floorOf_108 : decode b_Model_floorOf 108 = .ok (.lreturn, 1) := by decide +kernel
def mf_Model_floorOf (F : Nat) (vS : Int32) (m_made : Int32) (m_outCount : Int32) (m_lowSign : Int32) (m_highSign : Int32) (c_one : Nat → Int64) (c_two : Nat → Int64) (cE : Nat → Int64) (cT : Nat → Int64) : Option (Int64 × (Nat → Int64) × (Nat → Int64) × (Nat → Int64)) :=
  (sd_b1 (mf_Model_copy F cE c_one) fun uaone => (sd_b1 (mf_Model_unshift F (1024 : Int32) uaone) fun uaone_1 => (sd_b1 (mf_Model_small F m_made m_outCount m_lowSign m_highSign uaone_1) fun r => (sd_b1 (mf_Model_shift F (1024 : Int32) uaone_1) fun uaone_2 => (sd_b1 (mf_Model_copy F cE cT) fun uaT => (sd_b1 (mf_Model_subtract F uaT uaone_2) fun uaT_1 => (if vS < 0 then (sd_b1 (mf_Model_size F uaT_1) fun r_1 => (if r_1 = 0 then (some ((-r), uaone_2, c_two, uaT_1)) else (sd_b1 (mf_Model_set F (1 : Int64) c_two) fun uatwo => (sd_b1 (mf_Model_shift F (1024 : Int32) uatwo) fun uatwo_1 => (sd_b1 (mf_Model_subtract F uatwo_1 uaT_1) fun uatwo_2 => (sd_b1 (mf_Model_copy F uatwo_2 uaT_1) fun uaT_2 => (some (((-r) - (1 : Int64)), uaone_2, uatwo_2, uaT_2)))))))) else (some (r, uaone_2, c_two, uaT_1)))))))))
abbrev rm_Model_floorOf : Room := { frames := 2, cells := 0, slots := 0, locals := 46 }
set_option maxHeartbeats 4000000 in
set_option maxRecDepth 100000 in
theorem ct_Model_floorOf (l : Launch) (D : va_G) (g : G4) (mo : Nat) (a_n : Nat) (a_d : Nat) (a_r : Nat) (a_count : Nat) (a_newN : Nat) (a_newD : Nat) (a_newR : Nat) (a_out : Nat) (a_root : Nat) (a_rest : Nat) (a_square : Nat) (a_part : Nat) (a_plus : Nat) (a_minus : Nat) (a_low : Nat) (a_high : Nat) (a_one : Nat) (a_two : Nat) (a_otherLow : Nat) (a_otherHigh : Nat) (a_digit : Nat) (a_topA : Nat) (a_underA : Nat) (a_topB : Nat) (a_underB : Nat) (a_quotient : Nat) (a_otherQuotient : Nat) (aE : Nat) (aT : Nat) (sz : Nat) (vS : Int32) (m_made : Int32) (m_outCount : Int32) (m_lowSign : Int32) (m_highSign : Int32) (c_one : Nat → Int64) (c_two : Nat → Int64) (cE : Nat → Int64) (cT : Nat → Int64) (F : Nat) (res : Int64 × (Nat → Int64) × (Nat → Int64) × (Nat → Int64)) (hm : mf_Model_floorOf F vS m_made m_outCount m_lowSign m_highSign c_one c_two cE cT = some res) : Met l y_Model_floorOf (.code y_Model_floorOf b_Model_floorOf 6 (some .long) :: sd_tb) rm_Model_floorOf (sd_PW D g [.ref mo, .int vS, .ref aE, .ref aT] sz [(mo, .inr (5, [.ref a_n, .ref a_d, .ref a_r, .ref a_count, .ref a_newN, .ref a_newD, .ref a_newR, .int m_made, .ref a_out, .int m_outCount, .ref a_root, .ref a_rest, .ref a_square, .ref a_part, .ref a_plus, .ref a_minus, .ref a_low, .ref a_high, .ref a_one, .ref a_two, .int m_lowSign, .int m_highSign, .ref a_otherLow, .ref a_otherHigh, .ref a_digit, .ref a_topA, .ref a_underA, .ref a_topB, .ref a_underB, .ref a_quotient, .ref a_otherQuotient])), (a_one, aJ g 76 c_one), (a_two, aJ g 76 c_two), (aE, aJ g 76 cE), (aT, aJ g 76 cT)]) (sd_Ql1 D g res (fun u : (Nat → Int64) × (Nat → Int64) × (Nat → Int64) => [(mo, .inr (5, [.ref a_n, .ref a_d, .ref a_r, .ref a_count, .ref a_newN, .ref a_newD, .ref a_newR, .int m_made, .ref a_out, .int m_outCount, .ref a_root, .ref a_rest, .ref a_square, .ref a_part, .ref a_plus, .ref a_minus, .ref a_low, .ref a_high, .ref a_one, .ref a_two, .int m_lowSign, .int m_highSign, .ref a_otherLow, .ref a_otherHigh, .ref a_digit, .ref a_topA, .ref a_underA, .ref a_topB, .ref a_underB, .ref a_quotient, .ref a_otherQuotient])), (a_one, aJ g 76 (u.1)), (a_two, aJ g 76 (u.2.1)), (aE, aJ g 76 cE), (aT, aJ g 76 (u.2.2))]) (va_A [(mo, .inr (5, [.ref a_n, .ref a_d, .ref a_r, .ref a_count, .ref a_newN, .ref a_newD, .ref a_newR, .int m_made, .ref a_out, .int m_outCount, .ref a_root, .ref a_rest, .ref a_square, .ref a_part, .ref a_plus, .ref a_minus, .ref a_low, .ref a_high, .ref a_one, .ref a_two, .int m_lowSign, .int m_highSign, .ref a_otherLow, .ref a_otherHigh, .ref a_digit, .ref a_topA, .ref a_underA, .ref a_topB, .ref a_underB, .ref a_quotient, .ref a_otherQuotient])), (a_one, aJ g 76 c_one), (a_two, aJ g 76 c_two), (aE, aJ g 76 cE), (aT, aJ g 76 cT)] sz)) 0 0 (va_A [(mo, .inr (5, [.ref a_n, .ref a_d, .ref a_r, .ref a_count, .ref a_newN, .ref a_newD, .ref a_newR, .int m_made, .ref a_out, .int m_outCount, .ref a_root, .ref a_rest, .ref a_square, .ref a_part, .ref a_plus, .ref a_minus, .ref a_low, .ref a_high, .ref a_one, .ref a_two, .int m_lowSign, .int m_highSign, .ref a_otherLow, .ref a_otherHigh, .ref a_digit, .ref a_topA, .ref a_underA, .ref a_topB, .ref a_underB, .ref a_quotient, .ref a_otherQuotient])), (a_one, aJ g 76 c_one), (a_two, aJ g 76 c_two), (aE, aJ g 76 cE), (aT, aJ g 76 cT)] sz) := by
  refine sd_met (Qf := fun A => sd_Ql1 D g res (fun u : (Nat → Int64) × (Nat → Int64) × (Nat → Int64) => [(mo, .inr (5, [.ref a_n, .ref a_d, .ref a_r, .ref a_count, .ref a_newN, .ref a_newD, .ref a_newR, .int m_made, .ref a_out, .int m_outCount, .ref a_root, .ref a_rest, .ref a_square, .ref a_part, .ref a_plus, .ref a_minus, .ref a_low, .ref a_high, .ref a_one, .ref a_two, .int m_lowSign, .int m_highSign, .ref a_otherLow, .ref a_otherHigh, .ref a_digit, .ref a_topA, .ref a_underA, .ref a_topB, .ref a_underB, .ref a_quotient, .ref a_otherQuotient])), (a_one, aJ g 76 (u.1)), (a_two, aJ g 76 (u.2.1)), (aE, aJ g 76 cE), (aT, aJ g 76 (u.2.2))]) A) (own := R_Model) (by decide +kernel) rfl (Nat.le_of_ble_eq_true rfl) ?_
  intro p e s m args below meth c S hr hlk hK A hA Q hQ H locs hP hD hS ls hl
  have hx := S.1
  have hb := S.2.1
  have hml := S.2.2.1
  have hown := S.2.2.2.1
  have htt := sd_tt S
  replace hl : lv_has ls 6 [(0, .ref mo), (1, .int vS), (2, .ref aE), (3, .ref aT)] := hl
  unfold mf_Model_floorOf at hm
  refine lv_aload_n hx hb d_Model_floorOf_0 rfl (lv_at hl 2 rfl) ?_
  refine lv_aload_n hx hb d_Model_floorOf_1 rfl (lv_at hl 0 rfl) ?_
  refine va_get (D := D) (ci := 5) (v := .ref a_one) (C := R_Model) (T := F_Model) (N := 31) hx hb htt i_Model hown hK hP 0 rfl rfl 18 (by decide) (htt _ kf_Model_60) (fun _ h9 => h9) rfl d_Model_floorOf_2 ?_
  obtain ⟨uaone, hc, hm⟩ := sd_mb1 hm
  refine sd_cv1 (wr := [(mo, .inr (5, [.ref a_n, .ref a_d, .ref a_r, .ref a_count, .ref a_newN, .ref a_newD, .ref a_newR, .int m_made, .ref a_out, .int m_outCount, .ref a_root, .ref a_rest, .ref a_square, .ref a_part, .ref a_plus, .ref a_minus, .ref a_low, .ref a_high, .ref a_one, .ref a_two, .int m_lowSign, .int m_highSign, .ref a_otherLow, .ref a_otherHigh, .ref a_digit, .ref a_topA, .ref a_underA, .ref a_topB, .ref a_underB, .ref a_quotient, .ref a_otherQuotient])), (a_two, aJ g 76 c_two), (aT, aJ g 76 cT)]) (w2 := [(mo, .inr (5, [.ref a_n, .ref a_d, .ref a_r, .ref a_count, .ref a_newN, .ref a_newD, .ref a_newR, .int m_made, .ref a_out, .int m_outCount, .ref a_root, .ref a_rest, .ref a_square, .ref a_part, .ref a_plus, .ref a_minus, .ref a_low, .ref a_high, .ref a_one, .ref a_two, .int m_lowSign, .int m_highSign, .ref a_otherLow, .ref a_otherHigh, .ref a_digit, .ref a_topA, .ref a_underA, .ref a_topB, .ref a_underB, .ref a_quotient, .ref a_otherQuotient])), (a_two, aJ g 76 c_two), (aT, aJ g 76 cT), (aE, aJ g 76 cE), (a_one, aJ g 76 uaone)]) (sd_runS (rest := []) (As := [.ref aE, .ref a_one]) S (ct_Model_copy l D g aE a_one (H.size) cE c_one F (uaone) hc) kl_Model_172 (by decide) (by decide) hK hP hD [3, 1] rfl (by decide) rfl hl d_Model_floorOf_5 rfl (Nat.le_of_ble_eq_true rfl) ⟨Nat.zero_le _, Nat.zero_le _⟩) hP hD hS hA [3, 1] [0, 2, 4] rfl rfl (by decide) (by decide) rfl (fun H locs hP hD hS => ?_)
  refine lv_aload_n hx hb d_Model_floorOf_8 rfl (lv_at hl 0 rfl) ?_
  refine va_get (D := D) (ci := 5) (v := .ref a_one) (C := R_Model) (T := F_Model) (N := 31) hx hb htt i_Model hown hK hP 0 rfl rfl 18 (by decide) (htt _ kf_Model_60) (fun _ h9 => h9) rfl d_Model_floorOf_9 ?_
  refine lv_sipush (v := (1024 : Int32)) hx hb d_Model_floorOf_12 (by decide) ?_
  obtain ⟨uaone_1, hc, hm⟩ := sd_mb1 hm
  refine sd_cv1 (wr := [(mo, .inr (5, [.ref a_n, .ref a_d, .ref a_r, .ref a_count, .ref a_newN, .ref a_newD, .ref a_newR, .int m_made, .ref a_out, .int m_outCount, .ref a_root, .ref a_rest, .ref a_square, .ref a_part, .ref a_plus, .ref a_minus, .ref a_low, .ref a_high, .ref a_one, .ref a_two, .int m_lowSign, .int m_highSign, .ref a_otherLow, .ref a_otherHigh, .ref a_digit, .ref a_topA, .ref a_underA, .ref a_topB, .ref a_underB, .ref a_quotient, .ref a_otherQuotient])), (a_two, aJ g 76 c_two), (aT, aJ g 76 cT), (aE, aJ g 76 cE)]) (w2 := [(mo, .inr (5, [.ref a_n, .ref a_d, .ref a_r, .ref a_count, .ref a_newN, .ref a_newD, .ref a_newR, .int m_made, .ref a_out, .int m_outCount, .ref a_root, .ref a_rest, .ref a_square, .ref a_part, .ref a_plus, .ref a_minus, .ref a_low, .ref a_high, .ref a_one, .ref a_two, .int m_lowSign, .int m_highSign, .ref a_otherLow, .ref a_otherHigh, .ref a_digit, .ref a_topA, .ref a_underA, .ref a_topB, .ref a_underB, .ref a_quotient, .ref a_otherQuotient])), (a_two, aJ g 76 c_two), (aT, aJ g 76 cT), (aE, aJ g 76 cE), (a_one, aJ g 76 uaone_1)]) (sd_runS (rest := []) (As := [.ref a_one, .int (1024 : Int32)]) S (ct_Model_unshift l D g a_one (H.size) (1024 : Int32) uaone F (uaone_1) hc) kl_Model_225 (by decide) (by decide) hK hP hD [4] rfl (by decide) rfl hl d_Model_floorOf_15 rfl (Nat.le_of_ble_eq_true rfl) ⟨Nat.zero_le _, Nat.zero_le _⟩) hP hD hS hA [4] [0, 1, 2, 3] rfl rfl (by decide) (by decide) rfl (fun H locs hP hD hS => ?_)
  refine lv_aload_n hx hb d_Model_floorOf_18 rfl (lv_at hl 0 rfl) ?_
  refine lv_aload_n hx hb d_Model_floorOf_19 rfl (lv_at hl 0 rfl) ?_
  refine va_get (D := D) (ci := 5) (v := .ref a_one) (C := R_Model) (T := F_Model) (N := 31) hx hb htt i_Model hown hK hP 0 rfl rfl 18 (by decide) (htt _ kf_Model_60) (fun _ h9 => h9) rfl d_Model_floorOf_20 ?_
  obtain ⟨r, hc, hm⟩ := sd_mb1 hm
  refine sd_cl0 (wr := [(a_two, aJ g 76 c_two), (aT, aJ g 76 cT), (aE, aJ g 76 cE)]) (w2 := [(a_two, aJ g 76 c_two), (aT, aJ g 76 cT), (aE, aJ g 76 cE), (mo, .inr (5, [.ref a_n, .ref a_d, .ref a_r, .ref a_count, .ref a_newN, .ref a_newD, .ref a_newR, .int m_made, .ref a_out, .int m_outCount, .ref a_root, .ref a_rest, .ref a_square, .ref a_part, .ref a_plus, .ref a_minus, .ref a_low, .ref a_high, .ref a_one, .ref a_two, .int m_lowSign, .int m_highSign, .ref a_otherLow, .ref a_otherHigh, .ref a_digit, .ref a_topA, .ref a_underA, .ref a_topB, .ref a_underB, .ref a_quotient, .ref a_otherQuotient])), (a_one, aJ g 76 uaone_1)]) (sd_runV (rest := []) (As := [.ref a_one]) S (ct_Model_small l D g mo a_n a_d a_r a_count a_newN a_newD a_newR a_out a_root a_rest a_square a_part a_plus a_minus a_low a_high a_one a_two a_otherLow a_otherHigh a_digit a_topA a_underA a_topB a_underB a_quotient a_otherQuotient a_one (H.size) m_made m_outCount m_lowSign m_highSign uaone_1 F (r) hc) kl_Model_228 (by decide) (by decide) hK hP hD [0, 4] rfl (by decide) rfl hl d_Model_floorOf_23 rfl (Nat.le_of_ble_eq_true rfl) ⟨Nat.zero_le _, Nat.zero_le _⟩ 0 rfl rfl) hP hD hS hA [0, 4] [1, 2, 3] rfl rfl (by decide) (by decide) rfl (fun H locs hP hD hS => ?_)
  refine W.eq (g2 := F0 m 26 ls [.long r]) rfl ?_
  refine lv_lstore (lv' := [(4, .long r), (0, .ref mo), (1, .int vS), (2, .ref aE), (3, .ref aT)]) hx hb d_Model_floorOf_26 hl (by decide) rfl (fun ls hl => ?_)
  refine lv_aload_n hx hb d_Model_floorOf_28 rfl (lv_at hl 1 rfl) ?_
  refine va_get (D := D) (ci := 5) (v := .ref a_one) (C := R_Model) (T := F_Model) (N := 31) hx hb htt i_Model hown hK hP 3 rfl rfl 18 (by decide) (htt _ kf_Model_60) (fun _ h9 => h9) rfl d_Model_floorOf_29 ?_
  refine lv_sipush (v := (1024 : Int32)) hx hb d_Model_floorOf_32 (by decide) ?_
  obtain ⟨uaone_2, hc, hm⟩ := sd_mb1 hm
  refine sd_cv1 (wr := [(a_two, aJ g 76 c_two), (aT, aJ g 76 cT), (aE, aJ g 76 cE), (mo, .inr (5, [.ref a_n, .ref a_d, .ref a_r, .ref a_count, .ref a_newN, .ref a_newD, .ref a_newR, .int m_made, .ref a_out, .int m_outCount, .ref a_root, .ref a_rest, .ref a_square, .ref a_part, .ref a_plus, .ref a_minus, .ref a_low, .ref a_high, .ref a_one, .ref a_two, .int m_lowSign, .int m_highSign, .ref a_otherLow, .ref a_otherHigh, .ref a_digit, .ref a_topA, .ref a_underA, .ref a_topB, .ref a_underB, .ref a_quotient, .ref a_otherQuotient]))]) (w2 := [(a_two, aJ g 76 c_two), (aT, aJ g 76 cT), (aE, aJ g 76 cE), (mo, .inr (5, [.ref a_n, .ref a_d, .ref a_r, .ref a_count, .ref a_newN, .ref a_newD, .ref a_newR, .int m_made, .ref a_out, .int m_outCount, .ref a_root, .ref a_rest, .ref a_square, .ref a_part, .ref a_plus, .ref a_minus, .ref a_low, .ref a_high, .ref a_one, .ref a_two, .int m_lowSign, .int m_highSign, .ref a_otherLow, .ref a_otherHigh, .ref a_digit, .ref a_topA, .ref a_underA, .ref a_topB, .ref a_underB, .ref a_quotient, .ref a_otherQuotient])), (a_one, aJ g 76 uaone_2)]) (sd_runS (rest := []) (As := [.ref a_one, .int (1024 : Int32)]) S (ct_Model_shift l D g a_one (H.size) (1024 : Int32) uaone_1 F (uaone_2) hc) kl_Model_185 (by decide) (by decide) hK hP hD [4] rfl (by decide) rfl hl d_Model_floorOf_35 rfl (Nat.le_of_ble_eq_true rfl) ⟨Nat.zero_le _, Nat.zero_le _⟩) hP hD hS hA [4] [0, 1, 2, 3] rfl rfl (by decide) (by decide) rfl (fun H locs hP hD hS => ?_)
  refine lv_aload_n hx hb d_Model_floorOf_38 rfl (lv_at hl 3 rfl) ?_
  refine lv_aload_n hx hb d_Model_floorOf_39 rfl (lv_at hl 4 rfl) ?_
  obtain ⟨uaT, hc, hm⟩ := sd_mb1 hm
  refine sd_cv1 (wr := [(a_two, aJ g 76 c_two), (mo, .inr (5, [.ref a_n, .ref a_d, .ref a_r, .ref a_count, .ref a_newN, .ref a_newD, .ref a_newR, .int m_made, .ref a_out, .int m_outCount, .ref a_root, .ref a_rest, .ref a_square, .ref a_part, .ref a_plus, .ref a_minus, .ref a_low, .ref a_high, .ref a_one, .ref a_two, .int m_lowSign, .int m_highSign, .ref a_otherLow, .ref a_otherHigh, .ref a_digit, .ref a_topA, .ref a_underA, .ref a_topB, .ref a_underB, .ref a_quotient, .ref a_otherQuotient])), (a_one, aJ g 76 uaone_2)]) (w2 := [(a_two, aJ g 76 c_two), (mo, .inr (5, [.ref a_n, .ref a_d, .ref a_r, .ref a_count, .ref a_newN, .ref a_newD, .ref a_newR, .int m_made, .ref a_out, .int m_outCount, .ref a_root, .ref a_rest, .ref a_square, .ref a_part, .ref a_plus, .ref a_minus, .ref a_low, .ref a_high, .ref a_one, .ref a_two, .int m_lowSign, .int m_highSign, .ref a_otherLow, .ref a_otherHigh, .ref a_digit, .ref a_topA, .ref a_underA, .ref a_topB, .ref a_underB, .ref a_quotient, .ref a_otherQuotient])), (a_one, aJ g 76 uaone_2), (aE, aJ g 76 cE), (aT, aJ g 76 uaT)]) (sd_runS (rest := []) (As := [.ref aE, .ref aT]) S (ct_Model_copy l D g aE aT (H.size) cE cT F (uaT) hc) kl_Model_172 (by decide) (by decide) hK hP hD [2, 1] rfl (by decide) rfl hl d_Model_floorOf_40 rfl (Nat.le_of_ble_eq_true rfl) ⟨Nat.zero_le _, Nat.zero_le _⟩) hP hD hS hA [2, 1] [0, 3, 4] rfl rfl (by decide) (by decide) rfl (fun H locs hP hD hS => ?_)
  refine lv_aload_n hx hb d_Model_floorOf_43 rfl (lv_at hl 4 rfl) ?_
  refine lv_aload_n hx hb d_Model_floorOf_44 rfl (lv_at hl 1 rfl) ?_
  refine va_get (D := D) (ci := 5) (v := .ref a_one) (C := R_Model) (T := F_Model) (N := 31) hx hb htt i_Model hown hK hP 1 rfl rfl 18 (by decide) (htt _ kf_Model_60) (fun _ h9 => h9) rfl d_Model_floorOf_45 ?_
  obtain ⟨uaT_1, hc, hm⟩ := sd_mb1 hm
  refine sd_cv1 (wr := [(a_two, aJ g 76 c_two), (mo, .inr (5, [.ref a_n, .ref a_d, .ref a_r, .ref a_count, .ref a_newN, .ref a_newD, .ref a_newR, .int m_made, .ref a_out, .int m_outCount, .ref a_root, .ref a_rest, .ref a_square, .ref a_part, .ref a_plus, .ref a_minus, .ref a_low, .ref a_high, .ref a_one, .ref a_two, .int m_lowSign, .int m_highSign, .ref a_otherLow, .ref a_otherHigh, .ref a_digit, .ref a_topA, .ref a_underA, .ref a_topB, .ref a_underB, .ref a_quotient, .ref a_otherQuotient])), (aE, aJ g 76 cE)]) (w2 := [(a_two, aJ g 76 c_two), (mo, .inr (5, [.ref a_n, .ref a_d, .ref a_r, .ref a_count, .ref a_newN, .ref a_newD, .ref a_newR, .int m_made, .ref a_out, .int m_outCount, .ref a_root, .ref a_rest, .ref a_square, .ref a_part, .ref a_plus, .ref a_minus, .ref a_low, .ref a_high, .ref a_one, .ref a_two, .int m_lowSign, .int m_highSign, .ref a_otherLow, .ref a_otherHigh, .ref a_digit, .ref a_topA, .ref a_underA, .ref a_topB, .ref a_underB, .ref a_quotient, .ref a_otherQuotient])), (aE, aJ g 76 cE), (aT, aJ g 76 uaT_1), (a_one, aJ g 76 uaone_2)]) (sd_runS (rest := []) (As := [.ref aT, .ref a_one]) S (ct_Model_subtract l D g aT a_one (H.size) uaT uaone_2 F (uaT_1) hc) kl_Model_180 (by decide) (by decide) hK hP hD [4, 2] rfl (by decide) rfl hl d_Model_floorOf_48 rfl (Nat.le_of_ble_eq_true rfl) ⟨Nat.zero_le _, Nat.zero_le _⟩) hP hD hS hA [4, 2] [0, 1, 3] rfl rfl (by decide) (by decide) rfl (fun H locs hP hD hS => ?_)
  refine lv_iload_n hx hb d_Model_floorOf_51 rfl (lv_at hl 2 rfl) ?_
  refine lv_if_lt (tgt := 58) hx hb d_Model_floorOf_52 (by decide) (fun hc => ?_) (fun hc => ?_)
  · have hm := sd_mt hc hm
    refine lv_aload_n hx hb d_Model_floorOf_58 rfl (lv_at hl 4 rfl) ?_
    obtain ⟨r_1, hc, hm⟩ := sd_mb1 hm
    refine sd_ci0 (wr := [(a_two, aJ g 76 c_two), (mo, .inr (5, [.ref a_n, .ref a_d, .ref a_r, .ref a_count, .ref a_newN, .ref a_newD, .ref a_newR, .int m_made, .ref a_out, .int m_outCount, .ref a_root, .ref a_rest, .ref a_square, .ref a_part, .ref a_plus, .ref a_minus, .ref a_low, .ref a_high, .ref a_one, .ref a_two, .int m_lowSign, .int m_highSign, .ref a_otherLow, .ref a_otherHigh, .ref a_digit, .ref a_topA, .ref a_underA, .ref a_topB, .ref a_underB, .ref a_quotient, .ref a_otherQuotient])), (aE, aJ g 76 cE), (a_one, aJ g 76 uaone_2)]) (w2 := [(a_two, aJ g 76 c_two), (mo, .inr (5, [.ref a_n, .ref a_d, .ref a_r, .ref a_count, .ref a_newN, .ref a_newD, .ref a_newR, .int m_made, .ref a_out, .int m_outCount, .ref a_root, .ref a_rest, .ref a_square, .ref a_part, .ref a_plus, .ref a_minus, .ref a_low, .ref a_high, .ref a_one, .ref a_two, .int m_lowSign, .int m_highSign, .ref a_otherLow, .ref a_otherHigh, .ref a_digit, .ref a_topA, .ref a_underA, .ref a_topB, .ref a_underB, .ref a_quotient, .ref a_otherQuotient])), (aE, aJ g 76 cE), (a_one, aJ g 76 uaone_2), (aT, aJ g 76 uaT_1)]) (sd_runS (rest := []) (As := [.ref aT]) S (ct_Model_size l D g aT (H.size) uaT_1 F (r_1) hc) kl_Model_140 (by decide) (by decide) hK hP hD [3] rfl (by decide) rfl hl d_Model_floorOf_59 rfl (Nat.le_of_ble_eq_true rfl) ⟨Nat.zero_le _, Nat.zero_le _⟩) hP hD hS hA [3] [0, 1, 2, 4] rfl rfl (by decide) (by decide) rfl (fun H locs hP hD hS => ?_)
    refine W.eq (g2 := F0 m 62 ls [.int r_1]) rfl ?_
    refine lv_if_ne (tgt := 69) hx hb d_Model_floorOf_62 (by decide) (fun hc => ?_) (fun hc => ?_)
    · have hm := sd_mf hc hm
      refine lv_aload_n hx hb d_Model_floorOf_69 rfl (lv_at hl 1 rfl) ?_
      refine va_get (D := D) (ci := 5) (v := .ref a_two) (C := R_Model) (T := F_Model) (N := 31) hx hb htt i_Model hown hK hP 1 rfl rfl 19 (by decide) (htt _ kf_Model_63) (fun _ h9 => h9) rfl d_Model_floorOf_70 ?_
      refine lv_lconst (v := (1 : Int64)) hx hb d_Model_floorOf_73 (by decide) ?_
      obtain ⟨uatwo, hc, hm⟩ := sd_mb1 hm
      refine sd_cv1 (wr := [(mo, .inr (5, [.ref a_n, .ref a_d, .ref a_r, .ref a_count, .ref a_newN, .ref a_newD, .ref a_newR, .int m_made, .ref a_out, .int m_outCount, .ref a_root, .ref a_rest, .ref a_square, .ref a_part, .ref a_plus, .ref a_minus, .ref a_low, .ref a_high, .ref a_one, .ref a_two, .int m_lowSign, .int m_highSign, .ref a_otherLow, .ref a_otherHigh, .ref a_digit, .ref a_topA, .ref a_underA, .ref a_topB, .ref a_underB, .ref a_quotient, .ref a_otherQuotient])), (aE, aJ g 76 cE), (a_one, aJ g 76 uaone_2), (aT, aJ g 76 uaT_1)]) (w2 := [(mo, .inr (5, [.ref a_n, .ref a_d, .ref a_r, .ref a_count, .ref a_newN, .ref a_newD, .ref a_newR, .int m_made, .ref a_out, .int m_outCount, .ref a_root, .ref a_rest, .ref a_square, .ref a_part, .ref a_plus, .ref a_minus, .ref a_low, .ref a_high, .ref a_one, .ref a_two, .int m_lowSign, .int m_highSign, .ref a_otherLow, .ref a_otherHigh, .ref a_digit, .ref a_topA, .ref a_underA, .ref a_topB, .ref a_underB, .ref a_quotient, .ref a_otherQuotient])), (aE, aJ g 76 cE), (a_one, aJ g 76 uaone_2), (aT, aJ g 76 uaT_1), (a_two, aJ g 76 uatwo)]) (sd_runS (rest := []) (As := [.ref a_two, .long (1 : Int64)]) S (ct_Model_set l D g a_two (H.size) (1 : Int64) c_two F (uatwo) hc) kl_Model_157 (by decide) (by decide) hK hP hD [0] rfl (by decide) rfl hl d_Model_floorOf_74 rfl (Nat.le_of_ble_eq_true rfl) ⟨Nat.zero_le _, Nat.zero_le _⟩) hP hD hS hA [0] [1, 2, 3, 4] rfl rfl (by decide) (by decide) rfl (fun H locs hP hD hS => ?_)
      refine lv_aload_n hx hb d_Model_floorOf_77 rfl (lv_at hl 1 rfl) ?_
      refine va_get (D := D) (ci := 5) (v := .ref a_two) (C := R_Model) (T := F_Model) (N := 31) hx hb htt i_Model hown hK hP 0 rfl rfl 19 (by decide) (htt _ kf_Model_63) (fun _ h9 => h9) rfl d_Model_floorOf_78 ?_
      refine lv_sipush (v := (1024 : Int32)) hx hb d_Model_floorOf_81 (by decide) ?_
      obtain ⟨uatwo_1, hc, hm⟩ := sd_mb1 hm
      refine sd_cv1 (wr := [(mo, .inr (5, [.ref a_n, .ref a_d, .ref a_r, .ref a_count, .ref a_newN, .ref a_newD, .ref a_newR, .int m_made, .ref a_out, .int m_outCount, .ref a_root, .ref a_rest, .ref a_square, .ref a_part, .ref a_plus, .ref a_minus, .ref a_low, .ref a_high, .ref a_one, .ref a_two, .int m_lowSign, .int m_highSign, .ref a_otherLow, .ref a_otherHigh, .ref a_digit, .ref a_topA, .ref a_underA, .ref a_topB, .ref a_underB, .ref a_quotient, .ref a_otherQuotient])), (aE, aJ g 76 cE), (a_one, aJ g 76 uaone_2), (aT, aJ g 76 uaT_1)]) (w2 := [(mo, .inr (5, [.ref a_n, .ref a_d, .ref a_r, .ref a_count, .ref a_newN, .ref a_newD, .ref a_newR, .int m_made, .ref a_out, .int m_outCount, .ref a_root, .ref a_rest, .ref a_square, .ref a_part, .ref a_plus, .ref a_minus, .ref a_low, .ref a_high, .ref a_one, .ref a_two, .int m_lowSign, .int m_highSign, .ref a_otherLow, .ref a_otherHigh, .ref a_digit, .ref a_topA, .ref a_underA, .ref a_topB, .ref a_underB, .ref a_quotient, .ref a_otherQuotient])), (aE, aJ g 76 cE), (a_one, aJ g 76 uaone_2), (aT, aJ g 76 uaT_1), (a_two, aJ g 76 uatwo_1)]) (sd_runS (rest := []) (As := [.ref a_two, .int (1024 : Int32)]) S (ct_Model_shift l D g a_two (H.size) (1024 : Int32) uatwo F (uatwo_1) hc) kl_Model_185 (by decide) (by decide) hK hP hD [4] rfl (by decide) rfl hl d_Model_floorOf_84 rfl (Nat.le_of_ble_eq_true rfl) ⟨Nat.zero_le _, Nat.zero_le _⟩) hP hD hS hA [4] [0, 1, 2, 3] rfl rfl (by decide) (by decide) rfl (fun H locs hP hD hS => ?_)
      refine lv_aload_n hx hb d_Model_floorOf_87 rfl (lv_at hl 1 rfl) ?_
      refine va_get (D := D) (ci := 5) (v := .ref a_two) (C := R_Model) (T := F_Model) (N := 31) hx hb htt i_Model hown hK hP 0 rfl rfl 19 (by decide) (htt _ kf_Model_63) (fun _ h9 => h9) rfl d_Model_floorOf_88 ?_
      refine lv_aload_n hx hb d_Model_floorOf_91 rfl (lv_at hl 4 rfl) ?_
      obtain ⟨uatwo_2, hc, hm⟩ := sd_mb1 hm
      refine sd_cv1 (wr := [(mo, .inr (5, [.ref a_n, .ref a_d, .ref a_r, .ref a_count, .ref a_newN, .ref a_newD, .ref a_newR, .int m_made, .ref a_out, .int m_outCount, .ref a_root, .ref a_rest, .ref a_square, .ref a_part, .ref a_plus, .ref a_minus, .ref a_low, .ref a_high, .ref a_one, .ref a_two, .int m_lowSign, .int m_highSign, .ref a_otherLow, .ref a_otherHigh, .ref a_digit, .ref a_topA, .ref a_underA, .ref a_topB, .ref a_underB, .ref a_quotient, .ref a_otherQuotient])), (aE, aJ g 76 cE), (a_one, aJ g 76 uaone_2)]) (w2 := [(mo, .inr (5, [.ref a_n, .ref a_d, .ref a_r, .ref a_count, .ref a_newN, .ref a_newD, .ref a_newR, .int m_made, .ref a_out, .int m_outCount, .ref a_root, .ref a_rest, .ref a_square, .ref a_part, .ref a_plus, .ref a_minus, .ref a_low, .ref a_high, .ref a_one, .ref a_two, .int m_lowSign, .int m_highSign, .ref a_otherLow, .ref a_otherHigh, .ref a_digit, .ref a_topA, .ref a_underA, .ref a_topB, .ref a_underB, .ref a_quotient, .ref a_otherQuotient])), (aE, aJ g 76 cE), (a_one, aJ g 76 uaone_2), (a_two, aJ g 76 uatwo_2), (aT, aJ g 76 uaT_1)]) (sd_runS (rest := []) (As := [.ref a_two, .ref aT]) S (ct_Model_subtract l D g a_two aT (H.size) uatwo_1 uaT_1 F (uatwo_2) hc) kl_Model_180 (by decide) (by decide) hK hP hD [4, 3] rfl (by decide) rfl hl d_Model_floorOf_92 rfl (Nat.le_of_ble_eq_true rfl) ⟨Nat.zero_le _, Nat.zero_le _⟩) hP hD hS hA [4, 3] [0, 1, 2] rfl rfl (by decide) (by decide) rfl (fun H locs hP hD hS => ?_)
      refine lv_aload_n hx hb d_Model_floorOf_95 rfl (lv_at hl 1 rfl) ?_
      refine va_get (D := D) (ci := 5) (v := .ref a_two) (C := R_Model) (T := F_Model) (N := 31) hx hb htt i_Model hown hK hP 0 rfl rfl 19 (by decide) (htt _ kf_Model_63) (fun _ h9 => h9) rfl d_Model_floorOf_96 ?_
      refine lv_aload_n hx hb d_Model_floorOf_99 rfl (lv_at hl 4 rfl) ?_
      obtain ⟨uaT_2, hc, hm⟩ := sd_mb1 hm
      refine sd_cv1 (wr := [(mo, .inr (5, [.ref a_n, .ref a_d, .ref a_r, .ref a_count, .ref a_newN, .ref a_newD, .ref a_newR, .int m_made, .ref a_out, .int m_outCount, .ref a_root, .ref a_rest, .ref a_square, .ref a_part, .ref a_plus, .ref a_minus, .ref a_low, .ref a_high, .ref a_one, .ref a_two, .int m_lowSign, .int m_highSign, .ref a_otherLow, .ref a_otherHigh, .ref a_digit, .ref a_topA, .ref a_underA, .ref a_topB, .ref a_underB, .ref a_quotient, .ref a_otherQuotient])), (aE, aJ g 76 cE), (a_one, aJ g 76 uaone_2)]) (w2 := [(mo, .inr (5, [.ref a_n, .ref a_d, .ref a_r, .ref a_count, .ref a_newN, .ref a_newD, .ref a_newR, .int m_made, .ref a_out, .int m_outCount, .ref a_root, .ref a_rest, .ref a_square, .ref a_part, .ref a_plus, .ref a_minus, .ref a_low, .ref a_high, .ref a_one, .ref a_two, .int m_lowSign, .int m_highSign, .ref a_otherLow, .ref a_otherHigh, .ref a_digit, .ref a_topA, .ref a_underA, .ref a_topB, .ref a_underB, .ref a_quotient, .ref a_otherQuotient])), (aE, aJ g 76 cE), (a_one, aJ g 76 uaone_2), (a_two, aJ g 76 uatwo_2), (aT, aJ g 76 uaT_2)]) (sd_runS (rest := []) (As := [.ref a_two, .ref aT]) S (ct_Model_copy l D g a_two aT (H.size) uatwo_2 uaT_1 F (uaT_2) hc) kl_Model_172 (by decide) (by decide) hK hP hD [3, 4] rfl (by decide) rfl hl d_Model_floorOf_100 rfl (Nat.le_of_ble_eq_true rfl) ⟨Nat.zero_le _, Nat.zero_le _⟩) hP hD hS hA [3, 4] [0, 1, 2] rfl rfl (by decide) (by decide) rfl (fun H locs hP hD hS => ?_)
      refine lv_lload hx hb d_Model_floorOf_103 (lv_at hl 0 rfl) ?_
      refine lv_lneg hx hb d_Model_floorOf_105 ?_
      refine lv_lconst (v := (1 : Int64)) hx hb d_Model_floorOf_106 (by decide) ?_
      refine lv_lsub hx hb d_Model_floorOf_107 ?_
      exact sd_l1ret (u := (uaone_2, uatwo_2, uaT_2)) hQ hx hb hr hlk hK (hP.sub [0, 2, 3, 1, 4] rfl) (hD.sub [0, 2, 3, 1, 4] (by decide) rfl) hS (Option.some.inj hm).symm d_Model_floorOf_108
    · have hm := sd_mt hc hm
      refine lv_lload hx hb d_Model_floorOf_65 (lv_at hl 0 rfl) ?_
      refine lv_lneg hx hb d_Model_floorOf_67 ?_
      exact sd_l1ret (u := (uaone_2, c_two, uaT_1)) hQ hx hb hr hlk hK (hP.sub [1, 3, 0, 2, 4] rfl) (hD.sub [1, 3, 0, 2, 4] (by decide) rfl) hS (Option.some.inj hm).symm d_Model_floorOf_68
  · have hm := sd_mf hc hm
    refine lv_lload hx hb d_Model_floorOf_55 (lv_at hl 0 rfl) ?_
    exact sd_l1ret (u := (uaone_2, c_two, uaT_1)) hQ hx hb hr hlk hK (hP.sub [1, 4, 0, 2, 3] rfl) (hD.sub [1, 4, 0, 2, 3] (by decide) rfl) hS (Option.some.inj hm).symm d_Model_floorOf_57
theorem d_Model_fractionFloor_0 : decode b_Model_fractionFloor 0 = .ok (.aload_n 0, 1) := by decide +kernel
theorem d_Model_fractionFloor_1 : decode b_Model_fractionFloor 1 = .ok (.getfield 19, 3) := by decide +kernel
theorem d_Model_fractionFloor_4 : decode b_Model_fractionFloor 4 = .ok (.iload_n 1, 1) := by decide +kernel
theorem d_Model_fractionFloor_5 : decode b_Model_fractionFloor 5 = .ok (.iaload, 1) := by decide +kernel
theorem d_Model_fractionFloor_6 : decode b_Model_fractionFloor 6 = .ok (.ifCond .ne 7, 3) := by decide +kernel
theorem d_Model_fractionFloor_9 : decode b_Model_fractionFloor 9 = .ok (.lconst 0, 1) := by decide +kernel
theorem d_Model_fractionFloor_10 : decode b_Model_fractionFloor 10 = .ok (.goto 12, 3) := by decide +kernel
theorem d_Model_fractionFloor_13 : decode b_Model_fractionFloor 13 = .ok (.aload_n 0, 1) := by decide +kernel
theorem d_Model_fractionFloor_14 : decode b_Model_fractionFloor 14 = .ok (.getfield 9, 3) := by decide +kernel
theorem d_Model_fractionFloor_17 : decode b_Model_fractionFloor 17 = .ok (.bipush 8, 2) := by decide +kernel
theorem d_Model_fractionFloor_19 : decode b_Model_fractionFloor 19 = .ok (.iload_n 1, 1) := by decide +kernel
theorem d_Model_fractionFloor_20 : decode b_Model_fractionFloor 20 = .ok (.imul, 1) := by decide +kernel
theorem d_Model_fractionFloor_21 : decode b_Model_fractionFloor 21 = .ok (.laload, 1) := by decide +kernel
theorem d_Model_fractionFloor_22 : decode b_Model_fractionFloor 22 = .ok (.lstore_n 3, 1) := by decide +kernel
theorem d_Model_fractionFloor_23 : decode b_Model_fractionFloor 23 = .ok (.aload_n 0, 1) := by decide +kernel
theorem d_Model_fractionFloor_24 : decode b_Model_fractionFloor 24 = .ok (.getfield 19, 3) := by decide +kernel
theorem d_Model_fractionFloor_27 : decode b_Model_fractionFloor 27 = .ok (.iload_n 1, 1) := by decide +kernel
theorem d_Model_fractionFloor_28 : decode b_Model_fractionFloor 28 = .ok (.iaload, 1) := by decide +kernel
theorem d_Model_fractionFloor_29 : decode b_Model_fractionFloor 29 = .ok (.ifCond .ne 7, 3) := by decide +kernel
theorem d_Model_fractionFloor_32 : decode b_Model_fractionFloor 32 = .ok (.lconst 1, 1) := by decide +kernel
theorem d_Model_fractionFloor_33 : decode b_Model_fractionFloor 33 = .ok (.goto 12, 3) := by decide +kernel
theorem d_Model_fractionFloor_36 : decode b_Model_fractionFloor 36 = .ok (.aload_n 0, 1) := by decide +kernel
theorem d_Model_fractionFloor_37 : decode b_Model_fractionFloor 37 = .ok (.getfield 13, 3) := by decide +kernel
theorem d_Model_fractionFloor_40 : decode b_Model_fractionFloor 40 = .ok (.bipush 8, 2) := by decide +kernel
theorem d_Model_fractionFloor_42 : decode b_Model_fractionFloor 42 = .ok (.iload_n 1, 1) := by decide +kernel
theorem d_Model_fractionFloor_43 : decode b_Model_fractionFloor 43 = .ok (.imul, 1) := by decide +kernel
theorem d_Model_fractionFloor_44 : decode b_Model_fractionFloor 44 = .ok (.laload, 1) := by decide +kernel
theorem d_Model_fractionFloor_45 : decode b_Model_fractionFloor 45 = .ok (.lstore 5, 2) := by decide +kernel
theorem d_Model_fractionFloor_47 : decode b_Model_fractionFloor 47 = .ok (.iload_n 2, 1) := by decide +kernel
theorem d_Model_fractionFloor_48 : decode b_Model_fractionFloor 48 = .ok (.ifCond .eq 8, 3) := by decide +kernel
theorem d_Model_fractionFloor_51 : decode b_Model_fractionFloor 51 = .ok (.lload_n 3, 1) := by decide +kernel
theorem d_Model_fractionFloor_52 : decode b_Model_fractionFloor 52 = .ok (.lneg, 1) := by decide +kernel
theorem d_Model_fractionFloor_53 : decode b_Model_fractionFloor 53 = .ok (.goto 4, 3) := by decide +kernel
theorem d_Model_fractionFloor_56 : decode b_Model_fractionFloor 56 = .ok (.lload_n 3, 1) := by decide +kernel
theorem d_Model_fractionFloor_57 : decode b_Model_fractionFloor 57 = .ok (.lload 5, 2) := by decide +kernel
theorem d_Model_fractionFloor_59 : decode b_Model_fractionFloor 59 = .ok (.invokestatic 232, 3) := by decide +kernel
theorem d_Model_fractionFloor_62 : decode b_Model_fractionFloor 62 = .ok (.lreturn, 1) := by decide +kernel
def mf_Model_fractionFloor (F : Nat) (vI : Int32) (vTurned : Int32) (m_made : Int32) (m_outCount : Int32) (m_lowSign : Int32) (m_highSign : Int32) (c_n : Nat → Int64) (c_d : Nat → Int64) (c_count : Nat → Int32) : Option (Int64) :=
  (sd_g (sd_ix vI 8) (sd_b1 (if (c_count vI.toNatClampNeg) = 0 then (some ((0 : Int64))) else (sd_g (sd_ix ((8 : Int32) * vI) 64) (some ((c_n ((8 : Int32) * vI).toNatClampNeg))))) fun y => (sd_g (sd_ix vI 8) (sd_b1 (if (c_count vI.toNatClampNeg) = 0 then (some ((1 : Int64))) else (sd_g (sd_ix ((8 : Int32) * vI) 64) (some ((c_d ((8 : Int32) * vI).toNatClampNeg))))) fun y_1 => (sd_b1 (if vTurned = 0 then (some (y)) else (some ((-y)))) fun y_2 => (sd_b1 (mf_Math_floorDiv F y_2 y_1) fun r => (some (r))))))))
abbrev rm_Model_fractionFloor : Room := { frames := 1, cells := 0, slots := 0, locals := 25 }
set_option maxHeartbeats 4000000 in
set_option maxRecDepth 100000 in
theorem ct_Model_fractionFloor (l : Launch) (D : va_G) (g : G4) (mo : Nat) (a_n : Nat) (a_d : Nat) (a_r : Nat) (a_count : Nat) (a_newN : Nat) (a_newD : Nat) (a_newR : Nat) (a_out : Nat) (a_root : Nat) (a_rest : Nat) (a_square : Nat) (a_part : Nat) (a_plus : Nat) (a_minus : Nat) (a_low : Nat) (a_high : Nat) (a_one : Nat) (a_two : Nat) (a_otherLow : Nat) (a_otherHigh : Nat) (a_digit : Nat) (a_topA : Nat) (a_underA : Nat) (a_topB : Nat) (a_underB : Nat) (a_quotient : Nat) (a_otherQuotient : Nat) (sz : Nat) (vI : Int32) (vTurned : Int32) (m_made : Int32) (m_outCount : Int32) (m_lowSign : Int32) (m_highSign : Int32) (c_n : Nat → Int64) (c_d : Nat → Int64) (c_count : Nat → Int32) (F : Nat) (res : Int64) (hm : mf_Model_fractionFloor F vI vTurned m_made m_outCount m_lowSign m_highSign c_n c_d c_count = some res) : Met l y_Model_fractionFloor (.code y_Model_fractionFloor b_Model_fractionFloor 7 (some .long) :: sd_tb) rm_Model_fractionFloor (sd_PW D g [.ref mo, .int vI, .int vTurned] sz [(mo, .inr (5, [.ref a_n, .ref a_d, .ref a_r, .ref a_count, .ref a_newN, .ref a_newD, .ref a_newR, .int m_made, .ref a_out, .int m_outCount, .ref a_root, .ref a_rest, .ref a_square, .ref a_part, .ref a_plus, .ref a_minus, .ref a_low, .ref a_high, .ref a_one, .ref a_two, .int m_lowSign, .int m_highSign, .ref a_otherLow, .ref a_otherHigh, .ref a_digit, .ref a_topA, .ref a_underA, .ref a_topB, .ref a_underB, .ref a_quotient, .ref a_otherQuotient])), (a_n, aJ g 64 c_n), (a_d, aJ g 64 c_d), (a_count, aI g 8 c_count)]) (sd_Ql0 D g res [(mo, .inr (5, [.ref a_n, .ref a_d, .ref a_r, .ref a_count, .ref a_newN, .ref a_newD, .ref a_newR, .int m_made, .ref a_out, .int m_outCount, .ref a_root, .ref a_rest, .ref a_square, .ref a_part, .ref a_plus, .ref a_minus, .ref a_low, .ref a_high, .ref a_one, .ref a_two, .int m_lowSign, .int m_highSign, .ref a_otherLow, .ref a_otherHigh, .ref a_digit, .ref a_topA, .ref a_underA, .ref a_topB, .ref a_underB, .ref a_quotient, .ref a_otherQuotient])), (a_n, aJ g 64 c_n), (a_d, aJ g 64 c_d), (a_count, aI g 8 c_count)] (va_A [(mo, .inr (5, [.ref a_n, .ref a_d, .ref a_r, .ref a_count, .ref a_newN, .ref a_newD, .ref a_newR, .int m_made, .ref a_out, .int m_outCount, .ref a_root, .ref a_rest, .ref a_square, .ref a_part, .ref a_plus, .ref a_minus, .ref a_low, .ref a_high, .ref a_one, .ref a_two, .int m_lowSign, .int m_highSign, .ref a_otherLow, .ref a_otherHigh, .ref a_digit, .ref a_topA, .ref a_underA, .ref a_topB, .ref a_underB, .ref a_quotient, .ref a_otherQuotient])), (a_n, aJ g 64 c_n), (a_d, aJ g 64 c_d), (a_count, aI g 8 c_count)] sz)) 0 0 (va_A [(mo, .inr (5, [.ref a_n, .ref a_d, .ref a_r, .ref a_count, .ref a_newN, .ref a_newD, .ref a_newR, .int m_made, .ref a_out, .int m_outCount, .ref a_root, .ref a_rest, .ref a_square, .ref a_part, .ref a_plus, .ref a_minus, .ref a_low, .ref a_high, .ref a_one, .ref a_two, .int m_lowSign, .int m_highSign, .ref a_otherLow, .ref a_otherHigh, .ref a_digit, .ref a_topA, .ref a_underA, .ref a_topB, .ref a_underB, .ref a_quotient, .ref a_otherQuotient])), (a_n, aJ g 64 c_n), (a_d, aJ g 64 c_d), (a_count, aI g 8 c_count)] sz) := by
  refine sd_met (Qf := fun A => sd_Ql0 D g res [(mo, .inr (5, [.ref a_n, .ref a_d, .ref a_r, .ref a_count, .ref a_newN, .ref a_newD, .ref a_newR, .int m_made, .ref a_out, .int m_outCount, .ref a_root, .ref a_rest, .ref a_square, .ref a_part, .ref a_plus, .ref a_minus, .ref a_low, .ref a_high, .ref a_one, .ref a_two, .int m_lowSign, .int m_highSign, .ref a_otherLow, .ref a_otherHigh, .ref a_digit, .ref a_topA, .ref a_underA, .ref a_topB, .ref a_underB, .ref a_quotient, .ref a_otherQuotient])), (a_n, aJ g 64 c_n), (a_d, aJ g 64 c_d), (a_count, aI g 8 c_count)] A) (own := R_Model) (by decide +kernel) rfl (Nat.le_of_ble_eq_true rfl) ?_
  intro p e s m args below meth c S hr hlk hK A hA Q hQ H locs hP hD hS ls hl
  have hx := S.1
  have hb := S.2.1
  have hml := S.2.2.1
  have hown := S.2.2.2.1
  have htt := sd_tt S
  replace hl : lv_has ls 7 [(0, .ref mo), (1, .int vI), (2, .int vTurned)] := hl
  unfold mf_Model_fractionFloor at hm
  refine lv_aload_n hx hb d_Model_fractionFloor_0 rfl (lv_at hl 0 rfl) ?_
  refine va_get (D := D) (ci := 5) (v := .ref a_count) (C := R_Model) (T := F_Model) (N := 31) hx hb htt i_Model hown hK hP 0 rfl rfl 3 (by decide) (htt _ kf_Model_19) (fun _ h9 => h9) rfl d_Model_fractionFloor_1 ?_
  refine lv_iload_n hx hb d_Model_fractionFloor_4 rfl (lv_at hl 1 rfl) ?_
  obtain ⟨h_1, hm⟩ := sd_mg hm
  refine sd_iald hx hb hK hP 3 rfl h_1 d_Model_fractionFloor_5 ?_
  obtain ⟨y, hv, hm⟩ := sd_mb1 hm
  have J22_2 : ∀ (H : Heap) (locs : List Loc) (ls : Array Slot), va_P D classes [(mo, .inr (5, [.ref a_n, .ref a_d, .ref a_r, .ref a_count, .ref a_newN, .ref a_newD, .ref a_newR, .int m_made, .ref a_out, .int m_outCount, .ref a_root, .ref a_rest, .ref a_square, .ref a_part, .ref a_plus, .ref a_minus, .ref a_low, .ref a_high, .ref a_one, .ref a_two, .int m_lowSign, .int m_highSign, .ref a_otherLow, .ref a_otherHigh, .ref a_digit, .ref a_topA, .ref a_underA, .ref a_topB, .ref a_underB, .ref a_quotient, .ref a_otherQuotient])), (a_n, aJ g 64 c_n), (a_d, aJ g 64 c_d), (a_count, aI g 8 c_count)] H → va_D A [(mo, .inr (5, [.ref a_n, .ref a_d, .ref a_r, .ref a_count, .ref a_newN, .ref a_newD, .ref a_newR, .int m_made, .ref a_out, .int m_outCount, .ref a_root, .ref a_rest, .ref a_square, .ref a_part, .ref a_plus, .ref a_minus, .ref a_low, .ref a_high, .ref a_one, .ref a_two, .int m_lowSign, .int m_highSign, .ref a_otherLow, .ref a_otherHigh, .ref a_digit, .ref a_topA, .ref a_underA, .ref a_topB, .ref a_underB, .ref a_quotient, .ref a_otherQuotient])), (a_n, aJ g 64 c_n), (a_d, aJ g 64 c_d), (a_count, aI g 8 c_count)] → va_S A s.heap H locs → lv_has ls 7 [(0, .ref mo), (1, .int vI), (2, .int vTurned)] → W p l e rm_Model_fractionFloor s m args below meth c H locs 0 0 Q (F0 m 22 ls [.long y]) := by
    intro H locs ls hP hD hS hl
    refine lv_lstore_n (lv' := [(3, .long y), (0, .ref mo), (1, .int vI), (2, .int vTurned)]) hx hb d_Model_fractionFloor_22 rfl hl (by decide) rfl (fun ls hl => ?_)
    refine lv_aload_n hx hb d_Model_fractionFloor_23 rfl (lv_at hl 1 rfl) ?_
    refine va_get (D := D) (ci := 5) (v := .ref a_count) (C := R_Model) (T := F_Model) (N := 31) hx hb htt i_Model hown hK hP 0 rfl rfl 3 (by decide) (htt _ kf_Model_19) (fun _ h9 => h9) rfl d_Model_fractionFloor_24 ?_
    refine lv_iload_n hx hb d_Model_fractionFloor_27 rfl (lv_at hl 2 rfl) ?_
    obtain ⟨h_4, hm⟩ := sd_mg hm
    refine sd_iald hx hb hK hP 3 rfl h_4 d_Model_fractionFloor_28 ?_
    obtain ⟨y_1, hv, hm⟩ := sd_mb1 hm
    have J45_5 : ∀ (H : Heap) (locs : List Loc) (ls : Array Slot), va_P D classes [(mo, .inr (5, [.ref a_n, .ref a_d, .ref a_r, .ref a_count, .ref a_newN, .ref a_newD, .ref a_newR, .int m_made, .ref a_out, .int m_outCount, .ref a_root, .ref a_rest, .ref a_square, .ref a_part, .ref a_plus, .ref a_minus, .ref a_low, .ref a_high, .ref a_one, .ref a_two, .int m_lowSign, .int m_highSign, .ref a_otherLow, .ref a_otherHigh, .ref a_digit, .ref a_topA, .ref a_underA, .ref a_topB, .ref a_underB, .ref a_quotient, .ref a_otherQuotient])), (a_n, aJ g 64 c_n), (a_d, aJ g 64 c_d), (a_count, aI g 8 c_count)] H → va_D A [(mo, .inr (5, [.ref a_n, .ref a_d, .ref a_r, .ref a_count, .ref a_newN, .ref a_newD, .ref a_newR, .int m_made, .ref a_out, .int m_outCount, .ref a_root, .ref a_rest, .ref a_square, .ref a_part, .ref a_plus, .ref a_minus, .ref a_low, .ref a_high, .ref a_one, .ref a_two, .int m_lowSign, .int m_highSign, .ref a_otherLow, .ref a_otherHigh, .ref a_digit, .ref a_topA, .ref a_underA, .ref a_topB, .ref a_underB, .ref a_quotient, .ref a_otherQuotient])), (a_n, aJ g 64 c_n), (a_d, aJ g 64 c_d), (a_count, aI g 8 c_count)] → va_S A s.heap H locs → lv_has ls 7 [(2, .int vTurned), (3, .long y)] → W p l e rm_Model_fractionFloor s m args below meth c H locs 0 0 Q (F0 m 45 ls [.long y_1]) := by
      intro H locs ls hP hD hS hl
      refine lv_lstore (lv' := [(5, .long y_1), (2, .int vTurned), (3, .long y)]) hx hb d_Model_fractionFloor_45 hl (by decide) rfl (fun ls hl => ?_)
      refine lv_iload_n hx hb d_Model_fractionFloor_47 rfl (lv_at hl 1 rfl) ?_
      obtain ⟨y_2, hv, hm⟩ := sd_mb1 hm
      have J57_7 : ∀ (H : Heap) (locs : List Loc) (ls : Array Slot), va_P D classes [(mo, .inr (5, [.ref a_n, .ref a_d, .ref a_r, .ref a_count, .ref a_newN, .ref a_newD, .ref a_newR, .int m_made, .ref a_out, .int m_outCount, .ref a_root, .ref a_rest, .ref a_square, .ref a_part, .ref a_plus, .ref a_minus, .ref a_low, .ref a_high, .ref a_one, .ref a_two, .int m_lowSign, .int m_highSign, .ref a_otherLow, .ref a_otherHigh, .ref a_digit, .ref a_topA, .ref a_underA, .ref a_topB, .ref a_underB, .ref a_quotient, .ref a_otherQuotient])), (a_n, aJ g 64 c_n), (a_d, aJ g 64 c_d), (a_count, aI g 8 c_count)] H → va_D A [(mo, .inr (5, [.ref a_n, .ref a_d, .ref a_r, .ref a_count, .ref a_newN, .ref a_newD, .ref a_newR, .int m_made, .ref a_out, .int m_outCount, .ref a_root, .ref a_rest, .ref a_square, .ref a_part, .ref a_plus, .ref a_minus, .ref a_low, .ref a_high, .ref a_one, .ref a_two, .int m_lowSign, .int m_highSign, .ref a_otherLow, .ref a_otherHigh, .ref a_digit, .ref a_topA, .ref a_underA, .ref a_topB, .ref a_underB, .ref a_quotient, .ref a_otherQuotient])), (a_n, aJ g 64 c_n), (a_d, aJ g 64 c_d), (a_count, aI g 8 c_count)] → va_S A s.heap H locs → lv_has ls 7 [(5, .long y_1)] → W p l e rm_Model_fractionFloor s m args below meth c H locs 0 0 Q (F0 m 57 ls [.long y_2]) := by
        intro H locs ls hP hD hS hl
        refine lv_lload hx hb d_Model_fractionFloor_57 (lv_at hl 0 rfl) ?_
        obtain ⟨r, hc, hm⟩ := sd_mb1 hm
        refine sd_cl0 (wr := [(mo, .inr (5, [.ref a_n, .ref a_d, .ref a_r, .ref a_count, .ref a_newN, .ref a_newD, .ref a_newR, .int m_made, .ref a_out, .int m_outCount, .ref a_root, .ref a_rest, .ref a_square, .ref a_part, .ref a_plus, .ref a_minus, .ref a_low, .ref a_high, .ref a_one, .ref a_two, .int m_lowSign, .int m_highSign, .ref a_otherLow, .ref a_otherHigh, .ref a_digit, .ref a_topA, .ref a_underA, .ref a_topB, .ref a_underB, .ref a_quotient, .ref a_otherQuotient])), (a_n, aJ g 64 c_n), (a_d, aJ g 64 c_d), (a_count, aI g 8 c_count)]) (w2 := [(mo, .inr (5, [.ref a_n, .ref a_d, .ref a_r, .ref a_count, .ref a_newN, .ref a_newD, .ref a_newR, .int m_made, .ref a_out, .int m_outCount, .ref a_root, .ref a_rest, .ref a_square, .ref a_part, .ref a_plus, .ref a_minus, .ref a_low, .ref a_high, .ref a_one, .ref a_two, .int m_lowSign, .int m_highSign, .ref a_otherLow, .ref a_otherHigh, .ref a_digit, .ref a_topA, .ref a_underA, .ref a_topB, .ref a_underB, .ref a_quotient, .ref a_otherQuotient])), (a_n, aJ g 64 c_n), (a_d, aJ g 64 c_d), (a_count, aI g 8 c_count)]) (sd_runS (rest := []) (As := [.long y_2, .long y_1]) S (ct_Math_floorDiv l D g (H.size) y_2 y_1 F (r) hc) kl_Model_232 (by decide) (by decide) hK hP hD [] rfl (by decide) rfl hl d_Model_fractionFloor_59 rfl (Nat.le_of_ble_eq_true rfl) ⟨Nat.zero_le _, Nat.zero_le _⟩) hP hD hS hA [] [0, 1, 2, 3] rfl rfl (by decide) (by decide) rfl (fun H locs hP hD hS => ?_)
        refine W.eq (g2 := F0 m 62 ls [.long r]) rfl ?_
        exact sd_l0ret hQ hx hb hr hlk hK (hP.sub [0, 1, 2, 3] rfl) (hD.sub [0, 1, 2, 3] (by decide) rfl) hS (Option.some.inj hm).symm d_Model_fractionFloor_62
      replace hm := hv
      refine lv_if_eq (tgt := 56) hx hb d_Model_fractionFloor_48 (by decide) (fun hc => ?_) (fun hc => ?_)
      · have hm := sd_mt hc hm
        refine lv_lload_n hx hb d_Model_fractionFloor_56 rfl (lv_at hl 2 rfl) ?_
        cases hm
        exact J57_7 H locs ls (hP.sub [0, 1, 2, 3] rfl) (hD.sub [0, 1, 2, 3] (by decide) rfl) hS (lv_sub hl [0] rfl)
      · have hm := sd_mf hc hm
        refine lv_lload_n hx hb d_Model_fractionFloor_51 rfl (lv_at hl 2 rfl) ?_
        refine lv_lneg hx hb d_Model_fractionFloor_52 ?_
        refine lv_goto (tgt := 57) hx hb d_Model_fractionFloor_53 (by decide) ?_
        cases hm
        exact J57_7 H locs ls (hP.sub [0, 1, 2, 3] rfl) (hD.sub [0, 1, 2, 3] (by decide) rfl) hS (lv_sub hl [0] rfl)
    replace hm := hv
    refine lv_if_ne (tgt := 36) hx hb d_Model_fractionFloor_29 (by decide) (fun hc => ?_) (fun hc => ?_)
    · have hm := sd_mf hc hm
      refine lv_aload_n hx hb d_Model_fractionFloor_36 rfl (lv_at hl 1 rfl) ?_
      refine va_get (D := D) (ci := 5) (v := .ref a_d) (C := R_Model) (T := F_Model) (N := 31) hx hb htt i_Model hown hK hP 0 rfl rfl 1 (by decide) (htt _ kf_Model_13) (fun _ h9 => h9) rfl d_Model_fractionFloor_37 ?_
      refine lv_bipush (v := (8 : Int32)) hx hb d_Model_fractionFloor_40 (by decide) ?_
      refine lv_iload_n hx hb d_Model_fractionFloor_42 rfl (lv_at hl 2 rfl) ?_
      refine lv_imul hx hb d_Model_fractionFloor_43 ?_
      obtain ⟨h_6, hm⟩ := sd_mg hm
      refine sd_lald hx hb hK hP 2 rfl h_6 d_Model_fractionFloor_44 ?_
      cases hm
      exact J45_5 H locs ls (hP.sub [0, 1, 2, 3] rfl) (hD.sub [0, 1, 2, 3] (by decide) rfl) hS (lv_sub hl [3, 0] rfl)
    · have hm := sd_mt hc hm
      refine lv_lconst (v := (1 : Int64)) hx hb d_Model_fractionFloor_32 (by decide) ?_
      refine lv_goto (tgt := 45) hx hb d_Model_fractionFloor_33 (by decide) ?_
      cases hm
      exact J45_5 H locs ls (hP.sub [0, 1, 2, 3] rfl) (hD.sub [0, 1, 2, 3] (by decide) rfl) hS (lv_sub hl [3, 0] rfl)
  replace hm := hv
  refine lv_if_ne (tgt := 13) hx hb d_Model_fractionFloor_6 (by decide) (fun hc => ?_) (fun hc => ?_)
  · have hm := sd_mf hc hm
    refine lv_aload_n hx hb d_Model_fractionFloor_13 rfl (lv_at hl 0 rfl) ?_
    refine va_get (D := D) (ci := 5) (v := .ref a_n) (C := R_Model) (T := F_Model) (N := 31) hx hb htt i_Model hown hK hP 0 rfl rfl 0 (by decide) (htt _ kf_Model_9) (fun _ h9 => h9) rfl d_Model_fractionFloor_14 ?_
    refine lv_bipush (v := (8 : Int32)) hx hb d_Model_fractionFloor_17 (by decide) ?_
    refine lv_iload_n hx hb d_Model_fractionFloor_19 rfl (lv_at hl 1 rfl) ?_
    refine lv_imul hx hb d_Model_fractionFloor_20 ?_
    obtain ⟨h_3, hm⟩ := sd_mg hm
    refine sd_lald hx hb hK hP 1 rfl h_3 d_Model_fractionFloor_21 ?_
    cases hm
    exact J22_2 H locs ls (hP.sub [0, 1, 2, 3] rfl) (hD.sub [0, 1, 2, 3] (by decide) rfl) hS (lv_sub hl [0, 1, 2] rfl)
  · have hm := sd_mt hc hm
    refine lv_lconst (v := (0 : Int64)) hx hb d_Model_fractionFloor_9 (by decide) ?_
    refine lv_goto (tgt := 22) hx hb d_Model_fractionFloor_10 (by decide) ?_
    cases hm
    exact J22_2 H locs ls (hP.sub [0, 1, 2, 3] rfl) (hD.sub [0, 1, 2, 3] (by decide) rfl) hS (lv_sub hl [0, 1, 2] rfl)
