/-! Model_doubleOf, Model_nearestFraction, Model_nearest, Model_term, Model_terms, Model_digits, Model_number, Model_writeFraction, Model_write -/
theorem kf_Model_72 : Cond.fieldLink R_Model 72 "SurdDeskModel" "digit" "[I" ∈ sd_tb := (sd_in (List.mem_of_getElem? (i := 559) (by decide +kernel)) rfl)
theorem kl_Model_263 : sd_LV R_Model 263 y_Model_number b_Model_number 3 none 1 := ⟨(sd_in (List.mem_of_getElem? (i := 799) (by decide +kernel)) rfl), (sd_in (List.mem_of_getElem? (i := 801) (by decide +kernel)) rfl), (sd_in (List.mem_of_getElem? (i := 30) (by decide +kernel)) rfl), (sd_in (List.mem_of_getElem? (i := 40) (by decide +kernel)) rfl), (sd_in (List.mem_of_getElem? (i := 802) (by decide +kernel)) rfl), by decide +kernel, by decide +kernel, by decide +kernel⟩
theorem kl_Model_266 : sd_LV R_Model 266 y_Model_say b_Model_say 2 none 1 := ⟨(sd_in (List.mem_of_getElem? (i := 795) (by decide +kernel)) rfl), (sd_in (List.mem_of_getElem? (i := 797) (by decide +kernel)) rfl), (sd_in (List.mem_of_getElem? (i := 29) (by decide +kernel)) rfl), (sd_in (List.mem_of_getElem? (i := 40) (by decide +kernel)) rfl), (sd_in (List.mem_of_getElem? (i := 798) (by decide +kernel)) rfl), by decide +kernel, by decide +kernel, by decide +kernel⟩
theorem kl_Model_269 : sd_LV R_Model 269 y_Model_writeFraction b_Model_writeFraction 11 none 3 := ⟨(sd_in (List.mem_of_getElem? (i := 791) (by decide +kernel)) rfl), (sd_in (List.mem_of_getElem? (i := 793) (by decide +kernel)) rfl), (sd_in (List.mem_of_getElem? (i := 28) (by decide +kernel)) rfl), (sd_in (List.mem_of_getElem? (i := 40) (by decide +kernel)) rfl), (sd_in (List.mem_of_getElem? (i := 794) (by decide +kernel)) rfl), by decide +kernel, by decide +kernel, by decide +kernel⟩
theorem kl_Model_273 : sd_LV R_Model 273 y_Model_digits b_Model_digits 6 none 1 := ⟨(sd_in (List.mem_of_getElem? (i := 805) (by decide +kernel)) rfl), (sd_in (List.mem_of_getElem? (i := 807) (by decide +kernel)) rfl), (sd_in (List.mem_of_getElem? (i := 31) (by decide +kernel)) rfl), (sd_in (List.mem_of_getElem? (i := 40) (by decide +kernel)) rfl), (sd_in (List.mem_of_getElem? (i := 808) (by decide +kernel)) rfl), by decide +kernel, by decide +kernel, by decide +kernel⟩
theorem kl_Model_298 : sd_LS R_Model 298 y_Model_nearestFraction b_Model_nearestFraction 14 (some .long) 2 := ⟨(sd_in (List.mem_of_getElem? (i := 836) (by decide +kernel)) rfl), (sd_in (List.mem_of_getElem? (i := 837) (by decide +kernel)) rfl), (sd_in (List.mem_of_getElem? (i := 40) (by decide +kernel)) rfl), (sd_in (List.mem_of_getElem? (i := 838) (by decide +kernel)) rfl), by decide +kernel, by decide +kernel, by decide +kernel⟩
theorem kl_Model_305 : sd_LS R_Model 305 y_Model_doubleOf b_Model_doubleOf 6 (some .long) 2 := ⟨(sd_in (List.mem_of_getElem? (i := 842) (by decide +kernel)) rfl), (sd_in (List.mem_of_getElem? (i := 843) (by decide +kernel)) rfl), (sd_in (List.mem_of_getElem? (i := 40) (by decide +kernel)) rfl), (sd_in (List.mem_of_getElem? (i := 844) (by decide +kernel)) rfl), by decide +kernel, by decide +kernel, by decide +kernel⟩
theorem km_Model_259 : Cond.constantLong R_Model 259 (9 : Int64) ∈ sd_tb := (sd_in (List.mem_of_getElem? (i := 803) (by decide +kernel)) rfl)
theorem km_Model_261 : Cond.constantLong R_Model 261 (10 : Int64) ∈ sd_tb := (sd_in (List.mem_of_getElem? (i := 804) (by decide +kernel)) rfl)
theorem km_Model_296 : Cond.constantLong R_Model 296 (4503599627370495 : Int64) ∈ sd_tb := (sd_in (List.mem_of_getElem? (i := 839) (by decide +kernel)) rfl)
theorem km_Model_301 : Cond.constantLong R_Model 301 (-9223372036854775808 : Int64) ∈ sd_tb := (sd_in (List.mem_of_getElem? (i := 840) (by decide +kernel)) rfl)
theorem km_Model_303 : Cond.constantLong R_Model 303 (9221120237041090560 : Int64) ∈ sd_tb := (sd_in (List.mem_of_getElem? (i := 841) (by decide +kernel)) rfl)
theorem d_Model_doubleOf_0 : decode b_Model_doubleOf 0 = .ok (.lload_n 0, 1) := by decide +kernel
theorem d_Model_doubleOf_1 : decode b_Model_doubleOf 1 = .ok (.lconst 1, 1) := by decide +kernel
theorem d_Model_doubleOf_2 : decode b_Model_doubleOf 2 = .ok (.ladd, 1) := by decide +kernel
theorem d_Model_doubleOf_3 : decode b_Model_doubleOf 3 = .ok (.iconst 1, 1) := by decide +kernel
theorem d_Model_doubleOf_4 : decode b_Model_doubleOf 4 = .ok (.lshr, 1) := by decide +kernel
theorem d_Model_doubleOf_5 : decode b_Model_doubleOf 5 = .ok (.lstore_n 3, 1) := by decide +kernel
theorem d_Model_doubleOf_6 : decode b_Model_doubleOf 6 = .ok (.iload_n 2, 1) := by decide +kernel
theorem d_Model_doubleOf_7 : decode b_Model_doubleOf 7 = .ok (.ineg, 1) := by decide +kernel
theorem d_Model_doubleOf_8 : decode b_Model_doubleOf 8 = .ok (.iconst 1, 1) := by decide +kernel
theorem d_Model_doubleOf_9 : decode b_Model_doubleOf 9 = .ok (.iadd, 1) := by decide +kernel
theorem d_Model_doubleOf_10 : decode b_Model_doubleOf 10 = .ok (.istore 5, 2) := by decide +kernel
theorem d_Model_doubleOf_12 : decode b_Model_doubleOf 12 = .ok (.lload_n 3, 1) := by decide +kernel
theorem d_Model_doubleOf_13 : decode b_Model_doubleOf 13 = .ok (.bipush 53, 2) := by decide +kernel
theorem d_Model_doubleOf_15 : decode b_Model_doubleOf 15 = .ok (.lshr, 1) := by decide +kernel
theorem d_Model_doubleOf_16 : decode b_Model_doubleOf 16 = .ok (.lconst 0, 1) := by decide +kernel
theorem d_Model_doubleOf_17 : decode b_Model_doubleOf 17 = .ok (.lcmp, 1) := by decide +kernel
theorem d_Model_doubleOf_18 : decode b_Model_doubleOf 18 = .ok (.ifCond .eq 10, 3) := by decide +kernel
theorem d_Model_doubleOf_21 : decode b_Model_doubleOf 21 = .ok (.lload_n 3, 1) := by decide +kernel
theorem d_Model_doubleOf_22 : decode b_Model_doubleOf 22 = .ok (.iconst 1, 1) := by decide +kernel
theorem d_Model_doubleOf_23 : decode b_Model_doubleOf 23 = .ok (.lshr, 1) := by decide +kernel
theorem d_Model_doubleOf_24 : decode b_Model_doubleOf 24 = .ok (.lstore_n 3, 1) := by decide +kernel
theorem d_Model_doubleOf_25 : decode b_Model_doubleOf 25 = .ok (.iinc 5 1, 3) := by decide +kernel
theorem d_Model_doubleOf_28 : decode b_Model_doubleOf 28 = .ok (.iload 5, 2) := by decide +kernel
theorem d_Model_doubleOf_30 : decode b_Model_doubleOf 30 = .ok (.sipush 1075, 3) := by decide +kernel
theorem d_Model_doubleOf_33 : decode b_Model_doubleOf 33 = .ok (.iadd, 1) := by decide +kernel
theorem d_Model_doubleOf_34 : decode b_Model_doubleOf 34 = .ok (.i2l, 1) := by decide +kernel
theorem d_Model_doubleOf_35 : decode b_Model_doubleOf 35 = .ok (.bipush 52, 2) := by decide +kernel
theorem d_Model_doubleOf_37 : decode b_Model_doubleOf 37 = .ok (.lshl, 1) := by decide +kernel
theorem d_Model_doubleOf_38 : decode b_Model_doubleOf 38 = .ok (.lload_n 3, 1) := by decide +kernel
theorem d_Model_doubleOf_39 : decode b_Model_doubleOf 39 = .ok (.ldc2_w 296, 3) := by decide +kernel
theorem d_Model_doubleOf_42 : decode b_Model_doubleOf 42 = .ok (.land, 1) := by decide +kernel
theorem d_Model_doubleOf_43 : decode b_Model_doubleOf 43 = .ok (.lor, 1) := by decide +kernel
theorem d_Model_doubleOf_44 : decode b_Model_doubleOf 44 = .ok (.lreturn, 1) := by decide +kernel
def mf_Model_doubleOf (F : Nat) (vWhole : Int64) (vS : Int32) : Option (Int64) :=
  (sd_let (((vWhole + (1 : Int64)) >>> ((1 : Int32).toInt64 &&& 63))) fun x3 => (sd_let (((-vS) + (1 : Int32))) fun x5 => (sd_b2 (if (x3 >>> ((53 : Int32).toInt64 &&& 63)) = (0 : Int64) then (some (x3, x5)) else (sd_let ((x3 >>> ((1 : Int32).toInt64 &&& 63))) fun x3_2 => (sd_let (x5 + (1 : Int32)) fun x5_2 => (some (x3_2, x5_2))))) fun x3_1 x5_1 => (some (((((x5_1 + (1075 : Int32)).toInt64) <<< ((52 : Int32).toInt64 &&& 63)) ||| (x3_1 &&& (4503599627370495 : Int64))))))))
abbrev rm_Model_doubleOf : Room := { frames := 0, cells := 0, slots := 0, locals := 0 }
set_option maxHeartbeats 4000000 in
set_option maxRecDepth 100000 in
theorem ct_Model_doubleOf (l : Launch) (D : va_G) (g : G4) (sz : Nat) (vWhole : Int64) (vS : Int32) (F : Nat) (res : Int64) (hm : mf_Model_doubleOf F vWhole vS = some res) : Met l y_Model_doubleOf (.code y_Model_doubleOf b_Model_doubleOf 6 (some .long) :: sd_tb) rm_Model_doubleOf (sd_PW D g [.long vWhole, .int vS] sz []) (sd_Ql0 D g res [] (va_A [] sz)) 0 0 (va_A [] sz) := by
  refine sd_met (Qf := fun A => sd_Ql0 D g res [] A) (own := R_Model) (by decide +kernel) rfl (Nat.le_of_ble_eq_true rfl) ?_
  intro p e s m args below meth c S hr hlk hK A hA Q hQ H locs hP hD hS ls hl
  have hx := S.1
  have hb := S.2.1
  have hml := S.2.2.1
  have hown := S.2.2.2.1
  have htt := sd_tt S
  replace hl : lv_has ls 6 [(0, .long vWhole), (2, .int vS)] := hl
  unfold mf_Model_doubleOf at hm
  refine lv_lload_n hx hb d_Model_doubleOf_0 rfl (lv_at hl 0 rfl) ?_
  refine lv_lconst (v := (1 : Int64)) hx hb d_Model_doubleOf_1 (by decide) ?_
  refine lv_ladd hx hb d_Model_doubleOf_2 ?_
  refine lv_iconst (v := (1 : Int32)) hx hb d_Model_doubleOf_3 (by decide) ?_
  refine lv_lshr hx hb d_Model_doubleOf_4 rfl ?_
  obtain ⟨x3, ex3, hm⟩ := sd_mlet hm
  refine sd_topj ex3 ?_
  refine lv_lstore_n (lv' := [(3, .long x3), (0, .long vWhole), (2, .int vS)]) hx hb d_Model_doubleOf_5 rfl hl (by decide) rfl (fun ls hl => ?_)
  refine lv_iload_n hx hb d_Model_doubleOf_6 rfl (lv_at hl 2 rfl) ?_
  refine lv_ineg hx hb d_Model_doubleOf_7 ?_
  refine lv_iconst (v := (1 : Int32)) hx hb d_Model_doubleOf_8 (by decide) ?_
  refine lv_iadd hx hb d_Model_doubleOf_9 ?_
  obtain ⟨x5, ex5, hm⟩ := sd_mlet hm
  refine sd_topi ex5 ?_
  refine lv_istore (lv' := [(5, .int x5), (3, .long x3), (0, .long vWhole), (2, .int vS)]) hx hb d_Model_doubleOf_10 hl (by decide) rfl (fun ls hl => ?_)
  refine lv_lload_n hx hb d_Model_doubleOf_12 rfl (lv_at hl 1 rfl) ?_
  refine lv_bipush (v := (53 : Int32)) hx hb d_Model_doubleOf_13 (by decide) ?_
  refine lv_lshr hx hb d_Model_doubleOf_15 rfl ?_
  refine lv_lconst (v := (0 : Int64)) hx hb d_Model_doubleOf_16 (by decide) ?_
  obtain ⟨x3_1, x5_1, hv, hm⟩ := sd_mb2 hm
  have J28_1 : ∀ (H : Heap) (locs : List Loc) (ls : Array Slot), va_P D classes [] H → va_D A [] → va_S A s.heap H locs → lv_has ls 6 [(3, .long x3_1), (5, .int x5_1)] → W p l e rm_Model_doubleOf s m args below meth c H locs 0 0 Q (F0 m 28 ls []) := by
    intro H locs ls hP hD hS hl
    refine lv_iload hx hb d_Model_doubleOf_28 (lv_at hl 1 rfl) ?_
    refine lv_sipush (v := (1075 : Int32)) hx hb d_Model_doubleOf_30 (by decide) ?_
    refine lv_iadd hx hb d_Model_doubleOf_33 ?_
    refine lv_i2l hx hb d_Model_doubleOf_34 rfl ?_
    refine lv_bipush (v := (52 : Int32)) hx hb d_Model_doubleOf_35 (by decide) ?_
    refine lv_lshl hx hb d_Model_doubleOf_37 rfl ?_
    refine lv_lload_n hx hb d_Model_doubleOf_38 rfl (lv_at hl 0 rfl) ?_
    refine sd_ldc2 (v := (4503599627370495 : Int64)) hx hb hown (htt _ km_Model_296) d_Model_doubleOf_39 ?_
    refine lv_land hx hb d_Model_doubleOf_42 ?_
    refine lv_lor hx hb d_Model_doubleOf_43 ?_
    exact sd_l0ret hQ hx hb hr hlk hK (hP.sub [] rfl) (hD.sub [] (by decide) rfl) hS (Option.some.inj hm).symm d_Model_doubleOf_44
  replace hm := hv
  refine sd_leq (tgt := 28) hx hb d_Model_doubleOf_17 d_Model_doubleOf_18 (by decide) (fun hc => ?_) (fun hc => ?_)
  · have hm := sd_mt hc hm
    cases hm
    exact J28_1 H locs ls (hP.sub [] rfl) (hD.sub [] (by decide) rfl) hS (lv_sub hl [1, 0] rfl)
  · have hm := sd_mf hc hm
    refine lv_lload_n hx hb d_Model_doubleOf_21 rfl (lv_at hl 1 rfl) ?_
    refine lv_iconst (v := (1 : Int32)) hx hb d_Model_doubleOf_22 (by decide) ?_
    refine lv_lshr hx hb d_Model_doubleOf_23 rfl ?_
    obtain ⟨x3_2, ex3_2, hm⟩ := sd_mlet hm
    refine sd_topj ex3_2 ?_
    refine lv_lstore_n (lv' := [(3, .long x3_2), (5, .int x5), (0, .long vWhole), (2, .int vS)]) hx hb d_Model_doubleOf_24 rfl hl (by decide) rfl (fun ls hl => ?_)
    obtain ⟨x5_2, ex5_2, hm⟩ := sd_mlet hm
    refine lv_iinc (v := x5_2) (lv' := [(5, .int x5_2), (3, .long x3_2), (0, .long vWhole), (2, .int vS)]) hx hb d_Model_doubleOf_25 hl (k := 1) rfl (by rw [ex5_2]; rfl) (by decide) rfl (fun ls hl => ?_)
    cases hm
    exact J28_1 H locs ls (hP.sub [] rfl) (hD.sub [] (by decide) rfl) hS (lv_sub hl [1, 0] rfl)
theorem d_Model_nearestFraction_0 : decode b_Model_nearestFraction 0 = .ok (.lload_n 0, 1) := by decide +kernel
theorem d_Model_nearestFraction_1 : decode b_Model_nearestFraction 1 = .ok (.lstore 4, 2) := by decide +kernel
theorem d_Model_nearestFraction_3 : decode b_Model_nearestFraction 3 = .ok (.lload_n 2, 1) := by decide +kernel
theorem d_Model_nearestFraction_4 : decode b_Model_nearestFraction 4 = .ok (.lstore 6, 2) := by decide +kernel
theorem d_Model_nearestFraction_6 : decode b_Model_nearestFraction 6 = .ok (.iconst 0, 1) := by decide +kernel
theorem d_Model_nearestFraction_7 : decode b_Model_nearestFraction 7 = .ok (.istore 8, 2) := by decide +kernel
theorem d_Model_nearestFraction_9 : decode b_Model_nearestFraction 9 = .ok (.lload 4, 2) := by decide +kernel
theorem d_Model_nearestFraction_11 : decode b_Model_nearestFraction 11 = .ok (.lload 6, 2) := by decide +kernel
theorem d_Model_nearestFraction_13 : decode b_Model_nearestFraction 13 = .ok (.lcmp, 1) := by decide +kernel
theorem d_Model_nearestFraction_14 : decode b_Model_nearestFraction 14 = .ok (.ifCond .ge 15, 3) := by decide +kernel
theorem d_Model_nearestFraction_17 : decode b_Model_nearestFraction 17 = .ok (.lload 4, 2) := by decide +kernel
theorem d_Model_nearestFraction_19 : decode b_Model_nearestFraction 19 = .ok (.iconst 1, 1) := by decide +kernel
theorem d_Model_nearestFraction_20 : decode b_Model_nearestFraction 20 = .ok (.lshl, 1) := by decide +kernel
theorem d_Model_nearestFraction_21 : decode b_Model_nearestFraction 21 = .ok (.lstore 4, 2) := by decide +kernel
theorem d_Model_nearestFraction_23 : decode b_Model_nearestFraction 23 = .ok (.iinc 8 1, 3) := by decide +kernel
theorem d_Model_nearestFraction_26 : decode b_Model_nearestFraction 26 = .ok (.goto (-17), 3) := by decide +kernel
theorem d_Model_nearestFraction_29 : decode b_Model_nearestFraction 29 = .ok (.lload 4, 2) := by decide +kernel
theorem d_Model_nearestFraction_31 : decode b_Model_nearestFraction 31 = .ok (.ldc2_w 126, 3) := by decide +kernel
theorem d_Model_nearestFraction_34 : decode b_Model_nearestFraction 34 = .ok (.lload 6, 2) := by decide +kernel
theorem d_Model_nearestFraction_36 : decode b_Model_nearestFraction 36 = .ok (.lmul, 1) := by decide +kernel
theorem d_Model_nearestFraction_37 : decode b_Model_nearestFraction 37 = .ok (.lcmp, 1) := by decide +kernel
theorem d_Model_nearestFraction_38 : decode b_Model_nearestFraction 38 = .ok (.ifCond .lt 15, 3) := by decide +kernel
theorem d_Model_nearestFraction_41 : decode b_Model_nearestFraction 41 = .ok (.lload 6, 2) := by decide +kernel
theorem d_Model_nearestFraction_43 : decode b_Model_nearestFraction 43 = .ok (.iconst 1, 1) := by decide +kernel
theorem d_Model_nearestFraction_44 : decode b_Model_nearestFraction 44 = .ok (.lshl, 1) := by decide +kernel
theorem d_Model_nearestFraction_45 : decode b_Model_nearestFraction 45 = .ok (.lstore 6, 2) := by decide +kernel
theorem d_Model_nearestFraction_47 : decode b_Model_nearestFraction 47 = .ok (.iinc 8 (-1), 3) := by decide +kernel
theorem d_Model_nearestFraction_50 : decode b_Model_nearestFraction 50 = .ok (.goto (-21), 3) := by decide +kernel
theorem d_Model_nearestFraction_53 : decode b_Model_nearestFraction 53 = .ok (.lconst 0, 1) := by decide +kernel
theorem d_Model_nearestFraction_54 : decode b_Model_nearestFraction 54 = .ok (.lstore 9, 2) := by decide +kernel
theorem d_Model_nearestFraction_56 : decode b_Model_nearestFraction 56 = .ok (.iconst 0, 1) := by decide +kernel
theorem d_Model_nearestFraction_57 : decode b_Model_nearestFraction 57 = .ok (.istore 11, 2) := by decide +kernel
theorem d_Model_nearestFraction_59 : decode b_Model_nearestFraction 59 = .ok (.iload 11, 2) := by decide +kernel
theorem d_Model_nearestFraction_61 : decode b_Model_nearestFraction 61 = .ok (.bipush 54, 2) := by decide +kernel
theorem d_Model_nearestFraction_63 : decode b_Model_nearestFraction 63 = .ok (.if_icmp .ge 42, 3) := by decide +kernel
theorem d_Model_nearestFraction_66 : decode b_Model_nearestFraction 66 = .ok (.lload 9, 2) := by decide +kernel
theorem d_Model_nearestFraction_68 : decode b_Model_nearestFraction 68 = .ok (.iconst 1, 1) := by decide +kernel
theorem d_Model_nearestFraction_69 : decode b_Model_nearestFraction 69 = .ok (.lshl, 1) := by decide +kernel
theorem d_Model_nearestFraction_70 : decode b_Model_nearestFraction 70 = .ok (.lstore 9, 2) := by decide +kernel
theorem d_Model_nearestFraction_72 : decode b_Model_nearestFraction 72 = .ok (.lload 4, 2) := by decide +kernel
theorem d_Model_nearestFraction_74 : decode b_Model_nearestFraction 74 = .ok (.lload 6, 2) := by decide +kernel
theorem d_Model_nearestFraction_76 : decode b_Model_nearestFraction 76 = .ok (.lcmp, 1) := by decide +kernel
theorem d_Model_nearestFraction_77 : decode b_Model_nearestFraction 77 = .ok (.ifCond .lt 16, 3) := by decide +kernel
theorem d_Model_nearestFraction_80 : decode b_Model_nearestFraction 80 = .ok (.lload 4, 2) := by decide +kernel
theorem d_Model_nearestFraction_82 : decode b_Model_nearestFraction 82 = .ok (.lload 6, 2) := by decide +kernel
theorem d_Model_nearestFraction_84 : decode b_Model_nearestFraction 84 = .ok (.lsub, 1) := by decide +kernel
theorem d_Model_nearestFraction_85 : decode b_Model_nearestFraction 85 = .ok (.lstore 4, 2) := by decide +kernel
theorem d_Model_nearestFraction_87 : decode b_Model_nearestFraction 87 = .ok (.lload 9, 2) := by decide +kernel
theorem d_Model_nearestFraction_89 : decode b_Model_nearestFraction 89 = .ok (.lconst 1, 1) := by decide +kernel
theorem d_Model_nearestFraction_90 : decode b_Model_nearestFraction 90 = .ok (.lor, 1) := by decide +kernel
theorem d_Model_nearestFraction_91 : decode b_Model_nearestFraction 91 = .ok (.lstore 9, 2) := by decide +kernel
theorem d_Model_nearestFraction_93 : decode b_Model_nearestFraction 93 = .ok (.lload 4, 2) := by decide +kernel
theorem d_Model_nearestFraction_95 : decode b_Model_nearestFraction 95 = .ok (.iconst 1, 1) := by decide +kernel
theorem d_Model_nearestFraction_96 : decode b_Model_nearestFraction 96 = .ok (.lshl, 1) := by decide +kernel
theorem d_Model_nearestFraction_97 : decode b_Model_nearestFraction 97 = .ok (.lstore 4, 2) := by decide +kernel
theorem d_Model_nearestFraction_99 : decode b_Model_nearestFraction 99 = .ok (.iinc 11 1, 3) := by decide +kernel
theorem d_Model_nearestFraction_102 : decode b_Model_nearestFraction 102 = .ok (.goto (-43), 3) := by decide +kernel
theorem d_Model_nearestFraction_105 : decode b_Model_nearestFraction 105 = .ok (.lload 9, 2) := by decide +kernel
theorem d_Model_nearestFraction_107 : decode b_Model_nearestFraction 107 = .ok (.lconst 1, 1) := by decide +kernel
theorem d_Model_nearestFraction_108 : decode b_Model_nearestFraction 108 = .ok (.land, 1) := by decide +kernel
theorem d_Model_nearestFraction_109 : decode b_Model_nearestFraction 109 = .ok (.lconst 1, 1) := by decide +kernel
theorem d_Model_nearestFraction_110 : decode b_Model_nearestFraction 110 = .ok (.lcmp, 1) := by decide +kernel
theorem d_Model_nearestFraction_111 : decode b_Model_nearestFraction 111 = .ok (.ifCond .ne 7, 3) := by decide +kernel
theorem d_Model_nearestFraction_114 : decode b_Model_nearestFraction 114 = .ok (.iconst 1, 1) := by decide +kernel
theorem d_Model_nearestFraction_115 : decode b_Model_nearestFraction 115 = .ok (.goto 4, 3) := by decide +kernel
theorem d_Model_nearestFraction_118 : decode b_Model_nearestFraction 118 = .ok (.iconst 0, 1) := by decide +kernel
theorem d_Model_nearestFraction_119 : decode b_Model_nearestFraction 119 = .ok (.istore 11, 2) := by decide +kernel
theorem d_Model_nearestFraction_121 : decode b_Model_nearestFraction 121 = .ok (.iload 11, 2) := by decide +kernel
theorem d_Model_nearestFraction_123 : decode b_Model_nearestFraction 123 = .ok (.ifCond .eq 25, 3) := by decide +kernel
theorem d_Model_nearestFraction_126 : decode b_Model_nearestFraction 126 = .ok (.lload 4, 2) := by decide +kernel
theorem d_Model_nearestFraction_128 : decode b_Model_nearestFraction 128 = .ok (.lconst 0, 1) := by decide +kernel
theorem d_Model_nearestFraction_129 : decode b_Model_nearestFraction 129 = .ok (.lcmp, 1) := by decide +kernel
theorem d_Model_nearestFraction_130 : decode b_Model_nearestFraction 130 = .ok (.ifCond .ne 14, 3) := by decide +kernel
theorem d_Model_nearestFraction_133 : decode b_Model_nearestFraction 133 = .ok (.lload 9, 2) := by decide +kernel
theorem d_Model_nearestFraction_135 : decode b_Model_nearestFraction 135 = .ok (.ldc2_w 126, 3) := by decide +kernel
theorem d_Model_nearestFraction_138 : decode b_Model_nearestFraction 138 = .ok (.land, 1) := by decide +kernel
theorem d_Model_nearestFraction_139 : decode b_Model_nearestFraction 139 = .ok (.lconst 0, 1) := by decide +kernel
theorem d_Model_nearestFraction_140 : decode b_Model_nearestFraction 140 = .ok (.lcmp, 1) := by decide +kernel
theorem d_Model_nearestFraction_141 : decode b_Model_nearestFraction 141 = .ok (.ifCond .eq 7, 3) := by decide +kernel
theorem d_Model_nearestFraction_144 : decode b_Model_nearestFraction 144 = .ok (.iconst 1, 1) := by decide +kernel
theorem d_Model_nearestFraction_145 : decode b_Model_nearestFraction 145 = .ok (.goto 4, 3) := by decide +kernel
theorem d_Model_nearestFraction_148 : decode b_Model_nearestFraction 148 = .ok (.iconst 0, 1) := by decide +kernel
theorem d_Model_nearestFraction_149 : decode b_Model_nearestFraction 149 = .ok (.istore 12, 2) := by decide +kernel
theorem d_Model_nearestFraction_151 : decode b_Model_nearestFraction 151 = .ok (.lload 9, 2) := by decide +kernel
theorem d_Model_nearestFraction_153 : decode b_Model_nearestFraction 153 = .ok (.iconst 1, 1) := by decide +kernel
theorem d_Model_nearestFraction_154 : decode b_Model_nearestFraction 154 = .ok (.lshr, 1) := by decide +kernel
theorem d_Model_nearestFraction_155 : decode b_Model_nearestFraction 155 = .ok (.lstore 9, 2) := by decide +kernel
theorem d_Model_nearestFraction_157 : decode b_Model_nearestFraction 157 = .ok (.iload 8, 2) := by decide +kernel
theorem d_Model_nearestFraction_159 : decode b_Model_nearestFraction 159 = .ok (.ineg, 1) := by decide +kernel
theorem d_Model_nearestFraction_160 : decode b_Model_nearestFraction 160 = .ok (.bipush 52, 2) := by decide +kernel
theorem d_Model_nearestFraction_162 : decode b_Model_nearestFraction 162 = .ok (.isub, 1) := by decide +kernel
theorem d_Model_nearestFraction_163 : decode b_Model_nearestFraction 163 = .ok (.istore 13, 2) := by decide +kernel
theorem d_Model_nearestFraction_165 : decode b_Model_nearestFraction 165 = .ok (.iload 12, 2) := by decide +kernel
theorem d_Model_nearestFraction_167 : decode b_Model_nearestFraction 167 = .ok (.ifCond .eq 9, 3) := by decide +kernel
theorem d_Model_nearestFraction_170 : decode b_Model_nearestFraction 170 = .ok (.lload 9, 2) := by decide +kernel
theorem d_Model_nearestFraction_172 : decode b_Model_nearestFraction 172 = .ok (.lconst 1, 1) := by decide +kernel
theorem d_Model_nearestFraction_173 : decode b_Model_nearestFraction 173 = .ok (.ladd, 1) := by decide +kernel
theorem d_Model_nearestFraction_174 : decode b_Model_nearestFraction 174 = .ok (.lstore 9, 2) := by decide +kernel
theorem d_Model_nearestFraction_176 : decode b_Model_nearestFraction 176 = .ok (.lload 9, 2) := by decide +kernel
theorem d_Model_nearestFraction_178 : decode b_Model_nearestFraction 178 = .ok (.bipush 53, 2) := by decide +kernel
theorem d_Model_nearestFraction_180 : decode b_Model_nearestFraction 180 = .ok (.lshr, 1) := by decide +kernel
theorem d_Model_nearestFraction_181 : decode b_Model_nearestFraction 181 = .ok (.lconst 0, 1) := by decide +kernel
theorem d_Model_nearestFraction_182 : decode b_Model_nearestFraction 182 = .ok (.lcmp, 1) := by decide +kernel
theorem d_Model_nearestFraction_183 : decode b_Model_nearestFraction 183 = .ok (.ifCond .eq 12, 3) := by decide +kernel
theorem d_Model_nearestFraction_186 : decode b_Model_nearestFraction 186 = .ok (.lload 9, 2) := by decide +kernel
theorem d_Model_nearestFraction_188 : decode b_Model_nearestFraction 188 = .ok (.iconst 1, 1) := by decide +kernel
theorem d_Model_nearestFraction_189 : decode b_Model_nearestFraction 189 = .ok (.lshr, 1) := by decide +kernel
theorem d_Model_nearestFraction_190 : decode b_Model_nearestFraction 190 = .ok (.lstore 9, 2) := by decide +kernel
theorem d_Model_nearestFraction_192 : decode b_Model_nearestFraction 192 = .ok (.iinc 13 1, 3) := by decide +kernel
theorem d_Model_nearestFraction_195 : decode b_Model_nearestFraction 195 = .ok (.iload 13, 2) := by decide +kernel
theorem d_Model_nearestFraction_197 : decode b_Model_nearestFraction 197 = .ok (.sipush 1075, 3) := by decide +kernel
theorem d_Model_nearestFraction_200 : decode b_Model_nearestFraction 200 = .ok (.iadd, 1) := by decide +kernel
theorem d_Model_nearestFraction_201 : decode b_Model_nearestFraction 201 = .ok (.i2l, 1) := by decide +kernel
theorem d_Model_nearestFraction_202 : decode b_Model_nearestFraction 202 = .ok (.bipush 52, 2) := by decide +kernel
theorem d_Model_nearestFraction_204 : decode b_Model_nearestFraction 204 = .ok (.lshl, 1) := by decide +kernel
theorem d_Model_nearestFraction_205 : decode b_Model_nearestFraction 205 = .ok (.lload 9, 2) := by decide +kernel
theorem d_Model_nearestFraction_207 : decode b_Model_nearestFraction 207 = .ok (.ldc2_w 296, 3) := by decide +kernel
theorem d_Model_nearestFraction_210 : decode b_Model_nearestFraction 210 = .ok (.land, 1) := by decide +kernel
theorem d_Model_nearestFraction_211 : decode b_Model_nearestFraction 211 = .ok (.lor, 1) := by decide +kernel
theorem d_Model_nearestFraction_212 : decode b_Model_nearestFraction 212 = .ok (.lreturn, 1) := by decide +kernel
def mf_Model_nearestFraction_L9 (vB : Int64) : Nat → Int64 → Int32 → Option (Int64 × Int32)
  | 0, _, _ => none
  | fu + 1, x4, x8 => (if vB ≤ x4 then (some (x4, x8)) else (sd_let ((x4 <<< ((1 : Int32).toInt64 &&& 63))) fun x4_1 => (sd_let (x8 + (1 : Int32)) fun x8_1 => ((mf_Model_nearestFraction_L9 vB fu) x4_1 x8_1))))
def mf_Model_nearestFraction_L29 (rx4 : Int64) : Nat → Int64 → Int32 → Option (Int64 × Int32)
  | 0, _, _ => none
  | fu + 1, x6, x8_2 => (if rx4 < ((2 : Int64) * x6) then (some (x6, x8_2)) else (sd_let ((x6 <<< ((1 : Int32).toInt64 &&& 63))) fun x6_1 => (sd_let (x8_2 + (-1 : Int32)) fun x8_3 => ((mf_Model_nearestFraction_L29 rx4 fu) x6_1 x8_3))))
def mf_Model_nearestFraction_L59 (rx6 : Int64) : Nat → Int64 → Int64 → Int32 → Option (Int64 × Int64)
  | 0, _, _, _ => none
  | fu + 1, x4_2, x9, x11 => (if (54 : Int32) ≤ x11 then (some (x4_2, x9)) else (sd_let ((x9 <<< ((1 : Int32).toInt64 &&& 63))) fun x9_1 => (sd_b2 (if x4_2 < rx6 then (some (x4_2, x9_1)) else (sd_let ((x4_2 - rx6)) fun x4_4 => (sd_let ((x9_1 ||| (1 : Int64))) fun x9_3 => (some (x4_4, x9_3))))) fun x4_3 x9_2 => (sd_let ((x4_3 <<< ((1 : Int32).toInt64 &&& 63))) fun x4_5 => (sd_let (x11 + (1 : Int32)) fun x11_1 => ((mf_Model_nearestFraction_L59 rx6 fu) x4_5 x9_2 x11_1))))))
def mf_Model_nearestFraction (F : Nat) (vA : Int64) (vB : Int64) : Option (Int64) :=
  (sd_b2 (mf_Model_nearestFraction_L9 vB F vA (0 : Int32)) fun rx4 rx8 => (sd_b2 (mf_Model_nearestFraction_L29 rx4 F vB rx8) fun rx6 rx8_1 => (sd_b2 (mf_Model_nearestFraction_L59 rx6 F rx4 (0 : Int64) (0 : Int32)) fun rx4_1 rx9 => (sd_b1 (if (rx9 &&& (1 : Int64)) = (1 : Int64) then (some ((1 : Int32))) else (some ((0 : Int32)))) fun y => (sd_b1 (if y = 0 then (some ((0 : Int32))) else (if rx4_1 = (0 : Int64) then (if (rx9 &&& (2 : Int64)) = (0 : Int64) then (some ((0 : Int32))) else (some ((1 : Int32)))) else (some ((1 : Int32))))) fun y_1 => (sd_let ((rx9 >>> ((1 : Int32).toInt64 &&& 63))) fun x9_4 => (sd_let (((-rx8_1) - (52 : Int32))) fun x13 => (sd_b1 (if y_1 = 0 then (some (x9_4)) else (sd_let ((x9_4 + (1 : Int64))) fun x9_6 => (some (x9_6)))) fun x9_5 => (sd_b2 (if (x9_5 >>> ((53 : Int32).toInt64 &&& 63)) = (0 : Int64) then (some (x9_5, x13)) else (sd_let ((x9_5 >>> ((1 : Int32).toInt64 &&& 63))) fun x9_8 => (sd_let (x13 + (1 : Int32)) fun x13_2 => (some (x9_8, x13_2))))) fun x9_7 x13_1 => (some (((((x13_1 + (1075 : Int32)).toInt64) <<< ((52 : Int32).toInt64 &&& 63)) ||| (x9_7 &&& (4503599627370495 : Int64))))))))))))))
abbrev rm_Model_nearestFraction : Room := { frames := 0, cells := 0, slots := 0, locals := 0 }
set_option maxHeartbeats 4000000 in
set_option maxRecDepth 100000 in
theorem ct_Model_nearestFraction (l : Launch) (D : va_G) (g : G4) (sz : Nat) (vA : Int64) (vB : Int64) (F : Nat) (res : Int64) (hm : mf_Model_nearestFraction F vA vB = some res) : Met l y_Model_nearestFraction (.code y_Model_nearestFraction b_Model_nearestFraction 14 (some .long) :: sd_tb) rm_Model_nearestFraction (sd_PW D g [.long vA, .long vB] sz []) (sd_Ql0 D g res [] (va_A [] sz)) 0 0 (va_A [] sz) := by
  refine sd_met (Qf := fun A => sd_Ql0 D g res [] A) (own := R_Model) (by decide +kernel) rfl (Nat.le_of_ble_eq_true rfl) ?_
  intro p e s m args below meth c S hr hlk hK A hA Q hQ H locs hP hD hS ls hl
  have hx := S.1
  have hb := S.2.1
  have hml := S.2.2.1
  have hown := S.2.2.2.1
  have htt := sd_tt S
  replace hl : lv_has ls 14 [(0, .long vA), (2, .long vB)] := hl
  unfold mf_Model_nearestFraction at hm
  refine lv_lload_n hx hb d_Model_nearestFraction_0 rfl (lv_at hl 0 rfl) ?_
  refine lv_lstore (lv' := [(4, .long vA), (0, .long vA), (2, .long vB)]) hx hb d_Model_nearestFraction_1 hl (by decide) rfl (fun ls hl => ?_)
  refine lv_lload_n hx hb d_Model_nearestFraction_3 rfl (lv_at hl 2 rfl) ?_
  refine lv_lstore (lv' := [(6, .long vB), (4, .long vA), (0, .long vA), (2, .long vB)]) hx hb d_Model_nearestFraction_4 hl (by decide) rfl (fun ls hl => ?_)
  refine lv_iconst (v := (0 : Int32)) hx hb d_Model_nearestFraction_6 (by decide) ?_
  refine lv_istore (lv' := [(8, .int (0 : Int32)), (6, .long vB), (4, .long vA), (0, .long vA), (2, .long vB)]) hx hb d_Model_nearestFraction_7 hl (by decide) rfl (fun ls hl => ?_)
  have L9 : ∀ (fu : Nat) (x4 : Int64) (x8 : Int32) (rx4 : Int64) (rx8 : Int32), mf_Model_nearestFraction_L9 vB fu x4 x8 = some (rx4, rx8) → ∀ (H : Heap) (locs : List Loc) (ls : Array Slot), va_P D classes [] H → va_D A [] → va_S A s.heap H locs → lv_has ls 14 [(4, .long x4), (6, .long vB), (8, .int x8)] → (∀ (H : Heap) (locs : List Loc) (ls : Array Slot), va_P D classes [] H → va_D A [] → va_S A s.heap H locs → lv_has ls 14 [(4, .long rx4), (6, .long vB), (8, .int rx8)] → W p l e rm_Model_nearestFraction s m args below meth c H locs 0 0 Q (F0 m 29 ls [])) → W p l e rm_Model_nearestFraction s m args below meth c H locs 0 0 Q (F0 m 9 ls []) := by
    intro fu
    induction fu with
    | zero => intro x4 x8 rx4 rx8 hm; exact absurd (show (none : Option (Int64 × Int32)) = some (rx4, rx8) from hm) (fun h => nomatch h)
    | succ fu ih =>
      intro x4 x8 rx4 rx8 hm H locs ls hP hD hS hl kx29
      rw [mf_Model_nearestFraction_L9] at hm
      refine lv_lload hx hb d_Model_nearestFraction_9 (lv_at hl 0 rfl) ?_
      refine lv_lload hx hb d_Model_nearestFraction_11 (lv_at hl 1 rfl) ?_
      refine sd_lge (tgt := 29) hx hb d_Model_nearestFraction_13 d_Model_nearestFraction_14 (by decide) (fun hc => ?_) (fun hc => ?_)
      · have hm := sd_mt hc hm
        cases hm
        exact kx29 H locs ls (hP.sub [] rfl) (hD.sub [] (by decide) rfl) hS (lv_sub hl [0, 1, 2] rfl)
      · have hm := sd_mf hc hm
        refine lv_lload hx hb d_Model_nearestFraction_17 (lv_at hl 0 rfl) ?_
        refine lv_iconst (v := (1 : Int32)) hx hb d_Model_nearestFraction_19 (by decide) ?_
        refine lv_lshl hx hb d_Model_nearestFraction_20 rfl ?_
        obtain ⟨x4_1, ex4_1, hm⟩ := sd_mlet hm
        refine sd_topj ex4_1 ?_
        refine lv_lstore (lv' := [(4, .long x4_1), (6, .long vB), (8, .int x8)]) hx hb d_Model_nearestFraction_21 hl (by decide) rfl (fun ls hl => ?_)
        obtain ⟨x8_1, ex8_1, hm⟩ := sd_mlet hm
        refine lv_iinc (v := x8_1) (lv' := [(8, .int x8_1), (4, .long x4_1), (6, .long vB)]) hx hb d_Model_nearestFraction_23 hl (k := 2) rfl (by rw [ex8_1]; rfl) (by decide) rfl (fun ls hl => ?_)
        refine lv_goto (tgt := 9) hx hb d_Model_nearestFraction_26 (by decide) ?_
        exact ih x4_1 x8_1 rx4 rx8 hm H locs ls (hP.sub [] rfl) (hD.sub [] (by decide) rfl) hS (lv_sub hl [1, 2, 0] rfl) kx29
  obtain ⟨rx4, rx8, hc, hm⟩ := sd_mb2 hm
  refine L9 F vA (0 : Int32) rx4 rx8 hc H locs ls (hP.sub [] rfl) (hD.sub [] (by decide) rfl) hS (lv_sub hl [2, 1, 0] rfl) ?_
  intro H locs ls hP hD hS hl
  have L29 : ∀ (fu : Nat) (x6 : Int64) (x8_2 : Int32) (rx6 : Int64) (rx8_1 : Int32), mf_Model_nearestFraction_L29 rx4 fu x6 x8_2 = some (rx6, rx8_1) → ∀ (H : Heap) (locs : List Loc) (ls : Array Slot), va_P D classes [] H → va_D A [] → va_S A s.heap H locs → lv_has ls 14 [(4, .long rx4), (6, .long x6), (8, .int x8_2)] → (∀ (H : Heap) (locs : List Loc) (ls : Array Slot), va_P D classes [] H → va_D A [] → va_S A s.heap H locs → lv_has ls 14 [(4, .long rx4), (6, .long rx6), (8, .int rx8_1)] → W p l e rm_Model_nearestFraction s m args below meth c H locs 0 0 Q (F0 m 53 ls [])) → W p l e rm_Model_nearestFraction s m args below meth c H locs 0 0 Q (F0 m 29 ls []) := by
    intro fu
    induction fu with
    | zero => intro x6 x8_2 rx6 rx8_1 hm; exact absurd (show (none : Option (Int64 × Int32)) = some (rx6, rx8_1) from hm) (fun h => nomatch h)
    | succ fu ih =>
      intro x6 x8_2 rx6 rx8_1 hm H locs ls hP hD hS hl kx53
      rw [mf_Model_nearestFraction_L29] at hm
      refine lv_lload hx hb d_Model_nearestFraction_29 (lv_at hl 0 rfl) ?_
      refine sd_ldc2 (v := (2 : Int64)) hx hb hown (htt _ km_Model_126) d_Model_nearestFraction_31 ?_
      refine lv_lload hx hb d_Model_nearestFraction_34 (lv_at hl 1 rfl) ?_
      refine lv_lmul hx hb d_Model_nearestFraction_36 ?_
      refine sd_llt (tgt := 53) hx hb d_Model_nearestFraction_37 d_Model_nearestFraction_38 (by decide) (fun hc => ?_) (fun hc => ?_)
      · have hm := sd_mt hc hm
        cases hm
        exact kx53 H locs ls (hP.sub [] rfl) (hD.sub [] (by decide) rfl) hS (lv_sub hl [0, 1, 2] rfl)
      · have hm := sd_mf hc hm
        refine lv_lload hx hb d_Model_nearestFraction_41 (lv_at hl 1 rfl) ?_
        refine lv_iconst (v := (1 : Int32)) hx hb d_Model_nearestFraction_43 (by decide) ?_
        refine lv_lshl hx hb d_Model_nearestFraction_44 rfl ?_
        obtain ⟨x6_1, ex6_1, hm⟩ := sd_mlet hm
        refine sd_topj ex6_1 ?_
        refine lv_lstore (lv' := [(6, .long x6_1), (4, .long rx4), (8, .int x8_2)]) hx hb d_Model_nearestFraction_45 hl (by decide) rfl (fun ls hl => ?_)
        obtain ⟨x8_3, ex8_3, hm⟩ := sd_mlet hm
        refine lv_iinc (v := x8_3) (lv' := [(8, .int x8_3), (6, .long x6_1), (4, .long rx4)]) hx hb d_Model_nearestFraction_47 hl (k := 2) rfl (by rw [ex8_3]; rfl) (by decide) rfl (fun ls hl => ?_)
        refine lv_goto (tgt := 29) hx hb d_Model_nearestFraction_50 (by decide) ?_
        exact ih x6_1 x8_3 rx6 rx8_1 hm H locs ls (hP.sub [] rfl) (hD.sub [] (by decide) rfl) hS (lv_sub hl [2, 1, 0] rfl) kx53
  obtain ⟨rx6, rx8_1, hc, hm⟩ := sd_mb2 hm
  refine L29 F vB rx8 rx6 rx8_1 hc H locs ls (hP.sub [] rfl) (hD.sub [] (by decide) rfl) hS (lv_sub hl [0, 1, 2] rfl) ?_
  intro H locs ls hP hD hS hl
  refine lv_lconst (v := (0 : Int64)) hx hb d_Model_nearestFraction_53 (by decide) ?_
  refine lv_lstore (lv' := [(9, .long (0 : Int64)), (4, .long rx4), (6, .long rx6), (8, .int rx8_1)]) hx hb d_Model_nearestFraction_54 hl (by decide) rfl (fun ls hl => ?_)
  refine lv_iconst (v := (0 : Int32)) hx hb d_Model_nearestFraction_56 (by decide) ?_
  refine lv_istore (lv' := [(11, .int (0 : Int32)), (9, .long (0 : Int64)), (4, .long rx4), (6, .long rx6), (8, .int rx8_1)]) hx hb d_Model_nearestFraction_57 hl (by decide) rfl (fun ls hl => ?_)
  have L59 : ∀ (fu : Nat) (x4_2 : Int64) (x9 : Int64) (x11 : Int32) (rx4_1 : Int64) (rx9 : Int64), mf_Model_nearestFraction_L59 rx6 fu x4_2 x9 x11 = some (rx4_1, rx9) → ∀ (H : Heap) (locs : List Loc) (ls : Array Slot), va_P D classes [] H → va_D A [] → va_S A s.heap H locs → lv_has ls 14 [(4, .long x4_2), (6, .long rx6), (8, .int rx8_1), (9, .long x9), (11, .int x11)] → (∀ (H : Heap) (locs : List Loc) (ls : Array Slot), va_P D classes [] H → va_D A [] → va_S A s.heap H locs → lv_has ls 14 [(4, .long rx4_1), (8, .int rx8_1), (9, .long rx9)] → W p l e rm_Model_nearestFraction s m args below meth c H locs 0 0 Q (F0 m 105 ls [])) → W p l e rm_Model_nearestFraction s m args below meth c H locs 0 0 Q (F0 m 59 ls []) := by
    intro fu
    induction fu with
    | zero => intro x4_2 x9 x11 rx4_1 rx9 hm; exact absurd (show (none : Option (Int64 × Int64)) = some (rx4_1, rx9) from hm) (fun h => nomatch h)
    | succ fu ih =>
      intro x4_2 x9 x11 rx4_1 rx9 hm H locs ls hP hD hS hl kx105
      rw [mf_Model_nearestFraction_L59] at hm
      refine lv_iload hx hb d_Model_nearestFraction_59 (lv_at hl 4 rfl) ?_
      refine lv_bipush (v := (54 : Int32)) hx hb d_Model_nearestFraction_61 (by decide) ?_
      refine lv_icmp_ge (tgt := 105) hx hb d_Model_nearestFraction_63 (by decide) (fun hc => ?_) (fun hc => ?_)
      · have hm := sd_mt hc hm
        cases hm
        exact kx105 H locs ls (hP.sub [] rfl) (hD.sub [] (by decide) rfl) hS (lv_sub hl [0, 2, 3] rfl)
      · have hm := sd_mf hc hm
        refine lv_lload hx hb d_Model_nearestFraction_66 (lv_at hl 3 rfl) ?_
        refine lv_iconst (v := (1 : Int32)) hx hb d_Model_nearestFraction_68 (by decide) ?_
        refine lv_lshl hx hb d_Model_nearestFraction_69 rfl ?_
        obtain ⟨x9_1, ex9_1, hm⟩ := sd_mlet hm
        refine sd_topj ex9_1 ?_
        refine lv_lstore (lv' := [(9, .long x9_1), (4, .long x4_2), (6, .long rx6), (8, .int rx8_1), (11, .int x11)]) hx hb d_Model_nearestFraction_70 hl (by decide) rfl (fun ls hl => ?_)
        refine lv_lload hx hb d_Model_nearestFraction_72 (lv_at hl 1 rfl) ?_
        refine lv_lload hx hb d_Model_nearestFraction_74 (lv_at hl 2 rfl) ?_
        obtain ⟨x4_3, x9_2, hv, hm⟩ := sd_mb2 hm
        have J93_1 : ∀ (H : Heap) (locs : List Loc) (ls : Array Slot), va_P D classes [] H → va_D A [] → va_S A s.heap H locs → lv_has ls 14 [(4, .long x4_3), (6, .long rx6), (8, .int rx8_1), (9, .long x9_2), (11, .int x11)] → W p l e rm_Model_nearestFraction s m args below meth c H locs 0 0 Q (F0 m 93 ls []) := by
          intro H locs ls hP hD hS hl
          refine lv_lload hx hb d_Model_nearestFraction_93 (lv_at hl 0 rfl) ?_
          refine lv_iconst (v := (1 : Int32)) hx hb d_Model_nearestFraction_95 (by decide) ?_
          refine lv_lshl hx hb d_Model_nearestFraction_96 rfl ?_
          obtain ⟨x4_5, ex4_5, hm⟩ := sd_mlet hm
          refine sd_topj ex4_5 ?_
          refine lv_lstore (lv' := [(4, .long x4_5), (6, .long rx6), (8, .int rx8_1), (9, .long x9_2), (11, .int x11)]) hx hb d_Model_nearestFraction_97 hl (by decide) rfl (fun ls hl => ?_)
          obtain ⟨x11_1, ex11_1, hm⟩ := sd_mlet hm
          refine lv_iinc (v := x11_1) (lv' := [(11, .int x11_1), (4, .long x4_5), (6, .long rx6), (8, .int rx8_1), (9, .long x9_2)]) hx hb d_Model_nearestFraction_99 hl (k := 4) rfl (by rw [ex11_1]; rfl) (by decide) rfl (fun ls hl => ?_)
          refine lv_goto (tgt := 59) hx hb d_Model_nearestFraction_102 (by decide) ?_
          exact ih x4_5 x9_2 x11_1 rx4_1 rx9 hm H locs ls (hP.sub [] rfl) (hD.sub [] (by decide) rfl) hS (lv_sub hl [1, 2, 3, 4, 0] rfl) kx105
        replace hm := hv
        refine sd_llt (tgt := 93) hx hb d_Model_nearestFraction_76 d_Model_nearestFraction_77 (by decide) (fun hc => ?_) (fun hc => ?_)
        · have hm := sd_mt hc hm
          cases hm
          exact J93_1 H locs ls (hP.sub [] rfl) (hD.sub [] (by decide) rfl) hS (lv_sub hl [1, 2, 3, 0, 4] rfl)
        · have hm := sd_mf hc hm
          refine lv_lload hx hb d_Model_nearestFraction_80 (lv_at hl 1 rfl) ?_
          refine lv_lload hx hb d_Model_nearestFraction_82 (lv_at hl 2 rfl) ?_
          refine lv_lsub hx hb d_Model_nearestFraction_84 ?_
          obtain ⟨x4_4, ex4_4, hm⟩ := sd_mlet hm
          refine sd_topj ex4_4 ?_
          refine lv_lstore (lv' := [(4, .long x4_4), (9, .long x9_1), (6, .long rx6), (8, .int rx8_1), (11, .int x11)]) hx hb d_Model_nearestFraction_85 hl (by decide) rfl (fun ls hl => ?_)
          refine lv_lload hx hb d_Model_nearestFraction_87 (lv_at hl 1 rfl) ?_
          refine lv_lconst (v := (1 : Int64)) hx hb d_Model_nearestFraction_89 (by decide) ?_
          refine lv_lor hx hb d_Model_nearestFraction_90 ?_
          obtain ⟨x9_3, ex9_3, hm⟩ := sd_mlet hm
          refine sd_topj ex9_3 ?_
          refine lv_lstore (lv' := [(9, .long x9_3), (4, .long x4_4), (6, .long rx6), (8, .int rx8_1), (11, .int x11)]) hx hb d_Model_nearestFraction_91 hl (by decide) rfl (fun ls hl => ?_)
          cases hm
          exact J93_1 H locs ls (hP.sub [] rfl) (hD.sub [] (by decide) rfl) hS (lv_sub hl [1, 2, 3, 0, 4] rfl)
  obtain ⟨rx4_1, rx9, hc, hm⟩ := sd_mb2 hm
  refine L59 F rx4 (0 : Int64) (0 : Int32) rx4_1 rx9 hc H locs ls (hP.sub [] rfl) (hD.sub [] (by decide) rfl) hS (lv_sub hl [2, 3, 4, 1, 0] rfl) ?_
  intro H locs ls hP hD hS hl
  refine lv_lload hx hb d_Model_nearestFraction_105 (lv_at hl 2 rfl) ?_
  refine lv_lconst (v := (1 : Int64)) hx hb d_Model_nearestFraction_107 (by decide) ?_
  refine lv_land hx hb d_Model_nearestFraction_108 ?_
  refine lv_lconst (v := (1 : Int64)) hx hb d_Model_nearestFraction_109 (by decide) ?_
  obtain ⟨y, hv, hm⟩ := sd_mb1 hm
  have J119_2 : ∀ (H : Heap) (locs : List Loc) (ls : Array Slot), va_P D classes [] H → va_D A [] → va_S A s.heap H locs → lv_has ls 14 [(4, .long rx4_1), (8, .int rx8_1), (9, .long rx9)] → W p l e rm_Model_nearestFraction s m args below meth c H locs 0 0 Q (F0 m 119 ls [.int y]) := by
    intro H locs ls hP hD hS hl
    refine lv_istore (lv' := [(11, .int y), (4, .long rx4_1), (8, .int rx8_1), (9, .long rx9)]) hx hb d_Model_nearestFraction_119 hl (by decide) rfl (fun ls hl => ?_)
    refine lv_iload hx hb d_Model_nearestFraction_121 (lv_at hl 0 rfl) ?_
    obtain ⟨y_1, hv, hm⟩ := sd_mb1 hm
    have J149_3 : ∀ (H : Heap) (locs : List Loc) (ls : Array Slot), va_P D classes [] H → va_D A [] → va_S A s.heap H locs → lv_has ls 14 [(8, .int rx8_1), (9, .long rx9)] → W p l e rm_Model_nearestFraction s m args below meth c H locs 0 0 Q (F0 m 149 ls [.int y_1]) := by
      intro H locs ls hP hD hS hl
      refine lv_istore (lv' := [(12, .int y_1), (8, .int rx8_1), (9, .long rx9)]) hx hb d_Model_nearestFraction_149 hl (by decide) rfl (fun ls hl => ?_)
      refine lv_lload hx hb d_Model_nearestFraction_151 (lv_at hl 2 rfl) ?_
      refine lv_iconst (v := (1 : Int32)) hx hb d_Model_nearestFraction_153 (by decide) ?_
      refine lv_lshr hx hb d_Model_nearestFraction_154 rfl ?_
      obtain ⟨x9_4, ex9_4, hm⟩ := sd_mlet hm
      refine sd_topj ex9_4 ?_
      refine lv_lstore (lv' := [(9, .long x9_4), (12, .int y_1), (8, .int rx8_1)]) hx hb d_Model_nearestFraction_155 hl (by decide) rfl (fun ls hl => ?_)
      refine lv_iload hx hb d_Model_nearestFraction_157 (lv_at hl 2 rfl) ?_
      refine lv_ineg hx hb d_Model_nearestFraction_159 ?_
      refine lv_bipush (v := (52 : Int32)) hx hb d_Model_nearestFraction_160 (by decide) ?_
      refine lv_isub hx hb d_Model_nearestFraction_162 ?_
      obtain ⟨x13, ex13, hm⟩ := sd_mlet hm
      refine sd_topi ex13 ?_
      refine lv_istore (lv' := [(13, .int x13), (9, .long x9_4), (12, .int y_1), (8, .int rx8_1)]) hx hb d_Model_nearestFraction_163 hl (by decide) rfl (fun ls hl => ?_)
      refine lv_iload hx hb d_Model_nearestFraction_165 (lv_at hl 2 rfl) ?_
      obtain ⟨x9_5, hv, hm⟩ := sd_mb1 hm
      have J176_4 : ∀ (H : Heap) (locs : List Loc) (ls : Array Slot), va_P D classes [] H → va_D A [] → va_S A s.heap H locs → lv_has ls 14 [(9, .long x9_5), (13, .int x13)] → W p l e rm_Model_nearestFraction s m args below meth c H locs 0 0 Q (F0 m 176 ls []) := by
        intro H locs ls hP hD hS hl
        refine lv_lload hx hb d_Model_nearestFraction_176 (lv_at hl 0 rfl) ?_
        refine lv_bipush (v := (53 : Int32)) hx hb d_Model_nearestFraction_178 (by decide) ?_
        refine lv_lshr hx hb d_Model_nearestFraction_180 rfl ?_
        refine lv_lconst (v := (0 : Int64)) hx hb d_Model_nearestFraction_181 (by decide) ?_
        obtain ⟨x9_7, x13_1, hv, hm⟩ := sd_mb2 hm
        have J195_5 : ∀ (H : Heap) (locs : List Loc) (ls : Array Slot), va_P D classes [] H → va_D A [] → va_S A s.heap H locs → lv_has ls 14 [(9, .long x9_7), (13, .int x13_1)] → W p l e rm_Model_nearestFraction s m args below meth c H locs 0 0 Q (F0 m 195 ls []) := by
          intro H locs ls hP hD hS hl
          refine lv_iload hx hb d_Model_nearestFraction_195 (lv_at hl 1 rfl) ?_
          refine lv_sipush (v := (1075 : Int32)) hx hb d_Model_nearestFraction_197 (by decide) ?_
          refine lv_iadd hx hb d_Model_nearestFraction_200 ?_
          refine lv_i2l hx hb d_Model_nearestFraction_201 rfl ?_
          refine lv_bipush (v := (52 : Int32)) hx hb d_Model_nearestFraction_202 (by decide) ?_
          refine lv_lshl hx hb d_Model_nearestFraction_204 rfl ?_
          refine lv_lload hx hb d_Model_nearestFraction_205 (lv_at hl 0 rfl) ?_
          refine sd_ldc2 (v := (4503599627370495 : Int64)) hx hb hown (htt _ km_Model_296) d_Model_nearestFraction_207 ?_
          refine lv_land hx hb d_Model_nearestFraction_210 ?_
          refine lv_lor hx hb d_Model_nearestFraction_211 ?_
          exact sd_l0ret hQ hx hb hr hlk hK (hP.sub [] rfl) (hD.sub [] (by decide) rfl) hS (Option.some.inj hm).symm d_Model_nearestFraction_212
        replace hm := hv
        refine sd_leq (tgt := 195) hx hb d_Model_nearestFraction_182 d_Model_nearestFraction_183 (by decide) (fun hc => ?_) (fun hc => ?_)
        · have hm := sd_mt hc hm
          cases hm
          exact J195_5 H locs ls (hP.sub [] rfl) (hD.sub [] (by decide) rfl) hS (lv_sub hl [0, 1] rfl)
        · have hm := sd_mf hc hm
          refine lv_lload hx hb d_Model_nearestFraction_186 (lv_at hl 0 rfl) ?_
          refine lv_iconst (v := (1 : Int32)) hx hb d_Model_nearestFraction_188 (by decide) ?_
          refine lv_lshr hx hb d_Model_nearestFraction_189 rfl ?_
          obtain ⟨x9_8, ex9_8, hm⟩ := sd_mlet hm
          refine sd_topj ex9_8 ?_
          refine lv_lstore (lv' := [(9, .long x9_8), (13, .int x13)]) hx hb d_Model_nearestFraction_190 hl (by decide) rfl (fun ls hl => ?_)
          obtain ⟨x13_2, ex13_2, hm⟩ := sd_mlet hm
          refine lv_iinc (v := x13_2) (lv' := [(13, .int x13_2), (9, .long x9_8)]) hx hb d_Model_nearestFraction_192 hl (k := 1) rfl (by rw [ex13_2]; rfl) (by decide) rfl (fun ls hl => ?_)
          cases hm
          exact J195_5 H locs ls (hP.sub [] rfl) (hD.sub [] (by decide) rfl) hS (lv_sub hl [1, 0] rfl)
      replace hm := hv
      refine lv_if_eq (tgt := 176) hx hb d_Model_nearestFraction_167 (by decide) (fun hc => ?_) (fun hc => ?_)
      · have hm := sd_mt hc hm
        cases hm
        exact J176_4 H locs ls (hP.sub [] rfl) (hD.sub [] (by decide) rfl) hS (lv_sub hl [1, 0] rfl)
      · have hm := sd_mf hc hm
        refine lv_lload hx hb d_Model_nearestFraction_170 (lv_at hl 1 rfl) ?_
        refine lv_lconst (v := (1 : Int64)) hx hb d_Model_nearestFraction_172 (by decide) ?_
        refine lv_ladd hx hb d_Model_nearestFraction_173 ?_
        obtain ⟨x9_6, ex9_6, hm⟩ := sd_mlet hm
        refine sd_topj ex9_6 ?_
        refine lv_lstore (lv' := [(9, .long x9_6), (13, .int x13), (12, .int y_1), (8, .int rx8_1)]) hx hb d_Model_nearestFraction_174 hl (by decide) rfl (fun ls hl => ?_)
        cases hm
        exact J176_4 H locs ls (hP.sub [] rfl) (hD.sub [] (by decide) rfl) hS (lv_sub hl [0, 1] rfl)
    replace hm := hv
    refine lv_if_eq (tgt := 148) hx hb d_Model_nearestFraction_123 (by decide) (fun hc => ?_) (fun hc => ?_)
    · have hm := sd_mt hc hm
      refine lv_iconst (v := (0 : Int32)) hx hb d_Model_nearestFraction_148 (by decide) ?_
      cases hm
      exact J149_3 H locs ls (hP.sub [] rfl) (hD.sub [] (by decide) rfl) hS (lv_sub hl [2, 3] rfl)
    · have hm := sd_mf hc hm
      refine lv_lload hx hb d_Model_nearestFraction_126 (lv_at hl 1 rfl) ?_
      refine lv_lconst (v := (0 : Int64)) hx hb d_Model_nearestFraction_128 (by decide) ?_
      refine sd_lne (tgt := 144) hx hb d_Model_nearestFraction_129 d_Model_nearestFraction_130 (by decide) (fun hc => ?_) (fun hc => ?_)
      · have hm := sd_mf hc hm
        refine lv_iconst (v := (1 : Int32)) hx hb d_Model_nearestFraction_144 (by decide) ?_
        refine lv_goto (tgt := 149) hx hb d_Model_nearestFraction_145 (by decide) ?_
        cases hm
        exact J149_3 H locs ls (hP.sub [] rfl) (hD.sub [] (by decide) rfl) hS (lv_sub hl [2, 3] rfl)
      · have hm := sd_mt hc hm
        refine lv_lload hx hb d_Model_nearestFraction_133 (lv_at hl 3 rfl) ?_
        refine sd_ldc2 (v := (2 : Int64)) hx hb hown (htt _ km_Model_126) d_Model_nearestFraction_135 ?_
        refine lv_land hx hb d_Model_nearestFraction_138 ?_
        refine lv_lconst (v := (0 : Int64)) hx hb d_Model_nearestFraction_139 (by decide) ?_
        refine sd_leq (tgt := 148) hx hb d_Model_nearestFraction_140 d_Model_nearestFraction_141 (by decide) (fun hc => ?_) (fun hc => ?_)
        · have hm := sd_mt hc hm
          refine lv_iconst (v := (0 : Int32)) hx hb d_Model_nearestFraction_148 (by decide) ?_
          cases hm
          exact J149_3 H locs ls (hP.sub [] rfl) (hD.sub [] (by decide) rfl) hS (lv_sub hl [2, 3] rfl)
        · have hm := sd_mf hc hm
          refine lv_iconst (v := (1 : Int32)) hx hb d_Model_nearestFraction_144 (by decide) ?_
          refine lv_goto (tgt := 149) hx hb d_Model_nearestFraction_145 (by decide) ?_
          cases hm
          exact J149_3 H locs ls (hP.sub [] rfl) (hD.sub [] (by decide) rfl) hS (lv_sub hl [2, 3] rfl)
  replace hm := hv
  refine sd_lne (tgt := 118) hx hb d_Model_nearestFraction_110 d_Model_nearestFraction_111 (by decide) (fun hc => ?_) (fun hc => ?_)
  · have hm := sd_mf hc hm
    refine lv_iconst (v := (0 : Int32)) hx hb d_Model_nearestFraction_118 (by decide) ?_
    cases hm
    exact J119_2 H locs ls (hP.sub [] rfl) (hD.sub [] (by decide) rfl) hS (lv_sub hl [0, 1, 2] rfl)
  · have hm := sd_mt hc hm
    refine lv_iconst (v := (1 : Int32)) hx hb d_Model_nearestFraction_114 (by decide) ?_
    refine lv_goto (tgt := 119) hx hb d_Model_nearestFraction_115 (by decide) ?_
    cases hm
    exact J119_2 H locs ls (hP.sub [] rfl) (hD.sub [] (by decide) rfl) hS (lv_sub hl [0, 1, 2] rfl)
theorem d_Model_nearest_0 : decode b_Model_nearest 0 = .ok (.iload_n 1, 1) := by decide +kernel
theorem d_Model_nearest_1 : decode b_Model_nearest 1 = .ok (.invokestatic 109, 3) := by decide +kernel
theorem d_Model_nearest_4 : decode b_Model_nearest 4 = .ok (.ifCond .ne 5, 3) := by decide +kernel
theorem d_Model_nearest_7 : decode b_Model_nearest 7 = .ok (.lconst 1, 1) := by decide +kernel
theorem d_Model_nearest_8 : decode b_Model_nearest 8 = .ok (.lreturn, 1) := by decide +kernel
theorem d_Model_nearest_9 : decode b_Model_nearest 9 = .ok (.aload_n 0, 1) := by decide +kernel
theorem d_Model_nearest_10 : decode b_Model_nearest 10 = .ok (.getfield 19, 3) := by decide +kernel
theorem d_Model_nearest_13 : decode b_Model_nearest 13 = .ok (.iload_n 1, 1) := by decide +kernel
theorem d_Model_nearest_14 : decode b_Model_nearest 14 = .ok (.iaload, 1) := by decide +kernel
theorem d_Model_nearest_15 : decode b_Model_nearest 15 = .ok (.ifCond .ne 5, 3) := by decide +kernel
theorem d_Model_nearest_18 : decode b_Model_nearest 18 = .ok (.lconst 0, 1) := by decide +kernel
theorem d_Model_nearest_19 : decode b_Model_nearest 19 = .ok (.lreturn, 1) := by decide +kernel
theorem d_Model_nearest_20 : decode b_Model_nearest 20 = .ok (.aload_n 0, 1) := by decide +kernel
theorem d_Model_nearest_21 : decode b_Model_nearest 21 = .ok (.iload_n 1, 1) := by decide +kernel
theorem d_Model_nearest_22 : decode b_Model_nearest 22 = .ok (.invokevirtual 121, 3) := by decide +kernel
theorem d_Model_nearest_25 : decode b_Model_nearest 25 = .ok (.ifCond .eq 50, 3) := by decide +kernel
theorem d_Model_nearest_28 : decode b_Model_nearest 28 = .ok (.aload_n 0, 1) := by decide +kernel
theorem d_Model_nearest_29 : decode b_Model_nearest 29 = .ok (.getfield 9, 3) := by decide +kernel
theorem d_Model_nearest_32 : decode b_Model_nearest 32 = .ok (.bipush 8, 2) := by decide +kernel
theorem d_Model_nearest_34 : decode b_Model_nearest 34 = .ok (.iload_n 1, 1) := by decide +kernel
theorem d_Model_nearest_35 : decode b_Model_nearest 35 = .ok (.imul, 1) := by decide +kernel
theorem d_Model_nearest_36 : decode b_Model_nearest 36 = .ok (.laload, 1) := by decide +kernel
theorem d_Model_nearest_37 : decode b_Model_nearest 37 = .ok (.invokestatic 132, 3) := by decide +kernel
theorem d_Model_nearest_40 : decode b_Model_nearest 40 = .ok (.aload_n 0, 1) := by decide +kernel
theorem d_Model_nearest_41 : decode b_Model_nearest 41 = .ok (.getfield 13, 3) := by decide +kernel
theorem d_Model_nearest_44 : decode b_Model_nearest 44 = .ok (.bipush 8, 2) := by decide +kernel
theorem d_Model_nearest_46 : decode b_Model_nearest 46 = .ok (.iload_n 1, 1) := by decide +kernel
theorem d_Model_nearest_47 : decode b_Model_nearest 47 = .ok (.imul, 1) := by decide +kernel
theorem d_Model_nearest_48 : decode b_Model_nearest 48 = .ok (.laload, 1) := by decide +kernel
theorem d_Model_nearest_49 : decode b_Model_nearest 49 = .ok (.invokestatic 298, 3) := by decide +kernel
theorem d_Model_nearest_52 : decode b_Model_nearest 52 = .ok (.aload_n 0, 1) := by decide +kernel
theorem d_Model_nearest_53 : decode b_Model_nearest 53 = .ok (.getfield 9, 3) := by decide +kernel
theorem d_Model_nearest_56 : decode b_Model_nearest 56 = .ok (.bipush 8, 2) := by decide +kernel
theorem d_Model_nearest_58 : decode b_Model_nearest 58 = .ok (.iload_n 1, 1) := by decide +kernel
theorem d_Model_nearest_59 : decode b_Model_nearest 59 = .ok (.imul, 1) := by decide +kernel
theorem d_Model_nearest_60 : decode b_Model_nearest 60 = .ok (.laload, 1) := by decide +kernel
theorem d_Model_nearest_61 : decode b_Model_nearest 61 = .ok (.lconst 0, 1) := by decide +kernel
theorem d_Model_nearest_62 : decode b_Model_nearest 62 = .ok (.lcmp, 1) := by decide +kernel
theorem d_Model_nearest_63 : decode b_Model_nearest 63 = .ok (.ifCond .ge 9, 3) := by decide +kernel
theorem d_Model_nearest_66 : decode b_Model_nearest 66 = .ok (.ldc2_w 301, 3) := by decide +kernel
theorem d_Model_nearest_69 : decode b_Model_nearest 69 = .ok (.goto 4, 3) := by decide +kernel
theorem d_Model_nearest_72 : decode b_Model_nearest 72 = .ok (.lconst 0, 1) := by decide +kernel
theorem d_Model_nearest_73 : decode b_Model_nearest 73 = .ok (.lor, 1) := by decide +kernel
theorem d_Model_nearest_74 : decode b_Model_nearest 74 = .ok (.lreturn, 1) := by decide +kernel
theorem d_Model_nearest_75 : decode b_Model_nearest 75 = .ok (.aload_n 0, 1) := by decide +kernel
theorem d_Model_nearest_76 : decode b_Model_nearest 76 = .ok (.iload_n 1, 1) := by decide +kernel
theorem d_Model_nearest_77 : decode b_Model_nearest 77 = .ok (.invokevirtual 218, 3) := by decide +kernel
theorem d_Model_nearest_80 : decode b_Model_nearest 80 = .ok (.aload_n 0, 1) := by decide +kernel
theorem d_Model_nearest_81 : decode b_Model_nearest 81 = .ok (.getfield 54, 3) := by decide +kernel
theorem d_Model_nearest_84 : decode b_Model_nearest 84 = .ok (.invokestatic 161, 3) := by decide +kernel
theorem d_Model_nearest_87 : decode b_Model_nearest 87 = .ok (.istore_n 2, 1) := by decide +kernel
theorem d_Model_nearest_88 : decode b_Model_nearest 88 = .ok (.aload_n 0, 1) := by decide +kernel
theorem d_Model_nearest_89 : decode b_Model_nearest 89 = .ok (.getfield 208, 3) := by decide +kernel
theorem d_Model_nearest_92 : decode b_Model_nearest 92 = .ok (.ifCond .gt 10, 3) := by decide +kernel
theorem d_Model_nearest_95 : decode b_Model_nearest 95 = .ok (.aload_n 0, 1) := by decide +kernel
theorem d_Model_nearest_96 : decode b_Model_nearest 96 = .ok (.getfield 211, 3) := by decide +kernel
theorem d_Model_nearest_99 : decode b_Model_nearest 99 = .ok (.ifCond .ge 20, 3) := by decide +kernel
theorem d_Model_nearest_102 : decode b_Model_nearest 102 = .ok (.iload_n 2, 1) := by decide +kernel
theorem d_Model_nearest_103 : decode b_Model_nearest 103 = .ok (.bipush 54, 2) := by decide +kernel
theorem d_Model_nearest_105 : decode b_Model_nearest 105 = .ok (.if_icmp .lt 14, 3) := by decide +kernel
theorem d_Model_nearest_108 : decode b_Model_nearest 108 = .ok (.iload_n 2, 1) := by decide +kernel
theorem d_Model_nearest_109 : decode b_Model_nearest 109 = .ok (.aload_n 0, 1) := by decide +kernel
theorem d_Model_nearest_110 : decode b_Model_nearest 110 = .ok (.getfield 57, 3) := by decide +kernel
theorem d_Model_nearest_113 : decode b_Model_nearest 113 = .ok (.invokestatic 161, 3) := by decide +kernel
theorem d_Model_nearest_116 : decode b_Model_nearest 116 = .ok (.if_icmp .eq 7, 3) := by decide +kernel
theorem d_Model_nearest_119 : decode b_Model_nearest 119 = .ok (.ldc2_w 303, 3) := by decide +kernel
theorem d_Model_nearest_122 : decode b_Model_nearest 122 = .ok (.lreturn, 1) := by decide +kernel
theorem d_Model_nearest_123 : decode b_Model_nearest 123 = .ok (.aload_n 0, 1) := by decide +kernel
theorem d_Model_nearest_124 : decode b_Model_nearest 124 = .ok (.getfield 54, 3) := by decide +kernel
theorem d_Model_nearest_127 : decode b_Model_nearest 127 = .ok (.iload_n 2, 1) := by decide +kernel
theorem d_Model_nearest_128 : decode b_Model_nearest 128 = .ok (.bipush 54, 2) := by decide +kernel
theorem d_Model_nearest_130 : decode b_Model_nearest 130 = .ok (.isub, 1) := by decide +kernel
theorem d_Model_nearest_131 : decode b_Model_nearest 131 = .ok (.invokestatic 225, 3) := by decide +kernel
theorem d_Model_nearest_134 : decode b_Model_nearest 134 = .ok (.aload_n 0, 1) := by decide +kernel
theorem d_Model_nearest_135 : decode b_Model_nearest 135 = .ok (.getfield 57, 3) := by decide +kernel
theorem d_Model_nearest_138 : decode b_Model_nearest 138 = .ok (.iload_n 2, 1) := by decide +kernel
theorem d_Model_nearest_139 : decode b_Model_nearest 139 = .ok (.bipush 54, 2) := by decide +kernel
theorem d_Model_nearest_141 : decode b_Model_nearest 141 = .ok (.isub, 1) := by decide +kernel
theorem d_Model_nearest_142 : decode b_Model_nearest 142 = .ok (.invokestatic 225, 3) := by decide +kernel
theorem d_Model_nearest_145 : decode b_Model_nearest 145 = .ok (.aload_n 0, 1) := by decide +kernel
theorem d_Model_nearest_146 : decode b_Model_nearest 146 = .ok (.getfield 54, 3) := by decide +kernel
theorem d_Model_nearest_149 : decode b_Model_nearest 149 = .ok (.aload_n 0, 1) := by decide +kernel
theorem d_Model_nearest_150 : decode b_Model_nearest 150 = .ok (.getfield 57, 3) := by decide +kernel
theorem d_Model_nearest_153 : decode b_Model_nearest 153 = .ok (.invokestatic 176, 3) := by decide +kernel
theorem d_Model_nearest_156 : decode b_Model_nearest 156 = .ok (.ifCond .eq 7, 3) := by decide +kernel
theorem d_Model_nearest_159 : decode b_Model_nearest 159 = .ok (.ldc2_w 303, 3) := by decide +kernel
theorem d_Model_nearest_162 : decode b_Model_nearest 162 = .ok (.lreturn, 1) := by decide +kernel
theorem d_Model_nearest_163 : decode b_Model_nearest 163 = .ok (.aload_n 0, 1) := by decide +kernel
theorem d_Model_nearest_164 : decode b_Model_nearest 164 = .ok (.aload_n 0, 1) := by decide +kernel
theorem d_Model_nearest_165 : decode b_Model_nearest 165 = .ok (.getfield 54, 3) := by decide +kernel
theorem d_Model_nearest_168 : decode b_Model_nearest 168 = .ok (.invokevirtual 228, 3) := by decide +kernel
theorem d_Model_nearest_171 : decode b_Model_nearest 171 = .ok (.sipush 1024, 3) := by decide +kernel
theorem d_Model_nearest_174 : decode b_Model_nearest 174 = .ok (.iload_n 2, 1) := by decide +kernel
theorem d_Model_nearest_175 : decode b_Model_nearest 175 = .ok (.isub, 1) := by decide +kernel
theorem d_Model_nearest_176 : decode b_Model_nearest 176 = .ok (.bipush 54, 2) := by decide +kernel
theorem d_Model_nearest_178 : decode b_Model_nearest 178 = .ok (.iadd, 1) := by decide +kernel
theorem d_Model_nearest_179 : decode b_Model_nearest 179 = .ok (.invokestatic 305, 3) := by decide +kernel
theorem d_Model_nearest_182 : decode b_Model_nearest 182 = .ok (.aload_n 0, 1) := by decide +kernel
theorem d_Model_nearest_183 : decode b_Model_nearest 183 = .ok (.getfield 211, 3) := by decide +kernel
theorem d_Model_nearest_186 : decode b_Model_nearest 186 = .ok (.ifCond .ge 9, 3) := by decide +kernel
theorem d_Model_nearest_189 : decode b_Model_nearest 189 = .ok (.ldc2_w 301, 3) := by decide +kernel
theorem d_Model_nearest_192 : decode b_Model_nearest 192 = .ok (.goto 4, 3) := by decide +kernel
theorem d_Model_nearest_195 : decode b_Model_nearest 195 = .ok (.lconst 0, 1) := by decide +kernel
theorem d_Model_nearest_196 : decode b_Model_nearest 196 = .ok (.lor, 1) := by decide +kernel
theorem d_Model_nearest_197 : decode b_Model_nearest 197 = .ok (.lreturn, 1) := by decide +kernel
def mf_Model_nearest_J102 (F : Nat) (m_made : Int32) (m_outCount : Int32) (x2 : Int32) (umo : Int32) (umo_1 : Int32) (uaroot : Nat → Int64) (uarest : Nat → Int64) (uasquare : Nat → Int64) (uapart : Nat → Int64) (uaplus : Nat → Int64) (uaminus : Nat → Int64) (ualow : Nat → Int64) (uahigh : Nat → Int64) (uaone : Nat → Int64) : Option (Int64 × Int32 × Int32 × (Nat → Int64) × (Nat → Int64) × (Nat → Int64) × (Nat → Int64) × (Nat → Int64) × (Nat → Int64) × (Nat → Int64) × (Nat → Int64) × (Nat → Int64)) :=
  (if x2 < (54 : Int32) then (some ((9221120237041090560 : Int64), umo, umo_1, uaroot, uarest, uasquare, uapart, uaplus, uaminus, ualow, uahigh, uaone)) else (sd_b1 (mf_Model_bits F uahigh) fun r => (if x2 = r then (sd_b1 (mf_Model_unshift F (x2 - (54 : Int32)) ualow) fun ualow_1 => (sd_b1 (mf_Model_unshift F (x2 - (54 : Int32)) uahigh) fun uahigh_1 => (sd_b1 (mf_Model_compareRows F ualow_1 uahigh_1) fun r_1 => (if r_1 = 0 then (sd_b1 (mf_Model_small F m_made m_outCount umo umo_1 ualow_1) fun r_2 => (sd_b1 (mf_Model_doubleOf F r_2 (((1024 : Int32) - x2) + (54 : Int32))) fun r_3 => (sd_b1 (if 0 ≤ umo_1 then (some ((0 : Int64))) else (some ((-9223372036854775808 : Int64)))) fun y => (some ((r_3 ||| y), umo, umo_1, uaroot, uarest, uasquare, uapart, uaplus, uaminus, ualow_1, uahigh_1, uaone))))) else (some ((9221120237041090560 : Int64), umo, umo_1, uaroot, uarest, uasquare, uapart, uaplus, uaminus, ualow_1, uahigh_1, uaone)))))) else (some ((9221120237041090560 : Int64), umo, umo_1, uaroot, uarest, uasquare, uapart, uaplus, uaminus, ualow, uahigh, uaone)))))
def mf_Model_nearest (F : Nat) (vI : Int32) (m_made : Int32) (m_outCount : Int32) (m_lowSign : Int32) (m_highSign : Int32) (c_n : Nat → Int64) (c_d : Nat → Int64) (c_r : Nat → Int64) (c_count : Nat → Int32) (c_root : Nat → Int64) (c_rest : Nat → Int64) (c_square : Nat → Int64) (c_part : Nat → Int64) (c_plus : Nat → Int64) (c_minus : Nat → Int64) (c_low : Nat → Int64) (c_high : Nat → Int64) (c_one : Nat → Int64) : Option (Int64 × Int32 × Int32 × (Nat → Int64) × (Nat → Int64) × (Nat → Int64) × (Nat → Int64) × (Nat → Int64) × (Nat → Int64) × (Nat → Int64) × (Nat → Int64) × (Nat → Int64)) :=
  (sd_b1 (mf_Model_is F vI) fun r_4 => (if r_4 = 0 then (some ((1 : Int64), m_lowSign, m_highSign, c_root, c_rest, c_square, c_part, c_plus, c_minus, c_low, c_high, c_one)) else (sd_g (sd_ix vI 8) (if (c_count vI.toNatClampNeg) = 0 then (some ((0 : Int64), m_lowSign, m_highSign, c_root, c_rest, c_square, c_part, c_plus, c_minus, c_low, c_high, c_one)) else (sd_b1 (mf_Model_fraction F vI m_made m_outCount m_lowSign m_highSign c_r c_count) fun r_5 => (if r_5 = 0 then (sd_b11 (mf_Model_ends F vI m_made m_outCount m_lowSign m_highSign c_n c_d c_r c_count c_root c_rest c_square c_part c_plus c_minus c_low c_high c_one) fun umo_2 umo_3 uaroot_1 uarest_1 uasquare_1 uapart_1 uaplus_1 uaminus_1 ualow_2 uahigh_2 uaone_1 => (sd_b1 (mf_Model_bits F ualow_2) fun r_6 => (if 0 < umo_2 then (mf_Model_nearest_J102 F m_made m_outCount r_6 umo_2 umo_3 uaroot_1 uarest_1 uasquare_1 uapart_1 uaplus_1 uaminus_1 ualow_2 uahigh_2 uaone_1) else (if 0 ≤ umo_3 then (some ((9221120237041090560 : Int64), umo_2, umo_3, uaroot_1, uarest_1, uasquare_1, uapart_1, uaplus_1, uaminus_1, ualow_2, uahigh_2, uaone_1)) else (mf_Model_nearest_J102 F m_made m_outCount r_6 umo_2 umo_3 uaroot_1 uarest_1 uasquare_1 uapart_1 uaplus_1 uaminus_1 ualow_2 uahigh_2 uaone_1))))) else (sd_g (sd_ix ((8 : Int32) * vI) 64) (sd_g (sd_ix ((8 : Int32) * vI) 64) (sd_b1 (mf_Model_nearestFraction F (if 0 < (c_n ((8 : Int32) * vI).toNatClampNeg) then (c_n ((8 : Int32) * vI).toNatClampNeg) else -(c_n ((8 : Int32) * vI).toNatClampNeg)) (c_d ((8 : Int32) * vI).toNatClampNeg)) fun r_7 => (sd_g (sd_ix ((8 : Int32) * vI) 64) (sd_b1 (if (0 : Int64) ≤ (c_n ((8 : Int32) * vI).toNatClampNeg) then (some ((0 : Int64))) else (some ((-9223372036854775808 : Int64)))) fun y_1 => (some ((r_7 ||| y_1), m_lowSign, m_highSign, c_root, c_rest, c_square, c_part, c_plus, c_minus, c_low, c_high, c_one)))))))))))))
abbrev rm_Model_nearest : Room := { frames := 6, cells := 0, slots := 0, locals := 137 }
set_option maxHeartbeats 4000000 in
set_option maxRecDepth 100000 in
theorem ct_Model_nearest (l : Launch) (D : va_G) (g : G4) (mo : Nat) (a_n : Nat) (a_d : Nat) (a_r : Nat) (a_count : Nat) (a_newN : Nat) (a_newD : Nat) (a_newR : Nat) (a_out : Nat) (a_root : Nat) (a_rest : Nat) (a_square : Nat) (a_part : Nat) (a_plus : Nat) (a_minus : Nat) (a_low : Nat) (a_high : Nat) (a_one : Nat) (a_two : Nat) (a_otherLow : Nat) (a_otherHigh : Nat) (a_digit : Nat) (a_topA : Nat) (a_underA : Nat) (a_topB : Nat) (a_underB : Nat) (a_quotient : Nat) (a_otherQuotient : Nat) (sz : Nat) (vI : Int32) (m_made : Int32) (m_outCount : Int32) (m_lowSign : Int32) (m_highSign : Int32) (c_n : Nat → Int64) (c_d : Nat → Int64) (c_r : Nat → Int64) (c_count : Nat → Int32) (c_root : Nat → Int64) (c_rest : Nat → Int64) (c_square : Nat → Int64) (c_part : Nat → Int64) (c_plus : Nat → Int64) (c_minus : Nat → Int64) (c_low : Nat → Int64) (c_high : Nat → Int64) (c_one : Nat → Int64) (F : Nat) (res : Int64 × Int32 × Int32 × (Nat → Int64) × (Nat → Int64) × (Nat → Int64) × (Nat → Int64) × (Nat → Int64) × (Nat → Int64) × (Nat → Int64) × (Nat → Int64) × (Nat → Int64)) (hm : mf_Model_nearest F vI m_made m_outCount m_lowSign m_highSign c_n c_d c_r c_count c_root c_rest c_square c_part c_plus c_minus c_low c_high c_one = some res) : Met l y_Model_nearest (.code y_Model_nearest b_Model_nearest 3 (some .long) :: sd_tb) rm_Model_nearest (sd_PW D g [.ref mo, .int vI] sz [(mo, .inr (5, [.ref a_n, .ref a_d, .ref a_r, .ref a_count, .ref a_newN, .ref a_newD, .ref a_newR, .int m_made, .ref a_out, .int m_outCount, .ref a_root, .ref a_rest, .ref a_square, .ref a_part, .ref a_plus, .ref a_minus, .ref a_low, .ref a_high, .ref a_one, .ref a_two, .int m_lowSign, .int m_highSign, .ref a_otherLow, .ref a_otherHigh, .ref a_digit, .ref a_topA, .ref a_underA, .ref a_topB, .ref a_underB, .ref a_quotient, .ref a_otherQuotient])), (a_n, aJ g 64 c_n), (a_d, aJ g 64 c_d), (a_r, aJ g 64 c_r), (a_count, aI g 8 c_count), (a_root, aJ g 76 c_root), (a_rest, aJ g 76 c_rest), (a_square, aJ g 76 c_square), (a_part, aJ g 76 c_part), (a_plus, aJ g 76 c_plus), (a_minus, aJ g 76 c_minus), (a_low, aJ g 76 c_low), (a_high, aJ g 76 c_high), (a_one, aJ g 76 c_one)]) (sd_Ql1 D g res (fun u : Int32 × Int32 × (Nat → Int64) × (Nat → Int64) × (Nat → Int64) × (Nat → Int64) × (Nat → Int64) × (Nat → Int64) × (Nat → Int64) × (Nat → Int64) × (Nat → Int64) => [(mo, .inr (5, [.ref a_n, .ref a_d, .ref a_r, .ref a_count, .ref a_newN, .ref a_newD, .ref a_newR, .int m_made, .ref a_out, .int m_outCount, .ref a_root, .ref a_rest, .ref a_square, .ref a_part, .ref a_plus, .ref a_minus, .ref a_low, .ref a_high, .ref a_one, .ref a_two, .int (u.1), .int (u.2.1), .ref a_otherLow, .ref a_otherHigh, .ref a_digit, .ref a_topA, .ref a_underA, .ref a_topB, .ref a_underB, .ref a_quotient, .ref a_otherQuotient])), (a_n, aJ g 64 c_n), (a_d, aJ g 64 c_d), (a_r, aJ g 64 c_r), (a_count, aI g 8 c_count), (a_root, aJ g 76 (u.2.2.1)), (a_rest, aJ g 76 (u.2.2.2.1)), (a_square, aJ g 76 (u.2.2.2.2.1)), (a_part, aJ g 76 (u.2.2.2.2.2.1)), (a_plus, aJ g 76 (u.2.2.2.2.2.2.1)), (a_minus, aJ g 76 (u.2.2.2.2.2.2.2.1)), (a_low, aJ g 76 (u.2.2.2.2.2.2.2.2.1)), (a_high, aJ g 76 (u.2.2.2.2.2.2.2.2.2.1)), (a_one, aJ g 76 (u.2.2.2.2.2.2.2.2.2.2))]) (va_A [(mo, .inr (5, [.ref a_n, .ref a_d, .ref a_r, .ref a_count, .ref a_newN, .ref a_newD, .ref a_newR, .int m_made, .ref a_out, .int m_outCount, .ref a_root, .ref a_rest, .ref a_square, .ref a_part, .ref a_plus, .ref a_minus, .ref a_low, .ref a_high, .ref a_one, .ref a_two, .int m_lowSign, .int m_highSign, .ref a_otherLow, .ref a_otherHigh, .ref a_digit, .ref a_topA, .ref a_underA, .ref a_topB, .ref a_underB, .ref a_quotient, .ref a_otherQuotient])), (a_n, aJ g 64 c_n), (a_d, aJ g 64 c_d), (a_r, aJ g 64 c_r), (a_count, aI g 8 c_count), (a_root, aJ g 76 c_root), (a_rest, aJ g 76 c_rest), (a_square, aJ g 76 c_square), (a_part, aJ g 76 c_part), (a_plus, aJ g 76 c_plus), (a_minus, aJ g 76 c_minus), (a_low, aJ g 76 c_low), (a_high, aJ g 76 c_high), (a_one, aJ g 76 c_one)] sz)) 0 0 (va_A [(mo, .inr (5, [.ref a_n, .ref a_d, .ref a_r, .ref a_count, .ref a_newN, .ref a_newD, .ref a_newR, .int m_made, .ref a_out, .int m_outCount, .ref a_root, .ref a_rest, .ref a_square, .ref a_part, .ref a_plus, .ref a_minus, .ref a_low, .ref a_high, .ref a_one, .ref a_two, .int m_lowSign, .int m_highSign, .ref a_otherLow, .ref a_otherHigh, .ref a_digit, .ref a_topA, .ref a_underA, .ref a_topB, .ref a_underB, .ref a_quotient, .ref a_otherQuotient])), (a_n, aJ g 64 c_n), (a_d, aJ g 64 c_d), (a_r, aJ g 64 c_r), (a_count, aI g 8 c_count), (a_root, aJ g 76 c_root), (a_rest, aJ g 76 c_rest), (a_square, aJ g 76 c_square), (a_part, aJ g 76 c_part), (a_plus, aJ g 76 c_plus), (a_minus, aJ g 76 c_minus), (a_low, aJ g 76 c_low), (a_high, aJ g 76 c_high), (a_one, aJ g 76 c_one)] sz) := by
  refine sd_met (Qf := fun A => sd_Ql1 D g res (fun u : Int32 × Int32 × (Nat → Int64) × (Nat → Int64) × (Nat → Int64) × (Nat → Int64) × (Nat → Int64) × (Nat → Int64) × (Nat → Int64) × (Nat → Int64) × (Nat → Int64) => [(mo, .inr (5, [.ref a_n, .ref a_d, .ref a_r, .ref a_count, .ref a_newN, .ref a_newD, .ref a_newR, .int m_made, .ref a_out, .int m_outCount, .ref a_root, .ref a_rest, .ref a_square, .ref a_part, .ref a_plus, .ref a_minus, .ref a_low, .ref a_high, .ref a_one, .ref a_two, .int (u.1), .int (u.2.1), .ref a_otherLow, .ref a_otherHigh, .ref a_digit, .ref a_topA, .ref a_underA, .ref a_topB, .ref a_underB, .ref a_quotient, .ref a_otherQuotient])), (a_n, aJ g 64 c_n), (a_d, aJ g 64 c_d), (a_r, aJ g 64 c_r), (a_count, aI g 8 c_count), (a_root, aJ g 76 (u.2.2.1)), (a_rest, aJ g 76 (u.2.2.2.1)), (a_square, aJ g 76 (u.2.2.2.2.1)), (a_part, aJ g 76 (u.2.2.2.2.2.1)), (a_plus, aJ g 76 (u.2.2.2.2.2.2.1)), (a_minus, aJ g 76 (u.2.2.2.2.2.2.2.1)), (a_low, aJ g 76 (u.2.2.2.2.2.2.2.2.1)), (a_high, aJ g 76 (u.2.2.2.2.2.2.2.2.2.1)), (a_one, aJ g 76 (u.2.2.2.2.2.2.2.2.2.2))]) A) (own := R_Model) (by decide +kernel) rfl (Nat.le_of_ble_eq_true rfl) ?_
  intro p e s m args below meth c S hr hlk hK A hA Q hQ H locs hP hD hS ls hl
  have hx := S.1
  have hb := S.2.1
  have hml := S.2.2.1
  have hown := S.2.2.2.1
  have htt := sd_tt S
  replace hl : lv_has ls 3 [(0, .ref mo), (1, .int vI)] := hl
  unfold mf_Model_nearest at hm
  have J102 : ∀ (x2 : Int32) (umo : Int32) (umo_1 : Int32) (uaroot : Nat → Int64) (uarest : Nat → Int64) (uasquare : Nat → Int64) (uapart : Nat → Int64) (uaplus : Nat → Int64) (uaminus : Nat → Int64) (ualow : Nat → Int64) (uahigh : Nat → Int64) (uaone : Nat → Int64), mf_Model_nearest_J102 F m_made m_outCount x2 umo umo_1 uaroot uarest uasquare uapart uaplus uaminus ualow uahigh uaone = some res → ∀ (H : Heap) (locs : List Loc) (ls : Array Slot), va_P D classes [(mo, .inr (5, [.ref a_n, .ref a_d, .ref a_r, .ref a_count, .ref a_newN, .ref a_newD, .ref a_newR, .int m_made, .ref a_out, .int m_outCount, .ref a_root, .ref a_rest, .ref a_square, .ref a_part, .ref a_plus, .ref a_minus, .ref a_low, .ref a_high, .ref a_one, .ref a_two, .int umo, .int umo_1, .ref a_otherLow, .ref a_otherHigh, .ref a_digit, .ref a_topA, .ref a_underA, .ref a_topB, .ref a_underB, .ref a_quotient, .ref a_otherQuotient])), (a_n, aJ g 64 c_n), (a_d, aJ g 64 c_d), (a_r, aJ g 64 c_r), (a_count, aI g 8 c_count), (a_root, aJ g 76 uaroot), (a_rest, aJ g 76 uarest), (a_square, aJ g 76 uasquare), (a_part, aJ g 76 uapart), (a_plus, aJ g 76 uaplus), (a_minus, aJ g 76 uaminus), (a_low, aJ g 76 ualow), (a_high, aJ g 76 uahigh), (a_one, aJ g 76 uaone)] H → va_D A [(mo, .inr (5, [.ref a_n, .ref a_d, .ref a_r, .ref a_count, .ref a_newN, .ref a_newD, .ref a_newR, .int m_made, .ref a_out, .int m_outCount, .ref a_root, .ref a_rest, .ref a_square, .ref a_part, .ref a_plus, .ref a_minus, .ref a_low, .ref a_high, .ref a_one, .ref a_two, .int umo, .int umo_1, .ref a_otherLow, .ref a_otherHigh, .ref a_digit, .ref a_topA, .ref a_underA, .ref a_topB, .ref a_underB, .ref a_quotient, .ref a_otherQuotient])), (a_n, aJ g 64 c_n), (a_d, aJ g 64 c_d), (a_r, aJ g 64 c_r), (a_count, aI g 8 c_count), (a_root, aJ g 76 uaroot), (a_rest, aJ g 76 uarest), (a_square, aJ g 76 uasquare), (a_part, aJ g 76 uapart), (a_plus, aJ g 76 uaplus), (a_minus, aJ g 76 uaminus), (a_low, aJ g 76 ualow), (a_high, aJ g 76 uahigh), (a_one, aJ g 76 uaone)] → va_S A s.heap H locs → lv_has ls 3 [(0, .ref mo), (2, .int x2)] → W p l e rm_Model_nearest s m args below meth c H locs 0 0 Q (F0 m 102 ls []) := by
    intro x2 umo umo_1 uaroot uarest uasquare uapart uaplus uaminus ualow uahigh uaone hm H locs ls hP hD hS hl
    unfold mf_Model_nearest_J102 at hm
    refine lv_iload_n hx hb d_Model_nearest_102 rfl (lv_at hl 1 rfl) ?_
    refine lv_bipush (v := (54 : Int32)) hx hb d_Model_nearest_103 (by decide) ?_
    refine lv_icmp_lt (tgt := 119) hx hb d_Model_nearest_105 (by decide) (fun hc => ?_) (fun hc => ?_)
    · have hm := sd_mt hc hm
      refine sd_ldc2 (v := (9221120237041090560 : Int64)) hx hb hown (htt _ km_Model_303) d_Model_nearest_119 ?_
      exact sd_l1ret (u := (umo, umo_1, uaroot, uarest, uasquare, uapart, uaplus, uaminus, ualow, uahigh, uaone)) hQ hx hb hr hlk hK (hP.sub [0, 1, 2, 3, 4, 5, 6, 7, 8, 9, 10, 11, 12, 13] rfl) (hD.sub [0, 1, 2, 3, 4, 5, 6, 7, 8, 9, 10, 11, 12, 13] (by decide) rfl) hS (Option.some.inj hm).symm d_Model_nearest_122
    · have hm := sd_mf hc hm
      refine lv_iload_n hx hb d_Model_nearest_108 rfl (lv_at hl 1 rfl) ?_
      refine lv_aload_n hx hb d_Model_nearest_109 rfl (lv_at hl 0 rfl) ?_
      refine va_get (D := D) (ci := 5) (v := .ref a_high) (C := R_Model) (T := F_Model) (N := 31) hx hb htt i_Model hown hK hP 0 rfl rfl 17 (by decide) (htt _ kf_Model_57) (fun _ h9 => h9) rfl d_Model_nearest_110 ?_
      obtain ⟨r, hc, hm⟩ := sd_mb1 hm
      refine sd_ci0 (wr := [(mo, .inr (5, [.ref a_n, .ref a_d, .ref a_r, .ref a_count, .ref a_newN, .ref a_newD, .ref a_newR, .int m_made, .ref a_out, .int m_outCount, .ref a_root, .ref a_rest, .ref a_square, .ref a_part, .ref a_plus, .ref a_minus, .ref a_low, .ref a_high, .ref a_one, .ref a_two, .int umo, .int umo_1, .ref a_otherLow, .ref a_otherHigh, .ref a_digit, .ref a_topA, .ref a_underA, .ref a_topB, .ref a_underB, .ref a_quotient, .ref a_otherQuotient])), (a_n, aJ g 64 c_n), (a_d, aJ g 64 c_d), (a_r, aJ g 64 c_r), (a_count, aI g 8 c_count), (a_root, aJ g 76 uaroot), (a_rest, aJ g 76 uarest), (a_square, aJ g 76 uasquare), (a_part, aJ g 76 uapart), (a_plus, aJ g 76 uaplus), (a_minus, aJ g 76 uaminus), (a_low, aJ g 76 ualow), (a_one, aJ g 76 uaone)]) (w2 := [(mo, .inr (5, [.ref a_n, .ref a_d, .ref a_r, .ref a_count, .ref a_newN, .ref a_newD, .ref a_newR, .int m_made, .ref a_out, .int m_outCount, .ref a_root, .ref a_rest, .ref a_square, .ref a_part, .ref a_plus, .ref a_minus, .ref a_low, .ref a_high, .ref a_one, .ref a_two, .int umo, .int umo_1, .ref a_otherLow, .ref a_otherHigh, .ref a_digit, .ref a_topA, .ref a_underA, .ref a_topB, .ref a_underB, .ref a_quotient, .ref a_otherQuotient])), (a_n, aJ g 64 c_n), (a_d, aJ g 64 c_d), (a_r, aJ g 64 c_r), (a_count, aI g 8 c_count), (a_root, aJ g 76 uaroot), (a_rest, aJ g 76 uarest), (a_square, aJ g 76 uasquare), (a_part, aJ g 76 uapart), (a_plus, aJ g 76 uaplus), (a_minus, aJ g 76 uaminus), (a_low, aJ g 76 ualow), (a_one, aJ g 76 uaone), (a_high, aJ g 76 uahigh)]) (sd_runS (rest := [.int x2]) (As := [.ref a_high]) S (ct_Model_bits l D g a_high (H.size) uahigh F (r) hc) kl_Model_161 (by decide) (by decide) hK hP hD [12] rfl (by decide) rfl hl d_Model_nearest_113 rfl (Nat.le_of_ble_eq_true rfl) ⟨Nat.zero_le _, Nat.zero_le _⟩) hP hD hS hA [12] [0, 1, 2, 3, 4, 5, 6, 7, 8, 9, 10, 11, 13] rfl rfl (by decide) (by decide) rfl (fun H locs hP hD hS => ?_)
      refine W.eq (g2 := F0 m 116 ls [.int r, .int x2]) rfl ?_
      refine lv_icmp_eq (tgt := 123) hx hb d_Model_nearest_116 (by decide) (fun hc => ?_) (fun hc => ?_)
      · have hm := sd_mt hc hm
        refine lv_aload_n hx hb d_Model_nearest_123 rfl (lv_at hl 0 rfl) ?_
        refine va_get (D := D) (ci := 5) (v := .ref a_low) (C := R_Model) (T := F_Model) (N := 31) hx hb htt i_Model hown hK hP 0 rfl rfl 16 (by decide) (htt _ kf_Model_54) (fun _ h9 => h9) rfl d_Model_nearest_124 ?_
        refine lv_iload_n hx hb d_Model_nearest_127 rfl (lv_at hl 1 rfl) ?_
        refine lv_bipush (v := (54 : Int32)) hx hb d_Model_nearest_128 (by decide) ?_
        refine lv_isub hx hb d_Model_nearest_130 ?_
        obtain ⟨ualow_1, hc, hm⟩ := sd_mb1 hm
        refine sd_cv1 (wr := [(mo, .inr (5, [.ref a_n, .ref a_d, .ref a_r, .ref a_count, .ref a_newN, .ref a_newD, .ref a_newR, .int m_made, .ref a_out, .int m_outCount, .ref a_root, .ref a_rest, .ref a_square, .ref a_part, .ref a_plus, .ref a_minus, .ref a_low, .ref a_high, .ref a_one, .ref a_two, .int umo, .int umo_1, .ref a_otherLow, .ref a_otherHigh, .ref a_digit, .ref a_topA, .ref a_underA, .ref a_topB, .ref a_underB, .ref a_quotient, .ref a_otherQuotient])), (a_n, aJ g 64 c_n), (a_d, aJ g 64 c_d), (a_r, aJ g 64 c_r), (a_count, aI g 8 c_count), (a_root, aJ g 76 uaroot), (a_rest, aJ g 76 uarest), (a_square, aJ g 76 uasquare), (a_part, aJ g 76 uapart), (a_plus, aJ g 76 uaplus), (a_minus, aJ g 76 uaminus), (a_one, aJ g 76 uaone), (a_high, aJ g 76 uahigh)]) (w2 := [(mo, .inr (5, [.ref a_n, .ref a_d, .ref a_r, .ref a_count, .ref a_newN, .ref a_newD, .ref a_newR, .int m_made, .ref a_out, .int m_outCount, .ref a_root, .ref a_rest, .ref a_square, .ref a_part, .ref a_plus, .ref a_minus, .ref a_low, .ref a_high, .ref a_one, .ref a_two, .int umo, .int umo_1, .ref a_otherLow, .ref a_otherHigh, .ref a_digit, .ref a_topA, .ref a_underA, .ref a_topB, .ref a_underB, .ref a_quotient, .ref a_otherQuotient])), (a_n, aJ g 64 c_n), (a_d, aJ g 64 c_d), (a_r, aJ g 64 c_r), (a_count, aI g 8 c_count), (a_root, aJ g 76 uaroot), (a_rest, aJ g 76 uarest), (a_square, aJ g 76 uasquare), (a_part, aJ g 76 uapart), (a_plus, aJ g 76 uaplus), (a_minus, aJ g 76 uaminus), (a_one, aJ g 76 uaone), (a_high, aJ g 76 uahigh), (a_low, aJ g 76 ualow_1)]) (sd_runS (rest := []) (As := [.ref a_low, .int (x2 - (54 : Int32))]) S (ct_Model_unshift l D g a_low (H.size) (x2 - (54 : Int32)) ualow F (ualow_1) hc) kl_Model_225 (by decide) (by decide) hK hP hD [11] rfl (by decide) rfl hl d_Model_nearest_131 rfl (Nat.le_of_ble_eq_true rfl) ⟨Nat.zero_le _, Nat.zero_le _⟩) hP hD hS hA [11] [0, 1, 2, 3, 4, 5, 6, 7, 8, 9, 10, 12, 13] rfl rfl (by decide) (by decide) rfl (fun H locs hP hD hS => ?_)
        refine lv_aload_n hx hb d_Model_nearest_134 rfl (lv_at hl 0 rfl) ?_
        refine va_get (D := D) (ci := 5) (v := .ref a_high) (C := R_Model) (T := F_Model) (N := 31) hx hb htt i_Model hown hK hP 0 rfl rfl 17 (by decide) (htt _ kf_Model_57) (fun _ h9 => h9) rfl d_Model_nearest_135 ?_
        refine lv_iload_n hx hb d_Model_nearest_138 rfl (lv_at hl 1 rfl) ?_
        refine lv_bipush (v := (54 : Int32)) hx hb d_Model_nearest_139 (by decide) ?_
        refine lv_isub hx hb d_Model_nearest_141 ?_
        obtain ⟨uahigh_1, hc, hm⟩ := sd_mb1 hm
        refine sd_cv1 (wr := [(mo, .inr (5, [.ref a_n, .ref a_d, .ref a_r, .ref a_count, .ref a_newN, .ref a_newD, .ref a_newR, .int m_made, .ref a_out, .int m_outCount, .ref a_root, .ref a_rest, .ref a_square, .ref a_part, .ref a_plus, .ref a_minus, .ref a_low, .ref a_high, .ref a_one, .ref a_two, .int umo, .int umo_1, .ref a_otherLow, .ref a_otherHigh, .ref a_digit, .ref a_topA, .ref a_underA, .ref a_topB, .ref a_underB, .ref a_quotient, .ref a_otherQuotient])), (a_n, aJ g 64 c_n), (a_d, aJ g 64 c_d), (a_r, aJ g 64 c_r), (a_count, aI g 8 c_count), (a_root, aJ g 76 uaroot), (a_rest, aJ g 76 uarest), (a_square, aJ g 76 uasquare), (a_part, aJ g 76 uapart), (a_plus, aJ g 76 uaplus), (a_minus, aJ g 76 uaminus), (a_one, aJ g 76 uaone), (a_low, aJ g 76 ualow_1)]) (w2 := [(mo, .inr (5, [.ref a_n, .ref a_d, .ref a_r, .ref a_count, .ref a_newN, .ref a_newD, .ref a_newR, .int m_made, .ref a_out, .int m_outCount, .ref a_root, .ref a_rest, .ref a_square, .ref a_part, .ref a_plus, .ref a_minus, .ref a_low, .ref a_high, .ref a_one, .ref a_two, .int umo, .int umo_1, .ref a_otherLow, .ref a_otherHigh, .ref a_digit, .ref a_topA, .ref a_underA, .ref a_topB, .ref a_underB, .ref a_quotient, .ref a_otherQuotient])), (a_n, aJ g 64 c_n), (a_d, aJ g 64 c_d), (a_r, aJ g 64 c_r), (a_count, aI g 8 c_count), (a_root, aJ g 76 uaroot), (a_rest, aJ g 76 uarest), (a_square, aJ g 76 uasquare), (a_part, aJ g 76 uapart), (a_plus, aJ g 76 uaplus), (a_minus, aJ g 76 uaminus), (a_one, aJ g 76 uaone), (a_low, aJ g 76 ualow_1), (a_high, aJ g 76 uahigh_1)]) (sd_runS (rest := []) (As := [.ref a_high, .int (x2 - (54 : Int32))]) S (ct_Model_unshift l D g a_high (H.size) (x2 - (54 : Int32)) uahigh F (uahigh_1) hc) kl_Model_225 (by decide) (by decide) hK hP hD [12] rfl (by decide) rfl hl d_Model_nearest_142 rfl (Nat.le_of_ble_eq_true rfl) ⟨Nat.zero_le _, Nat.zero_le _⟩) hP hD hS hA [12] [0, 1, 2, 3, 4, 5, 6, 7, 8, 9, 10, 11, 13] rfl rfl (by decide) (by decide) rfl (fun H locs hP hD hS => ?_)
        refine lv_aload_n hx hb d_Model_nearest_145 rfl (lv_at hl 0 rfl) ?_
        refine va_get (D := D) (ci := 5) (v := .ref a_low) (C := R_Model) (T := F_Model) (N := 31) hx hb htt i_Model hown hK hP 0 rfl rfl 16 (by decide) (htt _ kf_Model_54) (fun _ h9 => h9) rfl d_Model_nearest_146 ?_
        refine lv_aload_n hx hb d_Model_nearest_149 rfl (lv_at hl 0 rfl) ?_
        refine va_get (D := D) (ci := 5) (v := .ref a_high) (C := R_Model) (T := F_Model) (N := 31) hx hb htt i_Model hown hK hP 0 rfl rfl 17 (by decide) (htt _ kf_Model_57) (fun _ h9 => h9) rfl d_Model_nearest_150 ?_
        obtain ⟨r_1, hc, hm⟩ := sd_mb1 hm
        refine sd_ci0 (wr := [(mo, .inr (5, [.ref a_n, .ref a_d, .ref a_r, .ref a_count, .ref a_newN, .ref a_newD, .ref a_newR, .int m_made, .ref a_out, .int m_outCount, .ref a_root, .ref a_rest, .ref a_square, .ref a_part, .ref a_plus, .ref a_minus, .ref a_low, .ref a_high, .ref a_one, .ref a_two, .int umo, .int umo_1, .ref a_otherLow, .ref a_otherHigh, .ref a_digit, .ref a_topA, .ref a_underA, .ref a_topB, .ref a_underB, .ref a_quotient, .ref a_otherQuotient])), (a_n, aJ g 64 c_n), (a_d, aJ g 64 c_d), (a_r, aJ g 64 c_r), (a_count, aI g 8 c_count), (a_root, aJ g 76 uaroot), (a_rest, aJ g 76 uarest), (a_square, aJ g 76 uasquare), (a_part, aJ g 76 uapart), (a_plus, aJ g 76 uaplus), (a_minus, aJ g 76 uaminus), (a_one, aJ g 76 uaone)]) (w2 := [(mo, .inr (5, [.ref a_n, .ref a_d, .ref a_r, .ref a_count, .ref a_newN, .ref a_newD, .ref a_newR, .int m_made, .ref a_out, .int m_outCount, .ref a_root, .ref a_rest, .ref a_square, .ref a_part, .ref a_plus, .ref a_minus, .ref a_low, .ref a_high, .ref a_one, .ref a_two, .int umo, .int umo_1, .ref a_otherLow, .ref a_otherHigh, .ref a_digit, .ref a_topA, .ref a_underA, .ref a_topB, .ref a_underB, .ref a_quotient, .ref a_otherQuotient])), (a_n, aJ g 64 c_n), (a_d, aJ g 64 c_d), (a_r, aJ g 64 c_r), (a_count, aI g 8 c_count), (a_root, aJ g 76 uaroot), (a_rest, aJ g 76 uarest), (a_square, aJ g 76 uasquare), (a_part, aJ g 76 uapart), (a_plus, aJ g 76 uaplus), (a_minus, aJ g 76 uaminus), (a_one, aJ g 76 uaone), (a_low, aJ g 76 ualow_1), (a_high, aJ g 76 uahigh_1)]) (sd_runS (rest := []) (As := [.ref a_low, .ref a_high]) S (ct_Model_compareRows l D g a_low a_high (H.size) ualow_1 uahigh_1 F (r_1) hc) kl_Model_176 (by decide) (by decide) hK hP hD [12, 13] rfl (by decide) rfl hl d_Model_nearest_153 rfl (Nat.le_of_ble_eq_true rfl) ⟨Nat.zero_le _, Nat.zero_le _⟩) hP hD hS hA [12, 13] [0, 1, 2, 3, 4, 5, 6, 7, 8, 9, 10, 11] rfl rfl (by decide) (by decide) rfl (fun H locs hP hD hS => ?_)
        refine W.eq (g2 := F0 m 156 ls [.int r_1]) rfl ?_
        refine lv_if_eq (tgt := 163) hx hb d_Model_nearest_156 (by decide) (fun hc => ?_) (fun hc => ?_)
        · have hm := sd_mt hc hm
          refine lv_aload_n hx hb d_Model_nearest_163 rfl (lv_at hl 0 rfl) ?_
          refine lv_aload_n hx hb d_Model_nearest_164 rfl (lv_at hl 0 rfl) ?_
          refine va_get (D := D) (ci := 5) (v := .ref a_low) (C := R_Model) (T := F_Model) (N := 31) hx hb htt i_Model hown hK hP 0 rfl rfl 16 (by decide) (htt _ kf_Model_54) (fun _ h9 => h9) rfl d_Model_nearest_165 ?_
          obtain ⟨r_2, hc, hm⟩ := sd_mb1 hm
          refine sd_cl0 (wr := [(a_n, aJ g 64 c_n), (a_d, aJ g 64 c_d), (a_r, aJ g 64 c_r), (a_count, aI g 8 c_count), (a_root, aJ g 76 uaroot), (a_rest, aJ g 76 uarest), (a_square, aJ g 76 uasquare), (a_part, aJ g 76 uapart), (a_plus, aJ g 76 uaplus), (a_minus, aJ g 76 uaminus), (a_one, aJ g 76 uaone), (a_high, aJ g 76 uahigh_1)]) (w2 := [(a_n, aJ g 64 c_n), (a_d, aJ g 64 c_d), (a_r, aJ g 64 c_r), (a_count, aI g 8 c_count), (a_root, aJ g 76 uaroot), (a_rest, aJ g 76 uarest), (a_square, aJ g 76 uasquare), (a_part, aJ g 76 uapart), (a_plus, aJ g 76 uaplus), (a_minus, aJ g 76 uaminus), (a_one, aJ g 76 uaone), (a_high, aJ g 76 uahigh_1), (mo, .inr (5, [.ref a_n, .ref a_d, .ref a_r, .ref a_count, .ref a_newN, .ref a_newD, .ref a_newR, .int m_made, .ref a_out, .int m_outCount, .ref a_root, .ref a_rest, .ref a_square, .ref a_part, .ref a_plus, .ref a_minus, .ref a_low, .ref a_high, .ref a_one, .ref a_two, .int umo, .int umo_1, .ref a_otherLow, .ref a_otherHigh, .ref a_digit, .ref a_topA, .ref a_underA, .ref a_topB, .ref a_underB, .ref a_quotient, .ref a_otherQuotient])), (a_low, aJ g 76 ualow_1)]) (sd_runV (rest := []) (As := [.ref a_low]) S (ct_Model_small l D g mo a_n a_d a_r a_count a_newN a_newD a_newR a_out a_root a_rest a_square a_part a_plus a_minus a_low a_high a_one a_two a_otherLow a_otherHigh a_digit a_topA a_underA a_topB a_underB a_quotient a_otherQuotient a_low (H.size) m_made m_outCount umo umo_1 ualow_1 F (r_2) hc) kl_Model_228 (by decide) (by decide) hK hP hD [0, 12] rfl (by decide) rfl hl d_Model_nearest_168 rfl (Nat.le_of_ble_eq_true rfl) ⟨Nat.zero_le _, Nat.zero_le _⟩ 0 rfl rfl) hP hD hS hA [0, 12] [1, 2, 3, 4, 5, 6, 7, 8, 9, 10, 11, 13] rfl rfl (by decide) (by decide) rfl (fun H locs hP hD hS => ?_)
          refine W.eq (g2 := F0 m 171 ls [.long r_2]) rfl ?_
          refine lv_sipush (v := (1024 : Int32)) hx hb d_Model_nearest_171 (by decide) ?_
          refine lv_iload_n hx hb d_Model_nearest_174 rfl (lv_at hl 1 rfl) ?_
          refine lv_isub hx hb d_Model_nearest_175 ?_
          refine lv_bipush (v := (54 : Int32)) hx hb d_Model_nearest_176 (by decide) ?_
          refine lv_iadd hx hb d_Model_nearest_178 ?_
          obtain ⟨r_3, hc, hm⟩ := sd_mb1 hm
          refine sd_cl0 (wr := [(a_n, aJ g 64 c_n), (a_d, aJ g 64 c_d), (a_r, aJ g 64 c_r), (a_count, aI g 8 c_count), (a_root, aJ g 76 uaroot), (a_rest, aJ g 76 uarest), (a_square, aJ g 76 uasquare), (a_part, aJ g 76 uapart), (a_plus, aJ g 76 uaplus), (a_minus, aJ g 76 uaminus), (a_one, aJ g 76 uaone), (a_high, aJ g 76 uahigh_1), (mo, .inr (5, [.ref a_n, .ref a_d, .ref a_r, .ref a_count, .ref a_newN, .ref a_newD, .ref a_newR, .int m_made, .ref a_out, .int m_outCount, .ref a_root, .ref a_rest, .ref a_square, .ref a_part, .ref a_plus, .ref a_minus, .ref a_low, .ref a_high, .ref a_one, .ref a_two, .int umo, .int umo_1, .ref a_otherLow, .ref a_otherHigh, .ref a_digit, .ref a_topA, .ref a_underA, .ref a_topB, .ref a_underB, .ref a_quotient, .ref a_otherQuotient])), (a_low, aJ g 76 ualow_1)]) (w2 := [(a_n, aJ g 64 c_n), (a_d, aJ g 64 c_d), (a_r, aJ g 64 c_r), (a_count, aI g 8 c_count), (a_root, aJ g 76 uaroot), (a_rest, aJ g 76 uarest), (a_square, aJ g 76 uasquare), (a_part, aJ g 76 uapart), (a_plus, aJ g 76 uaplus), (a_minus, aJ g 76 uaminus), (a_one, aJ g 76 uaone), (a_high, aJ g 76 uahigh_1), (mo, .inr (5, [.ref a_n, .ref a_d, .ref a_r, .ref a_count, .ref a_newN, .ref a_newD, .ref a_newR, .int m_made, .ref a_out, .int m_outCount, .ref a_root, .ref a_rest, .ref a_square, .ref a_part, .ref a_plus, .ref a_minus, .ref a_low, .ref a_high, .ref a_one, .ref a_two, .int umo, .int umo_1, .ref a_otherLow, .ref a_otherHigh, .ref a_digit, .ref a_topA, .ref a_underA, .ref a_topB, .ref a_underB, .ref a_quotient, .ref a_otherQuotient])), (a_low, aJ g 76 ualow_1)]) (sd_runS (rest := []) (As := [.long r_2, .int (((1024 : Int32) - x2) + (54 : Int32))]) S (ct_Model_doubleOf l D g (H.size) r_2 (((1024 : Int32) - x2) + (54 : Int32)) F (r_3) hc) kl_Model_305 (by decide) (by decide) hK hP hD [] rfl (by decide) rfl hl d_Model_nearest_179 rfl (Nat.le_of_ble_eq_true rfl) ⟨Nat.zero_le _, Nat.zero_le _⟩) hP hD hS hA [] [0, 1, 2, 3, 4, 5, 6, 7, 8, 9, 10, 11, 12, 13] rfl rfl (by decide) (by decide) rfl (fun H locs hP hD hS => ?_)
          refine W.eq (g2 := F0 m 182 ls [.long r_3]) rfl ?_
          refine lv_aload_n hx hb d_Model_nearest_182 rfl (lv_at hl 0 rfl) ?_
          refine va_get (D := D) (ci := 5) (v := .int umo_1) (C := R_Model) (T := F_Model) (N := 31) hx hb htt i_Model hown hK hP 12 rfl rfl 21 (by decide) (htt _ kf_Model_211) (fun _ h9 => h9) rfl d_Model_nearest_183 ?_
          obtain ⟨y, hv, hm⟩ := sd_mb1 hm
          have J196_1 : ∀ (H : Heap) (locs : List Loc) (ls : Array Slot), va_P D classes [(a_n, aJ g 64 c_n), (a_d, aJ g 64 c_d), (a_r, aJ g 64 c_r), (a_count, aI g 8 c_count), (a_root, aJ g 76 uaroot), (a_rest, aJ g 76 uarest), (a_square, aJ g 76 uasquare), (a_part, aJ g 76 uapart), (a_plus, aJ g 76 uaplus), (a_minus, aJ g 76 uaminus), (a_one, aJ g 76 uaone), (a_high, aJ g 76 uahigh_1), (mo, .inr (5, [.ref a_n, .ref a_d, .ref a_r, .ref a_count, .ref a_newN, .ref a_newD, .ref a_newR, .int m_made, .ref a_out, .int m_outCount, .ref a_root, .ref a_rest, .ref a_square, .ref a_part, .ref a_plus, .ref a_minus, .ref a_low, .ref a_high, .ref a_one, .ref a_two, .int umo, .int umo_1, .ref a_otherLow, .ref a_otherHigh, .ref a_digit, .ref a_topA, .ref a_underA, .ref a_topB, .ref a_underB, .ref a_quotient, .ref a_otherQuotient])), (a_low, aJ g 76 ualow_1)] H → va_D A [(a_n, aJ g 64 c_n), (a_d, aJ g 64 c_d), (a_r, aJ g 64 c_r), (a_count, aI g 8 c_count), (a_root, aJ g 76 uaroot), (a_rest, aJ g 76 uarest), (a_square, aJ g 76 uasquare), (a_part, aJ g 76 uapart), (a_plus, aJ g 76 uaplus), (a_minus, aJ g 76 uaminus), (a_one, aJ g 76 uaone), (a_high, aJ g 76 uahigh_1), (mo, .inr (5, [.ref a_n, .ref a_d, .ref a_r, .ref a_count, .ref a_newN, .ref a_newD, .ref a_newR, .int m_made, .ref a_out, .int m_outCount, .ref a_root, .ref a_rest, .ref a_square, .ref a_part, .ref a_plus, .ref a_minus, .ref a_low, .ref a_high, .ref a_one, .ref a_two, .int umo, .int umo_1, .ref a_otherLow, .ref a_otherHigh, .ref a_digit, .ref a_topA, .ref a_underA, .ref a_topB, .ref a_underB, .ref a_quotient, .ref a_otherQuotient])), (a_low, aJ g 76 ualow_1)] → va_S A s.heap H locs → lv_has ls 3 [] → W p l e rm_Model_nearest s m args below meth c H locs 0 0 Q (F0 m 196 ls [.long y, .long r_3]) := by
            intro H locs ls hP hD hS hl
            refine lv_lor hx hb d_Model_nearest_196 ?_
            exact sd_l1ret (u := (umo, umo_1, uaroot, uarest, uasquare, uapart, uaplus, uaminus, ualow_1, uahigh_1, uaone)) hQ hx hb hr hlk hK (hP.sub [12, 0, 1, 2, 3, 4, 5, 6, 7, 8, 9, 13, 11, 10] rfl) (hD.sub [12, 0, 1, 2, 3, 4, 5, 6, 7, 8, 9, 13, 11, 10] (by decide) rfl) hS (Option.some.inj hm).symm d_Model_nearest_197
          replace hm := hv
          refine lv_if_ge (tgt := 195) hx hb d_Model_nearest_186 (by decide) (fun hc => ?_) (fun hc => ?_)
          · have hm := sd_mt hc hm
            refine lv_lconst (v := (0 : Int64)) hx hb d_Model_nearest_195 (by decide) ?_
            cases hm
            exact J196_1 H locs ls (hP.sub [0, 1, 2, 3, 4, 5, 6, 7, 8, 9, 10, 11, 12, 13] rfl) (hD.sub [0, 1, 2, 3, 4, 5, 6, 7, 8, 9, 10, 11, 12, 13] (by decide) rfl) hS (lv_sub hl [] rfl)
          · have hm := sd_mf hc hm
            refine sd_ldc2 (v := (-9223372036854775808 : Int64)) hx hb hown (htt _ km_Model_301) d_Model_nearest_189 ?_
            refine lv_goto (tgt := 196) hx hb d_Model_nearest_192 (by decide) ?_
            cases hm
            exact J196_1 H locs ls (hP.sub [0, 1, 2, 3, 4, 5, 6, 7, 8, 9, 10, 11, 12, 13] rfl) (hD.sub [0, 1, 2, 3, 4, 5, 6, 7, 8, 9, 10, 11, 12, 13] (by decide) rfl) hS (lv_sub hl [] rfl)
        · have hm := sd_mf hc hm
          refine sd_ldc2 (v := (9221120237041090560 : Int64)) hx hb hown (htt _ km_Model_303) d_Model_nearest_159 ?_
          exact sd_l1ret (u := (umo, umo_1, uaroot, uarest, uasquare, uapart, uaplus, uaminus, ualow_1, uahigh_1, uaone)) hQ hx hb hr hlk hK (hP.sub [0, 1, 2, 3, 4, 5, 6, 7, 8, 9, 10, 12, 13, 11] rfl) (hD.sub [0, 1, 2, 3, 4, 5, 6, 7, 8, 9, 10, 12, 13, 11] (by decide) rfl) hS (Option.some.inj hm).symm d_Model_nearest_162
      · have hm := sd_mf hc hm
        refine sd_ldc2 (v := (9221120237041090560 : Int64)) hx hb hown (htt _ km_Model_303) d_Model_nearest_119 ?_
        exact sd_l1ret (u := (umo, umo_1, uaroot, uarest, uasquare, uapart, uaplus, uaminus, ualow, uahigh, uaone)) hQ hx hb hr hlk hK (hP.sub [0, 1, 2, 3, 4, 5, 6, 7, 8, 9, 10, 11, 13, 12] rfl) (hD.sub [0, 1, 2, 3, 4, 5, 6, 7, 8, 9, 10, 11, 13, 12] (by decide) rfl) hS (Option.some.inj hm).symm d_Model_nearest_122
  refine lv_iload_n hx hb d_Model_nearest_0 rfl (lv_at hl 1 rfl) ?_
  obtain ⟨r_4, hc, hm⟩ := sd_mb1 hm
  refine sd_ci0 (wr := [(mo, .inr (5, [.ref a_n, .ref a_d, .ref a_r, .ref a_count, .ref a_newN, .ref a_newD, .ref a_newR, .int m_made, .ref a_out, .int m_outCount, .ref a_root, .ref a_rest, .ref a_square, .ref a_part, .ref a_plus, .ref a_minus, .ref a_low, .ref a_high, .ref a_one, .ref a_two, .int m_lowSign, .int m_highSign, .ref a_otherLow, .ref a_otherHigh, .ref a_digit, .ref a_topA, .ref a_underA, .ref a_topB, .ref a_underB, .ref a_quotient, .ref a_otherQuotient])), (a_n, aJ g 64 c_n), (a_d, aJ g 64 c_d), (a_r, aJ g 64 c_r), (a_count, aI g 8 c_count), (a_root, aJ g 76 c_root), (a_rest, aJ g 76 c_rest), (a_square, aJ g 76 c_square), (a_part, aJ g 76 c_part), (a_plus, aJ g 76 c_plus), (a_minus, aJ g 76 c_minus), (a_low, aJ g 76 c_low), (a_high, aJ g 76 c_high), (a_one, aJ g 76 c_one)]) (w2 := [(mo, .inr (5, [.ref a_n, .ref a_d, .ref a_r, .ref a_count, .ref a_newN, .ref a_newD, .ref a_newR, .int m_made, .ref a_out, .int m_outCount, .ref a_root, .ref a_rest, .ref a_square, .ref a_part, .ref a_plus, .ref a_minus, .ref a_low, .ref a_high, .ref a_one, .ref a_two, .int m_lowSign, .int m_highSign, .ref a_otherLow, .ref a_otherHigh, .ref a_digit, .ref a_topA, .ref a_underA, .ref a_topB, .ref a_underB, .ref a_quotient, .ref a_otherQuotient])), (a_n, aJ g 64 c_n), (a_d, aJ g 64 c_d), (a_r, aJ g 64 c_r), (a_count, aI g 8 c_count), (a_root, aJ g 76 c_root), (a_rest, aJ g 76 c_rest), (a_square, aJ g 76 c_square), (a_part, aJ g 76 c_part), (a_plus, aJ g 76 c_plus), (a_minus, aJ g 76 c_minus), (a_low, aJ g 76 c_low), (a_high, aJ g 76 c_high), (a_one, aJ g 76 c_one)]) (sd_runS (rest := []) (As := [.int vI]) S (ct_Model_is l D g (H.size) vI F (r_4) hc) kl_Model_109 (by decide) (by decide) hK hP hD [] rfl (by decide) rfl hl d_Model_nearest_1 rfl (Nat.le_of_ble_eq_true rfl) ⟨Nat.zero_le _, Nat.zero_le _⟩) hP hD hS hA [] [0, 1, 2, 3, 4, 5, 6, 7, 8, 9, 10, 11, 12, 13] rfl rfl (by decide) (by decide) rfl (fun H locs hP hD hS => ?_)
  refine W.eq (g2 := F0 m 4 ls [.int r_4]) rfl ?_
  refine lv_if_ne (tgt := 9) hx hb d_Model_nearest_4 (by decide) (fun hc => ?_) (fun hc => ?_)
  · have hm := sd_mf hc hm
    refine lv_aload_n hx hb d_Model_nearest_9 rfl (lv_at hl 0 rfl) ?_
    refine va_get (D := D) (ci := 5) (v := .ref a_count) (C := R_Model) (T := F_Model) (N := 31) hx hb htt i_Model hown hK hP 0 rfl rfl 3 (by decide) (htt _ kf_Model_19) (fun _ h9 => h9) rfl d_Model_nearest_10 ?_
    refine lv_iload_n hx hb d_Model_nearest_13 rfl (lv_at hl 1 rfl) ?_
    obtain ⟨h_2, hm⟩ := sd_mg hm
    refine sd_iald hx hb hK hP 4 rfl h_2 d_Model_nearest_14 ?_
    refine lv_if_ne (tgt := 20) hx hb d_Model_nearest_15 (by decide) (fun hc => ?_) (fun hc => ?_)
    · have hm := sd_mf hc hm
      refine lv_aload_n hx hb d_Model_nearest_20 rfl (lv_at hl 0 rfl) ?_
      refine lv_iload_n hx hb d_Model_nearest_21 rfl (lv_at hl 1 rfl) ?_
      obtain ⟨r_5, hc, hm⟩ := sd_mb1 hm
      refine sd_ci0 (wr := [(a_n, aJ g 64 c_n), (a_d, aJ g 64 c_d), (a_root, aJ g 76 c_root), (a_rest, aJ g 76 c_rest), (a_square, aJ g 76 c_square), (a_part, aJ g 76 c_part), (a_plus, aJ g 76 c_plus), (a_minus, aJ g 76 c_minus), (a_low, aJ g 76 c_low), (a_high, aJ g 76 c_high), (a_one, aJ g 76 c_one)]) (w2 := [(a_n, aJ g 64 c_n), (a_d, aJ g 64 c_d), (a_root, aJ g 76 c_root), (a_rest, aJ g 76 c_rest), (a_square, aJ g 76 c_square), (a_part, aJ g 76 c_part), (a_plus, aJ g 76 c_plus), (a_minus, aJ g 76 c_minus), (a_low, aJ g 76 c_low), (a_high, aJ g 76 c_high), (a_one, aJ g 76 c_one), (mo, .inr (5, [.ref a_n, .ref a_d, .ref a_r, .ref a_count, .ref a_newN, .ref a_newD, .ref a_newR, .int m_made, .ref a_out, .int m_outCount, .ref a_root, .ref a_rest, .ref a_square, .ref a_part, .ref a_plus, .ref a_minus, .ref a_low, .ref a_high, .ref a_one, .ref a_two, .int m_lowSign, .int m_highSign, .ref a_otherLow, .ref a_otherHigh, .ref a_digit, .ref a_topA, .ref a_underA, .ref a_topB, .ref a_underB, .ref a_quotient, .ref a_otherQuotient])), (a_r, aJ g 64 c_r), (a_count, aI g 8 c_count)]) (sd_runV (rest := []) (As := [.int vI]) S (ct_Model_fraction l D g mo a_n a_d a_r a_count a_newN a_newD a_newR a_out a_root a_rest a_square a_part a_plus a_minus a_low a_high a_one a_two a_otherLow a_otherHigh a_digit a_topA a_underA a_topB a_underB a_quotient a_otherQuotient (H.size) vI m_made m_outCount m_lowSign m_highSign c_r c_count F (r_5) hc) kl_Model_121 (by decide) (by decide) hK hP hD [0, 3, 4] rfl (by decide) rfl hl d_Model_nearest_22 rfl (Nat.le_of_ble_eq_true rfl) ⟨Nat.zero_le _, Nat.zero_le _⟩ 0 rfl rfl) hP hD hS hA [0, 3, 4] [1, 2, 5, 6, 7, 8, 9, 10, 11, 12, 13] rfl rfl (by decide) (by decide) rfl (fun H locs hP hD hS => ?_)
      refine W.eq (g2 := F0 m 25 ls [.int r_5]) rfl ?_
      refine lv_if_eq (tgt := 75) hx hb d_Model_nearest_25 (by decide) (fun hc => ?_) (fun hc => ?_)
      · have hm := sd_mt hc hm
        refine lv_aload_n hx hb d_Model_nearest_75 rfl (lv_at hl 0 rfl) ?_
        refine lv_iload_n hx hb d_Model_nearest_76 rfl (lv_at hl 1 rfl) ?_
        obtain ⟨umo_2, umo_3, uaroot_1, uarest_1, uasquare_1, uapart_1, uaplus_1, uaminus_1, ualow_2, uahigh_2, uaone_1, hc, hm⟩ := sd_mb11 hm
        refine sd_cv1 (wr := []) (w2 := [(mo, .inr (5, [.ref a_n, .ref a_d, .ref a_r, .ref a_count, .ref a_newN, .ref a_newD, .ref a_newR, .int m_made, .ref a_out, .int m_outCount, .ref a_root, .ref a_rest, .ref a_square, .ref a_part, .ref a_plus, .ref a_minus, .ref a_low, .ref a_high, .ref a_one, .ref a_two, .int umo_2, .int umo_3, .ref a_otherLow, .ref a_otherHigh, .ref a_digit, .ref a_topA, .ref a_underA, .ref a_topB, .ref a_underB, .ref a_quotient, .ref a_otherQuotient])), (a_n, aJ g 64 c_n), (a_d, aJ g 64 c_d), (a_r, aJ g 64 c_r), (a_count, aI g 8 c_count), (a_root, aJ g 76 uaroot_1), (a_rest, aJ g 76 uarest_1), (a_square, aJ g 76 uasquare_1), (a_part, aJ g 76 uapart_1), (a_plus, aJ g 76 uaplus_1), (a_minus, aJ g 76 uaminus_1), (a_low, aJ g 76 ualow_2), (a_high, aJ g 76 uahigh_2), (a_one, aJ g 76 uaone_1)]) (sd_runV (rest := []) (As := [.int vI]) S (ct_Model_ends l D g mo a_n a_d a_r a_count a_newN a_newD a_newR a_out a_root a_rest a_square a_part a_plus a_minus a_low a_high a_one a_two a_otherLow a_otherHigh a_digit a_topA a_underA a_topB a_underB a_quotient a_otherQuotient (H.size) vI m_made m_outCount m_lowSign m_highSign c_n c_d c_r c_count c_root c_rest c_square c_part c_plus c_minus c_low c_high c_one F (umo_2, umo_3, uaroot_1, uarest_1, uasquare_1, uapart_1, uaplus_1, uaminus_1, ualow_2, uahigh_2, uaone_1) hc) kl_Model_218 (by decide) (by decide) hK hP hD [11, 0, 1, 12, 13, 2, 3, 4, 5, 6, 7, 8, 9, 10] rfl (by decide) rfl hl d_Model_nearest_77 rfl (Nat.le_of_ble_eq_true rfl) ⟨Nat.zero_le _, Nat.zero_le _⟩ 11 rfl rfl) hP hD hS hA [11, 0, 1, 12, 13, 2, 3, 4, 5, 6, 7, 8, 9, 10] [] rfl rfl (by decide) (by decide) rfl (fun H locs hP hD hS => ?_)
        refine lv_aload_n hx hb d_Model_nearest_80 rfl (lv_at hl 0 rfl) ?_
        refine va_get (D := D) (ci := 5) (v := .ref a_low) (C := R_Model) (T := F_Model) (N := 31) hx hb htt i_Model hown hK hP 0 rfl rfl 16 (by decide) (htt _ kf_Model_54) (fun _ h9 => h9) rfl d_Model_nearest_81 ?_
        obtain ⟨r_6, hc, hm⟩ := sd_mb1 hm
        refine sd_ci0 (wr := [(mo, .inr (5, [.ref a_n, .ref a_d, .ref a_r, .ref a_count, .ref a_newN, .ref a_newD, .ref a_newR, .int m_made, .ref a_out, .int m_outCount, .ref a_root, .ref a_rest, .ref a_square, .ref a_part, .ref a_plus, .ref a_minus, .ref a_low, .ref a_high, .ref a_one, .ref a_two, .int umo_2, .int umo_3, .ref a_otherLow, .ref a_otherHigh, .ref a_digit, .ref a_topA, .ref a_underA, .ref a_topB, .ref a_underB, .ref a_quotient, .ref a_otherQuotient])), (a_n, aJ g 64 c_n), (a_d, aJ g 64 c_d), (a_r, aJ g 64 c_r), (a_count, aI g 8 c_count), (a_root, aJ g 76 uaroot_1), (a_rest, aJ g 76 uarest_1), (a_square, aJ g 76 uasquare_1), (a_part, aJ g 76 uapart_1), (a_plus, aJ g 76 uaplus_1), (a_minus, aJ g 76 uaminus_1), (a_high, aJ g 76 uahigh_2), (a_one, aJ g 76 uaone_1)]) (w2 := [(mo, .inr (5, [.ref a_n, .ref a_d, .ref a_r, .ref a_count, .ref a_newN, .ref a_newD, .ref a_newR, .int m_made, .ref a_out, .int m_outCount, .ref a_root, .ref a_rest, .ref a_square, .ref a_part, .ref a_plus, .ref a_minus, .ref a_low, .ref a_high, .ref a_one, .ref a_two, .int umo_2, .int umo_3, .ref a_otherLow, .ref a_otherHigh, .ref a_digit, .ref a_topA, .ref a_underA, .ref a_topB, .ref a_underB, .ref a_quotient, .ref a_otherQuotient])), (a_n, aJ g 64 c_n), (a_d, aJ g 64 c_d), (a_r, aJ g 64 c_r), (a_count, aI g 8 c_count), (a_root, aJ g 76 uaroot_1), (a_rest, aJ g 76 uarest_1), (a_square, aJ g 76 uasquare_1), (a_part, aJ g 76 uapart_1), (a_plus, aJ g 76 uaplus_1), (a_minus, aJ g 76 uaminus_1), (a_high, aJ g 76 uahigh_2), (a_one, aJ g 76 uaone_1), (a_low, aJ g 76 ualow_2)]) (sd_runS (rest := []) (As := [.ref a_low]) S (ct_Model_bits l D g a_low (H.size) ualow_2 F (r_6) hc) kl_Model_161 (by decide) (by decide) hK hP hD [11] rfl (by decide) rfl hl d_Model_nearest_84 rfl (Nat.le_of_ble_eq_true rfl) ⟨Nat.zero_le _, Nat.zero_le _⟩) hP hD hS hA [11] [0, 1, 2, 3, 4, 5, 6, 7, 8, 9, 10, 12, 13] rfl rfl (by decide) (by decide) rfl (fun H locs hP hD hS => ?_)
        refine W.eq (g2 := F0 m 87 ls [.int r_6]) rfl ?_
        refine lv_istore_n (lv' := [(2, .int r_6), (0, .ref mo), (1, .int vI)]) hx hb d_Model_nearest_87 rfl hl (by decide) rfl (fun ls hl => ?_)
        refine lv_aload_n hx hb d_Model_nearest_88 rfl (lv_at hl 1 rfl) ?_
        refine va_get (D := D) (ci := 5) (v := .int umo_2) (C := R_Model) (T := F_Model) (N := 31) hx hb htt i_Model hown hK hP 0 rfl rfl 20 (by decide) (htt _ kf_Model_208) (fun _ h9 => h9) rfl d_Model_nearest_89 ?_
        refine lv_if_gt (tgt := 102) hx hb d_Model_nearest_92 (by decide) (fun hc => ?_) (fun hc => ?_)
        · have hm := sd_mt hc hm
          exact J102 r_6 umo_2 umo_3 uaroot_1 uarest_1 uasquare_1 uapart_1 uaplus_1 uaminus_1 ualow_2 uahigh_2 uaone_1 hm H locs ls (hP.sub [0, 1, 2, 3, 4, 5, 6, 7, 8, 9, 10, 13, 11, 12] rfl) (hD.sub [0, 1, 2, 3, 4, 5, 6, 7, 8, 9, 10, 13, 11, 12] (by decide) rfl) hS (lv_sub hl [1, 0] rfl)
        · have hm := sd_mf hc hm
          refine lv_aload_n hx hb d_Model_nearest_95 rfl (lv_at hl 1 rfl) ?_
          refine va_get (D := D) (ci := 5) (v := .int umo_3) (C := R_Model) (T := F_Model) (N := 31) hx hb htt i_Model hown hK hP 0 rfl rfl 21 (by decide) (htt _ kf_Model_211) (fun _ h9 => h9) rfl d_Model_nearest_96 ?_
          refine lv_if_ge (tgt := 119) hx hb d_Model_nearest_99 (by decide) (fun hc => ?_) (fun hc => ?_)
          · have hm := sd_mt hc hm
            refine sd_ldc2 (v := (9221120237041090560 : Int64)) hx hb hown (htt _ km_Model_303) d_Model_nearest_119 ?_
            exact sd_l1ret (u := (umo_2, umo_3, uaroot_1, uarest_1, uasquare_1, uapart_1, uaplus_1, uaminus_1, ualow_2, uahigh_2, uaone_1)) hQ hx hb hr hlk hK (hP.sub [0, 1, 2, 3, 4, 5, 6, 7, 8, 9, 10, 13, 11, 12] rfl) (hD.sub [0, 1, 2, 3, 4, 5, 6, 7, 8, 9, 10, 13, 11, 12] (by decide) rfl) hS (Option.some.inj hm).symm d_Model_nearest_122
          · have hm := sd_mf hc hm
            exact J102 r_6 umo_2 umo_3 uaroot_1 uarest_1 uasquare_1 uapart_1 uaplus_1 uaminus_1 ualow_2 uahigh_2 uaone_1 hm H locs ls (hP.sub [0, 1, 2, 3, 4, 5, 6, 7, 8, 9, 10, 13, 11, 12] rfl) (hD.sub [0, 1, 2, 3, 4, 5, 6, 7, 8, 9, 10, 13, 11, 12] (by decide) rfl) hS (lv_sub hl [1, 0] rfl)
      · have hm := sd_mf hc hm
        refine lv_aload_n hx hb d_Model_nearest_28 rfl (lv_at hl 0 rfl) ?_
        refine va_get (D := D) (ci := 5) (v := .ref a_n) (C := R_Model) (T := F_Model) (N := 31) hx hb htt i_Model hown hK hP 11 rfl rfl 0 (by decide) (htt _ kf_Model_9) (fun _ h9 => h9) rfl d_Model_nearest_29 ?_
        refine lv_bipush (v := (8 : Int32)) hx hb d_Model_nearest_32 (by decide) ?_
        refine lv_iload_n hx hb d_Model_nearest_34 rfl (lv_at hl 1 rfl) ?_
        refine lv_imul hx hb d_Model_nearest_35 ?_
        obtain ⟨h_3, hm⟩ := sd_mg hm
        refine sd_lald hx hb hK hP 0 rfl h_3 d_Model_nearest_36 ?_
        refine sd_abs hx hb hml hown kl_Model_132 htt hl d_Model_nearest_37 (Nat.le_of_ble_eq_true rfl) (Nat.le_of_ble_eq_true rfl) ?_
        refine lv_aload_n hx hb d_Model_nearest_40 rfl (lv_at hl 0 rfl) ?_
        refine va_get (D := D) (ci := 5) (v := .ref a_d) (C := R_Model) (T := F_Model) (N := 31) hx hb htt i_Model hown hK hP 11 rfl rfl 1 (by decide) (htt _ kf_Model_13) (fun _ h9 => h9) rfl d_Model_nearest_41 ?_
        refine lv_bipush (v := (8 : Int32)) hx hb d_Model_nearest_44 (by decide) ?_
        refine lv_iload_n hx hb d_Model_nearest_46 rfl (lv_at hl 1 rfl) ?_
        refine lv_imul hx hb d_Model_nearest_47 ?_
        obtain ⟨h_4, hm⟩ := sd_mg hm
        refine sd_lald hx hb hK hP 1 rfl h_4 d_Model_nearest_48 ?_
        obtain ⟨r_7, hc, hm⟩ := sd_mb1 hm
        refine sd_cl0 (wr := [(a_n, aJ g 64 c_n), (a_d, aJ g 64 c_d), (a_root, aJ g 76 c_root), (a_rest, aJ g 76 c_rest), (a_square, aJ g 76 c_square), (a_part, aJ g 76 c_part), (a_plus, aJ g 76 c_plus), (a_minus, aJ g 76 c_minus), (a_low, aJ g 76 c_low), (a_high, aJ g 76 c_high), (a_one, aJ g 76 c_one), (mo, .inr (5, [.ref a_n, .ref a_d, .ref a_r, .ref a_count, .ref a_newN, .ref a_newD, .ref a_newR, .int m_made, .ref a_out, .int m_outCount, .ref a_root, .ref a_rest, .ref a_square, .ref a_part, .ref a_plus, .ref a_minus, .ref a_low, .ref a_high, .ref a_one, .ref a_two, .int m_lowSign, .int m_highSign, .ref a_otherLow, .ref a_otherHigh, .ref a_digit, .ref a_topA, .ref a_underA, .ref a_topB, .ref a_underB, .ref a_quotient, .ref a_otherQuotient])), (a_r, aJ g 64 c_r), (a_count, aI g 8 c_count)]) (w2 := [(a_n, aJ g 64 c_n), (a_d, aJ g 64 c_d), (a_root, aJ g 76 c_root), (a_rest, aJ g 76 c_rest), (a_square, aJ g 76 c_square), (a_part, aJ g 76 c_part), (a_plus, aJ g 76 c_plus), (a_minus, aJ g 76 c_minus), (a_low, aJ g 76 c_low), (a_high, aJ g 76 c_high), (a_one, aJ g 76 c_one), (mo, .inr (5, [.ref a_n, .ref a_d, .ref a_r, .ref a_count, .ref a_newN, .ref a_newD, .ref a_newR, .int m_made, .ref a_out, .int m_outCount, .ref a_root, .ref a_rest, .ref a_square, .ref a_part, .ref a_plus, .ref a_minus, .ref a_low, .ref a_high, .ref a_one, .ref a_two, .int m_lowSign, .int m_highSign, .ref a_otherLow, .ref a_otherHigh, .ref a_digit, .ref a_topA, .ref a_underA, .ref a_topB, .ref a_underB, .ref a_quotient, .ref a_otherQuotient])), (a_r, aJ g 64 c_r), (a_count, aI g 8 c_count)]) (sd_runS (rest := []) (As := [.long (if 0 < (c_n ((8 : Int32) * vI).toNatClampNeg) then (c_n ((8 : Int32) * vI).toNatClampNeg) else -(c_n ((8 : Int32) * vI).toNatClampNeg)), .long (c_d ((8 : Int32) * vI).toNatClampNeg)]) S (ct_Model_nearestFraction l D g (H.size) (if 0 < (c_n ((8 : Int32) * vI).toNatClampNeg) then (c_n ((8 : Int32) * vI).toNatClampNeg) else -(c_n ((8 : Int32) * vI).toNatClampNeg)) (c_d ((8 : Int32) * vI).toNatClampNeg) F (r_7) hc) kl_Model_298 (by decide) (by decide) hK hP hD [] rfl (by decide) rfl hl d_Model_nearest_49 rfl (Nat.le_of_ble_eq_true rfl) ⟨Nat.zero_le _, Nat.zero_le _⟩) hP hD hS hA [] [0, 1, 2, 3, 4, 5, 6, 7, 8, 9, 10, 11, 12, 13] rfl rfl (by decide) (by decide) rfl (fun H locs hP hD hS => ?_)
        refine W.eq (g2 := F0 m 52 ls [.long r_7]) rfl ?_
        refine lv_aload_n hx hb d_Model_nearest_52 rfl (lv_at hl 0 rfl) ?_
        refine va_get (D := D) (ci := 5) (v := .ref a_n) (C := R_Model) (T := F_Model) (N := 31) hx hb htt i_Model hown hK hP 11 rfl rfl 0 (by decide) (htt _ kf_Model_9) (fun _ h9 => h9) rfl d_Model_nearest_53 ?_
        refine lv_bipush (v := (8 : Int32)) hx hb d_Model_nearest_56 (by decide) ?_
        refine lv_iload_n hx hb d_Model_nearest_58 rfl (lv_at hl 1 rfl) ?_
        refine lv_imul hx hb d_Model_nearest_59 ?_
        obtain ⟨h_5, hm⟩ := sd_mg hm
        refine sd_lald hx hb hK hP 0 rfl h_5 d_Model_nearest_60 ?_
        refine lv_lconst (v := (0 : Int64)) hx hb d_Model_nearest_61 (by decide) ?_
        obtain ⟨y_1, hv, hm⟩ := sd_mb1 hm
        have J73_6 : ∀ (H : Heap) (locs : List Loc) (ls : Array Slot), va_P D classes [(a_n, aJ g 64 c_n), (a_d, aJ g 64 c_d), (a_root, aJ g 76 c_root), (a_rest, aJ g 76 c_rest), (a_square, aJ g 76 c_square), (a_part, aJ g 76 c_part), (a_plus, aJ g 76 c_plus), (a_minus, aJ g 76 c_minus), (a_low, aJ g 76 c_low), (a_high, aJ g 76 c_high), (a_one, aJ g 76 c_one), (mo, .inr (5, [.ref a_n, .ref a_d, .ref a_r, .ref a_count, .ref a_newN, .ref a_newD, .ref a_newR, .int m_made, .ref a_out, .int m_outCount, .ref a_root, .ref a_rest, .ref a_square, .ref a_part, .ref a_plus, .ref a_minus, .ref a_low, .ref a_high, .ref a_one, .ref a_two, .int m_lowSign, .int m_highSign, .ref a_otherLow, .ref a_otherHigh, .ref a_digit, .ref a_topA, .ref a_underA, .ref a_topB, .ref a_underB, .ref a_quotient, .ref a_otherQuotient])), (a_r, aJ g 64 c_r), (a_count, aI g 8 c_count)] H → va_D A [(a_n, aJ g 64 c_n), (a_d, aJ g 64 c_d), (a_root, aJ g 76 c_root), (a_rest, aJ g 76 c_rest), (a_square, aJ g 76 c_square), (a_part, aJ g 76 c_part), (a_plus, aJ g 76 c_plus), (a_minus, aJ g 76 c_minus), (a_low, aJ g 76 c_low), (a_high, aJ g 76 c_high), (a_one, aJ g 76 c_one), (mo, .inr (5, [.ref a_n, .ref a_d, .ref a_r, .ref a_count, .ref a_newN, .ref a_newD, .ref a_newR, .int m_made, .ref a_out, .int m_outCount, .ref a_root, .ref a_rest, .ref a_square, .ref a_part, .ref a_plus, .ref a_minus, .ref a_low, .ref a_high, .ref a_one, .ref a_two, .int m_lowSign, .int m_highSign, .ref a_otherLow, .ref a_otherHigh, .ref a_digit, .ref a_topA, .ref a_underA, .ref a_topB, .ref a_underB, .ref a_quotient, .ref a_otherQuotient])), (a_r, aJ g 64 c_r), (a_count, aI g 8 c_count)] → va_S A s.heap H locs → lv_has ls 3 [] → W p l e rm_Model_nearest s m args below meth c H locs 0 0 Q (F0 m 73 ls [.long y_1, .long r_7]) := by
          intro H locs ls hP hD hS hl
          refine lv_lor hx hb d_Model_nearest_73 ?_
          exact sd_l1ret (u := (m_lowSign, m_highSign, c_root, c_rest, c_square, c_part, c_plus, c_minus, c_low, c_high, c_one)) hQ hx hb hr hlk hK (hP.sub [11, 0, 1, 12, 13, 2, 3, 4, 5, 6, 7, 8, 9, 10] rfl) (hD.sub [11, 0, 1, 12, 13, 2, 3, 4, 5, 6, 7, 8, 9, 10] (by decide) rfl) hS (Option.some.inj hm).symm d_Model_nearest_74
        replace hm := hv
        refine sd_lge (tgt := 72) hx hb d_Model_nearest_62 d_Model_nearest_63 (by decide) (fun hc => ?_) (fun hc => ?_)
        · have hm := sd_mt hc hm
          refine lv_lconst (v := (0 : Int64)) hx hb d_Model_nearest_72 (by decide) ?_
          cases hm
          exact J73_6 H locs ls (hP.sub [0, 1, 2, 3, 4, 5, 6, 7, 8, 9, 10, 11, 12, 13] rfl) (hD.sub [0, 1, 2, 3, 4, 5, 6, 7, 8, 9, 10, 11, 12, 13] (by decide) rfl) hS (lv_sub hl [] rfl)
        · have hm := sd_mf hc hm
          refine sd_ldc2 (v := (-9223372036854775808 : Int64)) hx hb hown (htt _ km_Model_301) d_Model_nearest_66 ?_
          refine lv_goto (tgt := 73) hx hb d_Model_nearest_69 (by decide) ?_
          cases hm
          exact J73_6 H locs ls (hP.sub [0, 1, 2, 3, 4, 5, 6, 7, 8, 9, 10, 11, 12, 13] rfl) (hD.sub [0, 1, 2, 3, 4, 5, 6, 7, 8, 9, 10, 11, 12, 13] (by decide) rfl) hS (lv_sub hl [] rfl)
    · have hm := sd_mt hc hm
      refine lv_lconst (v := (0 : Int64)) hx hb d_Model_nearest_18 (by decide) ?_
      exact sd_l1ret (u := (m_lowSign, m_highSign, c_root, c_rest, c_square, c_part, c_plus, c_minus, c_low, c_high, c_one)) hQ hx hb hr hlk hK (hP.sub [0, 1, 2, 3, 4, 5, 6, 7, 8, 9, 10, 11, 12, 13] rfl) (hD.sub [0, 1, 2, 3, 4, 5, 6, 7, 8, 9, 10, 11, 12, 13] (by decide) rfl) hS (Option.some.inj hm).symm d_Model_nearest_19
  · have hm := sd_mt hc hm
    refine lv_lconst (v := (1 : Int64)) hx hb d_Model_nearest_7 (by decide) ?_
    exact sd_l1ret (u := (m_lowSign, m_highSign, c_root, c_rest, c_square, c_part, c_plus, c_minus, c_low, c_high, c_one)) hQ hx hb hr hlk hK (hP.sub [0, 1, 2, 3, 4, 5, 6, 7, 8, 9, 10, 11, 12, 13] rfl) (hD.sub [0, 1, 2, 3, 4, 5, 6, 7, 8, 9, 10, 11, 12, 13] (by decide) rfl) hS (Option.some.inj hm).symm d_Model_nearest_8
theorem d_Model_term_0 : decode b_Model_term 0 = .ok (.iload_n 1, 1) := by decide +kernel
theorem d_Model_term_1 : decode b_Model_term 1 = .ok (.invokestatic 109, 3) := by decide +kernel
theorem d_Model_term_4 : decode b_Model_term 4 = .ok (.ifCond .eq 17, 3) := by decide +kernel
theorem d_Model_term_7 : decode b_Model_term 7 = .ok (.iload_n 2, 1) := by decide +kernel
theorem d_Model_term_8 : decode b_Model_term 8 = .ok (.ifCond .lt 13, 3) := by decide +kernel
theorem d_Model_term_11 : decode b_Model_term 11 = .ok (.iload_n 2, 1) := by decide +kernel
theorem d_Model_term_12 : decode b_Model_term 12 = .ok (.aload_n 0, 1) := by decide +kernel
theorem d_Model_term_13 : decode b_Model_term 13 = .ok (.getfield 19, 3) := by decide +kernel
theorem d_Model_term_16 : decode b_Model_term 16 = .ok (.iload_n 1, 1) := by decide +kernel
theorem d_Model_term_17 : decode b_Model_term 17 = .ok (.iaload, 1) := by decide +kernel
theorem d_Model_term_18 : decode b_Model_term 18 = .ok (.if_icmp .lt 6, 3) := by decide +kernel
theorem d_Model_term_21 : decode b_Model_term 21 = .ok (.bipush (-2), 2) := by decide +kernel
theorem d_Model_term_23 : decode b_Model_term 23 = .ok (.ireturn, 1) := by decide +kernel
theorem d_Model_term_24 : decode b_Model_term 24 = .ok (.bipush 8, 2) := by decide +kernel
theorem d_Model_term_26 : decode b_Model_term 26 = .ok (.iload_n 1, 1) := by decide +kernel
theorem d_Model_term_27 : decode b_Model_term 27 = .ok (.imul, 1) := by decide +kernel
theorem d_Model_term_28 : decode b_Model_term 28 = .ok (.iload_n 2, 1) := by decide +kernel
theorem d_Model_term_29 : decode b_Model_term 29 = .ok (.iadd, 1) := by decide +kernel
theorem d_Model_term_30 : decode b_Model_term 30 = .ok (.istore 4, 2) := by decide +kernel
theorem d_Model_term_32 : decode b_Model_term 32 = .ok (.iload_n 3, 1) := by decide +kernel
theorem d_Model_term_33 : decode b_Model_term 33 = .ok (.ifCond .ne 14, 3) := by decide +kernel
theorem d_Model_term_36 : decode b_Model_term 36 = .ok (.aload_n 0, 1) := by decide +kernel
theorem d_Model_term_37 : decode b_Model_term 37 = .ok (.getfield 9, 3) := by decide +kernel
theorem d_Model_term_40 : decode b_Model_term 40 = .ok (.iload 4, 2) := by decide +kernel
theorem d_Model_term_42 : decode b_Model_term 42 = .ok (.laload, 1) := by decide +kernel
theorem d_Model_term_43 : decode b_Model_term 43 = .ok (.l2i, 1) := by decide +kernel
theorem d_Model_term_44 : decode b_Model_term 44 = .ok (.goto 37, 3) := by decide +kernel
theorem d_Model_term_47 : decode b_Model_term 47 = .ok (.iload_n 3, 1) := by decide +kernel
theorem d_Model_term_48 : decode b_Model_term 48 = .ok (.iconst 1, 1) := by decide +kernel
theorem d_Model_term_49 : decode b_Model_term 49 = .ok (.if_icmp .ne 14, 3) := by decide +kernel
theorem d_Model_term_52 : decode b_Model_term 52 = .ok (.aload_n 0, 1) := by decide +kernel
theorem d_Model_term_53 : decode b_Model_term 53 = .ok (.getfield 13, 3) := by decide +kernel
theorem d_Model_term_56 : decode b_Model_term 56 = .ok (.iload 4, 2) := by decide +kernel
theorem d_Model_term_58 : decode b_Model_term 58 = .ok (.laload, 1) := by decide +kernel
theorem d_Model_term_59 : decode b_Model_term 59 = .ok (.l2i, 1) := by decide +kernel
theorem d_Model_term_60 : decode b_Model_term 60 = .ok (.goto 21, 3) := by decide +kernel
theorem d_Model_term_63 : decode b_Model_term 63 = .ok (.iload_n 3, 1) := by decide +kernel
theorem d_Model_term_64 : decode b_Model_term 64 = .ok (.iconst 2, 1) := by decide +kernel
theorem d_Model_term_65 : decode b_Model_term 65 = .ok (.if_icmp .ne 14, 3) := by decide +kernel
theorem d_Model_term_68 : decode b_Model_term 68 = .ok (.aload_n 0, 1) := by decide +kernel
theorem d_Model_term_69 : decode b_Model_term 69 = .ok (.getfield 16, 3) := by decide +kernel
theorem d_Model_term_72 : decode b_Model_term 72 = .ok (.iload 4, 2) := by decide +kernel
theorem d_Model_term_74 : decode b_Model_term 74 = .ok (.laload, 1) := by decide +kernel
theorem d_Model_term_75 : decode b_Model_term 75 = .ok (.l2i, 1) := by decide +kernel
theorem d_Model_term_76 : decode b_Model_term 76 = .ok (.goto 5, 3) := by decide +kernel
theorem d_Model_term_79 : decode b_Model_term 79 = .ok (.bipush (-2), 2) := by decide +kernel
theorem d_Model_term_81 : decode b_Model_term 81 = .ok (.ireturn, 1) := by decide +kernel
def mf_Model_term (F : Nat) (vI : Int32) (vK : Int32) (vWhat : Int32) (m_made : Int32) (m_outCount : Int32) (m_lowSign : Int32) (m_highSign : Int32) (c_n : Nat → Int64) (c_d : Nat → Int64) (c_r : Nat → Int64) (c_count : Nat → Int32) : Option (Int32) :=
  (sd_b1 (mf_Model_is F vI) fun r => (if r = 0 then (some ((-2 : Int32))) else (if vK < 0 then (some ((-2 : Int32))) else (sd_g (sd_ix vI 8) (if vK < (c_count vI.toNatClampNeg) then (sd_let ((((8 : Int32) * vI) + vK)) fun x4 => (sd_b1 (if vWhat = 0 then (sd_g (sd_ix x4 64) (some (((c_n x4.toNatClampNeg).toInt32)))) else (if vWhat = (1 : Int32) then (sd_g (sd_ix x4 64) (some (((c_d x4.toNatClampNeg).toInt32)))) else (if vWhat = (2 : Int32) then (sd_g (sd_ix x4 64) (some (((c_r x4.toNatClampNeg).toInt32)))) else (some ((-2 : Int32)))))) fun y => (some (y)))) else (some ((-2 : Int32))))))))
abbrev rm_Model_term : Room := { frames := 1, cells := 0, slots := 0, locals := 20 }
set_option maxHeartbeats 4000000 in
set_option maxRecDepth 100000 in
theorem ct_Model_term (l : Launch) (D : va_G) (g : G4) (mo : Nat) (a_n : Nat) (a_d : Nat) (a_r : Nat) (a_count : Nat) (a_newN : Nat) (a_newD : Nat) (a_newR : Nat) (a_out : Nat) (a_root : Nat) (a_rest : Nat) (a_square : Nat) (a_part : Nat) (a_plus : Nat) (a_minus : Nat) (a_low : Nat) (a_high : Nat) (a_one : Nat) (a_two : Nat) (a_otherLow : Nat) (a_otherHigh : Nat) (a_digit : Nat) (a_topA : Nat) (a_underA : Nat) (a_topB : Nat) (a_underB : Nat) (a_quotient : Nat) (a_otherQuotient : Nat) (sz : Nat) (vI : Int32) (vK : Int32) (vWhat : Int32) (m_made : Int32) (m_outCount : Int32) (m_lowSign : Int32) (m_highSign : Int32) (c_n : Nat → Int64) (c_d : Nat → Int64) (c_r : Nat → Int64) (c_count : Nat → Int32) (F : Nat) (res : Int32) (hm : mf_Model_term F vI vK vWhat m_made m_outCount m_lowSign m_highSign c_n c_d c_r c_count = some res) : Met l y_Model_term (.code y_Model_term b_Model_term 5 (some .int) :: sd_tb) rm_Model_term (sd_PW D g [.ref mo, .int vI, .int vK, .int vWhat] sz [(mo, .inr (5, [.ref a_n, .ref a_d, .ref a_r, .ref a_count, .ref a_newN, .ref a_newD, .ref a_newR, .int m_made, .ref a_out, .int m_outCount, .ref a_root, .ref a_rest, .ref a_square, .ref a_part, .ref a_plus, .ref a_minus, .ref a_low, .ref a_high, .ref a_one, .ref a_two, .int m_lowSign, .int m_highSign, .ref a_otherLow, .ref a_otherHigh, .ref a_digit, .ref a_topA, .ref a_underA, .ref a_topB, .ref a_underB, .ref a_quotient, .ref a_otherQuotient])), (a_n, aJ g 64 c_n), (a_d, aJ g 64 c_d), (a_r, aJ g 64 c_r), (a_count, aI g 8 c_count)]) (sd_Qi0 D g res [(mo, .inr (5, [.ref a_n, .ref a_d, .ref a_r, .ref a_count, .ref a_newN, .ref a_newD, .ref a_newR, .int m_made, .ref a_out, .int m_outCount, .ref a_root, .ref a_rest, .ref a_square, .ref a_part, .ref a_plus, .ref a_minus, .ref a_low, .ref a_high, .ref a_one, .ref a_two, .int m_lowSign, .int m_highSign, .ref a_otherLow, .ref a_otherHigh, .ref a_digit, .ref a_topA, .ref a_underA, .ref a_topB, .ref a_underB, .ref a_quotient, .ref a_otherQuotient])), (a_n, aJ g 64 c_n), (a_d, aJ g 64 c_d), (a_r, aJ g 64 c_r), (a_count, aI g 8 c_count)] (va_A [(mo, .inr (5, [.ref a_n, .ref a_d, .ref a_r, .ref a_count, .ref a_newN, .ref a_newD, .ref a_newR, .int m_made, .ref a_out, .int m_outCount, .ref a_root, .ref a_rest, .ref a_square, .ref a_part, .ref a_plus, .ref a_minus, .ref a_low, .ref a_high, .ref a_one, .ref a_two, .int m_lowSign, .int m_highSign, .ref a_otherLow, .ref a_otherHigh, .ref a_digit, .ref a_topA, .ref a_underA, .ref a_topB, .ref a_underB, .ref a_quotient, .ref a_otherQuotient])), (a_n, aJ g 64 c_n), (a_d, aJ g 64 c_d), (a_r, aJ g 64 c_r), (a_count, aI g 8 c_count)] sz)) 0 0 (va_A [(mo, .inr (5, [.ref a_n, .ref a_d, .ref a_r, .ref a_count, .ref a_newN, .ref a_newD, .ref a_newR, .int m_made, .ref a_out, .int m_outCount, .ref a_root, .ref a_rest, .ref a_square, .ref a_part, .ref a_plus, .ref a_minus, .ref a_low, .ref a_high, .ref a_one, .ref a_two, .int m_lowSign, .int m_highSign, .ref a_otherLow, .ref a_otherHigh, .ref a_digit, .ref a_topA, .ref a_underA, .ref a_topB, .ref a_underB, .ref a_quotient, .ref a_otherQuotient])), (a_n, aJ g 64 c_n), (a_d, aJ g 64 c_d), (a_r, aJ g 64 c_r), (a_count, aI g 8 c_count)] sz) := by
  refine sd_met (Qf := fun A => sd_Qi0 D g res [(mo, .inr (5, [.ref a_n, .ref a_d, .ref a_r, .ref a_count, .ref a_newN, .ref a_newD, .ref a_newR, .int m_made, .ref a_out, .int m_outCount, .ref a_root, .ref a_rest, .ref a_square, .ref a_part, .ref a_plus, .ref a_minus, .ref a_low, .ref a_high, .ref a_one, .ref a_two, .int m_lowSign, .int m_highSign, .ref a_otherLow, .ref a_otherHigh, .ref a_digit, .ref a_topA, .ref a_underA, .ref a_topB, .ref a_underB, .ref a_quotient, .ref a_otherQuotient])), (a_n, aJ g 64 c_n), (a_d, aJ g 64 c_d), (a_r, aJ g 64 c_r), (a_count, aI g 8 c_count)] A) (own := R_Model) (by decide +kernel) rfl (Nat.le_of_ble_eq_true rfl) ?_
  intro p e s m args below meth c S hr hlk hK A hA Q hQ H locs hP hD hS ls hl
  have hx := S.1
  have hb := S.2.1
  have hml := S.2.2.1
  have hown := S.2.2.2.1
  have htt := sd_tt S
  replace hl : lv_has ls 5 [(0, .ref mo), (1, .int vI), (2, .int vK), (3, .int vWhat)] := hl
  unfold mf_Model_term at hm
  refine lv_iload_n hx hb d_Model_term_0 rfl (lv_at hl 1 rfl) ?_
  obtain ⟨r, hc, hm⟩ := sd_mb1 hm
  refine sd_ci0 (wr := [(mo, .inr (5, [.ref a_n, .ref a_d, .ref a_r, .ref a_count, .ref a_newN, .ref a_newD, .ref a_newR, .int m_made, .ref a_out, .int m_outCount, .ref a_root, .ref a_rest, .ref a_square, .ref a_part, .ref a_plus, .ref a_minus, .ref a_low, .ref a_high, .ref a_one, .ref a_two, .int m_lowSign, .int m_highSign, .ref a_otherLow, .ref a_otherHigh, .ref a_digit, .ref a_topA, .ref a_underA, .ref a_topB, .ref a_underB, .ref a_quotient, .ref a_otherQuotient])), (a_n, aJ g 64 c_n), (a_d, aJ g 64 c_d), (a_r, aJ g 64 c_r), (a_count, aI g 8 c_count)]) (w2 := [(mo, .inr (5, [.ref a_n, .ref a_d, .ref a_r, .ref a_count, .ref a_newN, .ref a_newD, .ref a_newR, .int m_made, .ref a_out, .int m_outCount, .ref a_root, .ref a_rest, .ref a_square, .ref a_part, .ref a_plus, .ref a_minus, .ref a_low, .ref a_high, .ref a_one, .ref a_two, .int m_lowSign, .int m_highSign, .ref a_otherLow, .ref a_otherHigh, .ref a_digit, .ref a_topA, .ref a_underA, .ref a_topB, .ref a_underB, .ref a_quotient, .ref a_otherQuotient])), (a_n, aJ g 64 c_n), (a_d, aJ g 64 c_d), (a_r, aJ g 64 c_r), (a_count, aI g 8 c_count)]) (sd_runS (rest := []) (As := [.int vI]) S (ct_Model_is l D g (H.size) vI F (r) hc) kl_Model_109 (by decide) (by decide) hK hP hD [] rfl (by decide) rfl hl d_Model_term_1 rfl (Nat.le_of_ble_eq_true rfl) ⟨Nat.zero_le _, Nat.zero_le _⟩) hP hD hS hA [] [0, 1, 2, 3, 4] rfl rfl (by decide) (by decide) rfl (fun H locs hP hD hS => ?_)
  refine W.eq (g2 := F0 m 4 ls [.int r]) rfl ?_
  refine lv_if_eq (tgt := 21) hx hb d_Model_term_4 (by decide) (fun hc => ?_) (fun hc => ?_)
  · have hm := sd_mt hc hm
    refine lv_bipush (v := (-2 : Int32)) hx hb d_Model_term_21 (by decide) ?_
    exact sd_i0ret hQ hx hb hr hlk hK (hP.sub [0, 1, 2, 3, 4] rfl) (hD.sub [0, 1, 2, 3, 4] (by decide) rfl) hS (Option.some.inj hm).symm d_Model_term_23
  · have hm := sd_mf hc hm
    refine lv_iload_n hx hb d_Model_term_7 rfl (lv_at hl 2 rfl) ?_
    refine lv_if_lt (tgt := 21) hx hb d_Model_term_8 (by decide) (fun hc => ?_) (fun hc => ?_)
    · have hm := sd_mt hc hm
      refine lv_bipush (v := (-2 : Int32)) hx hb d_Model_term_21 (by decide) ?_
      exact sd_i0ret hQ hx hb hr hlk hK (hP.sub [0, 1, 2, 3, 4] rfl) (hD.sub [0, 1, 2, 3, 4] (by decide) rfl) hS (Option.some.inj hm).symm d_Model_term_23
    · have hm := sd_mf hc hm
      refine lv_iload_n hx hb d_Model_term_11 rfl (lv_at hl 2 rfl) ?_
      refine lv_aload_n hx hb d_Model_term_12 rfl (lv_at hl 0 rfl) ?_
      refine va_get (D := D) (ci := 5) (v := .ref a_count) (C := R_Model) (T := F_Model) (N := 31) hx hb htt i_Model hown hK hP 0 rfl rfl 3 (by decide) (htt _ kf_Model_19) (fun _ h9 => h9) rfl d_Model_term_13 ?_
      refine lv_iload_n hx hb d_Model_term_16 rfl (lv_at hl 1 rfl) ?_
      obtain ⟨h_1, hm⟩ := sd_mg hm
      refine sd_iald hx hb hK hP 4 rfl h_1 d_Model_term_17 ?_
      refine lv_icmp_lt (tgt := 24) hx hb d_Model_term_18 (by decide) (fun hc => ?_) (fun hc => ?_)
      · have hm := sd_mt hc hm
        refine lv_bipush (v := (8 : Int32)) hx hb d_Model_term_24 (by decide) ?_
        refine lv_iload_n hx hb d_Model_term_26 rfl (lv_at hl 1 rfl) ?_
        refine lv_imul hx hb d_Model_term_27 ?_
        refine lv_iload_n hx hb d_Model_term_28 rfl (lv_at hl 2 rfl) ?_
        refine lv_iadd hx hb d_Model_term_29 ?_
        obtain ⟨x4, ex4, hm⟩ := sd_mlet hm
        refine sd_topi ex4 ?_
        refine lv_istore (lv' := [(4, .int x4), (0, .ref mo), (1, .int vI), (2, .int vK), (3, .int vWhat)]) hx hb d_Model_term_30 hl (by decide) rfl (fun ls hl => ?_)
        refine lv_iload_n hx hb d_Model_term_32 rfl (lv_at hl 4 rfl) ?_
        obtain ⟨y, hv, hm⟩ := sd_mb1 hm
        have J81_2 : ∀ (H : Heap) (locs : List Loc) (ls : Array Slot), va_P D classes [(mo, .inr (5, [.ref a_n, .ref a_d, .ref a_r, .ref a_count, .ref a_newN, .ref a_newD, .ref a_newR, .int m_made, .ref a_out, .int m_outCount, .ref a_root, .ref a_rest, .ref a_square, .ref a_part, .ref a_plus, .ref a_minus, .ref a_low, .ref a_high, .ref a_one, .ref a_two, .int m_lowSign, .int m_highSign, .ref a_otherLow, .ref a_otherHigh, .ref a_digit, .ref a_topA, .ref a_underA, .ref a_topB, .ref a_underB, .ref a_quotient, .ref a_otherQuotient])), (a_n, aJ g 64 c_n), (a_d, aJ g 64 c_d), (a_r, aJ g 64 c_r), (a_count, aI g 8 c_count)] H → va_D A [(mo, .inr (5, [.ref a_n, .ref a_d, .ref a_r, .ref a_count, .ref a_newN, .ref a_newD, .ref a_newR, .int m_made, .ref a_out, .int m_outCount, .ref a_root, .ref a_rest, .ref a_square, .ref a_part, .ref a_plus, .ref a_minus, .ref a_low, .ref a_high, .ref a_one, .ref a_two, .int m_lowSign, .int m_highSign, .ref a_otherLow, .ref a_otherHigh, .ref a_digit, .ref a_topA, .ref a_underA, .ref a_topB, .ref a_underB, .ref a_quotient, .ref a_otherQuotient])), (a_n, aJ g 64 c_n), (a_d, aJ g 64 c_d), (a_r, aJ g 64 c_r), (a_count, aI g 8 c_count)] → va_S A s.heap H locs → lv_has ls 5 [] → W p l e rm_Model_term s m args below meth c H locs 0 0 Q (F0 m 81 ls [.int y]) := by
          intro H locs ls hP hD hS hl
          exact sd_i0ret hQ hx hb hr hlk hK (hP.sub [0, 1, 2, 3, 4] rfl) (hD.sub [0, 1, 2, 3, 4] (by decide) rfl) hS (Option.some.inj hm).symm d_Model_term_81
        replace hm := hv
        refine lv_if_ne (tgt := 47) hx hb d_Model_term_33 (by decide) (fun hc => ?_) (fun hc => ?_)
        · have hm := sd_mf hc hm
          refine lv_iload_n hx hb d_Model_term_47 rfl (lv_at hl 4 rfl) ?_
          refine lv_iconst (v := (1 : Int32)) hx hb d_Model_term_48 (by decide) ?_
          refine lv_icmp_ne (tgt := 63) hx hb d_Model_term_49 (by decide) (fun hc => ?_) (fun hc => ?_)
          · have hm := sd_mf hc hm
            refine lv_iload_n hx hb d_Model_term_63 rfl (lv_at hl 4 rfl) ?_
            refine lv_iconst (v := (2 : Int32)) hx hb d_Model_term_64 (by decide) ?_
            refine lv_icmp_ne (tgt := 79) hx hb d_Model_term_65 (by decide) (fun hc => ?_) (fun hc => ?_)
            · have hm := sd_mf hc hm
              refine lv_bipush (v := (-2 : Int32)) hx hb d_Model_term_79 (by decide) ?_
              cases hm
              exact J81_2 H locs ls (hP.sub [0, 1, 2, 3, 4] rfl) (hD.sub [0, 1, 2, 3, 4] (by decide) rfl) hS (lv_sub hl [] rfl)
            · have hm := sd_mt hc hm
              refine lv_aload_n hx hb d_Model_term_68 rfl (lv_at hl 1 rfl) ?_
              refine va_get (D := D) (ci := 5) (v := .ref a_r) (C := R_Model) (T := F_Model) (N := 31) hx hb htt i_Model hown hK hP 0 rfl rfl 2 (by decide) (htt _ kf_Model_16) (fun _ h9 => h9) rfl d_Model_term_69 ?_
              refine lv_iload hx hb d_Model_term_72 (lv_at hl 0 rfl) ?_
              obtain ⟨h_3, hm⟩ := sd_mg hm
              refine sd_lald hx hb hK hP 3 rfl h_3 d_Model_term_74 ?_
              refine lv_l2i hx hb d_Model_term_75 rfl ?_
              refine lv_goto (tgt := 81) hx hb d_Model_term_76 (by decide) ?_
              cases hm
              exact J81_2 H locs ls (hP.sub [0, 1, 2, 3, 4] rfl) (hD.sub [0, 1, 2, 3, 4] (by decide) rfl) hS (lv_sub hl [] rfl)
          · have hm := sd_mt hc hm
            refine lv_aload_n hx hb d_Model_term_52 rfl (lv_at hl 1 rfl) ?_
            refine va_get (D := D) (ci := 5) (v := .ref a_d) (C := R_Model) (T := F_Model) (N := 31) hx hb htt i_Model hown hK hP 0 rfl rfl 1 (by decide) (htt _ kf_Model_13) (fun _ h9 => h9) rfl d_Model_term_53 ?_
            refine lv_iload hx hb d_Model_term_56 (lv_at hl 0 rfl) ?_
            obtain ⟨h_4, hm⟩ := sd_mg hm
            refine sd_lald hx hb hK hP 2 rfl h_4 d_Model_term_58 ?_
            refine lv_l2i hx hb d_Model_term_59 rfl ?_
            refine lv_goto (tgt := 81) hx hb d_Model_term_60 (by decide) ?_
            cases hm
            exact J81_2 H locs ls (hP.sub [0, 1, 2, 3, 4] rfl) (hD.sub [0, 1, 2, 3, 4] (by decide) rfl) hS (lv_sub hl [] rfl)
        · have hm := sd_mt hc hm
          refine lv_aload_n hx hb d_Model_term_36 rfl (lv_at hl 1 rfl) ?_
          refine va_get (D := D) (ci := 5) (v := .ref a_n) (C := R_Model) (T := F_Model) (N := 31) hx hb htt i_Model hown hK hP 0 rfl rfl 0 (by decide) (htt _ kf_Model_9) (fun _ h9 => h9) rfl d_Model_term_37 ?_
          refine lv_iload hx hb d_Model_term_40 (lv_at hl 0 rfl) ?_
          obtain ⟨h_5, hm⟩ := sd_mg hm
          refine sd_lald hx hb hK hP 1 rfl h_5 d_Model_term_42 ?_
          refine lv_l2i hx hb d_Model_term_43 rfl ?_
          refine lv_goto (tgt := 81) hx hb d_Model_term_44 (by decide) ?_
          cases hm
          exact J81_2 H locs ls (hP.sub [0, 1, 2, 3, 4] rfl) (hD.sub [0, 1, 2, 3, 4] (by decide) rfl) hS (lv_sub hl [] rfl)
      · have hm := sd_mf hc hm
        refine lv_bipush (v := (-2 : Int32)) hx hb d_Model_term_21 (by decide) ?_
        exact sd_i0ret hQ hx hb hr hlk hK (hP.sub [0, 1, 2, 3, 4] rfl) (hD.sub [0, 1, 2, 3, 4] (by decide) rfl) hS (Option.some.inj hm).symm d_Model_term_23
theorem d_Model_terms_0 : decode b_Model_terms 0 = .ok (.iload_n 1, 1) := by decide +kernel
theorem d_Model_terms_1 : decode b_Model_terms 1 = .ok (.invokestatic 109, 3) := by decide +kernel
theorem d_Model_terms_4 : decode b_Model_terms 4 = .ok (.ifCond .eq 12, 3) := by decide +kernel
theorem d_Model_terms_7 : decode b_Model_terms 7 = .ok (.aload_n 0, 1) := by decide +kernel
theorem d_Model_terms_8 : decode b_Model_terms 8 = .ok (.getfield 19, 3) := by decide +kernel
theorem d_Model_terms_11 : decode b_Model_terms 11 = .ok (.iload_n 1, 1) := by decide +kernel
theorem d_Model_terms_12 : decode b_Model_terms 12 = .ok (.iaload, 1) := by decide +kernel
theorem d_Model_terms_13 : decode b_Model_terms 13 = .ok (.goto 5, 3) := by decide +kernel
theorem d_Model_terms_16 : decode b_Model_terms 16 = .ok (.bipush (-2), 2) := by decide +kernel
theorem d_Model_terms_18 : decode b_Model_terms 18 = .ok (.ireturn, 1) := by decide +kernel
def mf_Model_terms (F : Nat) (vI : Int32) (m_made : Int32) (m_outCount : Int32) (m_lowSign : Int32) (m_highSign : Int32) (c_count : Nat → Int32) : Option (Int32) :=
  (sd_b1 (mf_Model_is F vI) fun r => (sd_b1 (if r = 0 then (some ((-2 : Int32))) else (sd_g (sd_ix vI 8) (some ((c_count vI.toNatClampNeg))))) fun y => (some (y))))
abbrev rm_Model_terms : Room := { frames := 1, cells := 0, slots := 0, locals := 20 }
set_option maxHeartbeats 4000000 in
set_option maxRecDepth 100000 in
theorem ct_Model_terms (l : Launch) (D : va_G) (g : G4) (mo : Nat) (a_n : Nat) (a_d : Nat) (a_r : Nat) (a_count : Nat) (a_newN : Nat) (a_newD : Nat) (a_newR : Nat) (a_out : Nat) (a_root : Nat) (a_rest : Nat) (a_square : Nat) (a_part : Nat) (a_plus : Nat) (a_minus : Nat) (a_low : Nat) (a_high : Nat) (a_one : Nat) (a_two : Nat) (a_otherLow : Nat) (a_otherHigh : Nat) (a_digit : Nat) (a_topA : Nat) (a_underA : Nat) (a_topB : Nat) (a_underB : Nat) (a_quotient : Nat) (a_otherQuotient : Nat) (sz : Nat) (vI : Int32) (m_made : Int32) (m_outCount : Int32) (m_lowSign : Int32) (m_highSign : Int32) (c_count : Nat → Int32) (F : Nat) (res : Int32) (hm : mf_Model_terms F vI m_made m_outCount m_lowSign m_highSign c_count = some res) : Met l y_Model_terms (.code y_Model_terms b_Model_terms 2 (some .int) :: sd_tb) rm_Model_terms (sd_PW D g [.ref mo, .int vI] sz [(mo, .inr (5, [.ref a_n, .ref a_d, .ref a_r, .ref a_count, .ref a_newN, .ref a_newD, .ref a_newR, .int m_made, .ref a_out, .int m_outCount, .ref a_root, .ref a_rest, .ref a_square, .ref a_part, .ref a_plus, .ref a_minus, .ref a_low, .ref a_high, .ref a_one, .ref a_two, .int m_lowSign, .int m_highSign, .ref a_otherLow, .ref a_otherHigh, .ref a_digit, .ref a_topA, .ref a_underA, .ref a_topB, .ref a_underB, .ref a_quotient, .ref a_otherQuotient])), (a_count, aI g 8 c_count)]) (sd_Qi0 D g res [(mo, .inr (5, [.ref a_n, .ref a_d, .ref a_r, .ref a_count, .ref a_newN, .ref a_newD, .ref a_newR, .int m_made, .ref a_out, .int m_outCount, .ref a_root, .ref a_rest, .ref a_square, .ref a_part, .ref a_plus, .ref a_minus, .ref a_low, .ref a_high, .ref a_one, .ref a_two, .int m_lowSign, .int m_highSign, .ref a_otherLow, .ref a_otherHigh, .ref a_digit, .ref a_topA, .ref a_underA, .ref a_topB, .ref a_underB, .ref a_quotient, .ref a_otherQuotient])), (a_count, aI g 8 c_count)] (va_A [(mo, .inr (5, [.ref a_n, .ref a_d, .ref a_r, .ref a_count, .ref a_newN, .ref a_newD, .ref a_newR, .int m_made, .ref a_out, .int m_outCount, .ref a_root, .ref a_rest, .ref a_square, .ref a_part, .ref a_plus, .ref a_minus, .ref a_low, .ref a_high, .ref a_one, .ref a_two, .int m_lowSign, .int m_highSign, .ref a_otherLow, .ref a_otherHigh, .ref a_digit, .ref a_topA, .ref a_underA, .ref a_topB, .ref a_underB, .ref a_quotient, .ref a_otherQuotient])), (a_count, aI g 8 c_count)] sz)) 0 0 (va_A [(mo, .inr (5, [.ref a_n, .ref a_d, .ref a_r, .ref a_count, .ref a_newN, .ref a_newD, .ref a_newR, .int m_made, .ref a_out, .int m_outCount, .ref a_root, .ref a_rest, .ref a_square, .ref a_part, .ref a_plus, .ref a_minus, .ref a_low, .ref a_high, .ref a_one, .ref a_two, .int m_lowSign, .int m_highSign, .ref a_otherLow, .ref a_otherHigh, .ref a_digit, .ref a_topA, .ref a_underA, .ref a_topB, .ref a_underB, .ref a_quotient, .ref a_otherQuotient])), (a_count, aI g 8 c_count)] sz) := by
  refine sd_met (Qf := fun A => sd_Qi0 D g res [(mo, .inr (5, [.ref a_n, .ref a_d, .ref a_r, .ref a_count, .ref a_newN, .ref a_newD, .ref a_newR, .int m_made, .ref a_out, .int m_outCount, .ref a_root, .ref a_rest, .ref a_square, .ref a_part, .ref a_plus, .ref a_minus, .ref a_low, .ref a_high, .ref a_one, .ref a_two, .int m_lowSign, .int m_highSign, .ref a_otherLow, .ref a_otherHigh, .ref a_digit, .ref a_topA, .ref a_underA, .ref a_topB, .ref a_underB, .ref a_quotient, .ref a_otherQuotient])), (a_count, aI g 8 c_count)] A) (own := R_Model) (by decide +kernel) rfl (Nat.le_of_ble_eq_true rfl) ?_
  intro p e s m args below meth c S hr hlk hK A hA Q hQ H locs hP hD hS ls hl
  have hx := S.1
  have hb := S.2.1
  have hml := S.2.2.1
  have hown := S.2.2.2.1
  have htt := sd_tt S
  replace hl : lv_has ls 2 [(0, .ref mo), (1, .int vI)] := hl
  unfold mf_Model_terms at hm
  refine lv_iload_n hx hb d_Model_terms_0 rfl (lv_at hl 1 rfl) ?_
  obtain ⟨r, hc, hm⟩ := sd_mb1 hm
  refine sd_ci0 (wr := [(mo, .inr (5, [.ref a_n, .ref a_d, .ref a_r, .ref a_count, .ref a_newN, .ref a_newD, .ref a_newR, .int m_made, .ref a_out, .int m_outCount, .ref a_root, .ref a_rest, .ref a_square, .ref a_part, .ref a_plus, .ref a_minus, .ref a_low, .ref a_high, .ref a_one, .ref a_two, .int m_lowSign, .int m_highSign, .ref a_otherLow, .ref a_otherHigh, .ref a_digit, .ref a_topA, .ref a_underA, .ref a_topB, .ref a_underB, .ref a_quotient, .ref a_otherQuotient])), (a_count, aI g 8 c_count)]) (w2 := [(mo, .inr (5, [.ref a_n, .ref a_d, .ref a_r, .ref a_count, .ref a_newN, .ref a_newD, .ref a_newR, .int m_made, .ref a_out, .int m_outCount, .ref a_root, .ref a_rest, .ref a_square, .ref a_part, .ref a_plus, .ref a_minus, .ref a_low, .ref a_high, .ref a_one, .ref a_two, .int m_lowSign, .int m_highSign, .ref a_otherLow, .ref a_otherHigh, .ref a_digit, .ref a_topA, .ref a_underA, .ref a_topB, .ref a_underB, .ref a_quotient, .ref a_otherQuotient])), (a_count, aI g 8 c_count)]) (sd_runS (rest := []) (As := [.int vI]) S (ct_Model_is l D g (H.size) vI F (r) hc) kl_Model_109 (by decide) (by decide) hK hP hD [] rfl (by decide) rfl hl d_Model_terms_1 rfl (Nat.le_of_ble_eq_true rfl) ⟨Nat.zero_le _, Nat.zero_le _⟩) hP hD hS hA [] [0, 1] rfl rfl (by decide) (by decide) rfl (fun H locs hP hD hS => ?_)
  refine W.eq (g2 := F0 m 4 ls [.int r]) rfl ?_
  obtain ⟨y, hv, hm⟩ := sd_mb1 hm
  have J18_1 : ∀ (H : Heap) (locs : List Loc) (ls : Array Slot), va_P D classes [(mo, .inr (5, [.ref a_n, .ref a_d, .ref a_r, .ref a_count, .ref a_newN, .ref a_newD, .ref a_newR, .int m_made, .ref a_out, .int m_outCount, .ref a_root, .ref a_rest, .ref a_square, .ref a_part, .ref a_plus, .ref a_minus, .ref a_low, .ref a_high, .ref a_one, .ref a_two, .int m_lowSign, .int m_highSign, .ref a_otherLow, .ref a_otherHigh, .ref a_digit, .ref a_topA, .ref a_underA, .ref a_topB, .ref a_underB, .ref a_quotient, .ref a_otherQuotient])), (a_count, aI g 8 c_count)] H → va_D A [(mo, .inr (5, [.ref a_n, .ref a_d, .ref a_r, .ref a_count, .ref a_newN, .ref a_newD, .ref a_newR, .int m_made, .ref a_out, .int m_outCount, .ref a_root, .ref a_rest, .ref a_square, .ref a_part, .ref a_plus, .ref a_minus, .ref a_low, .ref a_high, .ref a_one, .ref a_two, .int m_lowSign, .int m_highSign, .ref a_otherLow, .ref a_otherHigh, .ref a_digit, .ref a_topA, .ref a_underA, .ref a_topB, .ref a_underB, .ref a_quotient, .ref a_otherQuotient])), (a_count, aI g 8 c_count)] → va_S A s.heap H locs → lv_has ls 2 [] → W p l e rm_Model_terms s m args below meth c H locs 0 0 Q (F0 m 18 ls [.int y]) := by
    intro H locs ls hP hD hS hl
    exact sd_i0ret hQ hx hb hr hlk hK (hP.sub [0, 1] rfl) (hD.sub [0, 1] (by decide) rfl) hS (Option.some.inj hm).symm d_Model_terms_18
  replace hm := hv
  refine lv_if_eq (tgt := 16) hx hb d_Model_terms_4 (by decide) (fun hc => ?_) (fun hc => ?_)
  · have hm := sd_mt hc hm
    refine lv_bipush (v := (-2 : Int32)) hx hb d_Model_terms_16 (by decide) ?_
    cases hm
    exact J18_1 H locs ls (hP.sub [0, 1] rfl) (hD.sub [0, 1] (by decide) rfl) hS (lv_sub hl [] rfl)
  · have hm := sd_mf hc hm
    refine lv_aload_n hx hb d_Model_terms_7 rfl (lv_at hl 0 rfl) ?_
    refine va_get (D := D) (ci := 5) (v := .ref a_count) (C := R_Model) (T := F_Model) (N := 31) hx hb htt i_Model hown hK hP 0 rfl rfl 3 (by decide) (htt _ kf_Model_19) (fun _ h9 => h9) rfl d_Model_terms_8 ?_
    refine lv_iload_n hx hb d_Model_terms_11 rfl (lv_at hl 1 rfl) ?_
    obtain ⟨h_2, hm⟩ := sd_mg hm
    refine sd_iald hx hb hK hP 1 rfl h_2 d_Model_terms_12 ?_
    refine lv_goto (tgt := 18) hx hb d_Model_terms_13 (by decide) ?_
    cases hm
    exact J18_1 H locs ls (hP.sub [0, 1] rfl) (hD.sub [0, 1] (by decide) rfl) hS (lv_sub hl [] rfl)
theorem d_Model_digits_0 : decode b_Model_digits 0 = .ok (.iconst 0, 1) := by decide +kernel
theorem d_Model_digits_1 : decode b_Model_digits 1 = .ok (.istore_n 2, 1) := by decide +kernel
theorem d_Model_digits_2 : decode b_Model_digits 2 = .ok (.iload_n 2, 1) := by decide +kernel
theorem d_Model_digits_3 : decode b_Model_digits 3 = .ok (.iload_n 1, 1) := by decide +kernel
theorem d_Model_digits_4 : decode b_Model_digits 4 = .ok (.if_icmp .le 13, 3) := by decide +kernel
theorem d_Model_digits_7 : decode b_Model_digits 7 = .ok (.aload_n 0, 1) := by decide +kernel
theorem d_Model_digits_8 : decode b_Model_digits 8 = .ok (.getfield 60, 3) := by decide +kernel
theorem d_Model_digits_11 : decode b_Model_digits 11 = .ok (.invokestatic 140, 3) := by decide +kernel
theorem d_Model_digits_14 : decode b_Model_digits 14 = .ok (.ifCond .le 72, 3) := by decide +kernel
theorem d_Model_digits_17 : decode b_Model_digits 17 = .ok (.lconst 0, 1) := by decide +kernel
theorem d_Model_digits_18 : decode b_Model_digits 18 = .ok (.lstore_n 3, 1) := by decide +kernel
theorem d_Model_digits_19 : decode b_Model_digits 19 = .ok (.aload_n 0, 1) := by decide +kernel
theorem d_Model_digits_20 : decode b_Model_digits 20 = .ok (.getfield 60, 3) := by decide +kernel
theorem d_Model_digits_23 : decode b_Model_digits 23 = .ok (.invokestatic 140, 3) := by decide +kernel
theorem d_Model_digits_26 : decode b_Model_digits 26 = .ok (.iconst 1, 1) := by decide +kernel
theorem d_Model_digits_27 : decode b_Model_digits 27 = .ok (.isub, 1) := by decide +kernel
theorem d_Model_digits_28 : decode b_Model_digits 28 = .ok (.istore 5, 2) := by decide +kernel
theorem d_Model_digits_30 : decode b_Model_digits 30 = .ok (.iload 5, 2) := by decide +kernel
theorem d_Model_digits_32 : decode b_Model_digits 32 = .ok (.ifCond .lt 40, 3) := by decide +kernel
theorem d_Model_digits_35 : decode b_Model_digits 35 = .ok (.lload_n 3, 1) := by decide +kernel
theorem d_Model_digits_36 : decode b_Model_digits 36 = .ok (.bipush 32, 2) := by decide +kernel
theorem d_Model_digits_38 : decode b_Model_digits 38 = .ok (.lshl, 1) := by decide +kernel
theorem d_Model_digits_39 : decode b_Model_digits 39 = .ok (.aload_n 0, 1) := by decide +kernel
theorem d_Model_digits_40 : decode b_Model_digits 40 = .ok (.getfield 60, 3) := by decide +kernel
theorem d_Model_digits_43 : decode b_Model_digits 43 = .ok (.iload 5, 2) := by decide +kernel
theorem d_Model_digits_45 : decode b_Model_digits 45 = .ok (.laload, 1) := by decide +kernel
theorem d_Model_digits_46 : decode b_Model_digits 46 = .ok (.lor, 1) := by decide +kernel
theorem d_Model_digits_47 : decode b_Model_digits 47 = .ok (.lstore_n 3, 1) := by decide +kernel
theorem d_Model_digits_48 : decode b_Model_digits 48 = .ok (.aload_n 0, 1) := by decide +kernel
theorem d_Model_digits_49 : decode b_Model_digits 49 = .ok (.getfield 60, 3) := by decide +kernel
theorem d_Model_digits_52 : decode b_Model_digits 52 = .ok (.iload 5, 2) := by decide +kernel
theorem d_Model_digits_54 : decode b_Model_digits 54 = .ok (.lload_n 3, 1) := by decide +kernel
theorem d_Model_digits_55 : decode b_Model_digits 55 = .ok (.ldc2_w 261, 3) := by decide +kernel
theorem d_Model_digits_58 : decode b_Model_digits 58 = .ok (.ldiv, 1) := by decide +kernel
theorem d_Model_digits_59 : decode b_Model_digits 59 = .ok (.lastore, 1) := by decide +kernel
theorem d_Model_digits_60 : decode b_Model_digits 60 = .ok (.lload_n 3, 1) := by decide +kernel
theorem d_Model_digits_61 : decode b_Model_digits 61 = .ok (.ldc2_w 261, 3) := by decide +kernel
theorem d_Model_digits_64 : decode b_Model_digits 64 = .ok (.lrem, 1) := by decide +kernel
theorem d_Model_digits_65 : decode b_Model_digits 65 = .ok (.lstore_n 3, 1) := by decide +kernel
theorem d_Model_digits_66 : decode b_Model_digits 66 = .ok (.iinc 5 (-1), 3) := by decide +kernel
theorem d_Model_digits_69 : decode b_Model_digits 69 = .ok (.goto (-39), 3) := by decide +kernel
theorem d_Model_digits_72 : decode b_Model_digits 72 = .ok (.aload_n 0, 1) := by decide +kernel
theorem d_Model_digits_73 : decode b_Model_digits 73 = .ok (.getfield 72, 3) := by decide +kernel
theorem d_Model_digits_76 : decode b_Model_digits 76 = .ok (.iload_n 2, 1) := by decide +kernel
theorem d_Model_digits_77 : decode b_Model_digits 77 = .ok (.lload_n 3, 1) := by decide +kernel
theorem d_Model_digits_78 : decode b_Model_digits 78 = .ok (.l2i, 1) := by decide +kernel
theorem d_Model_digits_79 : decode b_Model_digits 79 = .ok (.iastore, 1) := by decide +kernel
theorem d_Model_digits_80 : decode b_Model_digits 80 = .ok (.iinc 2 1, 3) := by decide +kernel
theorem d_Model_digits_83 : decode b_Model_digits 83 = .ok (.goto (-81), 3) := by decide +kernel
theorem d_Model_digits_86 : decode b_Model_digits 86 = .ok (.iload_n 2, 1) := by decide +kernel
theorem d_Model_digits_87 : decode b_Model_digits 87 = .ok (.iconst 1, 1) := by decide +kernel
theorem d_Model_digits_88 : decode b_Model_digits 88 = .ok (.isub, 1) := by decide +kernel
theorem d_Model_digits_89 : decode b_Model_digits 89 = .ok (.istore_n 3, 1) := by decide +kernel
theorem d_Model_digits_90 : decode b_Model_digits 90 = .ok (.iload_n 3, 1) := by decide +kernel
theorem d_Model_digits_91 : decode b_Model_digits 91 = .ok (.ifCond .lt 37, 3) := by decide +kernel
theorem d_Model_digits_94 : decode b_Model_digits 94 = .ok (.aload_n 0, 1) := by decide +kernel
theorem d_Model_digits_95 : decode b_Model_digits 95 = .ok (.bipush 48, 2) := by decide +kernel
theorem d_Model_digits_97 : decode b_Model_digits 97 = .ok (.aload_n 0, 1) := by decide +kernel
theorem d_Model_digits_98 : decode b_Model_digits 98 = .ok (.getfield 72, 3) := by decide +kernel
theorem d_Model_digits_101 : decode b_Model_digits 101 = .ok (.iload_n 3, 1) := by decide +kernel
theorem d_Model_digits_102 : decode b_Model_digits 102 = .ok (.iaload, 1) := by decide +kernel
theorem d_Model_digits_103 : decode b_Model_digits 103 = .ok (.iadd, 1) := by decide +kernel
theorem d_Model_digits_104 : decode b_Model_digits 104 = .ok (.invokevirtual 266, 3) := by decide +kernel
theorem d_Model_digits_107 : decode b_Model_digits 107 = .ok (.iload_n 3, 1) := by decide +kernel
theorem d_Model_digits_108 : decode b_Model_digits 108 = .ok (.iload_n 1, 1) := by decide +kernel
theorem d_Model_digits_109 : decode b_Model_digits 109 = .ok (.if_icmp .ne 13, 3) := by decide +kernel
theorem d_Model_digits_112 : decode b_Model_digits 112 = .ok (.iload_n 1, 1) := by decide +kernel
theorem d_Model_digits_113 : decode b_Model_digits 113 = .ok (.ifCond .le 9, 3) := by decide +kernel
theorem d_Model_digits_116 : decode b_Model_digits 116 = .ok (.aload_n 0, 1) := by decide +kernel
theorem d_Model_digits_117 : decode b_Model_digits 117 = .ok (.bipush 46, 2) := by decide +kernel
theorem d_Model_digits_119 : decode b_Model_digits 119 = .ok (.invokevirtual 266, 3) := by decide +kernel
theorem d_Model_digits_122 : decode b_Model_digits 122 = .ok (.iinc 3 (-1), 3) := by decide +kernel
theorem d_Model_digits_125 : decode b_Model_digits 125 = .ok (.goto (-35), 3) := by decide +kernel
theorem d_Model_digits_128 : decode b_Model_digits 128 = .ok (.return_, 1) := by decide +kernel
def mf_Model_digits_L30  : Nat → Int64 → Int32 → (Nat → Int64) → Option (Int64 × (Nat → Int64))
  | 0, _, _, _ => none
  | fu + 1, x3, x5_1, uaone_2 => (if x5_1 < 0 then (some (x3, uaone_2)) else (sd_g (sd_ix x5_1 76) (sd_let (((x3 <<< ((32 : Int32).toInt64 &&& 63)) ||| (uaone_2 x5_1.toNatClampNeg))) fun x3_1 => (sd_g (sd_ix x5_1 76) (sd_let (vp_updL uaone_2 x5_1.toNatClampNeg (x3_1 / (10 : Int64))) fun uaone_3 => (sd_let ((x3_1 - x3_1 / (10 : Int64) * (10 : Int64))) fun x3_2 => (sd_let (x5_1 + (-1 : Int32)) fun x5_2 => ((mf_Model_digits_L30  fu) x3_2 x5_2 uaone_3))))))))
def mf_Model_digits_J17 (F : Nat) (rc : Int32 → (Nat → Int64) → (Nat → Int32) → Option (Int32 × (Nat → Int64) × (Nat → Int32))) (x2_1 : Int32) (uaone_1 : Nat → Int64) (uadigit_1 : Nat → Int32) : Option (Int32 × (Nat → Int64) × (Nat → Int32)) :=
  (sd_b1 (mf_Model_size F uaone_1) fun r => (sd_let ((r - (1 : Int32))) fun x5 => (sd_b2 (mf_Model_digits_L30  F (0 : Int64) x5 uaone_1) fun rx3 ruaone_1 => (sd_g (sd_ix x2_1 128) (sd_let (upd uadigit_1 x2_1.toNatClampNeg (rx3.toInt32)) fun uadigit_2 => (sd_let (x2_1 + (1 : Int32)) fun x2_2 => (rc x2_2 ruaone_1 uadigit_2)))))))
def mf_Model_digits_L2 (vPlaces : Int32) (F : Nat) : Nat → Int32 → (Nat → Int64) → (Nat → Int32) → Option (Int32 × (Nat → Int64) × (Nat → Int32))
  | 0, _, _, _ => none
  | fu + 1, x2, uaone, uadigit => (if x2 ≤ vPlaces then (mf_Model_digits_J17 F (mf_Model_digits_L2 vPlaces F fu) x2 uaone uadigit) else (sd_b1 (mf_Model_size F uaone) fun r_1 => (if r_1 ≤ 0 then (some (x2, uaone, uadigit)) else (mf_Model_digits_J17 F (mf_Model_digits_L2 vPlaces F fu) x2 uaone uadigit))))
def mf_Model_digits_L90 (F : Nat) (ruadigit : Nat → Int32) (m_made : Int32) (m_lowSign : Int32) (m_highSign : Int32) (vPlaces : Int32) : Nat → Int32 → Int32 → (Nat → Int32) → Option (Int32 × (Nat → Int32))
  | 0, _, _, _ => none
  | fu + 1, x3_4, umo, uaout => (if x3_4 < 0 then (some (umo, uaout)) else (sd_g (sd_ix x3_4 128) (sd_b2 (mf_Model_say F ((48 : Int32) + (ruadigit x3_4.toNatClampNeg)) m_made umo m_lowSign m_highSign uaout) fun umo_1 uaout_1 => (sd_b2 (if x3_4 = vPlaces then (if vPlaces ≤ 0 then (some (umo_1, uaout_1)) else (sd_b2 (mf_Model_say F (46 : Int32) m_made umo_1 m_lowSign m_highSign uaout_1) fun umo_3 uaout_3 => (some (umo_3, uaout_3)))) else (some (umo_1, uaout_1))) fun umo_2 uaout_2 => (sd_let (x3_4 + (-1 : Int32)) fun x3_5 => ((mf_Model_digits_L90 F ruadigit m_made m_lowSign m_highSign vPlaces fu) x3_5 umo_2 uaout_2))))))
def mf_Model_digits (F : Nat) (vPlaces : Int32) (m_made : Int32) (m_outCount : Int32) (m_lowSign : Int32) (m_highSign : Int32) (c_out : Nat → Int32) (c_one : Nat → Int64) (c_digit : Nat → Int32) : Option (Int32 × (Nat → Int32) × (Nat → Int64) × (Nat → Int32)) :=
  (sd_b3 (mf_Model_digits_L2 vPlaces F F (0 : Int32) c_one c_digit) fun rx2 ruaone ruadigit => (sd_let ((rx2 - (1 : Int32))) fun x3_3 => (sd_b2 (mf_Model_digits_L90 F ruadigit m_made m_lowSign m_highSign vPlaces F x3_3 m_outCount c_out) fun rumo ruaout => (some (rumo, ruaout, ruaone, ruadigit)))))
abbrev rm_Model_digits : Room := { frames := 1, cells := 0, slots := 0, locals := 21 }
set_option maxHeartbeats 4000000 in
set_option maxRecDepth 100000 in
theorem ct_Model_digits (l : Launch) (D : va_G) (g : G4) (mo : Nat) (a_n : Nat) (a_d : Nat) (a_r : Nat) (a_count : Nat) (a_newN : Nat) (a_newD : Nat) (a_newR : Nat) (a_out : Nat) (a_root : Nat) (a_rest : Nat) (a_square : Nat) (a_part : Nat) (a_plus : Nat) (a_minus : Nat) (a_low : Nat) (a_high : Nat) (a_one : Nat) (a_two : Nat) (a_otherLow : Nat) (a_otherHigh : Nat) (a_digit : Nat) (a_topA : Nat) (a_underA : Nat) (a_topB : Nat) (a_underB : Nat) (a_quotient : Nat) (a_otherQuotient : Nat) (sz : Nat) (vPlaces : Int32) (m_made : Int32) (m_outCount : Int32) (m_lowSign : Int32) (m_highSign : Int32) (c_out : Nat → Int32) (c_one : Nat → Int64) (c_digit : Nat → Int32) (F : Nat) (res : Int32 × (Nat → Int32) × (Nat → Int64) × (Nat → Int32)) (hm : mf_Model_digits F vPlaces m_made m_outCount m_lowSign m_highSign c_out c_one c_digit = some res) : Met l y_Model_digits (.code y_Model_digits b_Model_digits 6 none :: sd_tb) rm_Model_digits (sd_PW D g [.ref mo, .int vPlaces] sz [(mo, .inr (5, [.ref a_n, .ref a_d, .ref a_r, .ref a_count, .ref a_newN, .ref a_newD, .ref a_newR, .int m_made, .ref a_out, .int m_outCount, .ref a_root, .ref a_rest, .ref a_square, .ref a_part, .ref a_plus, .ref a_minus, .ref a_low, .ref a_high, .ref a_one, .ref a_two, .int m_lowSign, .int m_highSign, .ref a_otherLow, .ref a_otherHigh, .ref a_digit, .ref a_topA, .ref a_underA, .ref a_topB, .ref a_underB, .ref a_quotient, .ref a_otherQuotient])), (a_out, aB g 128 c_out), (a_one, aJ g 76 c_one), (a_digit, aI g 128 c_digit)]) (sd_Qv1 D g res (fun u : Int32 × (Nat → Int32) × (Nat → Int64) × (Nat → Int32) => [(mo, .inr (5, [.ref a_n, .ref a_d, .ref a_r, .ref a_count, .ref a_newN, .ref a_newD, .ref a_newR, .int m_made, .ref a_out, .int (u.1), .ref a_root, .ref a_rest, .ref a_square, .ref a_part, .ref a_plus, .ref a_minus, .ref a_low, .ref a_high, .ref a_one, .ref a_two, .int m_lowSign, .int m_highSign, .ref a_otherLow, .ref a_otherHigh, .ref a_digit, .ref a_topA, .ref a_underA, .ref a_topB, .ref a_underB, .ref a_quotient, .ref a_otherQuotient])), (a_out, aB g 128 (u.2.1)), (a_one, aJ g 76 (u.2.2.1)), (a_digit, aI g 128 (u.2.2.2))]) (va_A [(mo, .inr (5, [.ref a_n, .ref a_d, .ref a_r, .ref a_count, .ref a_newN, .ref a_newD, .ref a_newR, .int m_made, .ref a_out, .int m_outCount, .ref a_root, .ref a_rest, .ref a_square, .ref a_part, .ref a_plus, .ref a_minus, .ref a_low, .ref a_high, .ref a_one, .ref a_two, .int m_lowSign, .int m_highSign, .ref a_otherLow, .ref a_otherHigh, .ref a_digit, .ref a_topA, .ref a_underA, .ref a_topB, .ref a_underB, .ref a_quotient, .ref a_otherQuotient])), (a_out, aB g 128 c_out), (a_one, aJ g 76 c_one), (a_digit, aI g 128 c_digit)] sz)) 0 0 (va_A [(mo, .inr (5, [.ref a_n, .ref a_d, .ref a_r, .ref a_count, .ref a_newN, .ref a_newD, .ref a_newR, .int m_made, .ref a_out, .int m_outCount, .ref a_root, .ref a_rest, .ref a_square, .ref a_part, .ref a_plus, .ref a_minus, .ref a_low, .ref a_high, .ref a_one, .ref a_two, .int m_lowSign, .int m_highSign, .ref a_otherLow, .ref a_otherHigh, .ref a_digit, .ref a_topA, .ref a_underA, .ref a_topB, .ref a_underB, .ref a_quotient, .ref a_otherQuotient])), (a_out, aB g 128 c_out), (a_one, aJ g 76 c_one), (a_digit, aI g 128 c_digit)] sz) := by
  refine sd_met (Qf := fun A => sd_Qv1 D g res (fun u : Int32 × (Nat → Int32) × (Nat → Int64) × (Nat → Int32) => [(mo, .inr (5, [.ref a_n, .ref a_d, .ref a_r, .ref a_count, .ref a_newN, .ref a_newD, .ref a_newR, .int m_made, .ref a_out, .int (u.1), .ref a_root, .ref a_rest, .ref a_square, .ref a_part, .ref a_plus, .ref a_minus, .ref a_low, .ref a_high, .ref a_one, .ref a_two, .int m_lowSign, .int m_highSign, .ref a_otherLow, .ref a_otherHigh, .ref a_digit, .ref a_topA, .ref a_underA, .ref a_topB, .ref a_underB, .ref a_quotient, .ref a_otherQuotient])), (a_out, aB g 128 (u.2.1)), (a_one, aJ g 76 (u.2.2.1)), (a_digit, aI g 128 (u.2.2.2))]) A) (own := R_Model) (by decide +kernel) rfl (Nat.le_of_ble_eq_true rfl) ?_
  intro p e s m args below meth c S hr hlk hK A hA Q hQ H locs hP hD hS ls hl
  have hx := S.1
  have hb := S.2.1
  have hml := S.2.2.1
  have hown := S.2.2.2.1
  have htt := sd_tt S
  replace hl : lv_has ls 6 [(0, .ref mo), (1, .int vPlaces)] := hl
  unfold mf_Model_digits at hm
  refine lv_iconst (v := (0 : Int32)) hx hb d_Model_digits_0 (by decide) ?_
  refine lv_istore_n (lv' := [(2, .int (0 : Int32)), (0, .ref mo), (1, .int vPlaces)]) hx hb d_Model_digits_1 rfl hl (by decide) rfl (fun ls hl => ?_)
  have L2 : ∀ (fu : Nat) (x2 : Int32) (uaone : Nat → Int64) (uadigit : Nat → Int32) (rx2 : Int32) (ruaone : Nat → Int64) (ruadigit : Nat → Int32), mf_Model_digits_L2 vPlaces F fu x2 uaone uadigit = some (rx2, ruaone, ruadigit) → ∀ (H : Heap) (locs : List Loc) (ls : Array Slot), va_P D classes [(mo, .inr (5, [.ref a_n, .ref a_d, .ref a_r, .ref a_count, .ref a_newN, .ref a_newD, .ref a_newR, .int m_made, .ref a_out, .int m_outCount, .ref a_root, .ref a_rest, .ref a_square, .ref a_part, .ref a_plus, .ref a_minus, .ref a_low, .ref a_high, .ref a_one, .ref a_two, .int m_lowSign, .int m_highSign, .ref a_otherLow, .ref a_otherHigh, .ref a_digit, .ref a_topA, .ref a_underA, .ref a_topB, .ref a_underB, .ref a_quotient, .ref a_otherQuotient])), (a_out, aB g 128 c_out), (a_one, aJ g 76 uaone), (a_digit, aI g 128 uadigit)] H → va_D A [(mo, .inr (5, [.ref a_n, .ref a_d, .ref a_r, .ref a_count, .ref a_newN, .ref a_newD, .ref a_newR, .int m_made, .ref a_out, .int m_outCount, .ref a_root, .ref a_rest, .ref a_square, .ref a_part, .ref a_plus, .ref a_minus, .ref a_low, .ref a_high, .ref a_one, .ref a_two, .int m_lowSign, .int m_highSign, .ref a_otherLow, .ref a_otherHigh, .ref a_digit, .ref a_topA, .ref a_underA, .ref a_topB, .ref a_underB, .ref a_quotient, .ref a_otherQuotient])), (a_out, aB g 128 c_out), (a_one, aJ g 76 uaone), (a_digit, aI g 128 uadigit)] → va_S A s.heap H locs → lv_has ls 6 [(0, .ref mo), (1, .int vPlaces), (2, .int x2)] → (∀ (H : Heap) (locs : List Loc) (ls : Array Slot), va_P D classes [(mo, .inr (5, [.ref a_n, .ref a_d, .ref a_r, .ref a_count, .ref a_newN, .ref a_newD, .ref a_newR, .int m_made, .ref a_out, .int m_outCount, .ref a_root, .ref a_rest, .ref a_square, .ref a_part, .ref a_plus, .ref a_minus, .ref a_low, .ref a_high, .ref a_one, .ref a_two, .int m_lowSign, .int m_highSign, .ref a_otherLow, .ref a_otherHigh, .ref a_digit, .ref a_topA, .ref a_underA, .ref a_topB, .ref a_underB, .ref a_quotient, .ref a_otherQuotient])), (a_out, aB g 128 c_out), (a_one, aJ g 76 ruaone), (a_digit, aI g 128 ruadigit)] H → va_D A [(mo, .inr (5, [.ref a_n, .ref a_d, .ref a_r, .ref a_count, .ref a_newN, .ref a_newD, .ref a_newR, .int m_made, .ref a_out, .int m_outCount, .ref a_root, .ref a_rest, .ref a_square, .ref a_part, .ref a_plus, .ref a_minus, .ref a_low, .ref a_high, .ref a_one, .ref a_two, .int m_lowSign, .int m_highSign, .ref a_otherLow, .ref a_otherHigh, .ref a_digit, .ref a_topA, .ref a_underA, .ref a_topB, .ref a_underB, .ref a_quotient, .ref a_otherQuotient])), (a_out, aB g 128 c_out), (a_one, aJ g 76 ruaone), (a_digit, aI g 128 ruadigit)] → va_S A s.heap H locs → lv_has ls 6 [(0, .ref mo), (1, .int vPlaces), (2, .int rx2)] → W p l e rm_Model_digits s m args below meth c H locs 0 0 Q (F0 m 86 ls [])) → W p l e rm_Model_digits s m args below meth c H locs 0 0 Q (F0 m 2 ls []) := by
    intro fu
    induction fu with
    | zero => intro x2 uaone uadigit rx2 ruaone ruadigit hm; exact absurd (show (none : Option (Int32 × (Nat → Int64) × (Nat → Int32))) = some (rx2, ruaone, ruadigit) from hm) (fun h => nomatch h)
    | succ fu ih =>
      intro x2 uaone uadigit rx2 ruaone ruadigit hm H locs ls hP hD hS hl kx86
      rw [mf_Model_digits_L2] at hm
      have J17 : ∀ (x2_1 : Int32) (uaone_1 : Nat → Int64) (uadigit_1 : Nat → Int32), mf_Model_digits_J17 F (mf_Model_digits_L2 vPlaces F fu) x2_1 uaone_1 uadigit_1 = some (rx2, ruaone, ruadigit) → ∀ (H : Heap) (locs : List Loc) (ls : Array Slot), va_P D classes [(mo, .inr (5, [.ref a_n, .ref a_d, .ref a_r, .ref a_count, .ref a_newN, .ref a_newD, .ref a_newR, .int m_made, .ref a_out, .int m_outCount, .ref a_root, .ref a_rest, .ref a_square, .ref a_part, .ref a_plus, .ref a_minus, .ref a_low, .ref a_high, .ref a_one, .ref a_two, .int m_lowSign, .int m_highSign, .ref a_otherLow, .ref a_otherHigh, .ref a_digit, .ref a_topA, .ref a_underA, .ref a_topB, .ref a_underB, .ref a_quotient, .ref a_otherQuotient])), (a_out, aB g 128 c_out), (a_one, aJ g 76 uaone_1), (a_digit, aI g 128 uadigit_1)] H → va_D A [(mo, .inr (5, [.ref a_n, .ref a_d, .ref a_r, .ref a_count, .ref a_newN, .ref a_newD, .ref a_newR, .int m_made, .ref a_out, .int m_outCount, .ref a_root, .ref a_rest, .ref a_square, .ref a_part, .ref a_plus, .ref a_minus, .ref a_low, .ref a_high, .ref a_one, .ref a_two, .int m_lowSign, .int m_highSign, .ref a_otherLow, .ref a_otherHigh, .ref a_digit, .ref a_topA, .ref a_underA, .ref a_topB, .ref a_underB, .ref a_quotient, .ref a_otherQuotient])), (a_out, aB g 128 c_out), (a_one, aJ g 76 uaone_1), (a_digit, aI g 128 uadigit_1)] → va_S A s.heap H locs → lv_has ls 6 [(0, .ref mo), (1, .int vPlaces), (2, .int x2_1)] → W p l e rm_Model_digits s m args below meth c H locs 0 0 Q (F0 m 17 ls []) := by
        intro x2_1 uaone_1 uadigit_1 hm H locs ls hP hD hS hl
        unfold mf_Model_digits_J17 at hm
        refine lv_lconst (v := (0 : Int64)) hx hb d_Model_digits_17 (by decide) ?_
        refine lv_lstore_n (lv' := [(3, .long (0 : Int64)), (0, .ref mo), (1, .int vPlaces), (2, .int x2_1)]) hx hb d_Model_digits_18 rfl hl (by decide) rfl (fun ls hl => ?_)
        refine lv_aload_n hx hb d_Model_digits_19 rfl (lv_at hl 1 rfl) ?_
        refine va_get (D := D) (ci := 5) (v := .ref a_one) (C := R_Model) (T := F_Model) (N := 31) hx hb htt i_Model hown hK hP 0 rfl rfl 18 (by decide) (htt _ kf_Model_60) (fun _ h9 => h9) rfl d_Model_digits_20 ?_
        obtain ⟨r, hc, hm⟩ := sd_mb1 hm
        refine sd_ci0 (wr := [(mo, .inr (5, [.ref a_n, .ref a_d, .ref a_r, .ref a_count, .ref a_newN, .ref a_newD, .ref a_newR, .int m_made, .ref a_out, .int m_outCount, .ref a_root, .ref a_rest, .ref a_square, .ref a_part, .ref a_plus, .ref a_minus, .ref a_low, .ref a_high, .ref a_one, .ref a_two, .int m_lowSign, .int m_highSign, .ref a_otherLow, .ref a_otherHigh, .ref a_digit, .ref a_topA, .ref a_underA, .ref a_topB, .ref a_underB, .ref a_quotient, .ref a_otherQuotient])), (a_out, aB g 128 c_out), (a_digit, aI g 128 uadigit_1)]) (w2 := [(mo, .inr (5, [.ref a_n, .ref a_d, .ref a_r, .ref a_count, .ref a_newN, .ref a_newD, .ref a_newR, .int m_made, .ref a_out, .int m_outCount, .ref a_root, .ref a_rest, .ref a_square, .ref a_part, .ref a_plus, .ref a_minus, .ref a_low, .ref a_high, .ref a_one, .ref a_two, .int m_lowSign, .int m_highSign, .ref a_otherLow, .ref a_otherHigh, .ref a_digit, .ref a_topA, .ref a_underA, .ref a_topB, .ref a_underB, .ref a_quotient, .ref a_otherQuotient])), (a_out, aB g 128 c_out), (a_digit, aI g 128 uadigit_1), (a_one, aJ g 76 uaone_1)]) (sd_runS (rest := []) (As := [.ref a_one]) S (ct_Model_size l D g a_one (H.size) uaone_1 F (r) hc) kl_Model_140 (by decide) (by decide) hK hP hD [2] rfl (by decide) rfl hl d_Model_digits_23 rfl (Nat.le_of_ble_eq_true rfl) ⟨Nat.zero_le _, Nat.zero_le _⟩) hP hD hS hA [2] [0, 1, 3] rfl rfl (by decide) (by decide) rfl (fun H locs hP hD hS => ?_)
        refine W.eq (g2 := F0 m 26 ls [.int r]) rfl ?_
        refine lv_iconst (v := (1 : Int32)) hx hb d_Model_digits_26 (by decide) ?_
        refine lv_isub hx hb d_Model_digits_27 ?_
        obtain ⟨x5, ex5, hm⟩ := sd_mlet hm
        refine sd_topi ex5 ?_
        refine lv_istore (lv' := [(5, .int x5), (3, .long (0 : Int64)), (0, .ref mo), (1, .int vPlaces), (2, .int x2_1)]) hx hb d_Model_digits_28 hl (by decide) rfl (fun ls hl => ?_)
        have L30 : ∀ (fu : Nat) (x3 : Int64) (x5_1 : Int32) (uaone_2 : Nat → Int64) (rx3 : Int64) (ruaone_1 : Nat → Int64), mf_Model_digits_L30  fu x3 x5_1 uaone_2 = some (rx3, ruaone_1) → ∀ (H : Heap) (locs : List Loc) (ls : Array Slot), va_P D classes [(mo, .inr (5, [.ref a_n, .ref a_d, .ref a_r, .ref a_count, .ref a_newN, .ref a_newD, .ref a_newR, .int m_made, .ref a_out, .int m_outCount, .ref a_root, .ref a_rest, .ref a_square, .ref a_part, .ref a_plus, .ref a_minus, .ref a_low, .ref a_high, .ref a_one, .ref a_two, .int m_lowSign, .int m_highSign, .ref a_otherLow, .ref a_otherHigh, .ref a_digit, .ref a_topA, .ref a_underA, .ref a_topB, .ref a_underB, .ref a_quotient, .ref a_otherQuotient])), (a_out, aB g 128 c_out), (a_digit, aI g 128 uadigit_1), (a_one, aJ g 76 uaone_2)] H → va_D A [(mo, .inr (5, [.ref a_n, .ref a_d, .ref a_r, .ref a_count, .ref a_newN, .ref a_newD, .ref a_newR, .int m_made, .ref a_out, .int m_outCount, .ref a_root, .ref a_rest, .ref a_square, .ref a_part, .ref a_plus, .ref a_minus, .ref a_low, .ref a_high, .ref a_one, .ref a_two, .int m_lowSign, .int m_highSign, .ref a_otherLow, .ref a_otherHigh, .ref a_digit, .ref a_topA, .ref a_underA, .ref a_topB, .ref a_underB, .ref a_quotient, .ref a_otherQuotient])), (a_out, aB g 128 c_out), (a_digit, aI g 128 uadigit_1), (a_one, aJ g 76 uaone_2)] → va_S A s.heap H locs → lv_has ls 6 [(0, .ref mo), (1, .int vPlaces), (2, .int x2_1), (3, .long x3), (5, .int x5_1)] → (∀ (H : Heap) (locs : List Loc) (ls : Array Slot), va_P D classes [(mo, .inr (5, [.ref a_n, .ref a_d, .ref a_r, .ref a_count, .ref a_newN, .ref a_newD, .ref a_newR, .int m_made, .ref a_out, .int m_outCount, .ref a_root, .ref a_rest, .ref a_square, .ref a_part, .ref a_plus, .ref a_minus, .ref a_low, .ref a_high, .ref a_one, .ref a_two, .int m_lowSign, .int m_highSign, .ref a_otherLow, .ref a_otherHigh, .ref a_digit, .ref a_topA, .ref a_underA, .ref a_topB, .ref a_underB, .ref a_quotient, .ref a_otherQuotient])), (a_out, aB g 128 c_out), (a_digit, aI g 128 uadigit_1), (a_one, aJ g 76 ruaone_1)] H → va_D A [(mo, .inr (5, [.ref a_n, .ref a_d, .ref a_r, .ref a_count, .ref a_newN, .ref a_newD, .ref a_newR, .int m_made, .ref a_out, .int m_outCount, .ref a_root, .ref a_rest, .ref a_square, .ref a_part, .ref a_plus, .ref a_minus, .ref a_low, .ref a_high, .ref a_one, .ref a_two, .int m_lowSign, .int m_highSign, .ref a_otherLow, .ref a_otherHigh, .ref a_digit, .ref a_topA, .ref a_underA, .ref a_topB, .ref a_underB, .ref a_quotient, .ref a_otherQuotient])), (a_out, aB g 128 c_out), (a_digit, aI g 128 uadigit_1), (a_one, aJ g 76 ruaone_1)] → va_S A s.heap H locs → lv_has ls 6 [(0, .ref mo), (1, .int vPlaces), (2, .int x2_1), (3, .long rx3)] → W p l e rm_Model_digits s m args below meth c H locs 0 0 Q (F0 m 72 ls [])) → W p l e rm_Model_digits s m args below meth c H locs 0 0 Q (F0 m 30 ls []) := by
          intro fu
          induction fu with
          | zero => intro x3 x5_1 uaone_2 rx3 ruaone_1 hm; exact absurd (show (none : Option (Int64 × (Nat → Int64))) = some (rx3, ruaone_1) from hm) (fun h => nomatch h)
          | succ fu ih =>
            intro x3 x5_1 uaone_2 rx3 ruaone_1 hm H locs ls hP hD hS hl kx72
            rw [mf_Model_digits_L30] at hm
            refine lv_iload hx hb d_Model_digits_30 (lv_at hl 4 rfl) ?_
            refine lv_if_lt (tgt := 72) hx hb d_Model_digits_32 (by decide) (fun hc => ?_) (fun hc => ?_)
            · have hm := sd_mt hc hm
              cases hm
              exact kx72 H locs ls (hP.sub [0, 1, 2, 3] rfl) (hD.sub [0, 1, 2, 3] (by decide) rfl) hS (lv_sub hl [0, 1, 2, 3] rfl)
            · have hm := sd_mf hc hm
              refine lv_lload_n hx hb d_Model_digits_35 rfl (lv_at hl 3 rfl) ?_
              refine lv_bipush (v := (32 : Int32)) hx hb d_Model_digits_36 (by decide) ?_
              refine lv_lshl hx hb d_Model_digits_38 rfl ?_
              refine lv_aload_n hx hb d_Model_digits_39 rfl (lv_at hl 0 rfl) ?_
              refine va_get (D := D) (ci := 5) (v := .ref a_one) (C := R_Model) (T := F_Model) (N := 31) hx hb htt i_Model hown hK hP 0 rfl rfl 18 (by decide) (htt _ kf_Model_60) (fun _ h9 => h9) rfl d_Model_digits_40 ?_
              refine lv_iload hx hb d_Model_digits_43 (lv_at hl 4 rfl) ?_
              obtain ⟨h_1, hm⟩ := sd_mg hm
              refine sd_lald hx hb hK hP 3 rfl h_1 d_Model_digits_45 ?_
              refine lv_lor hx hb d_Model_digits_46 ?_
              obtain ⟨x3_1, ex3_1, hm⟩ := sd_mlet hm
              refine sd_topj ex3_1 ?_
              refine lv_lstore_n (lv' := [(3, .long x3_1), (0, .ref mo), (1, .int vPlaces), (2, .int x2_1), (5, .int x5_1)]) hx hb d_Model_digits_47 rfl hl (by decide) rfl (fun ls hl => ?_)
              refine lv_aload_n hx hb d_Model_digits_48 rfl (lv_at hl 1 rfl) ?_
              refine va_get (D := D) (ci := 5) (v := .ref a_one) (C := R_Model) (T := F_Model) (N := 31) hx hb htt i_Model hown hK hP 0 rfl rfl 18 (by decide) (htt _ kf_Model_60) (fun _ h9 => h9) rfl d_Model_digits_49 ?_
              refine lv_iload hx hb d_Model_digits_52 (lv_at hl 4 rfl) ?_
              refine lv_lload_n hx hb d_Model_digits_54 rfl (lv_at hl 0 rfl) ?_
              refine sd_ldc2 (v := (10 : Int64)) hx hb hown (htt _ km_Model_261) d_Model_digits_55 ?_
              refine lv_ldiv hx hb d_Model_digits_58 (by decide) ?_
              obtain ⟨h_2, hm⟩ := sd_mg hm
              obtain ⟨uaone_3, euaone_3, hm⟩ := sd_mlet hm
              refine sd_last (f2 := uaone_3) (ws2 := [(mo, .inr (5, [.ref a_n, .ref a_d, .ref a_r, .ref a_count, .ref a_newN, .ref a_newD, .ref a_newR, .int m_made, .ref a_out, .int m_outCount, .ref a_root, .ref a_rest, .ref a_square, .ref a_part, .ref a_plus, .ref a_minus, .ref a_low, .ref a_high, .ref a_one, .ref a_two, .int m_lowSign, .int m_highSign, .ref a_otherLow, .ref a_otherHigh, .ref a_digit, .ref a_topA, .ref a_underA, .ref a_topB, .ref a_underB, .ref a_quotient, .ref a_otherQuotient])), (a_out, aB g 128 c_out), (a_digit, aI g 128 uadigit_1), (a_one, aJ g 76 uaone_3)]) hx hb hK hP hD hS 3 rfl h_2 euaone_3 rfl d_Model_digits_59 (fun H locs hP hD hS => ?_)
              refine lv_lload_n hx hb d_Model_digits_60 rfl (lv_at hl 0 rfl) ?_
              refine sd_ldc2 (v := (10 : Int64)) hx hb hown (htt _ km_Model_261) d_Model_digits_61 ?_
              refine lv_lrem hx hb d_Model_digits_64 (by decide) ?_
              obtain ⟨x3_2, ex3_2, hm⟩ := sd_mlet hm
              refine sd_topj ex3_2 ?_
              refine lv_lstore_n (lv' := [(3, .long x3_2), (0, .ref mo), (1, .int vPlaces), (2, .int x2_1), (5, .int x5_1)]) hx hb d_Model_digits_65 rfl hl (by decide) rfl (fun ls hl => ?_)
              obtain ⟨x5_2, ex5_2, hm⟩ := sd_mlet hm
              refine lv_iinc (v := x5_2) (lv' := [(5, .int x5_2), (3, .long x3_2), (0, .ref mo), (1, .int vPlaces), (2, .int x2_1)]) hx hb d_Model_digits_66 hl (k := 4) rfl (by rw [ex5_2]; rfl) (by decide) rfl (fun ls hl => ?_)
              refine lv_goto (tgt := 30) hx hb d_Model_digits_69 (by decide) ?_
              exact ih x3_2 x5_2 uaone_3 rx3 ruaone_1 hm H locs ls (hP.sub [0, 1, 2, 3] rfl) (hD.sub [0, 1, 2, 3] (by decide) rfl) hS (lv_sub hl [2, 3, 4, 1, 0] rfl) kx72
        obtain ⟨rx3, ruaone_1, hc, hm⟩ := sd_mb2 hm
        refine L30 F (0 : Int64) x5 uaone_1 rx3 ruaone_1 hc H locs ls (hP.sub [0, 1, 2, 3] rfl) (hD.sub [0, 1, 2, 3] (by decide) rfl) hS (lv_sub hl [2, 3, 4, 1, 0] rfl) ?_
        intro H locs ls hP hD hS hl
        refine lv_aload_n hx hb d_Model_digits_72 rfl (lv_at hl 0 rfl) ?_
        refine va_get (D := D) (ci := 5) (v := .ref a_digit) (C := R_Model) (T := F_Model) (N := 31) hx hb htt i_Model hown hK hP 0 rfl rfl 24 (by decide) (htt _ kf_Model_72) (fun _ h9 => h9) rfl d_Model_digits_73 ?_
        refine lv_iload_n hx hb d_Model_digits_76 rfl (lv_at hl 2 rfl) ?_
        refine lv_lload_n hx hb d_Model_digits_77 rfl (lv_at hl 3 rfl) ?_
        refine lv_l2i hx hb d_Model_digits_78 rfl ?_
        obtain ⟨h_3, hm⟩ := sd_mg hm
        obtain ⟨uadigit_2, euadigit_2, hm⟩ := sd_mlet hm
        refine sd_iast (f2 := uadigit_2) (ws2 := [(mo, .inr (5, [.ref a_n, .ref a_d, .ref a_r, .ref a_count, .ref a_newN, .ref a_newD, .ref a_newR, .int m_made, .ref a_out, .int m_outCount, .ref a_root, .ref a_rest, .ref a_square, .ref a_part, .ref a_plus, .ref a_minus, .ref a_low, .ref a_high, .ref a_one, .ref a_two, .int m_lowSign, .int m_highSign, .ref a_otherLow, .ref a_otherHigh, .ref a_digit, .ref a_topA, .ref a_underA, .ref a_topB, .ref a_underB, .ref a_quotient, .ref a_otherQuotient])), (a_out, aB g 128 c_out), (a_digit, aI g 128 uadigit_2), (a_one, aJ g 76 ruaone_1)]) hx hb hK hP hD hS 2 rfl h_3 euadigit_2 rfl d_Model_digits_79 (fun H locs hP hD hS => ?_)
        obtain ⟨x2_2, ex2_2, hm⟩ := sd_mlet hm
        refine lv_iinc (v := x2_2) (lv' := [(2, .int x2_2), (0, .ref mo), (1, .int vPlaces), (3, .long rx3)]) hx hb d_Model_digits_80 hl (k := 2) rfl (by rw [ex2_2]; rfl) (by decide) rfl (fun ls hl => ?_)
        refine lv_goto (tgt := 2) hx hb d_Model_digits_83 (by decide) ?_
        exact ih x2_2 ruaone_1 uadigit_2 rx2 ruaone ruadigit hm H locs ls (hP.sub [0, 1, 3, 2] rfl) (hD.sub [0, 1, 3, 2] (by decide) rfl) hS (lv_sub hl [1, 2, 0] rfl) kx86
      refine lv_iload_n hx hb d_Model_digits_2 rfl (lv_at hl 2 rfl) ?_
      refine lv_iload_n hx hb d_Model_digits_3 rfl (lv_at hl 1 rfl) ?_
      refine lv_icmp_le (tgt := 17) hx hb d_Model_digits_4 (by decide) (fun hc => ?_) (fun hc => ?_)
      · have hm := sd_mt hc hm
        exact J17 x2 uaone uadigit hm H locs ls (hP.sub [0, 1, 2, 3] rfl) (hD.sub [0, 1, 2, 3] (by decide) rfl) hS (lv_sub hl [0, 1, 2] rfl)
      · have hm := sd_mf hc hm
        refine lv_aload_n hx hb d_Model_digits_7 rfl (lv_at hl 0 rfl) ?_
        refine va_get (D := D) (ci := 5) (v := .ref a_one) (C := R_Model) (T := F_Model) (N := 31) hx hb htt i_Model hown hK hP 0 rfl rfl 18 (by decide) (htt _ kf_Model_60) (fun _ h9 => h9) rfl d_Model_digits_8 ?_
        obtain ⟨r_1, hc, hm⟩ := sd_mb1 hm
        refine sd_ci0 (wr := [(mo, .inr (5, [.ref a_n, .ref a_d, .ref a_r, .ref a_count, .ref a_newN, .ref a_newD, .ref a_newR, .int m_made, .ref a_out, .int m_outCount, .ref a_root, .ref a_rest, .ref a_square, .ref a_part, .ref a_plus, .ref a_minus, .ref a_low, .ref a_high, .ref a_one, .ref a_two, .int m_lowSign, .int m_highSign, .ref a_otherLow, .ref a_otherHigh, .ref a_digit, .ref a_topA, .ref a_underA, .ref a_topB, .ref a_underB, .ref a_quotient, .ref a_otherQuotient])), (a_out, aB g 128 c_out), (a_digit, aI g 128 uadigit)]) (w2 := [(mo, .inr (5, [.ref a_n, .ref a_d, .ref a_r, .ref a_count, .ref a_newN, .ref a_newD, .ref a_newR, .int m_made, .ref a_out, .int m_outCount, .ref a_root, .ref a_rest, .ref a_square, .ref a_part, .ref a_plus, .ref a_minus, .ref a_low, .ref a_high, .ref a_one, .ref a_two, .int m_lowSign, .int m_highSign, .ref a_otherLow, .ref a_otherHigh, .ref a_digit, .ref a_topA, .ref a_underA, .ref a_topB, .ref a_underB, .ref a_quotient, .ref a_otherQuotient])), (a_out, aB g 128 c_out), (a_digit, aI g 128 uadigit), (a_one, aJ g 76 uaone)]) (sd_runS (rest := []) (As := [.ref a_one]) S (ct_Model_size l D g a_one (H.size) uaone F (r_1) hc) kl_Model_140 (by decide) (by decide) hK hP hD [2] rfl (by decide) rfl hl d_Model_digits_11 rfl (Nat.le_of_ble_eq_true rfl) ⟨Nat.zero_le _, Nat.zero_le _⟩) hP hD hS hA [2] [0, 1, 3] rfl rfl (by decide) (by decide) rfl (fun H locs hP hD hS => ?_)
        refine W.eq (g2 := F0 m 14 ls [.int r_1]) rfl ?_
        refine lv_if_le (tgt := 86) hx hb d_Model_digits_14 (by decide) (fun hc => ?_) (fun hc => ?_)
        · have hm := sd_mt hc hm
          cases hm
          exact kx86 H locs ls (hP.sub [0, 1, 3, 2] rfl) (hD.sub [0, 1, 3, 2] (by decide) rfl) hS (lv_sub hl [0, 1, 2] rfl)
        · have hm := sd_mf hc hm
          exact J17 x2 uaone uadigit hm H locs ls (hP.sub [0, 1, 3, 2] rfl) (hD.sub [0, 1, 3, 2] (by decide) rfl) hS (lv_sub hl [0, 1, 2] rfl)
  obtain ⟨rx2, ruaone, ruadigit, hc, hm⟩ := sd_mb3 hm
  refine L2 F (0 : Int32) c_one c_digit rx2 ruaone ruadigit hc H locs ls (hP.sub [0, 1, 2, 3] rfl) (hD.sub [0, 1, 2, 3] (by decide) rfl) hS (lv_sub hl [1, 2, 0] rfl) ?_
  intro H locs ls hP hD hS hl
  refine lv_iload_n hx hb d_Model_digits_86 rfl (lv_at hl 2 rfl) ?_
  refine lv_iconst (v := (1 : Int32)) hx hb d_Model_digits_87 (by decide) ?_
  refine lv_isub hx hb d_Model_digits_88 ?_
  obtain ⟨x3_3, ex3_3, hm⟩ := sd_mlet hm
  refine sd_topi ex3_3 ?_
  refine lv_istore_n (lv' := [(3, .int x3_3), (0, .ref mo), (1, .int vPlaces), (2, .int rx2)]) hx hb d_Model_digits_89 rfl hl (by decide) rfl (fun ls hl => ?_)
  have L90 : ∀ (fu : Nat) (x3_4 : Int32) (umo : Int32) (uaout : Nat → Int32) (rumo : Int32) (ruaout : Nat → Int32), mf_Model_digits_L90 F ruadigit m_made m_lowSign m_highSign vPlaces fu x3_4 umo uaout = some (rumo, ruaout) → ∀ (H : Heap) (locs : List Loc) (ls : Array Slot), va_P D classes [(mo, .inr (5, [.ref a_n, .ref a_d, .ref a_r, .ref a_count, .ref a_newN, .ref a_newD, .ref a_newR, .int m_made, .ref a_out, .int umo, .ref a_root, .ref a_rest, .ref a_square, .ref a_part, .ref a_plus, .ref a_minus, .ref a_low, .ref a_high, .ref a_one, .ref a_two, .int m_lowSign, .int m_highSign, .ref a_otherLow, .ref a_otherHigh, .ref a_digit, .ref a_topA, .ref a_underA, .ref a_topB, .ref a_underB, .ref a_quotient, .ref a_otherQuotient])), (a_out, aB g 128 uaout), (a_one, aJ g 76 ruaone), (a_digit, aI g 128 ruadigit)] H → va_D A [(mo, .inr (5, [.ref a_n, .ref a_d, .ref a_r, .ref a_count, .ref a_newN, .ref a_newD, .ref a_newR, .int m_made, .ref a_out, .int umo, .ref a_root, .ref a_rest, .ref a_square, .ref a_part, .ref a_plus, .ref a_minus, .ref a_low, .ref a_high, .ref a_one, .ref a_two, .int m_lowSign, .int m_highSign, .ref a_otherLow, .ref a_otherHigh, .ref a_digit, .ref a_topA, .ref a_underA, .ref a_topB, .ref a_underB, .ref a_quotient, .ref a_otherQuotient])), (a_out, aB g 128 uaout), (a_one, aJ g 76 ruaone), (a_digit, aI g 128 ruadigit)] → va_S A s.heap H locs → lv_has ls 6 [(0, .ref mo), (1, .int vPlaces), (3, .int x3_4)] → (∀ (H : Heap) (locs : List Loc) (ls : Array Slot), va_P D classes [(mo, .inr (5, [.ref a_n, .ref a_d, .ref a_r, .ref a_count, .ref a_newN, .ref a_newD, .ref a_newR, .int m_made, .ref a_out, .int rumo, .ref a_root, .ref a_rest, .ref a_square, .ref a_part, .ref a_plus, .ref a_minus, .ref a_low, .ref a_high, .ref a_one, .ref a_two, .int m_lowSign, .int m_highSign, .ref a_otherLow, .ref a_otherHigh, .ref a_digit, .ref a_topA, .ref a_underA, .ref a_topB, .ref a_underB, .ref a_quotient, .ref a_otherQuotient])), (a_out, aB g 128 ruaout), (a_one, aJ g 76 ruaone), (a_digit, aI g 128 ruadigit)] H → va_D A [(mo, .inr (5, [.ref a_n, .ref a_d, .ref a_r, .ref a_count, .ref a_newN, .ref a_newD, .ref a_newR, .int m_made, .ref a_out, .int rumo, .ref a_root, .ref a_rest, .ref a_square, .ref a_part, .ref a_plus, .ref a_minus, .ref a_low, .ref a_high, .ref a_one, .ref a_two, .int m_lowSign, .int m_highSign, .ref a_otherLow, .ref a_otherHigh, .ref a_digit, .ref a_topA, .ref a_underA, .ref a_topB, .ref a_underB, .ref a_quotient, .ref a_otherQuotient])), (a_out, aB g 128 ruaout), (a_one, aJ g 76 ruaone), (a_digit, aI g 128 ruadigit)] → va_S A s.heap H locs → lv_has ls 6 [] → W p l e rm_Model_digits s m args below meth c H locs 0 0 Q (F0 m 128 ls [])) → W p l e rm_Model_digits s m args below meth c H locs 0 0 Q (F0 m 90 ls []) := by
    intro fu
    induction fu with
    | zero => intro x3_4 umo uaout rumo ruaout hm; exact absurd (show (none : Option (Int32 × (Nat → Int32))) = some (rumo, ruaout) from hm) (fun h => nomatch h)
    | succ fu ih =>
      intro x3_4 umo uaout rumo ruaout hm H locs ls hP hD hS hl kx128
      rw [mf_Model_digits_L90] at hm
      refine lv_iload_n hx hb d_Model_digits_90 rfl (lv_at hl 2 rfl) ?_
      refine lv_if_lt (tgt := 128) hx hb d_Model_digits_91 (by decide) (fun hc => ?_) (fun hc => ?_)
      · have hm := sd_mt hc hm
        cases hm
        exact kx128 H locs ls (hP.sub [0, 1, 2, 3] rfl) (hD.sub [0, 1, 2, 3] (by decide) rfl) hS (lv_sub hl [] rfl)
      · have hm := sd_mf hc hm
        refine lv_aload_n hx hb d_Model_digits_94 rfl (lv_at hl 0 rfl) ?_
        refine lv_bipush (v := (48 : Int32)) hx hb d_Model_digits_95 (by decide) ?_
        refine lv_aload_n hx hb d_Model_digits_97 rfl (lv_at hl 0 rfl) ?_
        refine va_get (D := D) (ci := 5) (v := .ref a_digit) (C := R_Model) (T := F_Model) (N := 31) hx hb htt i_Model hown hK hP 0 rfl rfl 24 (by decide) (htt _ kf_Model_72) (fun _ h9 => h9) rfl d_Model_digits_98 ?_
        refine lv_iload_n hx hb d_Model_digits_101 rfl (lv_at hl 2 rfl) ?_
        obtain ⟨h_4, hm⟩ := sd_mg hm
        refine sd_iald hx hb hK hP 3 rfl h_4 d_Model_digits_102 ?_
        refine lv_iadd hx hb d_Model_digits_103 ?_
        obtain ⟨umo_1, uaout_1, hc, hm⟩ := sd_mb2 hm
        refine sd_cv1 (wr := [(a_one, aJ g 76 ruaone), (a_digit, aI g 128 ruadigit)]) (w2 := [(a_one, aJ g 76 ruaone), (a_digit, aI g 128 ruadigit), (mo, .inr (5, [.ref a_n, .ref a_d, .ref a_r, .ref a_count, .ref a_newN, .ref a_newD, .ref a_newR, .int m_made, .ref a_out, .int umo_1, .ref a_root, .ref a_rest, .ref a_square, .ref a_part, .ref a_plus, .ref a_minus, .ref a_low, .ref a_high, .ref a_one, .ref a_two, .int m_lowSign, .int m_highSign, .ref a_otherLow, .ref a_otherHigh, .ref a_digit, .ref a_topA, .ref a_underA, .ref a_topB, .ref a_underB, .ref a_quotient, .ref a_otherQuotient])), (a_out, aB g 128 uaout_1)]) (sd_runV (rest := []) (As := [.int ((48 : Int32) + (ruadigit x3_4.toNatClampNeg))]) S (ct_Model_say l D g mo a_n a_d a_r a_count a_newN a_newD a_newR a_out a_root a_rest a_square a_part a_plus a_minus a_low a_high a_one a_two a_otherLow a_otherHigh a_digit a_topA a_underA a_topB a_underB a_quotient a_otherQuotient (H.size) ((48 : Int32) + (ruadigit x3_4.toNatClampNeg)) m_made umo m_lowSign m_highSign uaout F (umo_1, uaout_1) hc) kl_Model_266 (by decide) (by decide) hK hP hD [0, 1] rfl (by decide) rfl hl d_Model_digits_104 rfl (Nat.le_of_ble_eq_true rfl) ⟨Nat.zero_le _, Nat.zero_le _⟩ 0 rfl rfl) hP hD hS hA [0, 1] [2, 3] rfl rfl (by decide) (by decide) rfl (fun H locs hP hD hS => ?_)
        refine lv_iload_n hx hb d_Model_digits_107 rfl (lv_at hl 2 rfl) ?_
        refine lv_iload_n hx hb d_Model_digits_108 rfl (lv_at hl 1 rfl) ?_
        obtain ⟨umo_2, uaout_2, hv, hm⟩ := sd_mb2 hm
        have J122_5 : ∀ (H : Heap) (locs : List Loc) (ls : Array Slot), va_P D classes [(a_one, aJ g 76 ruaone), (a_digit, aI g 128 ruadigit), (mo, .inr (5, [.ref a_n, .ref a_d, .ref a_r, .ref a_count, .ref a_newN, .ref a_newD, .ref a_newR, .int m_made, .ref a_out, .int umo_2, .ref a_root, .ref a_rest, .ref a_square, .ref a_part, .ref a_plus, .ref a_minus, .ref a_low, .ref a_high, .ref a_one, .ref a_two, .int m_lowSign, .int m_highSign, .ref a_otherLow, .ref a_otherHigh, .ref a_digit, .ref a_topA, .ref a_underA, .ref a_topB, .ref a_underB, .ref a_quotient, .ref a_otherQuotient])), (a_out, aB g 128 uaout_2)] H → va_D A [(a_one, aJ g 76 ruaone), (a_digit, aI g 128 ruadigit), (mo, .inr (5, [.ref a_n, .ref a_d, .ref a_r, .ref a_count, .ref a_newN, .ref a_newD, .ref a_newR, .int m_made, .ref a_out, .int umo_2, .ref a_root, .ref a_rest, .ref a_square, .ref a_part, .ref a_plus, .ref a_minus, .ref a_low, .ref a_high, .ref a_one, .ref a_two, .int m_lowSign, .int m_highSign, .ref a_otherLow, .ref a_otherHigh, .ref a_digit, .ref a_topA, .ref a_underA, .ref a_topB, .ref a_underB, .ref a_quotient, .ref a_otherQuotient])), (a_out, aB g 128 uaout_2)] → va_S A s.heap H locs → lv_has ls 6 [(0, .ref mo), (1, .int vPlaces), (3, .int x3_4)] → W p l e rm_Model_digits s m args below meth c H locs 0 0 Q (F0 m 122 ls []) := by
          intro H locs ls hP hD hS hl
          obtain ⟨x3_5, ex3_5, hm⟩ := sd_mlet hm
          refine lv_iinc (v := x3_5) (lv' := [(3, .int x3_5), (0, .ref mo), (1, .int vPlaces)]) hx hb d_Model_digits_122 hl (k := 2) rfl (by rw [ex3_5]; rfl) (by decide) rfl (fun ls hl => ?_)
          refine lv_goto (tgt := 90) hx hb d_Model_digits_125 (by decide) ?_
          exact ih x3_5 umo_2 uaout_2 rumo ruaout hm H locs ls (hP.sub [2, 3, 0, 1] rfl) (hD.sub [2, 3, 0, 1] (by decide) rfl) hS (lv_sub hl [1, 2, 0] rfl) kx128
        replace hm := hv
        refine lv_icmp_ne (tgt := 122) hx hb d_Model_digits_109 (by decide) (fun hc => ?_) (fun hc => ?_)
        · have hm := sd_mf hc hm
          cases hm
          exact J122_5 H locs ls (hP.sub [0, 1, 2, 3] rfl) (hD.sub [0, 1, 2, 3] (by decide) rfl) hS (lv_sub hl [0, 1, 2] rfl)
        · have hm := sd_mt hc hm
          refine lv_iload_n hx hb d_Model_digits_112 rfl (lv_at hl 1 rfl) ?_
          refine lv_if_le (tgt := 122) hx hb d_Model_digits_113 (by decide) (fun hc => ?_) (fun hc => ?_)
          · have hm := sd_mt hc hm
            cases hm
            exact J122_5 H locs ls (hP.sub [0, 1, 2, 3] rfl) (hD.sub [0, 1, 2, 3] (by decide) rfl) hS (lv_sub hl [0, 1, 2] rfl)
          · have hm := sd_mf hc hm
            refine lv_aload_n hx hb d_Model_digits_116 rfl (lv_at hl 0 rfl) ?_
            refine lv_bipush (v := (46 : Int32)) hx hb d_Model_digits_117 (by decide) ?_
            obtain ⟨umo_3, uaout_3, hc, hm⟩ := sd_mb2 hm
            refine sd_cv1 (wr := [(a_one, aJ g 76 ruaone), (a_digit, aI g 128 ruadigit)]) (w2 := [(a_one, aJ g 76 ruaone), (a_digit, aI g 128 ruadigit), (mo, .inr (5, [.ref a_n, .ref a_d, .ref a_r, .ref a_count, .ref a_newN, .ref a_newD, .ref a_newR, .int m_made, .ref a_out, .int umo_3, .ref a_root, .ref a_rest, .ref a_square, .ref a_part, .ref a_plus, .ref a_minus, .ref a_low, .ref a_high, .ref a_one, .ref a_two, .int m_lowSign, .int m_highSign, .ref a_otherLow, .ref a_otherHigh, .ref a_digit, .ref a_topA, .ref a_underA, .ref a_topB, .ref a_underB, .ref a_quotient, .ref a_otherQuotient])), (a_out, aB g 128 uaout_3)]) (sd_runV (rest := []) (As := [.int (46 : Int32)]) S (ct_Model_say l D g mo a_n a_d a_r a_count a_newN a_newD a_newR a_out a_root a_rest a_square a_part a_plus a_minus a_low a_high a_one a_two a_otherLow a_otherHigh a_digit a_topA a_underA a_topB a_underB a_quotient a_otherQuotient (H.size) (46 : Int32) m_made umo_1 m_lowSign m_highSign uaout_1 F (umo_3, uaout_3) hc) kl_Model_266 (by decide) (by decide) hK hP hD [2, 3] rfl (by decide) rfl hl d_Model_digits_119 rfl (Nat.le_of_ble_eq_true rfl) ⟨Nat.zero_le _, Nat.zero_le _⟩ 2 rfl rfl) hP hD hS hA [2, 3] [0, 1] rfl rfl (by decide) (by decide) rfl (fun H locs hP hD hS => ?_)
            cases hm
            exact J122_5 H locs ls (hP.sub [0, 1, 2, 3] rfl) (hD.sub [0, 1, 2, 3] (by decide) rfl) hS (lv_sub hl [0, 1, 2] rfl)
  obtain ⟨rumo, ruaout, hc, hm⟩ := sd_mb2 hm
  refine L90 F x3_3 m_outCount c_out rumo ruaout hc H locs ls (hP.sub [0, 1, 2, 3] rfl) (hD.sub [0, 1, 2, 3] (by decide) rfl) hS (lv_sub hl [1, 2, 0] rfl) ?_
  intro H locs ls hP hD hS hl
  exact sd_v1ret (u := (rumo, ruaout, ruaone, ruadigit)) hQ hx hb hr hlk hK (hP.sub [0, 1, 2, 3] rfl) (hD.sub [0, 1, 2, 3] (by decide) rfl) hS (Option.some.inj hm).symm d_Model_digits_128
theorem d_Model_number_0 : decode b_Model_number 0 = .ok (.lload_n 1, 1) := by decide +kernel
theorem d_Model_number_1 : decode b_Model_number 1 = .ok (.ldc2_w 259, 3) := by decide +kernel
theorem d_Model_number_4 : decode b_Model_number 4 = .ok (.lcmp, 1) := by decide +kernel
theorem d_Model_number_5 : decode b_Model_number 5 = .ok (.ifCond .le 12, 3) := by decide +kernel
theorem d_Model_number_8 : decode b_Model_number 8 = .ok (.aload_n 0, 1) := by decide +kernel
theorem d_Model_number_9 : decode b_Model_number 9 = .ok (.lload_n 1, 1) := by decide +kernel
theorem d_Model_number_10 : decode b_Model_number 10 = .ok (.ldc2_w 261, 3) := by decide +kernel
theorem d_Model_number_13 : decode b_Model_number 13 = .ok (.ldiv, 1) := by decide +kernel
theorem d_Model_number_14 : decode b_Model_number 14 = .ok (.invokevirtual 263, 3) := by decide +kernel
theorem d_Model_number_17 : decode b_Model_number 17 = .ok (.aload_n 0, 1) := by decide +kernel
theorem d_Model_number_18 : decode b_Model_number 18 = .ok (.bipush 48, 2) := by decide +kernel
theorem d_Model_number_20 : decode b_Model_number 20 = .ok (.lload_n 1, 1) := by decide +kernel
theorem d_Model_number_21 : decode b_Model_number 21 = .ok (.ldc2_w 261, 3) := by decide +kernel
theorem d_Model_number_24 : decode b_Model_number 24 = .ok (.lrem, 1) := by decide +kernel
theorem d_Model_number_25 : decode b_Model_number 25 = .ok (.l2i, 1) := by decide +kernel
theorem d_Model_number_26 : decode b_Model_number 26 = .ok (.iadd, 1) := by decide +kernel
theorem d_Model_number_27 : decode b_Model_number 27 = .ok (.invokevirtual 266, 3) := by decide +kernel
theorem d_Model_number_30 : decode b_Model_number 30 = .ok (.return_, 1) := by decide +kernel
def mf_Model_number : Nat → Int64 → Int32 → Int32 → Int32 → Int32 → (Nat → Int32) → Option (Int32 × (Nat → Int32))
  | 0, _, _, _, _, _, _ => none
  | F + 1, vV, m_made, m_outCount, m_lowSign, m_highSign, c_out => (sd_b2 (if vV ≤ (9 : Int64) then (some (m_outCount, c_out)) else (sd_b2 (mf_Model_number F (vV / (10 : Int64)) m_made m_outCount m_lowSign m_highSign c_out) fun umo_1 uaout_1 => (some (umo_1, uaout_1)))) fun umo uaout => (sd_b2 (mf_Model_say F ((48 : Int32) + ((vV - vV / (10 : Int64) * (10 : Int64)).toInt32)) m_made umo m_lowSign m_highSign uaout) fun umo_2 uaout_2 => (some (umo_2, uaout_2))))
abbrev rm_Model_number (F : Nat) : Room := { frames := F + 1, cells := 0, slots := 0, locals := 32 * F + 32 }
set_option maxHeartbeats 4000000 in
set_option maxRecDepth 100000 in
theorem ct_Model_number (l : Launch) (D : va_G) (g : G4) (mo : Nat) (a_n : Nat) (a_d : Nat) (a_r : Nat) (a_count : Nat) (a_newN : Nat) (a_newD : Nat) (a_newR : Nat) (a_out : Nat) (a_root : Nat) (a_rest : Nat) (a_square : Nat) (a_part : Nat) (a_plus : Nat) (a_minus : Nat) (a_low : Nat) (a_high : Nat) (a_one : Nat) (a_two : Nat) (a_otherLow : Nat) (a_otherHigh : Nat) (a_digit : Nat) (a_topA : Nat) (a_underA : Nat) (a_topB : Nat) (a_underB : Nat) (a_quotient : Nat) (a_otherQuotient : Nat) : ∀ (F : Nat) (sz : Nat) (vV : Int64) (m_made : Int32) (m_outCount : Int32) (m_lowSign : Int32) (m_highSign : Int32) (c_out : Nat → Int32) (res : Int32 × (Nat → Int32)), mf_Model_number F vV m_made m_outCount m_lowSign m_highSign c_out = some res → Met l y_Model_number (.code y_Model_number b_Model_number 3 none :: sd_tb) (rm_Model_number F) (sd_PW D g [.ref mo, .long vV] sz [(mo, .inr (5, [.ref a_n, .ref a_d, .ref a_r, .ref a_count, .ref a_newN, .ref a_newD, .ref a_newR, .int m_made, .ref a_out, .int m_outCount, .ref a_root, .ref a_rest, .ref a_square, .ref a_part, .ref a_plus, .ref a_minus, .ref a_low, .ref a_high, .ref a_one, .ref a_two, .int m_lowSign, .int m_highSign, .ref a_otherLow, .ref a_otherHigh, .ref a_digit, .ref a_topA, .ref a_underA, .ref a_topB, .ref a_underB, .ref a_quotient, .ref a_otherQuotient])), (a_out, aB g 128 c_out)]) (sd_Qv1 D g res (fun u : Int32 × (Nat → Int32) => [(mo, .inr (5, [.ref a_n, .ref a_d, .ref a_r, .ref a_count, .ref a_newN, .ref a_newD, .ref a_newR, .int m_made, .ref a_out, .int (u.1), .ref a_root, .ref a_rest, .ref a_square, .ref a_part, .ref a_plus, .ref a_minus, .ref a_low, .ref a_high, .ref a_one, .ref a_two, .int m_lowSign, .int m_highSign, .ref a_otherLow, .ref a_otherHigh, .ref a_digit, .ref a_topA, .ref a_underA, .ref a_topB, .ref a_underB, .ref a_quotient, .ref a_otherQuotient])), (a_out, aB g 128 (u.2))]) (va_A [(mo, .inr (5, [.ref a_n, .ref a_d, .ref a_r, .ref a_count, .ref a_newN, .ref a_newD, .ref a_newR, .int m_made, .ref a_out, .int m_outCount, .ref a_root, .ref a_rest, .ref a_square, .ref a_part, .ref a_plus, .ref a_minus, .ref a_low, .ref a_high, .ref a_one, .ref a_two, .int m_lowSign, .int m_highSign, .ref a_otherLow, .ref a_otherHigh, .ref a_digit, .ref a_topA, .ref a_underA, .ref a_topB, .ref a_underB, .ref a_quotient, .ref a_otherQuotient])), (a_out, aB g 128 c_out)] sz)) 0 0 (va_A [(mo, .inr (5, [.ref a_n, .ref a_d, .ref a_r, .ref a_count, .ref a_newN, .ref a_newD, .ref a_newR, .int m_made, .ref a_out, .int m_outCount, .ref a_root, .ref a_rest, .ref a_square, .ref a_part, .ref a_plus, .ref a_minus, .ref a_low, .ref a_high, .ref a_one, .ref a_two, .int m_lowSign, .int m_highSign, .ref a_otherLow, .ref a_otherHigh, .ref a_digit, .ref a_topA, .ref a_underA, .ref a_topB, .ref a_underB, .ref a_quotient, .ref a_otherQuotient])), (a_out, aB g 128 c_out)] sz) := by
  intro F
  induction F with
  | zero => intro sz vV m_made m_outCount m_lowSign m_highSign c_out res hm; exact absurd (show (none : Option (Int32 × (Nat → Int32))) = some res from hm) (fun h => nomatch h)
  | succ F ih =>
    intro sz vV m_made m_outCount m_lowSign m_highSign c_out res hm
    refine sd_met (Qf := fun A => sd_Qv1 D g res (fun u : Int32 × (Nat → Int32) => [(mo, .inr (5, [.ref a_n, .ref a_d, .ref a_r, .ref a_count, .ref a_newN, .ref a_newD, .ref a_newR, .int m_made, .ref a_out, .int (u.1), .ref a_root, .ref a_rest, .ref a_square, .ref a_part, .ref a_plus, .ref a_minus, .ref a_low, .ref a_high, .ref a_one, .ref a_two, .int m_lowSign, .int m_highSign, .ref a_otherLow, .ref a_otherHigh, .ref a_digit, .ref a_topA, .ref a_underA, .ref a_topB, .ref a_underB, .ref a_quotient, .ref a_otherQuotient])), (a_out, aB g 128 (u.2))]) A) (own := R_Model) (by decide +kernel) rfl (Nat.le_of_ble_eq_true rfl) ?_
    intro p e s m args below meth c S hr hlk hK A hA Q hQ H locs hP hD hS ls hl
    have hx := S.1
    have hb := S.2.1
    have hml := S.2.2.1
    have hown := S.2.2.2.1
    have htt := sd_tt S
    replace hl : lv_has ls 3 [(0, .ref mo), (1, .long vV)] := hl
    rw [mf_Model_number] at hm
    refine lv_lload_n hx hb d_Model_number_0 rfl (lv_at hl 1 rfl) ?_
    refine sd_ldc2 (v := (9 : Int64)) hx hb hown (htt _ km_Model_259) d_Model_number_1 ?_
    obtain ⟨umo, uaout, hv, hm⟩ := sd_mb2 hm
    have J17_1 : ∀ (H : Heap) (locs : List Loc) (ls : Array Slot), va_P D classes [(mo, .inr (5, [.ref a_n, .ref a_d, .ref a_r, .ref a_count, .ref a_newN, .ref a_newD, .ref a_newR, .int m_made, .ref a_out, .int umo, .ref a_root, .ref a_rest, .ref a_square, .ref a_part, .ref a_plus, .ref a_minus, .ref a_low, .ref a_high, .ref a_one, .ref a_two, .int m_lowSign, .int m_highSign, .ref a_otherLow, .ref a_otherHigh, .ref a_digit, .ref a_topA, .ref a_underA, .ref a_topB, .ref a_underB, .ref a_quotient, .ref a_otherQuotient])), (a_out, aB g 128 uaout)] H → va_D A [(mo, .inr (5, [.ref a_n, .ref a_d, .ref a_r, .ref a_count, .ref a_newN, .ref a_newD, .ref a_newR, .int m_made, .ref a_out, .int umo, .ref a_root, .ref a_rest, .ref a_square, .ref a_part, .ref a_plus, .ref a_minus, .ref a_low, .ref a_high, .ref a_one, .ref a_two, .int m_lowSign, .int m_highSign, .ref a_otherLow, .ref a_otherHigh, .ref a_digit, .ref a_topA, .ref a_underA, .ref a_topB, .ref a_underB, .ref a_quotient, .ref a_otherQuotient])), (a_out, aB g 128 uaout)] → va_S A s.heap H locs → lv_has ls 3 [(0, .ref mo), (1, .long vV)] → W p l e (rm_Model_number (F + 1)) s m args below meth c H locs 0 0 Q (F0 m 17 ls []) := by
      intro H locs ls hP hD hS hl
      refine lv_aload_n hx hb d_Model_number_17 rfl (lv_at hl 0 rfl) ?_
      refine lv_bipush (v := (48 : Int32)) hx hb d_Model_number_18 (by decide) ?_
      refine lv_lload_n hx hb d_Model_number_20 rfl (lv_at hl 1 rfl) ?_
      refine sd_ldc2 (v := (10 : Int64)) hx hb hown (htt _ km_Model_261) d_Model_number_21 ?_
      refine lv_lrem hx hb d_Model_number_24 (by decide) ?_
      refine lv_l2i hx hb d_Model_number_25 rfl ?_
      refine lv_iadd hx hb d_Model_number_26 ?_
      obtain ⟨umo_2, uaout_2, hc, hm⟩ := sd_mb2 hm
      refine sd_cv1 (wr := []) (w2 := [(mo, .inr (5, [.ref a_n, .ref a_d, .ref a_r, .ref a_count, .ref a_newN, .ref a_newD, .ref a_newR, .int m_made, .ref a_out, .int umo_2, .ref a_root, .ref a_rest, .ref a_square, .ref a_part, .ref a_plus, .ref a_minus, .ref a_low, .ref a_high, .ref a_one, .ref a_two, .int m_lowSign, .int m_highSign, .ref a_otherLow, .ref a_otherHigh, .ref a_digit, .ref a_topA, .ref a_underA, .ref a_topB, .ref a_underB, .ref a_quotient, .ref a_otherQuotient])), (a_out, aB g 128 uaout_2)]) (sd_runV (rest := []) (As := [.int ((48 : Int32) + ((vV - vV / (10 : Int64) * (10 : Int64)).toInt32))]) S (ct_Model_say l D g mo a_n a_d a_r a_count a_newN a_newD a_newR a_out a_root a_rest a_square a_part a_plus a_minus a_low a_high a_one a_two a_otherLow a_otherHigh a_digit a_topA a_underA a_topB a_underB a_quotient a_otherQuotient (H.size) ((48 : Int32) + ((vV - vV / (10 : Int64) * (10 : Int64)).toInt32)) m_made umo m_lowSign m_highSign uaout F (umo_2, uaout_2) hc) kl_Model_266 (by simp only [rm_Model_number]; omega) ⟨rfl, rfl⟩ hK hP hD [0, 1] rfl (by decide) rfl hl d_Model_number_27 rfl (Nat.le_of_ble_eq_true rfl) ⟨Nat.zero_le _, Nat.zero_le _⟩ 0 rfl rfl) hP hD hS hA [0, 1] [] rfl rfl (by decide) (by decide) rfl (fun H locs hP hD hS => ?_)
      exact sd_v1ret (u := (umo_2, uaout_2)) hQ hx hb hr hlk hK (hP.sub [0, 1] rfl) (hD.sub [0, 1] (by decide) rfl) hS (Option.some.inj hm).symm d_Model_number_30
    replace hm := hv
    refine sd_lle (tgt := 17) hx hb d_Model_number_4 d_Model_number_5 (by decide) (fun hc => ?_) (fun hc => ?_)
    · have hm := sd_mt hc hm
      cases hm
      exact J17_1 H locs ls (hP.sub [0, 1] rfl) (hD.sub [0, 1] (by decide) rfl) hS (lv_sub hl [0, 1] rfl)
    · have hm := sd_mf hc hm
      refine lv_aload_n hx hb d_Model_number_8 rfl (lv_at hl 0 rfl) ?_
      refine lv_lload_n hx hb d_Model_number_9 rfl (lv_at hl 1 rfl) ?_
      refine sd_ldc2 (v := (10 : Int64)) hx hb hown (htt _ km_Model_261) d_Model_number_10 ?_
      refine lv_ldiv hx hb d_Model_number_13 (by decide) ?_
      obtain ⟨umo_1, uaout_1, hc, hm⟩ := sd_mb2 hm
      refine sd_cv1 (wr := []) (w2 := [(mo, .inr (5, [.ref a_n, .ref a_d, .ref a_r, .ref a_count, .ref a_newN, .ref a_newD, .ref a_newR, .int m_made, .ref a_out, .int umo_1, .ref a_root, .ref a_rest, .ref a_square, .ref a_part, .ref a_plus, .ref a_minus, .ref a_low, .ref a_high, .ref a_one, .ref a_two, .int m_lowSign, .int m_highSign, .ref a_otherLow, .ref a_otherHigh, .ref a_digit, .ref a_topA, .ref a_underA, .ref a_topB, .ref a_underB, .ref a_quotient, .ref a_otherQuotient])), (a_out, aB g 128 uaout_1)]) (sd_runV (rest := []) (As := [.long (vV / (10 : Int64))]) S (ih (H.size) (vV / (10 : Int64)) m_made m_outCount m_lowSign m_highSign c_out (umo_1, uaout_1) hc) kl_Model_263 (by simp only [rm_Model_number]; omega) ⟨rfl, rfl⟩ hK hP hD [0, 1] rfl (by decide) rfl hl d_Model_number_14 rfl (Nat.le_of_ble_eq_true rfl) ⟨Nat.zero_le _, Nat.zero_le _⟩ 0 rfl rfl) hP hD hS hA [0, 1] [] rfl rfl (by decide) (by decide) rfl (fun H locs hP hD hS => ?_)
      cases hm
      exact J17_1 H locs ls (hP.sub [0, 1] rfl) (hD.sub [0, 1] (by decide) rfl) hS (lv_sub hl [0, 1] rfl)
theorem d_Model_writeFraction_0 : decode b_Model_writeFraction 0 = .ok (.lload_n 1, 1) := by decide +kernel
theorem d_Model_writeFraction_1 : decode b_Model_writeFraction 1 = .ok (.lconst 0, 1) := by decide +kernel
theorem d_Model_writeFraction_2 : decode b_Model_writeFraction 2 = .ok (.lcmp, 1) := by decide +kernel
theorem d_Model_writeFraction_3 : decode b_Model_writeFraction 3 = .ok (.ifCond .ge 9, 3) := by decide +kernel
theorem d_Model_writeFraction_6 : decode b_Model_writeFraction 6 = .ok (.aload_n 0, 1) := by decide +kernel
theorem d_Model_writeFraction_7 : decode b_Model_writeFraction 7 = .ok (.bipush 45, 2) := by decide +kernel
theorem d_Model_writeFraction_9 : decode b_Model_writeFraction 9 = .ok (.invokevirtual 266, 3) := by decide +kernel
theorem d_Model_writeFraction_12 : decode b_Model_writeFraction 12 = .ok (.lload_n 1, 1) := by decide +kernel
theorem d_Model_writeFraction_13 : decode b_Model_writeFraction 13 = .ok (.invokestatic 132, 3) := by decide +kernel
theorem d_Model_writeFraction_16 : decode b_Model_writeFraction 16 = .ok (.lstore 6, 2) := by decide +kernel
theorem d_Model_writeFraction_18 : decode b_Model_writeFraction 18 = .ok (.aload_n 0, 1) := by decide +kernel
theorem d_Model_writeFraction_19 : decode b_Model_writeFraction 19 = .ok (.lload 6, 2) := by decide +kernel
theorem d_Model_writeFraction_21 : decode b_Model_writeFraction 21 = .ok (.lload_n 3, 1) := by decide +kernel
theorem d_Model_writeFraction_22 : decode b_Model_writeFraction 22 = .ok (.ldiv, 1) := by decide +kernel
theorem d_Model_writeFraction_23 : decode b_Model_writeFraction 23 = .ok (.invokevirtual 263, 3) := by decide +kernel
theorem d_Model_writeFraction_26 : decode b_Model_writeFraction 26 = .ok (.iload 5, 2) := by decide +kernel
theorem d_Model_writeFraction_28 : decode b_Model_writeFraction 28 = .ok (.ifCond .le 9, 3) := by decide +kernel
theorem d_Model_writeFraction_31 : decode b_Model_writeFraction 31 = .ok (.aload_n 0, 1) := by decide +kernel
theorem d_Model_writeFraction_32 : decode b_Model_writeFraction 32 = .ok (.bipush 46, 2) := by decide +kernel
theorem d_Model_writeFraction_34 : decode b_Model_writeFraction 34 = .ok (.invokevirtual 266, 3) := by decide +kernel
theorem d_Model_writeFraction_37 : decode b_Model_writeFraction 37 = .ok (.lload 6, 2) := by decide +kernel
theorem d_Model_writeFraction_39 : decode b_Model_writeFraction 39 = .ok (.lload_n 3, 1) := by decide +kernel
theorem d_Model_writeFraction_40 : decode b_Model_writeFraction 40 = .ok (.lrem, 1) := by decide +kernel
theorem d_Model_writeFraction_41 : decode b_Model_writeFraction 41 = .ok (.lstore 8, 2) := by decide +kernel
theorem d_Model_writeFraction_43 : decode b_Model_writeFraction 43 = .ok (.iconst 0, 1) := by decide +kernel
theorem d_Model_writeFraction_44 : decode b_Model_writeFraction 44 = .ok (.istore 10, 2) := by decide +kernel
theorem d_Model_writeFraction_46 : decode b_Model_writeFraction 46 = .ok (.iload 10, 2) := by decide +kernel
theorem d_Model_writeFraction_48 : decode b_Model_writeFraction 48 = .ok (.iload 5, 2) := by decide +kernel
theorem d_Model_writeFraction_50 : decode b_Model_writeFraction 50 = .ok (.if_icmp .ge 35, 3) := by decide +kernel
theorem d_Model_writeFraction_53 : decode b_Model_writeFraction 53 = .ok (.lload 8, 2) := by decide +kernel
theorem d_Model_writeFraction_55 : decode b_Model_writeFraction 55 = .ok (.ldc2_w 261, 3) := by decide +kernel
theorem d_Model_writeFraction_58 : decode b_Model_writeFraction 58 = .ok (.lmul, 1) := by decide +kernel
theorem d_Model_writeFraction_59 : decode b_Model_writeFraction 59 = .ok (.lstore 8, 2) := by decide +kernel
theorem d_Model_writeFraction_61 : decode b_Model_writeFraction 61 = .ok (.aload_n 0, 1) := by decide +kernel
theorem d_Model_writeFraction_62 : decode b_Model_writeFraction 62 = .ok (.bipush 48, 2) := by decide +kernel
theorem d_Model_writeFraction_64 : decode b_Model_writeFraction 64 = .ok (.lload 8, 2) := by decide +kernel
theorem d_Model_writeFraction_66 : decode b_Model_writeFraction 66 = .ok (.lload_n 3, 1) := by decide +kernel
theorem d_Model_writeFraction_67 : decode b_Model_writeFraction 67 = .ok (.ldiv, 1) := by decide +kernel
theorem d_Model_writeFraction_68 : decode b_Model_writeFraction 68 = .ok (.l2i, 1) := by decide +kernel
theorem d_Model_writeFraction_69 : decode b_Model_writeFraction 69 = .ok (.iadd, 1) := by decide +kernel
theorem d_Model_writeFraction_70 : decode b_Model_writeFraction 70 = .ok (.invokevirtual 266, 3) := by decide +kernel
theorem d_Model_writeFraction_73 : decode b_Model_writeFraction 73 = .ok (.lload 8, 2) := by decide +kernel
theorem d_Model_writeFraction_75 : decode b_Model_writeFraction 75 = .ok (.lload_n 3, 1) := by decide +kernel
theorem d_Model_writeFraction_76 : decode b_Model_writeFraction 76 = .ok (.lrem, 1) := by decide +kernel
theorem d_Model_writeFraction_77 : decode b_Model_writeFraction 77 = .ok (.lstore 8, 2) := by decide +kernel
theorem d_Model_writeFraction_79 : decode b_Model_writeFraction 79 = .ok (.iinc 10 1, 3) := by decide +kernel
theorem d_Model_writeFraction_82 : decode b_Model_writeFraction 82 = .ok (.goto (-36), 3) := by decide +kernel
theorem d_Model_writeFraction_85 : decode b_Model_writeFraction 85 = .ok (.return_, 1) := by decide +kernel
def mf_Model_writeFraction_L46 (vPlaces : Int32) (vB : Int64) (F : Nat) (m_made : Int32) (m_lowSign : Int32) (m_highSign : Int32) : Nat → Int64 → Int32 → Int32 → (Nat → Int32) → Option (Int32 × (Nat → Int32))
  | 0, _, _, _, _ => none
  | fu + 1, x8_1, x10, umo_5, uaout_5 => (if vPlaces ≤ x10 then (some (umo_5, uaout_5)) else (sd_let ((x8_1 * (10 : Int64))) fun x8_2 => (sd_g (sd_zJ vB) (sd_b2 (mf_Model_say F ((48 : Int32) + ((x8_2 / vB).toInt32)) m_made umo_5 m_lowSign m_highSign uaout_5) fun umo_6 uaout_6 => (sd_g (sd_zJ vB) (sd_let ((x8_2 - x8_2 / vB * vB)) fun x8_3 => (sd_let (x10 + (1 : Int32)) fun x10_1 => ((mf_Model_writeFraction_L46 vPlaces vB F m_made m_lowSign m_highSign fu) x8_3 x10_1 umo_6 uaout_6))))))))
def mf_Model_writeFraction (F : Nat) (vA : Int64) (vB : Int64) (vPlaces : Int32) (m_made : Int32) (m_outCount : Int32) (m_lowSign : Int32) (m_highSign : Int32) (c_out : Nat → Int32) : Option (Int32 × (Nat → Int32)) :=
  (sd_b2 (if (0 : Int64) ≤ vA then (some (m_outCount, c_out)) else (sd_b2 (mf_Model_say F (45 : Int32) m_made m_outCount m_lowSign m_highSign c_out) fun umo_1 uaout_1 => (some (umo_1, uaout_1)))) fun umo uaout => (sd_let ((if 0 < vA then vA else -vA)) fun x6 => (sd_g (sd_zJ vB) (sd_b2 (mf_Model_number 20 (x6 / vB) m_made umo m_lowSign m_highSign uaout) fun umo_2 uaout_2 => (sd_b2 (if vPlaces ≤ 0 then (some (umo_2, uaout_2)) else (sd_b2 (mf_Model_say F (46 : Int32) m_made umo_2 m_lowSign m_highSign uaout_2) fun umo_4 uaout_4 => (some (umo_4, uaout_4)))) fun umo_3 uaout_3 => (sd_g (sd_zJ vB) (sd_let ((x6 - x6 / vB * vB)) fun x8 => (sd_b2 (mf_Model_writeFraction_L46 vPlaces vB F m_made m_lowSign m_highSign F x8 (0 : Int32) umo_3 uaout_3) fun rumo ruaout => (some (rumo, ruaout))))))))))
abbrev rm_Model_writeFraction : Room := { frames := 22, cells := 0, slots := 0, locals := 694 }
set_option maxHeartbeats 4000000 in
set_option maxRecDepth 100000 in
theorem ct_Model_writeFraction (l : Launch) (D : va_G) (g : G4) (mo : Nat) (a_n : Nat) (a_d : Nat) (a_r : Nat) (a_count : Nat) (a_newN : Nat) (a_newD : Nat) (a_newR : Nat) (a_out : Nat) (a_root : Nat) (a_rest : Nat) (a_square : Nat) (a_part : Nat) (a_plus : Nat) (a_minus : Nat) (a_low : Nat) (a_high : Nat) (a_one : Nat) (a_two : Nat) (a_otherLow : Nat) (a_otherHigh : Nat) (a_digit : Nat) (a_topA : Nat) (a_underA : Nat) (a_topB : Nat) (a_underB : Nat) (a_quotient : Nat) (a_otherQuotient : Nat) (sz : Nat) (vA : Int64) (vB : Int64) (vPlaces : Int32) (m_made : Int32) (m_outCount : Int32) (m_lowSign : Int32) (m_highSign : Int32) (c_out : Nat → Int32) (F : Nat) (res : Int32 × (Nat → Int32)) (hm : mf_Model_writeFraction F vA vB vPlaces m_made m_outCount m_lowSign m_highSign c_out = some res) : Met l y_Model_writeFraction (.code y_Model_writeFraction b_Model_writeFraction 11 none :: sd_tb) rm_Model_writeFraction (sd_PW D g [.ref mo, .long vA, .long vB, .int vPlaces] sz [(mo, .inr (5, [.ref a_n, .ref a_d, .ref a_r, .ref a_count, .ref a_newN, .ref a_newD, .ref a_newR, .int m_made, .ref a_out, .int m_outCount, .ref a_root, .ref a_rest, .ref a_square, .ref a_part, .ref a_plus, .ref a_minus, .ref a_low, .ref a_high, .ref a_one, .ref a_two, .int m_lowSign, .int m_highSign, .ref a_otherLow, .ref a_otherHigh, .ref a_digit, .ref a_topA, .ref a_underA, .ref a_topB, .ref a_underB, .ref a_quotient, .ref a_otherQuotient])), (a_out, aB g 128 c_out)]) (sd_Qv1 D g res (fun u : Int32 × (Nat → Int32) => [(mo, .inr (5, [.ref a_n, .ref a_d, .ref a_r, .ref a_count, .ref a_newN, .ref a_newD, .ref a_newR, .int m_made, .ref a_out, .int (u.1), .ref a_root, .ref a_rest, .ref a_square, .ref a_part, .ref a_plus, .ref a_minus, .ref a_low, .ref a_high, .ref a_one, .ref a_two, .int m_lowSign, .int m_highSign, .ref a_otherLow, .ref a_otherHigh, .ref a_digit, .ref a_topA, .ref a_underA, .ref a_topB, .ref a_underB, .ref a_quotient, .ref a_otherQuotient])), (a_out, aB g 128 (u.2))]) (va_A [(mo, .inr (5, [.ref a_n, .ref a_d, .ref a_r, .ref a_count, .ref a_newN, .ref a_newD, .ref a_newR, .int m_made, .ref a_out, .int m_outCount, .ref a_root, .ref a_rest, .ref a_square, .ref a_part, .ref a_plus, .ref a_minus, .ref a_low, .ref a_high, .ref a_one, .ref a_two, .int m_lowSign, .int m_highSign, .ref a_otherLow, .ref a_otherHigh, .ref a_digit, .ref a_topA, .ref a_underA, .ref a_topB, .ref a_underB, .ref a_quotient, .ref a_otherQuotient])), (a_out, aB g 128 c_out)] sz)) 0 0 (va_A [(mo, .inr (5, [.ref a_n, .ref a_d, .ref a_r, .ref a_count, .ref a_newN, .ref a_newD, .ref a_newR, .int m_made, .ref a_out, .int m_outCount, .ref a_root, .ref a_rest, .ref a_square, .ref a_part, .ref a_plus, .ref a_minus, .ref a_low, .ref a_high, .ref a_one, .ref a_two, .int m_lowSign, .int m_highSign, .ref a_otherLow, .ref a_otherHigh, .ref a_digit, .ref a_topA, .ref a_underA, .ref a_topB, .ref a_underB, .ref a_quotient, .ref a_otherQuotient])), (a_out, aB g 128 c_out)] sz) := by
  refine sd_met (Qf := fun A => sd_Qv1 D g res (fun u : Int32 × (Nat → Int32) => [(mo, .inr (5, [.ref a_n, .ref a_d, .ref a_r, .ref a_count, .ref a_newN, .ref a_newD, .ref a_newR, .int m_made, .ref a_out, .int (u.1), .ref a_root, .ref a_rest, .ref a_square, .ref a_part, .ref a_plus, .ref a_minus, .ref a_low, .ref a_high, .ref a_one, .ref a_two, .int m_lowSign, .int m_highSign, .ref a_otherLow, .ref a_otherHigh, .ref a_digit, .ref a_topA, .ref a_underA, .ref a_topB, .ref a_underB, .ref a_quotient, .ref a_otherQuotient])), (a_out, aB g 128 (u.2))]) A) (own := R_Model) (by decide +kernel) rfl (Nat.le_of_ble_eq_true rfl) ?_
  intro p e s m args below meth c S hr hlk hK A hA Q hQ H locs hP hD hS ls hl
  have hx := S.1
  have hb := S.2.1
  have hml := S.2.2.1
  have hown := S.2.2.2.1
  have htt := sd_tt S
  replace hl : lv_has ls 11 [(0, .ref mo), (1, .long vA), (3, .long vB), (5, .int vPlaces)] := hl
  unfold mf_Model_writeFraction at hm
  refine lv_lload_n hx hb d_Model_writeFraction_0 rfl (lv_at hl 1 rfl) ?_
  refine lv_lconst (v := (0 : Int64)) hx hb d_Model_writeFraction_1 (by decide) ?_
  obtain ⟨umo, uaout, hv, hm⟩ := sd_mb2 hm
  have J12_1 : ∀ (H : Heap) (locs : List Loc) (ls : Array Slot), va_P D classes [(mo, .inr (5, [.ref a_n, .ref a_d, .ref a_r, .ref a_count, .ref a_newN, .ref a_newD, .ref a_newR, .int m_made, .ref a_out, .int umo, .ref a_root, .ref a_rest, .ref a_square, .ref a_part, .ref a_plus, .ref a_minus, .ref a_low, .ref a_high, .ref a_one, .ref a_two, .int m_lowSign, .int m_highSign, .ref a_otherLow, .ref a_otherHigh, .ref a_digit, .ref a_topA, .ref a_underA, .ref a_topB, .ref a_underB, .ref a_quotient, .ref a_otherQuotient])), (a_out, aB g 128 uaout)] H → va_D A [(mo, .inr (5, [.ref a_n, .ref a_d, .ref a_r, .ref a_count, .ref a_newN, .ref a_newD, .ref a_newR, .int m_made, .ref a_out, .int umo, .ref a_root, .ref a_rest, .ref a_square, .ref a_part, .ref a_plus, .ref a_minus, .ref a_low, .ref a_high, .ref a_one, .ref a_two, .int m_lowSign, .int m_highSign, .ref a_otherLow, .ref a_otherHigh, .ref a_digit, .ref a_topA, .ref a_underA, .ref a_topB, .ref a_underB, .ref a_quotient, .ref a_otherQuotient])), (a_out, aB g 128 uaout)] → va_S A s.heap H locs → lv_has ls 11 [(0, .ref mo), (1, .long vA), (3, .long vB), (5, .int vPlaces)] → W p l e rm_Model_writeFraction s m args below meth c H locs 0 0 Q (F0 m 12 ls []) := by
    intro H locs ls hP hD hS hl
    refine lv_lload_n hx hb d_Model_writeFraction_12 rfl (lv_at hl 1 rfl) ?_
    refine sd_abs hx hb hml hown kl_Model_132 htt hl d_Model_writeFraction_13 (Nat.le_of_ble_eq_true rfl) (Nat.le_of_ble_eq_true rfl) ?_
    obtain ⟨x6, ex6, hm⟩ := sd_mlet hm
    refine sd_topj ex6 ?_
    refine lv_lstore (lv' := [(6, .long x6), (0, .ref mo), (1, .long vA), (3, .long vB), (5, .int vPlaces)]) hx hb d_Model_writeFraction_16 hl (by decide) rfl (fun ls hl => ?_)
    refine lv_aload_n hx hb d_Model_writeFraction_18 rfl (lv_at hl 1 rfl) ?_
    refine lv_lload hx hb d_Model_writeFraction_19 (lv_at hl 0 rfl) ?_
    refine lv_lload_n hx hb d_Model_writeFraction_21 rfl (lv_at hl 3 rfl) ?_
    obtain ⟨h_2, hm⟩ := sd_mg hm
    refine lv_ldiv hx hb d_Model_writeFraction_22 (sd_nzJ h_2) ?_
    obtain ⟨umo_2, uaout_2, hc, hm⟩ := sd_mb2 hm
    refine sd_cv1 (wr := []) (w2 := [(mo, .inr (5, [.ref a_n, .ref a_d, .ref a_r, .ref a_count, .ref a_newN, .ref a_newD, .ref a_newR, .int m_made, .ref a_out, .int umo_2, .ref a_root, .ref a_rest, .ref a_square, .ref a_part, .ref a_plus, .ref a_minus, .ref a_low, .ref a_high, .ref a_one, .ref a_two, .int m_lowSign, .int m_highSign, .ref a_otherLow, .ref a_otherHigh, .ref a_digit, .ref a_topA, .ref a_underA, .ref a_topB, .ref a_underB, .ref a_quotient, .ref a_otherQuotient])), (a_out, aB g 128 uaout_2)]) (sd_runV (rest := []) (As := [.long (x6 / vB)]) S (ct_Model_number l D g mo a_n a_d a_r a_count a_newN a_newD a_newR a_out a_root a_rest a_square a_part a_plus a_minus a_low a_high a_one a_two a_otherLow a_otherHigh a_digit a_topA a_underA a_topB a_underB a_quotient a_otherQuotient 20 (H.size) (x6 / vB) m_made umo m_lowSign m_highSign uaout (umo_2, uaout_2) hc) kl_Model_263 (by decide) (by decide) hK hP hD [0, 1] rfl (by decide) rfl hl d_Model_writeFraction_23 rfl (Nat.le_of_ble_eq_true rfl) ⟨Nat.zero_le _, Nat.zero_le _⟩ 0 rfl rfl) hP hD hS hA [0, 1] [] rfl rfl (by decide) (by decide) rfl (fun H locs hP hD hS => ?_)
    refine lv_iload hx hb d_Model_writeFraction_26 (lv_at hl 4 rfl) ?_
    obtain ⟨umo_3, uaout_3, hv, hm⟩ := sd_mb2 hm
    have J37_3 : ∀ (H : Heap) (locs : List Loc) (ls : Array Slot), va_P D classes [(mo, .inr (5, [.ref a_n, .ref a_d, .ref a_r, .ref a_count, .ref a_newN, .ref a_newD, .ref a_newR, .int m_made, .ref a_out, .int umo_3, .ref a_root, .ref a_rest, .ref a_square, .ref a_part, .ref a_plus, .ref a_minus, .ref a_low, .ref a_high, .ref a_one, .ref a_two, .int m_lowSign, .int m_highSign, .ref a_otherLow, .ref a_otherHigh, .ref a_digit, .ref a_topA, .ref a_underA, .ref a_topB, .ref a_underB, .ref a_quotient, .ref a_otherQuotient])), (a_out, aB g 128 uaout_3)] H → va_D A [(mo, .inr (5, [.ref a_n, .ref a_d, .ref a_r, .ref a_count, .ref a_newN, .ref a_newD, .ref a_newR, .int m_made, .ref a_out, .int umo_3, .ref a_root, .ref a_rest, .ref a_square, .ref a_part, .ref a_plus, .ref a_minus, .ref a_low, .ref a_high, .ref a_one, .ref a_two, .int m_lowSign, .int m_highSign, .ref a_otherLow, .ref a_otherHigh, .ref a_digit, .ref a_topA, .ref a_underA, .ref a_topB, .ref a_underB, .ref a_quotient, .ref a_otherQuotient])), (a_out, aB g 128 uaout_3)] → va_S A s.heap H locs → lv_has ls 11 [(0, .ref mo), (3, .long vB), (5, .int vPlaces), (6, .long x6)] → W p l e rm_Model_writeFraction s m args below meth c H locs 0 0 Q (F0 m 37 ls []) := by
      intro H locs ls hP hD hS hl
      refine lv_lload hx hb d_Model_writeFraction_37 (lv_at hl 3 rfl) ?_
      refine lv_lload_n hx hb d_Model_writeFraction_39 rfl (lv_at hl 1 rfl) ?_
      obtain ⟨h_4, hm⟩ := sd_mg hm
      refine lv_lrem hx hb d_Model_writeFraction_40 (sd_nzJ h_4) ?_
      obtain ⟨x8, ex8, hm⟩ := sd_mlet hm
      refine sd_topj ex8 ?_
      refine lv_lstore (lv' := [(8, .long x8), (0, .ref mo), (3, .long vB), (5, .int vPlaces), (6, .long x6)]) hx hb d_Model_writeFraction_41 hl (by decide) rfl (fun ls hl => ?_)
      refine lv_iconst (v := (0 : Int32)) hx hb d_Model_writeFraction_43 (by decide) ?_
      refine lv_istore (lv' := [(10, .int (0 : Int32)), (8, .long x8), (0, .ref mo), (3, .long vB), (5, .int vPlaces), (6, .long x6)]) hx hb d_Model_writeFraction_44 hl (by decide) rfl (fun ls hl => ?_)
      have L46 : ∀ (fu : Nat) (x8_1 : Int64) (x10 : Int32) (umo_5 : Int32) (uaout_5 : Nat → Int32) (rumo : Int32) (ruaout : Nat → Int32), mf_Model_writeFraction_L46 vPlaces vB F m_made m_lowSign m_highSign fu x8_1 x10 umo_5 uaout_5 = some (rumo, ruaout) → ∀ (H : Heap) (locs : List Loc) (ls : Array Slot), va_P D classes [(mo, .inr (5, [.ref a_n, .ref a_d, .ref a_r, .ref a_count, .ref a_newN, .ref a_newD, .ref a_newR, .int m_made, .ref a_out, .int umo_5, .ref a_root, .ref a_rest, .ref a_square, .ref a_part, .ref a_plus, .ref a_minus, .ref a_low, .ref a_high, .ref a_one, .ref a_two, .int m_lowSign, .int m_highSign, .ref a_otherLow, .ref a_otherHigh, .ref a_digit, .ref a_topA, .ref a_underA, .ref a_topB, .ref a_underB, .ref a_quotient, .ref a_otherQuotient])), (a_out, aB g 128 uaout_5)] H → va_D A [(mo, .inr (5, [.ref a_n, .ref a_d, .ref a_r, .ref a_count, .ref a_newN, .ref a_newD, .ref a_newR, .int m_made, .ref a_out, .int umo_5, .ref a_root, .ref a_rest, .ref a_square, .ref a_part, .ref a_plus, .ref a_minus, .ref a_low, .ref a_high, .ref a_one, .ref a_two, .int m_lowSign, .int m_highSign, .ref a_otherLow, .ref a_otherHigh, .ref a_digit, .ref a_topA, .ref a_underA, .ref a_topB, .ref a_underB, .ref a_quotient, .ref a_otherQuotient])), (a_out, aB g 128 uaout_5)] → va_S A s.heap H locs → lv_has ls 11 [(0, .ref mo), (3, .long vB), (5, .int vPlaces), (8, .long x8_1), (10, .int x10)] → (∀ (H : Heap) (locs : List Loc) (ls : Array Slot), va_P D classes [(mo, .inr (5, [.ref a_n, .ref a_d, .ref a_r, .ref a_count, .ref a_newN, .ref a_newD, .ref a_newR, .int m_made, .ref a_out, .int rumo, .ref a_root, .ref a_rest, .ref a_square, .ref a_part, .ref a_plus, .ref a_minus, .ref a_low, .ref a_high, .ref a_one, .ref a_two, .int m_lowSign, .int m_highSign, .ref a_otherLow, .ref a_otherHigh, .ref a_digit, .ref a_topA, .ref a_underA, .ref a_topB, .ref a_underB, .ref a_quotient, .ref a_otherQuotient])), (a_out, aB g 128 ruaout)] H → va_D A [(mo, .inr (5, [.ref a_n, .ref a_d, .ref a_r, .ref a_count, .ref a_newN, .ref a_newD, .ref a_newR, .int m_made, .ref a_out, .int rumo, .ref a_root, .ref a_rest, .ref a_square, .ref a_part, .ref a_plus, .ref a_minus, .ref a_low, .ref a_high, .ref a_one, .ref a_two, .int m_lowSign, .int m_highSign, .ref a_otherLow, .ref a_otherHigh, .ref a_digit, .ref a_topA, .ref a_underA, .ref a_topB, .ref a_underB, .ref a_quotient, .ref a_otherQuotient])), (a_out, aB g 128 ruaout)] → va_S A s.heap H locs → lv_has ls 11 [] → W p l e rm_Model_writeFraction s m args below meth c H locs 0 0 Q (F0 m 85 ls [])) → W p l e rm_Model_writeFraction s m args below meth c H locs 0 0 Q (F0 m 46 ls []) := by
        intro fu
        induction fu with
        | zero => intro x8_1 x10 umo_5 uaout_5 rumo ruaout hm; exact absurd (show (none : Option (Int32 × (Nat → Int32))) = some (rumo, ruaout) from hm) (fun h => nomatch h)
        | succ fu ih =>
          intro x8_1 x10 umo_5 uaout_5 rumo ruaout hm H locs ls hP hD hS hl kx85
          rw [mf_Model_writeFraction_L46] at hm
          refine lv_iload hx hb d_Model_writeFraction_46 (lv_at hl 4 rfl) ?_
          refine lv_iload hx hb d_Model_writeFraction_48 (lv_at hl 2 rfl) ?_
          refine lv_icmp_ge (tgt := 85) hx hb d_Model_writeFraction_50 (by decide) (fun hc => ?_) (fun hc => ?_)
          · have hm := sd_mt hc hm
            cases hm
            exact kx85 H locs ls (hP.sub [0, 1] rfl) (hD.sub [0, 1] (by decide) rfl) hS (lv_sub hl [] rfl)
          · have hm := sd_mf hc hm
            refine lv_lload hx hb d_Model_writeFraction_53 (lv_at hl 3 rfl) ?_
            refine sd_ldc2 (v := (10 : Int64)) hx hb hown (htt _ km_Model_261) d_Model_writeFraction_55 ?_
            refine lv_lmul hx hb d_Model_writeFraction_58 ?_
            obtain ⟨x8_2, ex8_2, hm⟩ := sd_mlet hm
            refine sd_topj ex8_2 ?_
            refine lv_lstore (lv' := [(8, .long x8_2), (0, .ref mo), (3, .long vB), (5, .int vPlaces), (10, .int x10)]) hx hb d_Model_writeFraction_59 hl (by decide) rfl (fun ls hl => ?_)
            refine lv_aload_n hx hb d_Model_writeFraction_61 rfl (lv_at hl 1 rfl) ?_
            refine lv_bipush (v := (48 : Int32)) hx hb d_Model_writeFraction_62 (by decide) ?_
            refine lv_lload hx hb d_Model_writeFraction_64 (lv_at hl 0 rfl) ?_
            refine lv_lload_n hx hb d_Model_writeFraction_66 rfl (lv_at hl 2 rfl) ?_
            obtain ⟨h_5, hm⟩ := sd_mg hm
            refine lv_ldiv hx hb d_Model_writeFraction_67 (sd_nzJ h_5) ?_
            refine lv_l2i hx hb d_Model_writeFraction_68 rfl ?_
            refine lv_iadd hx hb d_Model_writeFraction_69 ?_
            obtain ⟨umo_6, uaout_6, hc, hm⟩ := sd_mb2 hm
            refine sd_cv1 (wr := []) (w2 := [(mo, .inr (5, [.ref a_n, .ref a_d, .ref a_r, .ref a_count, .ref a_newN, .ref a_newD, .ref a_newR, .int m_made, .ref a_out, .int umo_6, .ref a_root, .ref a_rest, .ref a_square, .ref a_part, .ref a_plus, .ref a_minus, .ref a_low, .ref a_high, .ref a_one, .ref a_two, .int m_lowSign, .int m_highSign, .ref a_otherLow, .ref a_otherHigh, .ref a_digit, .ref a_topA, .ref a_underA, .ref a_topB, .ref a_underB, .ref a_quotient, .ref a_otherQuotient])), (a_out, aB g 128 uaout_6)]) (sd_runV (rest := []) (As := [.int ((48 : Int32) + ((x8_2 / vB).toInt32))]) S (ct_Model_say l D g mo a_n a_d a_r a_count a_newN a_newD a_newR a_out a_root a_rest a_square a_part a_plus a_minus a_low a_high a_one a_two a_otherLow a_otherHigh a_digit a_topA a_underA a_topB a_underB a_quotient a_otherQuotient (H.size) ((48 : Int32) + ((x8_2 / vB).toInt32)) m_made umo_5 m_lowSign m_highSign uaout_5 F (umo_6, uaout_6) hc) kl_Model_266 (by decide) (by decide) hK hP hD [0, 1] rfl (by decide) rfl hl d_Model_writeFraction_70 rfl (Nat.le_of_ble_eq_true rfl) ⟨Nat.zero_le _, Nat.zero_le _⟩ 0 rfl rfl) hP hD hS hA [0, 1] [] rfl rfl (by decide) (by decide) rfl (fun H locs hP hD hS => ?_)
            refine lv_lload hx hb d_Model_writeFraction_73 (lv_at hl 0 rfl) ?_
            refine lv_lload_n hx hb d_Model_writeFraction_75 rfl (lv_at hl 2 rfl) ?_
            obtain ⟨h_6, hm⟩ := sd_mg hm
            refine lv_lrem hx hb d_Model_writeFraction_76 (sd_nzJ h_6) ?_
            obtain ⟨x8_3, ex8_3, hm⟩ := sd_mlet hm
            refine sd_topj ex8_3 ?_
            refine lv_lstore (lv' := [(8, .long x8_3), (0, .ref mo), (3, .long vB), (5, .int vPlaces), (10, .int x10)]) hx hb d_Model_writeFraction_77 hl (by decide) rfl (fun ls hl => ?_)
            obtain ⟨x10_1, ex10_1, hm⟩ := sd_mlet hm
            refine lv_iinc (v := x10_1) (lv' := [(10, .int x10_1), (8, .long x8_3), (0, .ref mo), (3, .long vB), (5, .int vPlaces)]) hx hb d_Model_writeFraction_79 hl (k := 4) rfl (by rw [ex10_1]; rfl) (by decide) rfl (fun ls hl => ?_)
            refine lv_goto (tgt := 46) hx hb d_Model_writeFraction_82 (by decide) ?_
            exact ih x8_3 x10_1 umo_6 uaout_6 rumo ruaout hm H locs ls (hP.sub [0, 1] rfl) (hD.sub [0, 1] (by decide) rfl) hS (lv_sub hl [2, 3, 4, 1, 0] rfl) kx85
      obtain ⟨rumo, ruaout, hc, hm⟩ := sd_mb2 hm
      refine L46 F x8 (0 : Int32) umo_3 uaout_3 rumo ruaout hc H locs ls (hP.sub [0, 1] rfl) (hD.sub [0, 1] (by decide) rfl) hS (lv_sub hl [2, 3, 4, 1, 0] rfl) ?_
      intro H locs ls hP hD hS hl
      exact sd_v1ret (u := (rumo, ruaout)) hQ hx hb hr hlk hK (hP.sub [0, 1] rfl) (hD.sub [0, 1] (by decide) rfl) hS (Option.some.inj hm).symm d_Model_writeFraction_85
    replace hm := hv
    refine lv_if_le (tgt := 37) hx hb d_Model_writeFraction_28 (by decide) (fun hc => ?_) (fun hc => ?_)
    · have hm := sd_mt hc hm
      cases hm
      exact J37_3 H locs ls (hP.sub [0, 1] rfl) (hD.sub [0, 1] (by decide) rfl) hS (lv_sub hl [1, 3, 4, 0] rfl)
    · have hm := sd_mf hc hm
      refine lv_aload_n hx hb d_Model_writeFraction_31 rfl (lv_at hl 1 rfl) ?_
      refine lv_bipush (v := (46 : Int32)) hx hb d_Model_writeFraction_32 (by decide) ?_
      obtain ⟨umo_4, uaout_4, hc, hm⟩ := sd_mb2 hm
      refine sd_cv1 (wr := []) (w2 := [(mo, .inr (5, [.ref a_n, .ref a_d, .ref a_r, .ref a_count, .ref a_newN, .ref a_newD, .ref a_newR, .int m_made, .ref a_out, .int umo_4, .ref a_root, .ref a_rest, .ref a_square, .ref a_part, .ref a_plus, .ref a_minus, .ref a_low, .ref a_high, .ref a_one, .ref a_two, .int m_lowSign, .int m_highSign, .ref a_otherLow, .ref a_otherHigh, .ref a_digit, .ref a_topA, .ref a_underA, .ref a_topB, .ref a_underB, .ref a_quotient, .ref a_otherQuotient])), (a_out, aB g 128 uaout_4)]) (sd_runV (rest := []) (As := [.int (46 : Int32)]) S (ct_Model_say l D g mo a_n a_d a_r a_count a_newN a_newD a_newR a_out a_root a_rest a_square a_part a_plus a_minus a_low a_high a_one a_two a_otherLow a_otherHigh a_digit a_topA a_underA a_topB a_underB a_quotient a_otherQuotient (H.size) (46 : Int32) m_made umo_2 m_lowSign m_highSign uaout_2 F (umo_4, uaout_4) hc) kl_Model_266 (by decide) (by decide) hK hP hD [0, 1] rfl (by decide) rfl hl d_Model_writeFraction_34 rfl (Nat.le_of_ble_eq_true rfl) ⟨Nat.zero_le _, Nat.zero_le _⟩ 0 rfl rfl) hP hD hS hA [0, 1] [] rfl rfl (by decide) (by decide) rfl (fun H locs hP hD hS => ?_)
      cases hm
      exact J37_3 H locs ls (hP.sub [0, 1] rfl) (hD.sub [0, 1] (by decide) rfl) hS (lv_sub hl [1, 3, 4, 0] rfl)
  replace hm := hv
  refine sd_lge (tgt := 12) hx hb d_Model_writeFraction_2 d_Model_writeFraction_3 (by decide) (fun hc => ?_) (fun hc => ?_)
  · have hm := sd_mt hc hm
    cases hm
    exact J12_1 H locs ls (hP.sub [0, 1] rfl) (hD.sub [0, 1] (by decide) rfl) hS (lv_sub hl [0, 1, 2, 3] rfl)
  · have hm := sd_mf hc hm
    refine lv_aload_n hx hb d_Model_writeFraction_6 rfl (lv_at hl 0 rfl) ?_
    refine lv_bipush (v := (45 : Int32)) hx hb d_Model_writeFraction_7 (by decide) ?_
    obtain ⟨umo_1, uaout_1, hc, hm⟩ := sd_mb2 hm
    refine sd_cv1 (wr := []) (w2 := [(mo, .inr (5, [.ref a_n, .ref a_d, .ref a_r, .ref a_count, .ref a_newN, .ref a_newD, .ref a_newR, .int m_made, .ref a_out, .int umo_1, .ref a_root, .ref a_rest, .ref a_square, .ref a_part, .ref a_plus, .ref a_minus, .ref a_low, .ref a_high, .ref a_one, .ref a_two, .int m_lowSign, .int m_highSign, .ref a_otherLow, .ref a_otherHigh, .ref a_digit, .ref a_topA, .ref a_underA, .ref a_topB, .ref a_underB, .ref a_quotient, .ref a_otherQuotient])), (a_out, aB g 128 uaout_1)]) (sd_runV (rest := []) (As := [.int (45 : Int32)]) S (ct_Model_say l D g mo a_n a_d a_r a_count a_newN a_newD a_newR a_out a_root a_rest a_square a_part a_plus a_minus a_low a_high a_one a_two a_otherLow a_otherHigh a_digit a_topA a_underA a_topB a_underB a_quotient a_otherQuotient (H.size) (45 : Int32) m_made m_outCount m_lowSign m_highSign c_out F (umo_1, uaout_1) hc) kl_Model_266 (by decide) (by decide) hK hP hD [0, 1] rfl (by decide) rfl hl d_Model_writeFraction_9 rfl (Nat.le_of_ble_eq_true rfl) ⟨Nat.zero_le _, Nat.zero_le _⟩ 0 rfl rfl) hP hD hS hA [0, 1] [] rfl rfl (by decide) (by decide) rfl (fun H locs hP hD hS => ?_)
    cases hm
    exact J12_1 H locs ls (hP.sub [0, 1] rfl) (hD.sub [0, 1] (by decide) rfl) hS (lv_sub hl [0, 1, 2, 3] rfl)
theorem d_Model_write_0 : decode b_Model_write 0 = .ok (.iload_n 1, 1) := by decide +kernel
theorem d_Model_write_1 : decode b_Model_write 1 = .ok (.invokestatic 109, 3) := by decide +kernel
theorem d_Model_write_4 : decode b_Model_write 4 = .ok (.ifCond .eq 13, 3) := by decide +kernel
theorem d_Model_write_7 : decode b_Model_write 7 = .ok (.iload_n 2, 1) := by decide +kernel
theorem d_Model_write_8 : decode b_Model_write 8 = .ok (.ifCond .lt 9, 3) := by decide +kernel
theorem d_Model_write_11 : decode b_Model_write 11 = .ok (.iload_n 2, 1) := by decide +kernel
theorem d_Model_write_12 : decode b_Model_write 12 = .ok (.bipush 80, 2) := by decide +kernel
theorem d_Model_write_14 : decode b_Model_write 14 = .ok (.if_icmp .le 5, 3) := by decide +kernel
theorem d_Model_write_17 : decode b_Model_write 17 = .ok (.iconst (-1), 1) := by decide +kernel
theorem d_Model_write_18 : decode b_Model_write 18 = .ok (.ireturn, 1) := by decide +kernel
theorem d_Model_write_19 : decode b_Model_write 19 = .ok (.aload_n 0, 1) := by decide +kernel
theorem d_Model_write_20 : decode b_Model_write 20 = .ok (.iload_n 1, 1) := by decide +kernel
theorem d_Model_write_21 : decode b_Model_write 21 = .ok (.invokevirtual 121, 3) := by decide +kernel
theorem d_Model_write_24 : decode b_Model_write 24 = .ok (.ifCond .eq 62, 3) := by decide +kernel
theorem d_Model_write_27 : decode b_Model_write 27 = .ok (.aload_n 0, 1) := by decide +kernel
theorem d_Model_write_28 : decode b_Model_write 28 = .ok (.iconst 0, 1) := by decide +kernel
theorem d_Model_write_29 : decode b_Model_write 29 = .ok (.putfield 256, 3) := by decide +kernel
theorem d_Model_write_32 : decode b_Model_write 32 = .ok (.aload_n 0, 1) := by decide +kernel
theorem d_Model_write_33 : decode b_Model_write 33 = .ok (.aload_n 0, 1) := by decide +kernel
theorem d_Model_write_34 : decode b_Model_write 34 = .ok (.getfield 19, 3) := by decide +kernel
theorem d_Model_write_37 : decode b_Model_write 37 = .ok (.iload_n 1, 1) := by decide +kernel
theorem d_Model_write_38 : decode b_Model_write 38 = .ok (.iaload, 1) := by decide +kernel
theorem d_Model_write_39 : decode b_Model_write 39 = .ok (.ifCond .ne 7, 3) := by decide +kernel
theorem d_Model_write_42 : decode b_Model_write 42 = .ok (.lconst 0, 1) := by decide +kernel
theorem d_Model_write_43 : decode b_Model_write 43 = .ok (.goto 12, 3) := by decide +kernel
theorem d_Model_write_46 : decode b_Model_write 46 = .ok (.aload_n 0, 1) := by decide +kernel
theorem d_Model_write_47 : decode b_Model_write 47 = .ok (.getfield 9, 3) := by decide +kernel
theorem d_Model_write_50 : decode b_Model_write 50 = .ok (.bipush 8, 2) := by decide +kernel
theorem d_Model_write_52 : decode b_Model_write 52 = .ok (.iload_n 1, 1) := by decide +kernel
theorem d_Model_write_53 : decode b_Model_write 53 = .ok (.imul, 1) := by decide +kernel
theorem d_Model_write_54 : decode b_Model_write 54 = .ok (.laload, 1) := by decide +kernel
theorem d_Model_write_55 : decode b_Model_write 55 = .ok (.aload_n 0, 1) := by decide +kernel
theorem d_Model_write_56 : decode b_Model_write 56 = .ok (.getfield 19, 3) := by decide +kernel
theorem d_Model_write_59 : decode b_Model_write 59 = .ok (.iload_n 1, 1) := by decide +kernel
theorem d_Model_write_60 : decode b_Model_write 60 = .ok (.iaload, 1) := by decide +kernel
theorem d_Model_write_61 : decode b_Model_write 61 = .ok (.ifCond .ne 7, 3) := by decide +kernel
theorem d_Model_write_64 : decode b_Model_write 64 = .ok (.lconst 1, 1) := by decide +kernel
theorem d_Model_write_65 : decode b_Model_write 65 = .ok (.goto 12, 3) := by decide +kernel
theorem d_Model_write_68 : decode b_Model_write 68 = .ok (.aload_n 0, 1) := by decide +kernel
theorem d_Model_write_69 : decode b_Model_write 69 = .ok (.getfield 13, 3) := by decide +kernel
theorem d_Model_write_72 : decode b_Model_write 72 = .ok (.bipush 8, 2) := by decide +kernel
theorem d_Model_write_74 : decode b_Model_write 74 = .ok (.iload_n 1, 1) := by decide +kernel
theorem d_Model_write_75 : decode b_Model_write 75 = .ok (.imul, 1) := by decide +kernel
theorem d_Model_write_76 : decode b_Model_write 76 = .ok (.laload, 1) := by decide +kernel
theorem d_Model_write_77 : decode b_Model_write 77 = .ok (.iload_n 2, 1) := by decide +kernel
theorem d_Model_write_78 : decode b_Model_write 78 = .ok (.invokevirtual 269, 3) := by decide +kernel
theorem d_Model_write_81 : decode b_Model_write 81 = .ok (.aload_n 0, 1) := by decide +kernel
theorem d_Model_write_82 : decode b_Model_write 82 = .ok (.getfield 256, 3) := by decide +kernel
theorem d_Model_write_85 : decode b_Model_write 85 = .ok (.ireturn, 1) := by decide +kernel
theorem d_Model_write_86 : decode b_Model_write 86 = .ok (.aload_n 0, 1) := by decide +kernel
theorem d_Model_write_87 : decode b_Model_write 87 = .ok (.iload_n 1, 1) := by decide +kernel
theorem d_Model_write_88 : decode b_Model_write 88 = .ok (.invokevirtual 218, 3) := by decide +kernel
theorem d_Model_write_91 : decode b_Model_write 91 = .ok (.aload_n 0, 1) := by decide +kernel
theorem d_Model_write_92 : decode b_Model_write 92 = .ok (.getfield 208, 3) := by decide +kernel
theorem d_Model_write_95 : decode b_Model_write 95 = .ok (.ifCond .gt 13, 3) := by decide +kernel
theorem d_Model_write_98 : decode b_Model_write 98 = .ok (.aload_n 0, 1) := by decide +kernel
theorem d_Model_write_99 : decode b_Model_write 99 = .ok (.getfield 211, 3) := by decide +kernel
theorem d_Model_write_102 : decode b_Model_write 102 = .ok (.ifCond .lt 6, 3) := by decide +kernel
theorem d_Model_write_105 : decode b_Model_write 105 = .ok (.bipush (-4), 2) := by decide +kernel
theorem d_Model_write_107 : decode b_Model_write 107 = .ok (.ireturn, 1) := by decide +kernel
theorem d_Model_write_108 : decode b_Model_write 108 = .ok (.aload_n 0, 1) := by decide +kernel
theorem d_Model_write_109 : decode b_Model_write 109 = .ok (.getfield 54, 3) := by decide +kernel
theorem d_Model_write_112 : decode b_Model_write 112 = .ok (.aload_n 0, 1) := by decide +kernel
theorem d_Model_write_113 : decode b_Model_write 113 = .ok (.getfield 60, 3) := by decide +kernel
theorem d_Model_write_116 : decode b_Model_write 116 = .ok (.invokestatic 172, 3) := by decide +kernel
theorem d_Model_write_119 : decode b_Model_write 119 = .ok (.aload_n 0, 1) := by decide +kernel
theorem d_Model_write_120 : decode b_Model_write 120 = .ok (.getfield 57, 3) := by decide +kernel
theorem d_Model_write_123 : decode b_Model_write 123 = .ok (.aload_n 0, 1) := by decide +kernel
theorem d_Model_write_124 : decode b_Model_write 124 = .ok (.getfield 63, 3) := by decide +kernel
theorem d_Model_write_127 : decode b_Model_write 127 = .ok (.invokestatic 172, 3) := by decide +kernel
theorem d_Model_write_130 : decode b_Model_write 130 = .ok (.iconst 0, 1) := by decide +kernel
theorem d_Model_write_131 : decode b_Model_write 131 = .ok (.istore_n 3, 1) := by decide +kernel
theorem d_Model_write_132 : decode b_Model_write 132 = .ok (.iload_n 3, 1) := by decide +kernel
theorem d_Model_write_133 : decode b_Model_write 133 = .ok (.iload_n 2, 1) := by decide +kernel
theorem d_Model_write_134 : decode b_Model_write 134 = .ok (.if_icmp .ge 29, 3) := by decide +kernel
theorem d_Model_write_137 : decode b_Model_write 137 = .ok (.aload_n 0, 1) := by decide +kernel
theorem d_Model_write_138 : decode b_Model_write 138 = .ok (.getfield 60, 3) := by decide +kernel
theorem d_Model_write_141 : decode b_Model_write 141 = .ok (.ldc2_w 261, 3) := by decide +kernel
theorem d_Model_write_144 : decode b_Model_write 144 = .ok (.invokestatic 183, 3) := by decide +kernel
theorem d_Model_write_147 : decode b_Model_write 147 = .ok (.aload_n 0, 1) := by decide +kernel
theorem d_Model_write_148 : decode b_Model_write 148 = .ok (.getfield 63, 3) := by decide +kernel
theorem d_Model_write_151 : decode b_Model_write 151 = .ok (.ldc2_w 261, 3) := by decide +kernel
theorem d_Model_write_154 : decode b_Model_write 154 = .ok (.invokestatic 183, 3) := by decide +kernel
theorem d_Model_write_157 : decode b_Model_write 157 = .ok (.iinc 3 1, 3) := by decide +kernel
theorem d_Model_write_160 : decode b_Model_write 160 = .ok (.goto (-28), 3) := by decide +kernel
theorem d_Model_write_163 : decode b_Model_write 163 = .ok (.aload_n 0, 1) := by decide +kernel
theorem d_Model_write_164 : decode b_Model_write 164 = .ok (.getfield 60, 3) := by decide +kernel
theorem d_Model_write_167 : decode b_Model_write 167 = .ok (.sipush 1024, 3) := by decide +kernel
theorem d_Model_write_170 : decode b_Model_write 170 = .ok (.invokestatic 225, 3) := by decide +kernel
theorem d_Model_write_173 : decode b_Model_write 173 = .ok (.aload_n 0, 1) := by decide +kernel
theorem d_Model_write_174 : decode b_Model_write 174 = .ok (.getfield 63, 3) := by decide +kernel
theorem d_Model_write_177 : decode b_Model_write 177 = .ok (.sipush 1024, 3) := by decide +kernel
theorem d_Model_write_180 : decode b_Model_write 180 = .ok (.invokestatic 225, 3) := by decide +kernel
theorem d_Model_write_183 : decode b_Model_write 183 = .ok (.aload_n 0, 1) := by decide +kernel
theorem d_Model_write_184 : decode b_Model_write 184 = .ok (.getfield 60, 3) := by decide +kernel
theorem d_Model_write_187 : decode b_Model_write 187 = .ok (.aload_n 0, 1) := by decide +kernel
theorem d_Model_write_188 : decode b_Model_write 188 = .ok (.getfield 63, 3) := by decide +kernel
theorem d_Model_write_191 : decode b_Model_write 191 = .ok (.invokestatic 176, 3) := by decide +kernel
theorem d_Model_write_194 : decode b_Model_write 194 = .ok (.ifCond .eq 6, 3) := by decide +kernel
theorem d_Model_write_197 : decode b_Model_write 197 = .ok (.bipush (-4), 2) := by decide +kernel
theorem d_Model_write_199 : decode b_Model_write 199 = .ok (.ireturn, 1) := by decide +kernel
theorem d_Model_write_200 : decode b_Model_write 200 = .ok (.aload_n 0, 1) := by decide +kernel
theorem d_Model_write_201 : decode b_Model_write 201 = .ok (.iconst 0, 1) := by decide +kernel
theorem d_Model_write_202 : decode b_Model_write 202 = .ok (.putfield 256, 3) := by decide +kernel
theorem d_Model_write_205 : decode b_Model_write 205 = .ok (.aload_n 0, 1) := by decide +kernel
theorem d_Model_write_206 : decode b_Model_write 206 = .ok (.getfield 211, 3) := by decide +kernel
theorem d_Model_write_209 : decode b_Model_write 209 = .ok (.ifCond .ge 9, 3) := by decide +kernel
theorem d_Model_write_212 : decode b_Model_write 212 = .ok (.aload_n 0, 1) := by decide +kernel
theorem d_Model_write_213 : decode b_Model_write 213 = .ok (.bipush 45, 2) := by decide +kernel
theorem d_Model_write_215 : decode b_Model_write 215 = .ok (.invokevirtual 266, 3) := by decide +kernel
theorem d_Model_write_218 : decode b_Model_write 218 = .ok (.aload_n 0, 1) := by decide +kernel
theorem d_Model_write_219 : decode b_Model_write 219 = .ok (.iload_n 2, 1) := by decide +kernel
theorem d_Model_write_220 : decode b_Model_write 220 = .ok (.invokevirtual 273, 3) := by decide +kernel
theorem d_Model_write_223 : decode b_Model_write 223 = .ok (.aload_n 0, 1) := by decide +kernel
theorem d_Model_write_224 : decode b_Model_write 224 = .ok (.getfield 256, 3) := by decide +kernel
theorem d_Model_write_227 : decode b_Model_write 227 = .ok (.ireturn, 1) := by decide +kernel
def mf_Model_write_L132 (vPlaces : Int32) (F : Nat) : Nat → Int32 → (Nat → Int64) → (Nat → Int64) → Option ((Nat → Int64) × (Nat → Int64))
  | 0, _, _, _ => none
  | fu + 1, x3, uaone_2, uatwo_2 => (if vPlaces ≤ x3 then (some (uaone_2, uatwo_2)) else (sd_b1 (mf_Model_multiplyRow F (10 : Int64) uaone_2) fun uaone_3 => (sd_b1 (mf_Model_multiplyRow F (10 : Int64) uatwo_2) fun uatwo_3 => (sd_let (x3 + (1 : Int32)) fun x3_1 => ((mf_Model_write_L132 vPlaces F fu) x3_1 uaone_3 uatwo_3)))))
def mf_Model_write_J108 (F : Nat) (vPlaces : Int32) (m_made : Int32) (umo : Int32) (umo_1 : Int32) (umo_2 : Int32) (uaout : Nat → Int32) (uaroot : Nat → Int64) (uarest : Nat → Int64) (uasquare : Nat → Int64) (uapart : Nat → Int64) (uaplus : Nat → Int64) (uaminus : Nat → Int64) (ualow : Nat → Int64) (uahigh : Nat → Int64) (uaone : Nat → Int64) (uatwo : Nat → Int64) (uadigit : Nat → Int32) : Option (Int32 × Int32 × Int32 × Int32 × (Nat → Int32) × (Nat → Int64) × (Nat → Int64) × (Nat → Int64) × (Nat → Int64) × (Nat → Int64) × (Nat → Int64) × (Nat → Int64) × (Nat → Int64) × (Nat → Int64) × (Nat → Int64) × (Nat → Int32)) :=
  (sd_b1 (mf_Model_copy F ualow uaone) fun uaone_1 => (sd_b1 (mf_Model_copy F uahigh uatwo) fun uatwo_1 => (sd_b2 (mf_Model_write_L132 vPlaces F F (0 : Int32) uaone_1 uatwo_1) fun ruaone ruatwo => (sd_b1 (mf_Model_unshift F (1024 : Int32) ruaone) fun uaone_4 => (sd_b1 (mf_Model_unshift F (1024 : Int32) ruatwo) fun uatwo_4 => (sd_b1 (mf_Model_compareRows F uaone_4 uatwo_4) fun r => (if r = 0 then (sd_b2 (if 0 ≤ umo_2 then (some ((0 : Int32), uaout)) else (sd_b2 (mf_Model_say F (45 : Int32) m_made (0 : Int32) umo_1 umo_2 uaout) fun umo_4 uaout_2 => (some (umo_4, uaout_2)))) fun umo_3 uaout_1 => (sd_b4 (mf_Model_digits F vPlaces m_made umo_3 umo_1 umo_2 uaout_1 uaone_4 uadigit) fun umo_5 uaout_3 uaone_5 uadigit_1 => (some (umo_5, umo_5, umo_1, umo_2, uaout_3, uaroot, uarest, uasquare, uapart, uaplus, uaminus, ualow, uahigh, uaone_5, uatwo_4, uadigit_1)))) else (some ((-4 : Int32), umo, umo_1, umo_2, uaout, uaroot, uarest, uasquare, uapart, uaplus, uaminus, ualow, uahigh, uaone_4, uatwo_4, uadigit)))))))))
def mf_Model_write (F : Nat) (vI : Int32) (vPlaces : Int32) (m_made : Int32) (m_outCount : Int32) (m_lowSign : Int32) (m_highSign : Int32) (c_n : Nat → Int64) (c_d : Nat → Int64) (c_r : Nat → Int64) (c_count : Nat → Int32) (c_out : Nat → Int32) (c_root : Nat → Int64) (c_rest : Nat → Int64) (c_square : Nat → Int64) (c_part : Nat → Int64) (c_plus : Nat → Int64) (c_minus : Nat → Int64) (c_low : Nat → Int64) (c_high : Nat → Int64) (c_one : Nat → Int64) (c_two : Nat → Int64) (c_digit : Nat → Int32) (c_topA : Nat → Int64) (c_topB : Nat → Int64) : Option (Int32 × Int32 × Int32 × Int32 × (Nat → Int32) × (Nat → Int64) × (Nat → Int64) × (Nat → Int64) × (Nat → Int64) × (Nat → Int64) × (Nat → Int64) × (Nat → Int64) × (Nat → Int64) × (Nat → Int64) × (Nat → Int64) × (Nat → Int32)) :=
  (sd_b1 (mf_Model_is F vI) fun r_1 => (if r_1 = 0 then (some ((-1 : Int32), m_outCount, m_lowSign, m_highSign, c_out, c_root, c_rest, c_square, c_part, c_plus, c_minus, c_low, c_high, c_one, c_two, c_digit)) else (if vPlaces < 0 then (some ((-1 : Int32), m_outCount, m_lowSign, m_highSign, c_out, c_root, c_rest, c_square, c_part, c_plus, c_minus, c_low, c_high, c_one, c_two, c_digit)) else (if vPlaces ≤ (80 : Int32) then (sd_b1 (mf_Model_fraction F vI m_made m_outCount m_lowSign m_highSign c_r c_count) fun r_2 => (if r_2 = 0 then (sd_b11 (mf_Model_ends F vI m_made m_outCount m_lowSign m_highSign c_n c_d c_r c_count c_root c_rest c_square c_part c_plus c_minus c_low c_high c_one) fun umo_6 umo_7 uaroot_1 uarest_1 uasquare_1 uapart_1 uaplus_1 uaminus_1 ualow_1 uahigh_1 uaone_6 => (if 0 < umo_6 then (mf_Model_write_J108 F vPlaces m_made m_outCount umo_6 umo_7 c_out uaroot_1 uarest_1 uasquare_1 uapart_1 uaplus_1 uaminus_1 ualow_1 uahigh_1 uaone_6 c_two c_digit) else (if umo_7 < 0 then (mf_Model_write_J108 F vPlaces m_made m_outCount umo_6 umo_7 c_out uaroot_1 uarest_1 uasquare_1 uapart_1 uaplus_1 uaminus_1 ualow_1 uahigh_1 uaone_6 c_two c_digit) else (some ((-4 : Int32), m_outCount, umo_6, umo_7, c_out, uaroot_1, uarest_1, uasquare_1, uapart_1, uaplus_1, uaminus_1, ualow_1, uahigh_1, uaone_6, c_two, c_digit))))) else (sd_g (sd_ix vI 8) (sd_b1 (if (c_count vI.toNatClampNeg) = 0 then (some ((0 : Int64))) else (sd_g (sd_ix ((8 : Int32) * vI) 64) (some ((c_n ((8 : Int32) * vI).toNatClampNeg))))) fun y => (sd_g (sd_ix vI 8) (sd_b1 (if (c_count vI.toNatClampNeg) = 0 then (some ((1 : Int64))) else (sd_g (sd_ix ((8 : Int32) * vI) 64) (some ((c_d ((8 : Int32) * vI).toNatClampNeg))))) fun y_1 => (sd_b2 (mf_Model_writeFraction F y y_1 vPlaces m_made (0 : Int32) m_lowSign m_highSign c_out) fun umo_8 uaout_4 => (some (umo_8, umo_8, m_lowSign, m_highSign, uaout_4, c_root, c_rest, c_square, c_part, c_plus, c_minus, c_low, c_high, c_one, c_two, c_digit))))))))) else (some ((-1 : Int32), m_outCount, m_lowSign, m_highSign, c_out, c_root, c_rest, c_square, c_part, c_plus, c_minus, c_low, c_high, c_one, c_two, c_digit))))))
abbrev rm_Model_write : Room := { frames := 23, cells := 0, slots := 0, locals := 724 }
set_option maxHeartbeats 4000000 in
set_option maxRecDepth 100000 in
theorem ct_Model_write (l : Launch) (D : va_G) (g : G4) (mo : Nat) (a_n : Nat) (a_d : Nat) (a_r : Nat) (a_count : Nat) (a_newN : Nat) (a_newD : Nat) (a_newR : Nat) (a_out : Nat) (a_root : Nat) (a_rest : Nat) (a_square : Nat) (a_part : Nat) (a_plus : Nat) (a_minus : Nat) (a_low : Nat) (a_high : Nat) (a_one : Nat) (a_two : Nat) (a_otherLow : Nat) (a_otherHigh : Nat) (a_digit : Nat) (a_topA : Nat) (a_underA : Nat) (a_topB : Nat) (a_underB : Nat) (a_quotient : Nat) (a_otherQuotient : Nat) (sz : Nat) (vI : Int32) (vPlaces : Int32) (m_made : Int32) (m_outCount : Int32) (m_lowSign : Int32) (m_highSign : Int32) (c_n : Nat → Int64) (c_d : Nat → Int64) (c_r : Nat → Int64) (c_count : Nat → Int32) (c_out : Nat → Int32) (c_root : Nat → Int64) (c_rest : Nat → Int64) (c_square : Nat → Int64) (c_part : Nat → Int64) (c_plus : Nat → Int64) (c_minus : Nat → Int64) (c_low : Nat → Int64) (c_high : Nat → Int64) (c_one : Nat → Int64) (c_two : Nat → Int64) (c_digit : Nat → Int32) (c_topA : Nat → Int64) (c_topB : Nat → Int64) (F : Nat) (res : Int32 × Int32 × Int32 × Int32 × (Nat → Int32) × (Nat → Int64) × (Nat → Int64) × (Nat → Int64) × (Nat → Int64) × (Nat → Int64) × (Nat → Int64) × (Nat → Int64) × (Nat → Int64) × (Nat → Int64) × (Nat → Int64) × (Nat → Int32)) (hm : mf_Model_write F vI vPlaces m_made m_outCount m_lowSign m_highSign c_n c_d c_r c_count c_out c_root c_rest c_square c_part c_plus c_minus c_low c_high c_one c_two c_digit c_topA c_topB = some res) : Met l y_Model_write (.code y_Model_write b_Model_write 4 (some .int) :: sd_tb) rm_Model_write (sd_PW D g [.ref mo, .int vI, .int vPlaces] sz [(mo, .inr (5, [.ref a_n, .ref a_d, .ref a_r, .ref a_count, .ref a_newN, .ref a_newD, .ref a_newR, .int m_made, .ref a_out, .int m_outCount, .ref a_root, .ref a_rest, .ref a_square, .ref a_part, .ref a_plus, .ref a_minus, .ref a_low, .ref a_high, .ref a_one, .ref a_two, .int m_lowSign, .int m_highSign, .ref a_otherLow, .ref a_otherHigh, .ref a_digit, .ref a_topA, .ref a_underA, .ref a_topB, .ref a_underB, .ref a_quotient, .ref a_otherQuotient])), (a_n, aJ g 64 c_n), (a_d, aJ g 64 c_d), (a_r, aJ g 64 c_r), (a_count, aI g 8 c_count), (a_out, aB g 128 c_out), (a_root, aJ g 76 c_root), (a_rest, aJ g 76 c_rest), (a_square, aJ g 76 c_square), (a_part, aJ g 76 c_part), (a_plus, aJ g 76 c_plus), (a_minus, aJ g 76 c_minus), (a_low, aJ g 76 c_low), (a_high, aJ g 76 c_high), (a_one, aJ g 76 c_one), (a_two, aJ g 76 c_two), (a_digit, aI g 128 c_digit), (a_topA, aJ g 76 c_topA), (a_topB, aJ g 76 c_topB)]) (sd_Qi1 D g res (fun u : Int32 × Int32 × Int32 × (Nat → Int32) × (Nat → Int64) × (Nat → Int64) × (Nat → Int64) × (Nat → Int64) × (Nat → Int64) × (Nat → Int64) × (Nat → Int64) × (Nat → Int64) × (Nat → Int64) × (Nat → Int64) × (Nat → Int32) => [(mo, .inr (5, [.ref a_n, .ref a_d, .ref a_r, .ref a_count, .ref a_newN, .ref a_newD, .ref a_newR, .int m_made, .ref a_out, .int (u.1), .ref a_root, .ref a_rest, .ref a_square, .ref a_part, .ref a_plus, .ref a_minus, .ref a_low, .ref a_high, .ref a_one, .ref a_two, .int (u.2.1), .int (u.2.2.1), .ref a_otherLow, .ref a_otherHigh, .ref a_digit, .ref a_topA, .ref a_underA, .ref a_topB, .ref a_underB, .ref a_quotient, .ref a_otherQuotient])), (a_n, aJ g 64 c_n), (a_d, aJ g 64 c_d), (a_r, aJ g 64 c_r), (a_count, aI g 8 c_count), (a_out, aB g 128 (u.2.2.2.1)), (a_root, aJ g 76 (u.2.2.2.2.1)), (a_rest, aJ g 76 (u.2.2.2.2.2.1)), (a_square, aJ g 76 (u.2.2.2.2.2.2.1)), (a_part, aJ g 76 (u.2.2.2.2.2.2.2.1)), (a_plus, aJ g 76 (u.2.2.2.2.2.2.2.2.1)), (a_minus, aJ g 76 (u.2.2.2.2.2.2.2.2.2.1)), (a_low, aJ g 76 (u.2.2.2.2.2.2.2.2.2.2.1)), (a_high, aJ g 76 (u.2.2.2.2.2.2.2.2.2.2.2.1)), (a_one, aJ g 76 (u.2.2.2.2.2.2.2.2.2.2.2.2.1)), (a_two, aJ g 76 (u.2.2.2.2.2.2.2.2.2.2.2.2.2.1)), (a_digit, aI g 128 (u.2.2.2.2.2.2.2.2.2.2.2.2.2.2)), (a_topA, aJ g 76 c_topA), (a_topB, aJ g 76 c_topB)]) (va_A [(mo, .inr (5, [.ref a_n, .ref a_d, .ref a_r, .ref a_count, .ref a_newN, .ref a_newD, .ref a_newR, .int m_made, .ref a_out, .int m_outCount, .ref a_root, .ref a_rest, .ref a_square, .ref a_part, .ref a_plus, .ref a_minus, .ref a_low, .ref a_high, .ref a_one, .ref a_two, .int m_lowSign, .int m_highSign, .ref a_otherLow, .ref a_otherHigh, .ref a_digit, .ref a_topA, .ref a_underA, .ref a_topB, .ref a_underB, .ref a_quotient, .ref a_otherQuotient])), (a_n, aJ g 64 c_n), (a_d, aJ g 64 c_d), (a_r, aJ g 64 c_r), (a_count, aI g 8 c_count), (a_out, aB g 128 c_out), (a_root, aJ g 76 c_root), (a_rest, aJ g 76 c_rest), (a_square, aJ g 76 c_square), (a_part, aJ g 76 c_part), (a_plus, aJ g 76 c_plus), (a_minus, aJ g 76 c_minus), (a_low, aJ g 76 c_low), (a_high, aJ g 76 c_high), (a_one, aJ g 76 c_one), (a_two, aJ g 76 c_two), (a_digit, aI g 128 c_digit), (a_topA, aJ g 76 c_topA), (a_topB, aJ g 76 c_topB)] sz)) 0 0 (va_A [(mo, .inr (5, [.ref a_n, .ref a_d, .ref a_r, .ref a_count, .ref a_newN, .ref a_newD, .ref a_newR, .int m_made, .ref a_out, .int m_outCount, .ref a_root, .ref a_rest, .ref a_square, .ref a_part, .ref a_plus, .ref a_minus, .ref a_low, .ref a_high, .ref a_one, .ref a_two, .int m_lowSign, .int m_highSign, .ref a_otherLow, .ref a_otherHigh, .ref a_digit, .ref a_topA, .ref a_underA, .ref a_topB, .ref a_underB, .ref a_quotient, .ref a_otherQuotient])), (a_n, aJ g 64 c_n), (a_d, aJ g 64 c_d), (a_r, aJ g 64 c_r), (a_count, aI g 8 c_count), (a_out, aB g 128 c_out), (a_root, aJ g 76 c_root), (a_rest, aJ g 76 c_rest), (a_square, aJ g 76 c_square), (a_part, aJ g 76 c_part), (a_plus, aJ g 76 c_plus), (a_minus, aJ g 76 c_minus), (a_low, aJ g 76 c_low), (a_high, aJ g 76 c_high), (a_one, aJ g 76 c_one), (a_two, aJ g 76 c_two), (a_digit, aI g 128 c_digit), (a_topA, aJ g 76 c_topA), (a_topB, aJ g 76 c_topB)] sz) := by
  refine sd_met (Qf := fun A => sd_Qi1 D g res (fun u : Int32 × Int32 × Int32 × (Nat → Int32) × (Nat → Int64) × (Nat → Int64) × (Nat → Int64) × (Nat → Int64) × (Nat → Int64) × (Nat → Int64) × (Nat → Int64) × (Nat → Int64) × (Nat → Int64) × (Nat → Int64) × (Nat → Int32) => [(mo, .inr (5, [.ref a_n, .ref a_d, .ref a_r, .ref a_count, .ref a_newN, .ref a_newD, .ref a_newR, .int m_made, .ref a_out, .int (u.1), .ref a_root, .ref a_rest, .ref a_square, .ref a_part, .ref a_plus, .ref a_minus, .ref a_low, .ref a_high, .ref a_one, .ref a_two, .int (u.2.1), .int (u.2.2.1), .ref a_otherLow, .ref a_otherHigh, .ref a_digit, .ref a_topA, .ref a_underA, .ref a_topB, .ref a_underB, .ref a_quotient, .ref a_otherQuotient])), (a_n, aJ g 64 c_n), (a_d, aJ g 64 c_d), (a_r, aJ g 64 c_r), (a_count, aI g 8 c_count), (a_out, aB g 128 (u.2.2.2.1)), (a_root, aJ g 76 (u.2.2.2.2.1)), (a_rest, aJ g 76 (u.2.2.2.2.2.1)), (a_square, aJ g 76 (u.2.2.2.2.2.2.1)), (a_part, aJ g 76 (u.2.2.2.2.2.2.2.1)), (a_plus, aJ g 76 (u.2.2.2.2.2.2.2.2.1)), (a_minus, aJ g 76 (u.2.2.2.2.2.2.2.2.2.1)), (a_low, aJ g 76 (u.2.2.2.2.2.2.2.2.2.2.1)), (a_high, aJ g 76 (u.2.2.2.2.2.2.2.2.2.2.2.1)), (a_one, aJ g 76 (u.2.2.2.2.2.2.2.2.2.2.2.2.1)), (a_two, aJ g 76 (u.2.2.2.2.2.2.2.2.2.2.2.2.2.1)), (a_digit, aI g 128 (u.2.2.2.2.2.2.2.2.2.2.2.2.2.2)), (a_topA, aJ g 76 c_topA), (a_topB, aJ g 76 c_topB)]) A) (own := R_Model) (by decide +kernel) rfl (Nat.le_of_ble_eq_true rfl) ?_
  intro p e s m args below meth c S hr hlk hK A hA Q hQ H locs hP hD hS ls hl
  have hx := S.1
  have hb := S.2.1
  have hml := S.2.2.1
  have hown := S.2.2.2.1
  have htt := sd_tt S
  replace hl : lv_has ls 4 [(0, .ref mo), (1, .int vI), (2, .int vPlaces)] := hl
  unfold mf_Model_write at hm
  have J108 : ∀ (umo : Int32) (umo_1 : Int32) (umo_2 : Int32) (uaout : Nat → Int32) (uaroot : Nat → Int64) (uarest : Nat → Int64) (uasquare : Nat → Int64) (uapart : Nat → Int64) (uaplus : Nat → Int64) (uaminus : Nat → Int64) (ualow : Nat → Int64) (uahigh : Nat → Int64) (uaone : Nat → Int64) (uatwo : Nat → Int64) (uadigit : Nat → Int32), mf_Model_write_J108 F vPlaces m_made umo umo_1 umo_2 uaout uaroot uarest uasquare uapart uaplus uaminus ualow uahigh uaone uatwo uadigit = some res → ∀ (H : Heap) (locs : List Loc) (ls : Array Slot), va_P D classes [(mo, .inr (5, [.ref a_n, .ref a_d, .ref a_r, .ref a_count, .ref a_newN, .ref a_newD, .ref a_newR, .int m_made, .ref a_out, .int umo, .ref a_root, .ref a_rest, .ref a_square, .ref a_part, .ref a_plus, .ref a_minus, .ref a_low, .ref a_high, .ref a_one, .ref a_two, .int umo_1, .int umo_2, .ref a_otherLow, .ref a_otherHigh, .ref a_digit, .ref a_topA, .ref a_underA, .ref a_topB, .ref a_underB, .ref a_quotient, .ref a_otherQuotient])), (a_n, aJ g 64 c_n), (a_d, aJ g 64 c_d), (a_r, aJ g 64 c_r), (a_count, aI g 8 c_count), (a_out, aB g 128 uaout), (a_root, aJ g 76 uaroot), (a_rest, aJ g 76 uarest), (a_square, aJ g 76 uasquare), (a_part, aJ g 76 uapart), (a_plus, aJ g 76 uaplus), (a_minus, aJ g 76 uaminus), (a_low, aJ g 76 ualow), (a_high, aJ g 76 uahigh), (a_one, aJ g 76 uaone), (a_two, aJ g 76 uatwo), (a_digit, aI g 128 uadigit), (a_topA, aJ g 76 c_topA), (a_topB, aJ g 76 c_topB)] H → va_D A [(mo, .inr (5, [.ref a_n, .ref a_d, .ref a_r, .ref a_count, .ref a_newN, .ref a_newD, .ref a_newR, .int m_made, .ref a_out, .int umo, .ref a_root, .ref a_rest, .ref a_square, .ref a_part, .ref a_plus, .ref a_minus, .ref a_low, .ref a_high, .ref a_one, .ref a_two, .int umo_1, .int umo_2, .ref a_otherLow, .ref a_otherHigh, .ref a_digit, .ref a_topA, .ref a_underA, .ref a_topB, .ref a_underB, .ref a_quotient, .ref a_otherQuotient])), (a_n, aJ g 64 c_n), (a_d, aJ g 64 c_d), (a_r, aJ g 64 c_r), (a_count, aI g 8 c_count), (a_out, aB g 128 uaout), (a_root, aJ g 76 uaroot), (a_rest, aJ g 76 uarest), (a_square, aJ g 76 uasquare), (a_part, aJ g 76 uapart), (a_plus, aJ g 76 uaplus), (a_minus, aJ g 76 uaminus), (a_low, aJ g 76 ualow), (a_high, aJ g 76 uahigh), (a_one, aJ g 76 uaone), (a_two, aJ g 76 uatwo), (a_digit, aI g 128 uadigit), (a_topA, aJ g 76 c_topA), (a_topB, aJ g 76 c_topB)] → va_S A s.heap H locs → lv_has ls 4 [(0, .ref mo), (2, .int vPlaces)] → W p l e rm_Model_write s m args below meth c H locs 0 0 Q (F0 m 108 ls []) := by
    intro umo umo_1 umo_2 uaout uaroot uarest uasquare uapart uaplus uaminus ualow uahigh uaone uatwo uadigit hm H locs ls hP hD hS hl
    unfold mf_Model_write_J108 at hm
    refine lv_aload_n hx hb d_Model_write_108 rfl (lv_at hl 0 rfl) ?_
    refine va_get (D := D) (ci := 5) (v := .ref a_low) (C := R_Model) (T := F_Model) (N := 31) hx hb htt i_Model hown hK hP 0 rfl rfl 16 (by decide) (htt _ kf_Model_54) (fun _ h9 => h9) rfl d_Model_write_109 ?_
    refine lv_aload_n hx hb d_Model_write_112 rfl (lv_at hl 0 rfl) ?_
    refine va_get (D := D) (ci := 5) (v := .ref a_one) (C := R_Model) (T := F_Model) (N := 31) hx hb htt i_Model hown hK hP 0 rfl rfl 18 (by decide) (htt _ kf_Model_60) (fun _ h9 => h9) rfl d_Model_write_113 ?_
    obtain ⟨uaone_1, hc, hm⟩ := sd_mb1 hm
    refine sd_cv1 (wr := [(mo, .inr (5, [.ref a_n, .ref a_d, .ref a_r, .ref a_count, .ref a_newN, .ref a_newD, .ref a_newR, .int m_made, .ref a_out, .int umo, .ref a_root, .ref a_rest, .ref a_square, .ref a_part, .ref a_plus, .ref a_minus, .ref a_low, .ref a_high, .ref a_one, .ref a_two, .int umo_1, .int umo_2, .ref a_otherLow, .ref a_otherHigh, .ref a_digit, .ref a_topA, .ref a_underA, .ref a_topB, .ref a_underB, .ref a_quotient, .ref a_otherQuotient])), (a_n, aJ g 64 c_n), (a_d, aJ g 64 c_d), (a_r, aJ g 64 c_r), (a_count, aI g 8 c_count), (a_out, aB g 128 uaout), (a_root, aJ g 76 uaroot), (a_rest, aJ g 76 uarest), (a_square, aJ g 76 uasquare), (a_part, aJ g 76 uapart), (a_plus, aJ g 76 uaplus), (a_minus, aJ g 76 uaminus), (a_high, aJ g 76 uahigh), (a_two, aJ g 76 uatwo), (a_digit, aI g 128 uadigit), (a_topA, aJ g 76 c_topA), (a_topB, aJ g 76 c_topB)]) (w2 := [(mo, .inr (5, [.ref a_n, .ref a_d, .ref a_r, .ref a_count, .ref a_newN, .ref a_newD, .ref a_newR, .int m_made, .ref a_out, .int umo, .ref a_root, .ref a_rest, .ref a_square, .ref a_part, .ref a_plus, .ref a_minus, .ref a_low, .ref a_high, .ref a_one, .ref a_two, .int umo_1, .int umo_2, .ref a_otherLow, .ref a_otherHigh, .ref a_digit, .ref a_topA, .ref a_underA, .ref a_topB, .ref a_underB, .ref a_quotient, .ref a_otherQuotient])), (a_n, aJ g 64 c_n), (a_d, aJ g 64 c_d), (a_r, aJ g 64 c_r), (a_count, aI g 8 c_count), (a_out, aB g 128 uaout), (a_root, aJ g 76 uaroot), (a_rest, aJ g 76 uarest), (a_square, aJ g 76 uasquare), (a_part, aJ g 76 uapart), (a_plus, aJ g 76 uaplus), (a_minus, aJ g 76 uaminus), (a_high, aJ g 76 uahigh), (a_two, aJ g 76 uatwo), (a_digit, aI g 128 uadigit), (a_topA, aJ g 76 c_topA), (a_topB, aJ g 76 c_topB), (a_low, aJ g 76 ualow), (a_one, aJ g 76 uaone_1)]) (sd_runS (rest := []) (As := [.ref a_low, .ref a_one]) S (ct_Model_copy l D g a_low a_one (H.size) ualow uaone F (uaone_1) hc) kl_Model_172 (by decide) (by decide) hK hP hD [12, 14] rfl (by decide) rfl hl d_Model_write_116 rfl (Nat.le_of_ble_eq_true rfl) ⟨Nat.zero_le _, Nat.zero_le _⟩) hP hD hS hA [12, 14] [0, 1, 2, 3, 4, 5, 6, 7, 8, 9, 10, 11, 13, 15, 16, 17, 18] rfl rfl (by decide) (by decide) rfl (fun H locs hP hD hS => ?_)
    refine lv_aload_n hx hb d_Model_write_119 rfl (lv_at hl 0 rfl) ?_
    refine va_get (D := D) (ci := 5) (v := .ref a_high) (C := R_Model) (T := F_Model) (N := 31) hx hb htt i_Model hown hK hP 0 rfl rfl 17 (by decide) (htt _ kf_Model_57) (fun _ h9 => h9) rfl d_Model_write_120 ?_
    refine lv_aload_n hx hb d_Model_write_123 rfl (lv_at hl 0 rfl) ?_
    refine va_get (D := D) (ci := 5) (v := .ref a_two) (C := R_Model) (T := F_Model) (N := 31) hx hb htt i_Model hown hK hP 0 rfl rfl 19 (by decide) (htt _ kf_Model_63) (fun _ h9 => h9) rfl d_Model_write_124 ?_
    obtain ⟨uatwo_1, hc, hm⟩ := sd_mb1 hm
    refine sd_cv1 (wr := [(mo, .inr (5, [.ref a_n, .ref a_d, .ref a_r, .ref a_count, .ref a_newN, .ref a_newD, .ref a_newR, .int m_made, .ref a_out, .int umo, .ref a_root, .ref a_rest, .ref a_square, .ref a_part, .ref a_plus, .ref a_minus, .ref a_low, .ref a_high, .ref a_one, .ref a_two, .int umo_1, .int umo_2, .ref a_otherLow, .ref a_otherHigh, .ref a_digit, .ref a_topA, .ref a_underA, .ref a_topB, .ref a_underB, .ref a_quotient, .ref a_otherQuotient])), (a_n, aJ g 64 c_n), (a_d, aJ g 64 c_d), (a_r, aJ g 64 c_r), (a_count, aI g 8 c_count), (a_out, aB g 128 uaout), (a_root, aJ g 76 uaroot), (a_rest, aJ g 76 uarest), (a_square, aJ g 76 uasquare), (a_part, aJ g 76 uapart), (a_plus, aJ g 76 uaplus), (a_minus, aJ g 76 uaminus), (a_digit, aI g 128 uadigit), (a_topA, aJ g 76 c_topA), (a_topB, aJ g 76 c_topB), (a_low, aJ g 76 ualow), (a_one, aJ g 76 uaone_1)]) (w2 := [(mo, .inr (5, [.ref a_n, .ref a_d, .ref a_r, .ref a_count, .ref a_newN, .ref a_newD, .ref a_newR, .int m_made, .ref a_out, .int umo, .ref a_root, .ref a_rest, .ref a_square, .ref a_part, .ref a_plus, .ref a_minus, .ref a_low, .ref a_high, .ref a_one, .ref a_two, .int umo_1, .int umo_2, .ref a_otherLow, .ref a_otherHigh, .ref a_digit, .ref a_topA, .ref a_underA, .ref a_topB, .ref a_underB, .ref a_quotient, .ref a_otherQuotient])), (a_n, aJ g 64 c_n), (a_d, aJ g 64 c_d), (a_r, aJ g 64 c_r), (a_count, aI g 8 c_count), (a_out, aB g 128 uaout), (a_root, aJ g 76 uaroot), (a_rest, aJ g 76 uarest), (a_square, aJ g 76 uasquare), (a_part, aJ g 76 uapart), (a_plus, aJ g 76 uaplus), (a_minus, aJ g 76 uaminus), (a_digit, aI g 128 uadigit), (a_topA, aJ g 76 c_topA), (a_topB, aJ g 76 c_topB), (a_low, aJ g 76 ualow), (a_one, aJ g 76 uaone_1), (a_high, aJ g 76 uahigh), (a_two, aJ g 76 uatwo_1)]) (sd_runS (rest := []) (As := [.ref a_high, .ref a_two]) S (ct_Model_copy l D g a_high a_two (H.size) uahigh uatwo F (uatwo_1) hc) kl_Model_172 (by decide) (by decide) hK hP hD [12, 13] rfl (by decide) rfl hl d_Model_write_127 rfl (Nat.le_of_ble_eq_true rfl) ⟨Nat.zero_le _, Nat.zero_le _⟩) hP hD hS hA [12, 13] [0, 1, 2, 3, 4, 5, 6, 7, 8, 9, 10, 11, 14, 15, 16, 17, 18] rfl rfl (by decide) (by decide) rfl (fun H locs hP hD hS => ?_)
    refine lv_iconst (v := (0 : Int32)) hx hb d_Model_write_130 (by decide) ?_
    refine lv_istore_n (lv' := [(3, .int (0 : Int32)), (0, .ref mo), (2, .int vPlaces)]) hx hb d_Model_write_131 rfl hl (by decide) rfl (fun ls hl => ?_)
    have L132 : ∀ (fu : Nat) (x3 : Int32) (uaone_2 : Nat → Int64) (uatwo_2 : Nat → Int64) (ruaone : Nat → Int64) (ruatwo : Nat → Int64), mf_Model_write_L132 vPlaces F fu x3 uaone_2 uatwo_2 = some (ruaone, ruatwo) → ∀ (H : Heap) (locs : List Loc) (ls : Array Slot), va_P D classes [(mo, .inr (5, [.ref a_n, .ref a_d, .ref a_r, .ref a_count, .ref a_newN, .ref a_newD, .ref a_newR, .int m_made, .ref a_out, .int umo, .ref a_root, .ref a_rest, .ref a_square, .ref a_part, .ref a_plus, .ref a_minus, .ref a_low, .ref a_high, .ref a_one, .ref a_two, .int umo_1, .int umo_2, .ref a_otherLow, .ref a_otherHigh, .ref a_digit, .ref a_topA, .ref a_underA, .ref a_topB, .ref a_underB, .ref a_quotient, .ref a_otherQuotient])), (a_n, aJ g 64 c_n), (a_d, aJ g 64 c_d), (a_r, aJ g 64 c_r), (a_count, aI g 8 c_count), (a_out, aB g 128 uaout), (a_root, aJ g 76 uaroot), (a_rest, aJ g 76 uarest), (a_square, aJ g 76 uasquare), (a_part, aJ g 76 uapart), (a_plus, aJ g 76 uaplus), (a_minus, aJ g 76 uaminus), (a_digit, aI g 128 uadigit), (a_topA, aJ g 76 c_topA), (a_topB, aJ g 76 c_topB), (a_low, aJ g 76 ualow), (a_one, aJ g 76 uaone_2), (a_high, aJ g 76 uahigh), (a_two, aJ g 76 uatwo_2)] H → va_D A [(mo, .inr (5, [.ref a_n, .ref a_d, .ref a_r, .ref a_count, .ref a_newN, .ref a_newD, .ref a_newR, .int m_made, .ref a_out, .int umo, .ref a_root, .ref a_rest, .ref a_square, .ref a_part, .ref a_plus, .ref a_minus, .ref a_low, .ref a_high, .ref a_one, .ref a_two, .int umo_1, .int umo_2, .ref a_otherLow, .ref a_otherHigh, .ref a_digit, .ref a_topA, .ref a_underA, .ref a_topB, .ref a_underB, .ref a_quotient, .ref a_otherQuotient])), (a_n, aJ g 64 c_n), (a_d, aJ g 64 c_d), (a_r, aJ g 64 c_r), (a_count, aI g 8 c_count), (a_out, aB g 128 uaout), (a_root, aJ g 76 uaroot), (a_rest, aJ g 76 uarest), (a_square, aJ g 76 uasquare), (a_part, aJ g 76 uapart), (a_plus, aJ g 76 uaplus), (a_minus, aJ g 76 uaminus), (a_digit, aI g 128 uadigit), (a_topA, aJ g 76 c_topA), (a_topB, aJ g 76 c_topB), (a_low, aJ g 76 ualow), (a_one, aJ g 76 uaone_2), (a_high, aJ g 76 uahigh), (a_two, aJ g 76 uatwo_2)] → va_S A s.heap H locs → lv_has ls 4 [(0, .ref mo), (2, .int vPlaces), (3, .int x3)] → (∀ (H : Heap) (locs : List Loc) (ls : Array Slot), va_P D classes [(mo, .inr (5, [.ref a_n, .ref a_d, .ref a_r, .ref a_count, .ref a_newN, .ref a_newD, .ref a_newR, .int m_made, .ref a_out, .int umo, .ref a_root, .ref a_rest, .ref a_square, .ref a_part, .ref a_plus, .ref a_minus, .ref a_low, .ref a_high, .ref a_one, .ref a_two, .int umo_1, .int umo_2, .ref a_otherLow, .ref a_otherHigh, .ref a_digit, .ref a_topA, .ref a_underA, .ref a_topB, .ref a_underB, .ref a_quotient, .ref a_otherQuotient])), (a_n, aJ g 64 c_n), (a_d, aJ g 64 c_d), (a_r, aJ g 64 c_r), (a_count, aI g 8 c_count), (a_out, aB g 128 uaout), (a_root, aJ g 76 uaroot), (a_rest, aJ g 76 uarest), (a_square, aJ g 76 uasquare), (a_part, aJ g 76 uapart), (a_plus, aJ g 76 uaplus), (a_minus, aJ g 76 uaminus), (a_digit, aI g 128 uadigit), (a_topA, aJ g 76 c_topA), (a_topB, aJ g 76 c_topB), (a_low, aJ g 76 ualow), (a_one, aJ g 76 ruaone), (a_high, aJ g 76 uahigh), (a_two, aJ g 76 ruatwo)] H → va_D A [(mo, .inr (5, [.ref a_n, .ref a_d, .ref a_r, .ref a_count, .ref a_newN, .ref a_newD, .ref a_newR, .int m_made, .ref a_out, .int umo, .ref a_root, .ref a_rest, .ref a_square, .ref a_part, .ref a_plus, .ref a_minus, .ref a_low, .ref a_high, .ref a_one, .ref a_two, .int umo_1, .int umo_2, .ref a_otherLow, .ref a_otherHigh, .ref a_digit, .ref a_topA, .ref a_underA, .ref a_topB, .ref a_underB, .ref a_quotient, .ref a_otherQuotient])), (a_n, aJ g 64 c_n), (a_d, aJ g 64 c_d), (a_r, aJ g 64 c_r), (a_count, aI g 8 c_count), (a_out, aB g 128 uaout), (a_root, aJ g 76 uaroot), (a_rest, aJ g 76 uarest), (a_square, aJ g 76 uasquare), (a_part, aJ g 76 uapart), (a_plus, aJ g 76 uaplus), (a_minus, aJ g 76 uaminus), (a_digit, aI g 128 uadigit), (a_topA, aJ g 76 c_topA), (a_topB, aJ g 76 c_topB), (a_low, aJ g 76 ualow), (a_one, aJ g 76 ruaone), (a_high, aJ g 76 uahigh), (a_two, aJ g 76 ruatwo)] → va_S A s.heap H locs → lv_has ls 4 [(0, .ref mo), (2, .int vPlaces)] → W p l e rm_Model_write s m args below meth c H locs 0 0 Q (F0 m 163 ls [])) → W p l e rm_Model_write s m args below meth c H locs 0 0 Q (F0 m 132 ls []) := by
      intro fu
      induction fu with
      | zero => intro x3 uaone_2 uatwo_2 ruaone ruatwo hm; exact absurd (show (none : Option ((Nat → Int64) × (Nat → Int64))) = some (ruaone, ruatwo) from hm) (fun h => nomatch h)
      | succ fu ih =>
        intro x3 uaone_2 uatwo_2 ruaone ruatwo hm H locs ls hP hD hS hl kx163
        rw [mf_Model_write_L132] at hm
        refine lv_iload_n hx hb d_Model_write_132 rfl (lv_at hl 2 rfl) ?_
        refine lv_iload_n hx hb d_Model_write_133 rfl (lv_at hl 1 rfl) ?_
        refine lv_icmp_ge (tgt := 163) hx hb d_Model_write_134 (by decide) (fun hc => ?_) (fun hc => ?_)
        · have hm := sd_mt hc hm
          cases hm
          exact kx163 H locs ls (hP.sub [0, 1, 2, 3, 4, 5, 6, 7, 8, 9, 10, 11, 12, 13, 14, 15, 16, 17, 18] rfl) (hD.sub [0, 1, 2, 3, 4, 5, 6, 7, 8, 9, 10, 11, 12, 13, 14, 15, 16, 17, 18] (by decide) rfl) hS (lv_sub hl [0, 1] rfl)
        · have hm := sd_mf hc hm
          refine lv_aload_n hx hb d_Model_write_137 rfl (lv_at hl 0 rfl) ?_
          refine va_get (D := D) (ci := 5) (v := .ref a_one) (C := R_Model) (T := F_Model) (N := 31) hx hb htt i_Model hown hK hP 0 rfl rfl 18 (by decide) (htt _ kf_Model_60) (fun _ h9 => h9) rfl d_Model_write_138 ?_
          refine sd_ldc2 (v := (10 : Int64)) hx hb hown (htt _ km_Model_261) d_Model_write_141 ?_
          obtain ⟨uaone_3, hc, hm⟩ := sd_mb1 hm
          refine sd_cv1 (wr := [(mo, .inr (5, [.ref a_n, .ref a_d, .ref a_r, .ref a_count, .ref a_newN, .ref a_newD, .ref a_newR, .int m_made, .ref a_out, .int umo, .ref a_root, .ref a_rest, .ref a_square, .ref a_part, .ref a_plus, .ref a_minus, .ref a_low, .ref a_high, .ref a_one, .ref a_two, .int umo_1, .int umo_2, .ref a_otherLow, .ref a_otherHigh, .ref a_digit, .ref a_topA, .ref a_underA, .ref a_topB, .ref a_underB, .ref a_quotient, .ref a_otherQuotient])), (a_n, aJ g 64 c_n), (a_d, aJ g 64 c_d), (a_r, aJ g 64 c_r), (a_count, aI g 8 c_count), (a_out, aB g 128 uaout), (a_root, aJ g 76 uaroot), (a_rest, aJ g 76 uarest), (a_square, aJ g 76 uasquare), (a_part, aJ g 76 uapart), (a_plus, aJ g 76 uaplus), (a_minus, aJ g 76 uaminus), (a_digit, aI g 128 uadigit), (a_topA, aJ g 76 c_topA), (a_topB, aJ g 76 c_topB), (a_low, aJ g 76 ualow), (a_high, aJ g 76 uahigh), (a_two, aJ g 76 uatwo_2)]) (w2 := [(mo, .inr (5, [.ref a_n, .ref a_d, .ref a_r, .ref a_count, .ref a_newN, .ref a_newD, .ref a_newR, .int m_made, .ref a_out, .int umo, .ref a_root, .ref a_rest, .ref a_square, .ref a_part, .ref a_plus, .ref a_minus, .ref a_low, .ref a_high, .ref a_one, .ref a_two, .int umo_1, .int umo_2, .ref a_otherLow, .ref a_otherHigh, .ref a_digit, .ref a_topA, .ref a_underA, .ref a_topB, .ref a_underB, .ref a_quotient, .ref a_otherQuotient])), (a_n, aJ g 64 c_n), (a_d, aJ g 64 c_d), (a_r, aJ g 64 c_r), (a_count, aI g 8 c_count), (a_out, aB g 128 uaout), (a_root, aJ g 76 uaroot), (a_rest, aJ g 76 uarest), (a_square, aJ g 76 uasquare), (a_part, aJ g 76 uapart), (a_plus, aJ g 76 uaplus), (a_minus, aJ g 76 uaminus), (a_digit, aI g 128 uadigit), (a_topA, aJ g 76 c_topA), (a_topB, aJ g 76 c_topB), (a_low, aJ g 76 ualow), (a_high, aJ g 76 uahigh), (a_two, aJ g 76 uatwo_2), (a_one, aJ g 76 uaone_3)]) (sd_runS (rest := []) (As := [.ref a_one, .long (10 : Int64)]) S (ct_Model_multiplyRow l D g a_one (H.size) (10 : Int64) uaone_2 F (uaone_3) hc) kl_Model_183 (by decide) (by decide) hK hP hD [16] rfl (by decide) rfl hl d_Model_write_144 rfl (Nat.le_of_ble_eq_true rfl) ⟨Nat.zero_le _, Nat.zero_le _⟩) hP hD hS hA [16] [0, 1, 2, 3, 4, 5, 6, 7, 8, 9, 10, 11, 12, 13, 14, 15, 17, 18] rfl rfl (by decide) (by decide) rfl (fun H locs hP hD hS => ?_)
          refine lv_aload_n hx hb d_Model_write_147 rfl (lv_at hl 0 rfl) ?_
          refine va_get (D := D) (ci := 5) (v := .ref a_two) (C := R_Model) (T := F_Model) (N := 31) hx hb htt i_Model hown hK hP 0 rfl rfl 19 (by decide) (htt _ kf_Model_63) (fun _ h9 => h9) rfl d_Model_write_148 ?_
          refine sd_ldc2 (v := (10 : Int64)) hx hb hown (htt _ km_Model_261) d_Model_write_151 ?_
          obtain ⟨uatwo_3, hc, hm⟩ := sd_mb1 hm
          refine sd_cv1 (wr := [(mo, .inr (5, [.ref a_n, .ref a_d, .ref a_r, .ref a_count, .ref a_newN, .ref a_newD, .ref a_newR, .int m_made, .ref a_out, .int umo, .ref a_root, .ref a_rest, .ref a_square, .ref a_part, .ref a_plus, .ref a_minus, .ref a_low, .ref a_high, .ref a_one, .ref a_two, .int umo_1, .int umo_2, .ref a_otherLow, .ref a_otherHigh, .ref a_digit, .ref a_topA, .ref a_underA, .ref a_topB, .ref a_underB, .ref a_quotient, .ref a_otherQuotient])), (a_n, aJ g 64 c_n), (a_d, aJ g 64 c_d), (a_r, aJ g 64 c_r), (a_count, aI g 8 c_count), (a_out, aB g 128 uaout), (a_root, aJ g 76 uaroot), (a_rest, aJ g 76 uarest), (a_square, aJ g 76 uasquare), (a_part, aJ g 76 uapart), (a_plus, aJ g 76 uaplus), (a_minus, aJ g 76 uaminus), (a_digit, aI g 128 uadigit), (a_topA, aJ g 76 c_topA), (a_topB, aJ g 76 c_topB), (a_low, aJ g 76 ualow), (a_high, aJ g 76 uahigh), (a_one, aJ g 76 uaone_3)]) (w2 := [(mo, .inr (5, [.ref a_n, .ref a_d, .ref a_r, .ref a_count, .ref a_newN, .ref a_newD, .ref a_newR, .int m_made, .ref a_out, .int umo, .ref a_root, .ref a_rest, .ref a_square, .ref a_part, .ref a_plus, .ref a_minus, .ref a_low, .ref a_high, .ref a_one, .ref a_two, .int umo_1, .int umo_2, .ref a_otherLow, .ref a_otherHigh, .ref a_digit, .ref a_topA, .ref a_underA, .ref a_topB, .ref a_underB, .ref a_quotient, .ref a_otherQuotient])), (a_n, aJ g 64 c_n), (a_d, aJ g 64 c_d), (a_r, aJ g 64 c_r), (a_count, aI g 8 c_count), (a_out, aB g 128 uaout), (a_root, aJ g 76 uaroot), (a_rest, aJ g 76 uarest), (a_square, aJ g 76 uasquare), (a_part, aJ g 76 uapart), (a_plus, aJ g 76 uaplus), (a_minus, aJ g 76 uaminus), (a_digit, aI g 128 uadigit), (a_topA, aJ g 76 c_topA), (a_topB, aJ g 76 c_topB), (a_low, aJ g 76 ualow), (a_high, aJ g 76 uahigh), (a_one, aJ g 76 uaone_3), (a_two, aJ g 76 uatwo_3)]) (sd_runS (rest := []) (As := [.ref a_two, .long (10 : Int64)]) S (ct_Model_multiplyRow l D g a_two (H.size) (10 : Int64) uatwo_2 F (uatwo_3) hc) kl_Model_183 (by decide) (by decide) hK hP hD [17] rfl (by decide) rfl hl d_Model_write_154 rfl (Nat.le_of_ble_eq_true rfl) ⟨Nat.zero_le _, Nat.zero_le _⟩) hP hD hS hA [17] [0, 1, 2, 3, 4, 5, 6, 7, 8, 9, 10, 11, 12, 13, 14, 15, 16, 18] rfl rfl (by decide) (by decide) rfl (fun H locs hP hD hS => ?_)
          obtain ⟨x3_1, ex3_1, hm⟩ := sd_mlet hm
          refine lv_iinc (v := x3_1) (lv' := [(3, .int x3_1), (0, .ref mo), (2, .int vPlaces)]) hx hb d_Model_write_157 hl (k := 2) rfl (by rw [ex3_1]; rfl) (by decide) rfl (fun ls hl => ?_)
          refine lv_goto (tgt := 132) hx hb d_Model_write_160 (by decide) ?_
          exact ih x3_1 uaone_3 uatwo_3 ruaone ruatwo hm H locs ls (hP.sub [0, 1, 2, 3, 4, 5, 6, 7, 8, 9, 10, 11, 12, 13, 14, 15, 17, 16, 18] rfl) (hD.sub [0, 1, 2, 3, 4, 5, 6, 7, 8, 9, 10, 11, 12, 13, 14, 15, 17, 16, 18] (by decide) rfl) hS (lv_sub hl [1, 2, 0] rfl) kx163
    obtain ⟨ruaone, ruatwo, hc, hm⟩ := sd_mb2 hm
    refine L132 F (0 : Int32) uaone_1 uatwo_1 ruaone ruatwo hc H locs ls (hP.sub [0, 1, 2, 3, 4, 5, 6, 7, 8, 9, 10, 11, 12, 13, 14, 15, 16, 17, 18] rfl) (hD.sub [0, 1, 2, 3, 4, 5, 6, 7, 8, 9, 10, 11, 12, 13, 14, 15, 16, 17, 18] (by decide) rfl) hS (lv_sub hl [1, 2, 0] rfl) ?_
    intro H locs ls hP hD hS hl
    refine lv_aload_n hx hb d_Model_write_163 rfl (lv_at hl 0 rfl) ?_
    refine va_get (D := D) (ci := 5) (v := .ref a_one) (C := R_Model) (T := F_Model) (N := 31) hx hb htt i_Model hown hK hP 0 rfl rfl 18 (by decide) (htt _ kf_Model_60) (fun _ h9 => h9) rfl d_Model_write_164 ?_
    refine lv_sipush (v := (1024 : Int32)) hx hb d_Model_write_167 (by decide) ?_
    obtain ⟨uaone_4, hc, hm⟩ := sd_mb1 hm
    refine sd_cv1 (wr := [(mo, .inr (5, [.ref a_n, .ref a_d, .ref a_r, .ref a_count, .ref a_newN, .ref a_newD, .ref a_newR, .int m_made, .ref a_out, .int umo, .ref a_root, .ref a_rest, .ref a_square, .ref a_part, .ref a_plus, .ref a_minus, .ref a_low, .ref a_high, .ref a_one, .ref a_two, .int umo_1, .int umo_2, .ref a_otherLow, .ref a_otherHigh, .ref a_digit, .ref a_topA, .ref a_underA, .ref a_topB, .ref a_underB, .ref a_quotient, .ref a_otherQuotient])), (a_n, aJ g 64 c_n), (a_d, aJ g 64 c_d), (a_r, aJ g 64 c_r), (a_count, aI g 8 c_count), (a_out, aB g 128 uaout), (a_root, aJ g 76 uaroot), (a_rest, aJ g 76 uarest), (a_square, aJ g 76 uasquare), (a_part, aJ g 76 uapart), (a_plus, aJ g 76 uaplus), (a_minus, aJ g 76 uaminus), (a_digit, aI g 128 uadigit), (a_topA, aJ g 76 c_topA), (a_topB, aJ g 76 c_topB), (a_low, aJ g 76 ualow), (a_high, aJ g 76 uahigh), (a_two, aJ g 76 ruatwo)]) (w2 := [(mo, .inr (5, [.ref a_n, .ref a_d, .ref a_r, .ref a_count, .ref a_newN, .ref a_newD, .ref a_newR, .int m_made, .ref a_out, .int umo, .ref a_root, .ref a_rest, .ref a_square, .ref a_part, .ref a_plus, .ref a_minus, .ref a_low, .ref a_high, .ref a_one, .ref a_two, .int umo_1, .int umo_2, .ref a_otherLow, .ref a_otherHigh, .ref a_digit, .ref a_topA, .ref a_underA, .ref a_topB, .ref a_underB, .ref a_quotient, .ref a_otherQuotient])), (a_n, aJ g 64 c_n), (a_d, aJ g 64 c_d), (a_r, aJ g 64 c_r), (a_count, aI g 8 c_count), (a_out, aB g 128 uaout), (a_root, aJ g 76 uaroot), (a_rest, aJ g 76 uarest), (a_square, aJ g 76 uasquare), (a_part, aJ g 76 uapart), (a_plus, aJ g 76 uaplus), (a_minus, aJ g 76 uaminus), (a_digit, aI g 128 uadigit), (a_topA, aJ g 76 c_topA), (a_topB, aJ g 76 c_topB), (a_low, aJ g 76 ualow), (a_high, aJ g 76 uahigh), (a_two, aJ g 76 ruatwo), (a_one, aJ g 76 uaone_4)]) (sd_runS (rest := []) (As := [.ref a_one, .int (1024 : Int32)]) S (ct_Model_unshift l D g a_one (H.size) (1024 : Int32) ruaone F (uaone_4) hc) kl_Model_225 (by decide) (by decide) hK hP hD [16] rfl (by decide) rfl hl d_Model_write_170 rfl (Nat.le_of_ble_eq_true rfl) ⟨Nat.zero_le _, Nat.zero_le _⟩) hP hD hS hA [16] [0, 1, 2, 3, 4, 5, 6, 7, 8, 9, 10, 11, 12, 13, 14, 15, 17, 18] rfl rfl (by decide) (by decide) rfl (fun H locs hP hD hS => ?_)
    refine lv_aload_n hx hb d_Model_write_173 rfl (lv_at hl 0 rfl) ?_
    refine va_get (D := D) (ci := 5) (v := .ref a_two) (C := R_Model) (T := F_Model) (N := 31) hx hb htt i_Model hown hK hP 0 rfl rfl 19 (by decide) (htt _ kf_Model_63) (fun _ h9 => h9) rfl d_Model_write_174 ?_
    refine lv_sipush (v := (1024 : Int32)) hx hb d_Model_write_177 (by decide) ?_
    obtain ⟨uatwo_4, hc, hm⟩ := sd_mb1 hm
    refine sd_cv1 (wr := [(mo, .inr (5, [.ref a_n, .ref a_d, .ref a_r, .ref a_count, .ref a_newN, .ref a_newD, .ref a_newR, .int m_made, .ref a_out, .int umo, .ref a_root, .ref a_rest, .ref a_square, .ref a_part, .ref a_plus, .ref a_minus, .ref a_low, .ref a_high, .ref a_one, .ref a_two, .int umo_1, .int umo_2, .ref a_otherLow, .ref a_otherHigh, .ref a_digit, .ref a_topA, .ref a_underA, .ref a_topB, .ref a_underB, .ref a_quotient, .ref a_otherQuotient])), (a_n, aJ g 64 c_n), (a_d, aJ g 64 c_d), (a_r, aJ g 64 c_r), (a_count, aI g 8 c_count), (a_out, aB g 128 uaout), (a_root, aJ g 76 uaroot), (a_rest, aJ g 76 uarest), (a_square, aJ g 76 uasquare), (a_part, aJ g 76 uapart), (a_plus, aJ g 76 uaplus), (a_minus, aJ g 76 uaminus), (a_digit, aI g 128 uadigit), (a_topA, aJ g 76 c_topA), (a_topB, aJ g 76 c_topB), (a_low, aJ g 76 ualow), (a_high, aJ g 76 uahigh), (a_one, aJ g 76 uaone_4)]) (w2 := [(mo, .inr (5, [.ref a_n, .ref a_d, .ref a_r, .ref a_count, .ref a_newN, .ref a_newD, .ref a_newR, .int m_made, .ref a_out, .int umo, .ref a_root, .ref a_rest, .ref a_square, .ref a_part, .ref a_plus, .ref a_minus, .ref a_low, .ref a_high, .ref a_one, .ref a_two, .int umo_1, .int umo_2, .ref a_otherLow, .ref a_otherHigh, .ref a_digit, .ref a_topA, .ref a_underA, .ref a_topB, .ref a_underB, .ref a_quotient, .ref a_otherQuotient])), (a_n, aJ g 64 c_n), (a_d, aJ g 64 c_d), (a_r, aJ g 64 c_r), (a_count, aI g 8 c_count), (a_out, aB g 128 uaout), (a_root, aJ g 76 uaroot), (a_rest, aJ g 76 uarest), (a_square, aJ g 76 uasquare), (a_part, aJ g 76 uapart), (a_plus, aJ g 76 uaplus), (a_minus, aJ g 76 uaminus), (a_digit, aI g 128 uadigit), (a_topA, aJ g 76 c_topA), (a_topB, aJ g 76 c_topB), (a_low, aJ g 76 ualow), (a_high, aJ g 76 uahigh), (a_one, aJ g 76 uaone_4), (a_two, aJ g 76 uatwo_4)]) (sd_runS (rest := []) (As := [.ref a_two, .int (1024 : Int32)]) S (ct_Model_unshift l D g a_two (H.size) (1024 : Int32) ruatwo F (uatwo_4) hc) kl_Model_225 (by decide) (by decide) hK hP hD [17] rfl (by decide) rfl hl d_Model_write_180 rfl (Nat.le_of_ble_eq_true rfl) ⟨Nat.zero_le _, Nat.zero_le _⟩) hP hD hS hA [17] [0, 1, 2, 3, 4, 5, 6, 7, 8, 9, 10, 11, 12, 13, 14, 15, 16, 18] rfl rfl (by decide) (by decide) rfl (fun H locs hP hD hS => ?_)
    refine lv_aload_n hx hb d_Model_write_183 rfl (lv_at hl 0 rfl) ?_
    refine va_get (D := D) (ci := 5) (v := .ref a_one) (C := R_Model) (T := F_Model) (N := 31) hx hb htt i_Model hown hK hP 0 rfl rfl 18 (by decide) (htt _ kf_Model_60) (fun _ h9 => h9) rfl d_Model_write_184 ?_
    refine lv_aload_n hx hb d_Model_write_187 rfl (lv_at hl 0 rfl) ?_
    refine va_get (D := D) (ci := 5) (v := .ref a_two) (C := R_Model) (T := F_Model) (N := 31) hx hb htt i_Model hown hK hP 0 rfl rfl 19 (by decide) (htt _ kf_Model_63) (fun _ h9 => h9) rfl d_Model_write_188 ?_
    obtain ⟨r, hc, hm⟩ := sd_mb1 hm
    refine sd_ci0 (wr := [(mo, .inr (5, [.ref a_n, .ref a_d, .ref a_r, .ref a_count, .ref a_newN, .ref a_newD, .ref a_newR, .int m_made, .ref a_out, .int umo, .ref a_root, .ref a_rest, .ref a_square, .ref a_part, .ref a_plus, .ref a_minus, .ref a_low, .ref a_high, .ref a_one, .ref a_two, .int umo_1, .int umo_2, .ref a_otherLow, .ref a_otherHigh, .ref a_digit, .ref a_topA, .ref a_underA, .ref a_topB, .ref a_underB, .ref a_quotient, .ref a_otherQuotient])), (a_n, aJ g 64 c_n), (a_d, aJ g 64 c_d), (a_r, aJ g 64 c_r), (a_count, aI g 8 c_count), (a_out, aB g 128 uaout), (a_root, aJ g 76 uaroot), (a_rest, aJ g 76 uarest), (a_square, aJ g 76 uasquare), (a_part, aJ g 76 uapart), (a_plus, aJ g 76 uaplus), (a_minus, aJ g 76 uaminus), (a_digit, aI g 128 uadigit), (a_topA, aJ g 76 c_topA), (a_topB, aJ g 76 c_topB), (a_low, aJ g 76 ualow), (a_high, aJ g 76 uahigh)]) (w2 := [(mo, .inr (5, [.ref a_n, .ref a_d, .ref a_r, .ref a_count, .ref a_newN, .ref a_newD, .ref a_newR, .int m_made, .ref a_out, .int umo, .ref a_root, .ref a_rest, .ref a_square, .ref a_part, .ref a_plus, .ref a_minus, .ref a_low, .ref a_high, .ref a_one, .ref a_two, .int umo_1, .int umo_2, .ref a_otherLow, .ref a_otherHigh, .ref a_digit, .ref a_topA, .ref a_underA, .ref a_topB, .ref a_underB, .ref a_quotient, .ref a_otherQuotient])), (a_n, aJ g 64 c_n), (a_d, aJ g 64 c_d), (a_r, aJ g 64 c_r), (a_count, aI g 8 c_count), (a_out, aB g 128 uaout), (a_root, aJ g 76 uaroot), (a_rest, aJ g 76 uarest), (a_square, aJ g 76 uasquare), (a_part, aJ g 76 uapart), (a_plus, aJ g 76 uaplus), (a_minus, aJ g 76 uaminus), (a_digit, aI g 128 uadigit), (a_topA, aJ g 76 c_topA), (a_topB, aJ g 76 c_topB), (a_low, aJ g 76 ualow), (a_high, aJ g 76 uahigh), (a_one, aJ g 76 uaone_4), (a_two, aJ g 76 uatwo_4)]) (sd_runS (rest := []) (As := [.ref a_one, .ref a_two]) S (ct_Model_compareRows l D g a_one a_two (H.size) uaone_4 uatwo_4 F (r) hc) kl_Model_176 (by decide) (by decide) hK hP hD [17, 18] rfl (by decide) rfl hl d_Model_write_191 rfl (Nat.le_of_ble_eq_true rfl) ⟨Nat.zero_le _, Nat.zero_le _⟩) hP hD hS hA [17, 18] [0, 1, 2, 3, 4, 5, 6, 7, 8, 9, 10, 11, 12, 13, 14, 15, 16] rfl rfl (by decide) (by decide) rfl (fun H locs hP hD hS => ?_)
    refine W.eq (g2 := F0 m 194 ls [.int r]) rfl ?_
    refine lv_if_eq (tgt := 200) hx hb d_Model_write_194 (by decide) (fun hc => ?_) (fun hc => ?_)
    · have hm := sd_mt hc hm
      refine lv_aload_n hx hb d_Model_write_200 rfl (lv_at hl 0 rfl) ?_
      refine lv_iconst (v := (0 : Int32)) hx hb d_Model_write_201 (by decide) ?_
      refine sd_put (ci := 5) (v := .int (0 : Int32)) (ty := .int) (C := R_Model) (T := F_Model) (N := 31) (ws2 := [(mo, .inr (5, [.ref a_n, .ref a_d, .ref a_r, .ref a_count, .ref a_newN, .ref a_newD, .ref a_newR, .int m_made, .ref a_out, .int (0 : Int32), .ref a_root, .ref a_rest, .ref a_square, .ref a_part, .ref a_plus, .ref a_minus, .ref a_low, .ref a_high, .ref a_one, .ref a_two, .int umo_1, .int umo_2, .ref a_otherLow, .ref a_otherHigh, .ref a_digit, .ref a_topA, .ref a_underA, .ref a_topB, .ref a_underB, .ref a_quotient, .ref a_otherQuotient])), (a_n, aJ g 64 c_n), (a_d, aJ g 64 c_d), (a_r, aJ g 64 c_r), (a_count, aI g 8 c_count), (a_out, aB g 128 uaout), (a_root, aJ g 76 uaroot), (a_rest, aJ g 76 uarest), (a_square, aJ g 76 uasquare), (a_part, aJ g 76 uapart), (a_plus, aJ g 76 uaplus), (a_minus, aJ g 76 uaminus), (a_digit, aI g 128 uadigit), (a_topA, aJ g 76 c_topA), (a_topB, aJ g 76 c_topB), (a_low, aJ g 76 ualow), (a_high, aJ g 76 uahigh), (a_one, aJ g 76 uaone_4), (a_two, aJ g 76 uatwo_4)]) hx hb htt i_Model t_Model t_Model_ok n_Model hown hK hP hD hS 0 rfl rfl 9 (by decide) kf_Model_256 (fun _ h9 => h9) rfl (by decide +kernel) rfl rfl (Nat.le_of_ble_eq_true rfl) rfl d_Model_write_202 (fun H locs hP hD hS => ?_)
      refine lv_aload_n hx hb d_Model_write_205 rfl (lv_at hl 0 rfl) ?_
      refine va_get (D := D) (ci := 5) (v := .int umo_2) (C := R_Model) (T := F_Model) (N := 31) hx hb htt i_Model hown hK hP 0 rfl rfl 21 (by decide) (htt _ kf_Model_211) (fun _ h9 => h9) rfl d_Model_write_206 ?_
      obtain ⟨umo_3, uaout_1, hv, hm⟩ := sd_mb2 hm
      have J218_1 : ∀ (H : Heap) (locs : List Loc) (ls : Array Slot), va_P D classes [(mo, .inr (5, [.ref a_n, .ref a_d, .ref a_r, .ref a_count, .ref a_newN, .ref a_newD, .ref a_newR, .int m_made, .ref a_out, .int umo_3, .ref a_root, .ref a_rest, .ref a_square, .ref a_part, .ref a_plus, .ref a_minus, .ref a_low, .ref a_high, .ref a_one, .ref a_two, .int umo_1, .int umo_2, .ref a_otherLow, .ref a_otherHigh, .ref a_digit, .ref a_topA, .ref a_underA, .ref a_topB, .ref a_underB, .ref a_quotient, .ref a_otherQuotient])), (a_n, aJ g 64 c_n), (a_d, aJ g 64 c_d), (a_r, aJ g 64 c_r), (a_count, aI g 8 c_count), (a_out, aB g 128 uaout_1), (a_root, aJ g 76 uaroot), (a_rest, aJ g 76 uarest), (a_square, aJ g 76 uasquare), (a_part, aJ g 76 uapart), (a_plus, aJ g 76 uaplus), (a_minus, aJ g 76 uaminus), (a_digit, aI g 128 uadigit), (a_topA, aJ g 76 c_topA), (a_topB, aJ g 76 c_topB), (a_low, aJ g 76 ualow), (a_high, aJ g 76 uahigh), (a_one, aJ g 76 uaone_4), (a_two, aJ g 76 uatwo_4)] H → va_D A [(mo, .inr (5, [.ref a_n, .ref a_d, .ref a_r, .ref a_count, .ref a_newN, .ref a_newD, .ref a_newR, .int m_made, .ref a_out, .int umo_3, .ref a_root, .ref a_rest, .ref a_square, .ref a_part, .ref a_plus, .ref a_minus, .ref a_low, .ref a_high, .ref a_one, .ref a_two, .int umo_1, .int umo_2, .ref a_otherLow, .ref a_otherHigh, .ref a_digit, .ref a_topA, .ref a_underA, .ref a_topB, .ref a_underB, .ref a_quotient, .ref a_otherQuotient])), (a_n, aJ g 64 c_n), (a_d, aJ g 64 c_d), (a_r, aJ g 64 c_r), (a_count, aI g 8 c_count), (a_out, aB g 128 uaout_1), (a_root, aJ g 76 uaroot), (a_rest, aJ g 76 uarest), (a_square, aJ g 76 uasquare), (a_part, aJ g 76 uapart), (a_plus, aJ g 76 uaplus), (a_minus, aJ g 76 uaminus), (a_digit, aI g 128 uadigit), (a_topA, aJ g 76 c_topA), (a_topB, aJ g 76 c_topB), (a_low, aJ g 76 ualow), (a_high, aJ g 76 uahigh), (a_one, aJ g 76 uaone_4), (a_two, aJ g 76 uatwo_4)] → va_S A s.heap H locs → lv_has ls 4 [(0, .ref mo), (2, .int vPlaces)] → W p l e rm_Model_write s m args below meth c H locs 0 0 Q (F0 m 218 ls []) := by
        intro H locs ls hP hD hS hl
        refine lv_aload_n hx hb d_Model_write_218 rfl (lv_at hl 0 rfl) ?_
        refine lv_iload_n hx hb d_Model_write_219 rfl (lv_at hl 1 rfl) ?_
        obtain ⟨umo_5, uaout_3, uaone_5, uadigit_1, hc, hm⟩ := sd_mb4 hm
        refine sd_cv1 (wr := [(a_n, aJ g 64 c_n), (a_d, aJ g 64 c_d), (a_r, aJ g 64 c_r), (a_count, aI g 8 c_count), (a_root, aJ g 76 uaroot), (a_rest, aJ g 76 uarest), (a_square, aJ g 76 uasquare), (a_part, aJ g 76 uapart), (a_plus, aJ g 76 uaplus), (a_minus, aJ g 76 uaminus), (a_topA, aJ g 76 c_topA), (a_topB, aJ g 76 c_topB), (a_low, aJ g 76 ualow), (a_high, aJ g 76 uahigh), (a_two, aJ g 76 uatwo_4)]) (w2 := [(a_n, aJ g 64 c_n), (a_d, aJ g 64 c_d), (a_r, aJ g 64 c_r), (a_count, aI g 8 c_count), (a_root, aJ g 76 uaroot), (a_rest, aJ g 76 uarest), (a_square, aJ g 76 uasquare), (a_part, aJ g 76 uapart), (a_plus, aJ g 76 uaplus), (a_minus, aJ g 76 uaminus), (a_topA, aJ g 76 c_topA), (a_topB, aJ g 76 c_topB), (a_low, aJ g 76 ualow), (a_high, aJ g 76 uahigh), (a_two, aJ g 76 uatwo_4), (mo, .inr (5, [.ref a_n, .ref a_d, .ref a_r, .ref a_count, .ref a_newN, .ref a_newD, .ref a_newR, .int m_made, .ref a_out, .int umo_5, .ref a_root, .ref a_rest, .ref a_square, .ref a_part, .ref a_plus, .ref a_minus, .ref a_low, .ref a_high, .ref a_one, .ref a_two, .int umo_1, .int umo_2, .ref a_otherLow, .ref a_otherHigh, .ref a_digit, .ref a_topA, .ref a_underA, .ref a_topB, .ref a_underB, .ref a_quotient, .ref a_otherQuotient])), (a_out, aB g 128 uaout_3), (a_one, aJ g 76 uaone_5), (a_digit, aI g 128 uadigit_1)]) (sd_runV (rest := []) (As := [.int vPlaces]) S (ct_Model_digits l D g mo a_n a_d a_r a_count a_newN a_newD a_newR a_out a_root a_rest a_square a_part a_plus a_minus a_low a_high a_one a_two a_otherLow a_otherHigh a_digit a_topA a_underA a_topB a_underB a_quotient a_otherQuotient (H.size) vPlaces m_made umo_3 umo_1 umo_2 uaout_1 uaone_4 uadigit F (umo_5, uaout_3, uaone_5, uadigit_1) hc) kl_Model_273 (by decide) (by decide) hK hP hD [0, 5, 17, 12] rfl (by decide) rfl hl d_Model_write_220 rfl (Nat.le_of_ble_eq_true rfl) ⟨Nat.zero_le _, Nat.zero_le _⟩ 0 rfl rfl) hP hD hS hA [0, 5, 17, 12] [1, 2, 3, 4, 6, 7, 8, 9, 10, 11, 13, 14, 15, 16, 18] rfl rfl (by decide) (by decide) rfl (fun H locs hP hD hS => ?_)
        refine lv_aload_n hx hb d_Model_write_223 rfl (lv_at hl 0 rfl) ?_
        refine va_get (D := D) (ci := 5) (v := .int umo_5) (C := R_Model) (T := F_Model) (N := 31) hx hb htt i_Model hown hK hP 15 rfl rfl 9 (by decide) (htt _ kf_Model_256) (fun _ h9 => h9) rfl d_Model_write_224 ?_
        exact sd_i1ret (u := (umo_5, umo_1, umo_2, uaout_3, uaroot, uarest, uasquare, uapart, uaplus, uaminus, ualow, uahigh, uaone_5, uatwo_4, uadigit_1)) hQ hx hb hr hlk hK (hP.sub [15, 0, 1, 2, 3, 16, 4, 5, 6, 7, 8, 9, 12, 13, 17, 14, 18, 10, 11] rfl) (hD.sub [15, 0, 1, 2, 3, 16, 4, 5, 6, 7, 8, 9, 12, 13, 17, 14, 18, 10, 11] (by decide) rfl) hS (Option.some.inj hm).symm d_Model_write_227
      replace hm := hv
      refine lv_if_ge (tgt := 218) hx hb d_Model_write_209 (by decide) (fun hc => ?_) (fun hc => ?_)
      · have hm := sd_mt hc hm
        cases hm
        exact J218_1 H locs ls (hP.sub [0, 1, 2, 3, 4, 5, 6, 7, 8, 9, 10, 11, 12, 13, 14, 15, 16, 17, 18] rfl) (hD.sub [0, 1, 2, 3, 4, 5, 6, 7, 8, 9, 10, 11, 12, 13, 14, 15, 16, 17, 18] (by decide) rfl) hS (lv_sub hl [0, 1] rfl)
      · have hm := sd_mf hc hm
        refine lv_aload_n hx hb d_Model_write_212 rfl (lv_at hl 0 rfl) ?_
        refine lv_bipush (v := (45 : Int32)) hx hb d_Model_write_213 (by decide) ?_
        obtain ⟨umo_4, uaout_2, hc, hm⟩ := sd_mb2 hm
        refine sd_cv1 (wr := [(a_n, aJ g 64 c_n), (a_d, aJ g 64 c_d), (a_r, aJ g 64 c_r), (a_count, aI g 8 c_count), (a_root, aJ g 76 uaroot), (a_rest, aJ g 76 uarest), (a_square, aJ g 76 uasquare), (a_part, aJ g 76 uapart), (a_plus, aJ g 76 uaplus), (a_minus, aJ g 76 uaminus), (a_digit, aI g 128 uadigit), (a_topA, aJ g 76 c_topA), (a_topB, aJ g 76 c_topB), (a_low, aJ g 76 ualow), (a_high, aJ g 76 uahigh), (a_one, aJ g 76 uaone_4), (a_two, aJ g 76 uatwo_4)]) (w2 := [(a_n, aJ g 64 c_n), (a_d, aJ g 64 c_d), (a_r, aJ g 64 c_r), (a_count, aI g 8 c_count), (a_root, aJ g 76 uaroot), (a_rest, aJ g 76 uarest), (a_square, aJ g 76 uasquare), (a_part, aJ g 76 uapart), (a_plus, aJ g 76 uaplus), (a_minus, aJ g 76 uaminus), (a_digit, aI g 128 uadigit), (a_topA, aJ g 76 c_topA), (a_topB, aJ g 76 c_topB), (a_low, aJ g 76 ualow), (a_high, aJ g 76 uahigh), (a_one, aJ g 76 uaone_4), (a_two, aJ g 76 uatwo_4), (mo, .inr (5, [.ref a_n, .ref a_d, .ref a_r, .ref a_count, .ref a_newN, .ref a_newD, .ref a_newR, .int m_made, .ref a_out, .int umo_4, .ref a_root, .ref a_rest, .ref a_square, .ref a_part, .ref a_plus, .ref a_minus, .ref a_low, .ref a_high, .ref a_one, .ref a_two, .int umo_1, .int umo_2, .ref a_otherLow, .ref a_otherHigh, .ref a_digit, .ref a_topA, .ref a_underA, .ref a_topB, .ref a_underB, .ref a_quotient, .ref a_otherQuotient])), (a_out, aB g 128 uaout_2)]) (sd_runV (rest := []) (As := [.int (45 : Int32)]) S (ct_Model_say l D g mo a_n a_d a_r a_count a_newN a_newD a_newR a_out a_root a_rest a_square a_part a_plus a_minus a_low a_high a_one a_two a_otherLow a_otherHigh a_digit a_topA a_underA a_topB a_underB a_quotient a_otherQuotient (H.size) (45 : Int32) m_made (0 : Int32) umo_1 umo_2 uaout F (umo_4, uaout_2) hc) kl_Model_266 (by decide) (by decide) hK hP hD [0, 5] rfl (by decide) rfl hl d_Model_write_215 rfl (Nat.le_of_ble_eq_true rfl) ⟨Nat.zero_le _, Nat.zero_le _⟩ 0 rfl rfl) hP hD hS hA [0, 5] [1, 2, 3, 4, 6, 7, 8, 9, 10, 11, 12, 13, 14, 15, 16, 17, 18] rfl rfl (by decide) (by decide) rfl (fun H locs hP hD hS => ?_)
        cases hm
        exact J218_1 H locs ls (hP.sub [17, 0, 1, 2, 3, 18, 4, 5, 6, 7, 8, 9, 10, 11, 12, 13, 14, 15, 16] rfl) (hD.sub [17, 0, 1, 2, 3, 18, 4, 5, 6, 7, 8, 9, 10, 11, 12, 13, 14, 15, 16] (by decide) rfl) hS (lv_sub hl [0, 1] rfl)
    · have hm := sd_mf hc hm
      refine lv_bipush (v := (-4 : Int32)) hx hb d_Model_write_197 (by decide) ?_
      exact sd_i1ret (u := (umo, umo_1, umo_2, uaout, uaroot, uarest, uasquare, uapart, uaplus, uaminus, ualow, uahigh, uaone_4, uatwo_4, uadigit)) hQ hx hb hr hlk hK (hP.sub [0, 1, 2, 3, 4, 5, 6, 7, 8, 9, 10, 11, 15, 16, 17, 18, 12, 13, 14] rfl) (hD.sub [0, 1, 2, 3, 4, 5, 6, 7, 8, 9, 10, 11, 15, 16, 17, 18, 12, 13, 14] (by decide) rfl) hS (Option.some.inj hm).symm d_Model_write_199
  refine lv_iload_n hx hb d_Model_write_0 rfl (lv_at hl 1 rfl) ?_
  obtain ⟨r_1, hc, hm⟩ := sd_mb1 hm
  refine sd_ci0 (wr := [(mo, .inr (5, [.ref a_n, .ref a_d, .ref a_r, .ref a_count, .ref a_newN, .ref a_newD, .ref a_newR, .int m_made, .ref a_out, .int m_outCount, .ref a_root, .ref a_rest, .ref a_square, .ref a_part, .ref a_plus, .ref a_minus, .ref a_low, .ref a_high, .ref a_one, .ref a_two, .int m_lowSign, .int m_highSign, .ref a_otherLow, .ref a_otherHigh, .ref a_digit, .ref a_topA, .ref a_underA, .ref a_topB, .ref a_underB, .ref a_quotient, .ref a_otherQuotient])), (a_n, aJ g 64 c_n), (a_d, aJ g 64 c_d), (a_r, aJ g 64 c_r), (a_count, aI g 8 c_count), (a_out, aB g 128 c_out), (a_root, aJ g 76 c_root), (a_rest, aJ g 76 c_rest), (a_square, aJ g 76 c_square), (a_part, aJ g 76 c_part), (a_plus, aJ g 76 c_plus), (a_minus, aJ g 76 c_minus), (a_low, aJ g 76 c_low), (a_high, aJ g 76 c_high), (a_one, aJ g 76 c_one), (a_two, aJ g 76 c_two), (a_digit, aI g 128 c_digit), (a_topA, aJ g 76 c_topA), (a_topB, aJ g 76 c_topB)]) (w2 := [(mo, .inr (5, [.ref a_n, .ref a_d, .ref a_r, .ref a_count, .ref a_newN, .ref a_newD, .ref a_newR, .int m_made, .ref a_out, .int m_outCount, .ref a_root, .ref a_rest, .ref a_square, .ref a_part, .ref a_plus, .ref a_minus, .ref a_low, .ref a_high, .ref a_one, .ref a_two, .int m_lowSign, .int m_highSign, .ref a_otherLow, .ref a_otherHigh, .ref a_digit, .ref a_topA, .ref a_underA, .ref a_topB, .ref a_underB, .ref a_quotient, .ref a_otherQuotient])), (a_n, aJ g 64 c_n), (a_d, aJ g 64 c_d), (a_r, aJ g 64 c_r), (a_count, aI g 8 c_count), (a_out, aB g 128 c_out), (a_root, aJ g 76 c_root), (a_rest, aJ g 76 c_rest), (a_square, aJ g 76 c_square), (a_part, aJ g 76 c_part), (a_plus, aJ g 76 c_plus), (a_minus, aJ g 76 c_minus), (a_low, aJ g 76 c_low), (a_high, aJ g 76 c_high), (a_one, aJ g 76 c_one), (a_two, aJ g 76 c_two), (a_digit, aI g 128 c_digit), (a_topA, aJ g 76 c_topA), (a_topB, aJ g 76 c_topB)]) (sd_runS (rest := []) (As := [.int vI]) S (ct_Model_is l D g (H.size) vI F (r_1) hc) kl_Model_109 (by decide) (by decide) hK hP hD [] rfl (by decide) rfl hl d_Model_write_1 rfl (Nat.le_of_ble_eq_true rfl) ⟨Nat.zero_le _, Nat.zero_le _⟩) hP hD hS hA [] [0, 1, 2, 3, 4, 5, 6, 7, 8, 9, 10, 11, 12, 13, 14, 15, 16, 17, 18] rfl rfl (by decide) (by decide) rfl (fun H locs hP hD hS => ?_)
  refine W.eq (g2 := F0 m 4 ls [.int r_1]) rfl ?_
  refine lv_if_eq (tgt := 17) hx hb d_Model_write_4 (by decide) (fun hc => ?_) (fun hc => ?_)
  · have hm := sd_mt hc hm
    refine lv_iconst (v := (-1 : Int32)) hx hb d_Model_write_17 (by decide) ?_
    exact sd_i1ret (u := (m_outCount, m_lowSign, m_highSign, c_out, c_root, c_rest, c_square, c_part, c_plus, c_minus, c_low, c_high, c_one, c_two, c_digit)) hQ hx hb hr hlk hK (hP.sub [0, 1, 2, 3, 4, 5, 6, 7, 8, 9, 10, 11, 12, 13, 14, 15, 16, 17, 18] rfl) (hD.sub [0, 1, 2, 3, 4, 5, 6, 7, 8, 9, 10, 11, 12, 13, 14, 15, 16, 17, 18] (by decide) rfl) hS (Option.some.inj hm).symm d_Model_write_18
  · have hm := sd_mf hc hm
    refine lv_iload_n hx hb d_Model_write_7 rfl (lv_at hl 2 rfl) ?_
    refine lv_if_lt (tgt := 17) hx hb d_Model_write_8 (by decide) (fun hc => ?_) (fun hc => ?_)
    · have hm := sd_mt hc hm
      refine lv_iconst (v := (-1 : Int32)) hx hb d_Model_write_17 (by decide) ?_
      exact sd_i1ret (u := (m_outCount, m_lowSign, m_highSign, c_out, c_root, c_rest, c_square, c_part, c_plus, c_minus, c_low, c_high, c_one, c_two, c_digit)) hQ hx hb hr hlk hK (hP.sub [0, 1, 2, 3, 4, 5, 6, 7, 8, 9, 10, 11, 12, 13, 14, 15, 16, 17, 18] rfl) (hD.sub [0, 1, 2, 3, 4, 5, 6, 7, 8, 9, 10, 11, 12, 13, 14, 15, 16, 17, 18] (by decide) rfl) hS (Option.some.inj hm).symm d_Model_write_18
    · have hm := sd_mf hc hm
      refine lv_iload_n hx hb d_Model_write_11 rfl (lv_at hl 2 rfl) ?_
      refine lv_bipush (v := (80 : Int32)) hx hb d_Model_write_12 (by decide) ?_
      refine lv_icmp_le (tgt := 19) hx hb d_Model_write_14 (by decide) (fun hc => ?_) (fun hc => ?_)
      · have hm := sd_mt hc hm
        refine lv_aload_n hx hb d_Model_write_19 rfl (lv_at hl 0 rfl) ?_
        refine lv_iload_n hx hb d_Model_write_20 rfl (lv_at hl 1 rfl) ?_
        obtain ⟨r_2, hc, hm⟩ := sd_mb1 hm
        refine sd_ci0 (wr := [(a_n, aJ g 64 c_n), (a_d, aJ g 64 c_d), (a_out, aB g 128 c_out), (a_root, aJ g 76 c_root), (a_rest, aJ g 76 c_rest), (a_square, aJ g 76 c_square), (a_part, aJ g 76 c_part), (a_plus, aJ g 76 c_plus), (a_minus, aJ g 76 c_minus), (a_low, aJ g 76 c_low), (a_high, aJ g 76 c_high), (a_one, aJ g 76 c_one), (a_two, aJ g 76 c_two), (a_digit, aI g 128 c_digit), (a_topA, aJ g 76 c_topA), (a_topB, aJ g 76 c_topB)]) (w2 := [(a_n, aJ g 64 c_n), (a_d, aJ g 64 c_d), (a_out, aB g 128 c_out), (a_root, aJ g 76 c_root), (a_rest, aJ g 76 c_rest), (a_square, aJ g 76 c_square), (a_part, aJ g 76 c_part), (a_plus, aJ g 76 c_plus), (a_minus, aJ g 76 c_minus), (a_low, aJ g 76 c_low), (a_high, aJ g 76 c_high), (a_one, aJ g 76 c_one), (a_two, aJ g 76 c_two), (a_digit, aI g 128 c_digit), (a_topA, aJ g 76 c_topA), (a_topB, aJ g 76 c_topB), (mo, .inr (5, [.ref a_n, .ref a_d, .ref a_r, .ref a_count, .ref a_newN, .ref a_newD, .ref a_newR, .int m_made, .ref a_out, .int m_outCount, .ref a_root, .ref a_rest, .ref a_square, .ref a_part, .ref a_plus, .ref a_minus, .ref a_low, .ref a_high, .ref a_one, .ref a_two, .int m_lowSign, .int m_highSign, .ref a_otherLow, .ref a_otherHigh, .ref a_digit, .ref a_topA, .ref a_underA, .ref a_topB, .ref a_underB, .ref a_quotient, .ref a_otherQuotient])), (a_r, aJ g 64 c_r), (a_count, aI g 8 c_count)]) (sd_runV (rest := []) (As := [.int vI]) S (ct_Model_fraction l D g mo a_n a_d a_r a_count a_newN a_newD a_newR a_out a_root a_rest a_square a_part a_plus a_minus a_low a_high a_one a_two a_otherLow a_otherHigh a_digit a_topA a_underA a_topB a_underB a_quotient a_otherQuotient (H.size) vI m_made m_outCount m_lowSign m_highSign c_r c_count F (r_2) hc) kl_Model_121 (by decide) (by decide) hK hP hD [0, 3, 4] rfl (by decide) rfl hl d_Model_write_21 rfl (Nat.le_of_ble_eq_true rfl) ⟨Nat.zero_le _, Nat.zero_le _⟩ 0 rfl rfl) hP hD hS hA [0, 3, 4] [1, 2, 5, 6, 7, 8, 9, 10, 11, 12, 13, 14, 15, 16, 17, 18] rfl rfl (by decide) (by decide) rfl (fun H locs hP hD hS => ?_)
        refine W.eq (g2 := F0 m 24 ls [.int r_2]) rfl ?_
        refine lv_if_eq (tgt := 86) hx hb d_Model_write_24 (by decide) (fun hc => ?_) (fun hc => ?_)
        · have hm := sd_mt hc hm
          refine lv_aload_n hx hb d_Model_write_86 rfl (lv_at hl 0 rfl) ?_
          refine lv_iload_n hx hb d_Model_write_87 rfl (lv_at hl 1 rfl) ?_
          obtain ⟨umo_6, umo_7, uaroot_1, uarest_1, uasquare_1, uapart_1, uaplus_1, uaminus_1, ualow_1, uahigh_1, uaone_6, hc, hm⟩ := sd_mb11 hm
          refine sd_cv1 (wr := [(a_out, aB g 128 c_out), (a_two, aJ g 76 c_two), (a_digit, aI g 128 c_digit), (a_topA, aJ g 76 c_topA), (a_topB, aJ g 76 c_topB)]) (w2 := [(a_out, aB g 128 c_out), (a_two, aJ g 76 c_two), (a_digit, aI g 128 c_digit), (a_topA, aJ g 76 c_topA), (a_topB, aJ g 76 c_topB), (mo, .inr (5, [.ref a_n, .ref a_d, .ref a_r, .ref a_count, .ref a_newN, .ref a_newD, .ref a_newR, .int m_made, .ref a_out, .int m_outCount, .ref a_root, .ref a_rest, .ref a_square, .ref a_part, .ref a_plus, .ref a_minus, .ref a_low, .ref a_high, .ref a_one, .ref a_two, .int umo_6, .int umo_7, .ref a_otherLow, .ref a_otherHigh, .ref a_digit, .ref a_topA, .ref a_underA, .ref a_topB, .ref a_underB, .ref a_quotient, .ref a_otherQuotient])), (a_n, aJ g 64 c_n), (a_d, aJ g 64 c_d), (a_r, aJ g 64 c_r), (a_count, aI g 8 c_count), (a_root, aJ g 76 uaroot_1), (a_rest, aJ g 76 uarest_1), (a_square, aJ g 76 uasquare_1), (a_part, aJ g 76 uapart_1), (a_plus, aJ g 76 uaplus_1), (a_minus, aJ g 76 uaminus_1), (a_low, aJ g 76 ualow_1), (a_high, aJ g 76 uahigh_1), (a_one, aJ g 76 uaone_6)]) (sd_runV (rest := []) (As := [.int vI]) S (ct_Model_ends l D g mo a_n a_d a_r a_count a_newN a_newD a_newR a_out a_root a_rest a_square a_part a_plus a_minus a_low a_high a_one a_two a_otherLow a_otherHigh a_digit a_topA a_underA a_topB a_underB a_quotient a_otherQuotient (H.size) vI m_made m_outCount m_lowSign m_highSign c_n c_d c_r c_count c_root c_rest c_square c_part c_plus c_minus c_low c_high c_one F (umo_6, umo_7, uaroot_1, uarest_1, uasquare_1, uapart_1, uaplus_1, uaminus_1, ualow_1, uahigh_1, uaone_6) hc) kl_Model_218 (by decide) (by decide) hK hP hD [16, 0, 1, 17, 18, 3, 4, 5, 6, 7, 8, 9, 10, 11] rfl (by decide) rfl hl d_Model_write_88 rfl (Nat.le_of_ble_eq_true rfl) ⟨Nat.zero_le _, Nat.zero_le _⟩ 16 rfl rfl) hP hD hS hA [16, 0, 1, 17, 18, 3, 4, 5, 6, 7, 8, 9, 10, 11] [2, 12, 13, 14, 15] rfl rfl (by decide) (by decide) rfl (fun H locs hP hD hS => ?_)
          refine lv_aload_n hx hb d_Model_write_91 rfl (lv_at hl 0 rfl) ?_
          refine va_get (D := D) (ci := 5) (v := .int umo_6) (C := R_Model) (T := F_Model) (N := 31) hx hb htt i_Model hown hK hP 5 rfl rfl 20 (by decide) (htt _ kf_Model_208) (fun _ h9 => h9) rfl d_Model_write_92 ?_
          refine lv_if_gt (tgt := 108) hx hb d_Model_write_95 (by decide) (fun hc => ?_) (fun hc => ?_)
          · have hm := sd_mt hc hm
            exact J108 m_outCount umo_6 umo_7 c_out uaroot_1 uarest_1 uasquare_1 uapart_1 uaplus_1 uaminus_1 ualow_1 uahigh_1 uaone_6 c_two c_digit hm H locs ls (hP.sub [5, 6, 7, 8, 9, 0, 10, 11, 12, 13, 14, 15, 16, 17, 18, 1, 2, 3, 4] rfl) (hD.sub [5, 6, 7, 8, 9, 0, 10, 11, 12, 13, 14, 15, 16, 17, 18, 1, 2, 3, 4] (by decide) rfl) hS (lv_sub hl [0, 2] rfl)
          · have hm := sd_mf hc hm
            refine lv_aload_n hx hb d_Model_write_98 rfl (lv_at hl 0 rfl) ?_
            refine va_get (D := D) (ci := 5) (v := .int umo_7) (C := R_Model) (T := F_Model) (N := 31) hx hb htt i_Model hown hK hP 5 rfl rfl 21 (by decide) (htt _ kf_Model_211) (fun _ h9 => h9) rfl d_Model_write_99 ?_
            refine lv_if_lt (tgt := 108) hx hb d_Model_write_102 (by decide) (fun hc => ?_) (fun hc => ?_)
            · have hm := sd_mt hc hm
              exact J108 m_outCount umo_6 umo_7 c_out uaroot_1 uarest_1 uasquare_1 uapart_1 uaplus_1 uaminus_1 ualow_1 uahigh_1 uaone_6 c_two c_digit hm H locs ls (hP.sub [5, 6, 7, 8, 9, 0, 10, 11, 12, 13, 14, 15, 16, 17, 18, 1, 2, 3, 4] rfl) (hD.sub [5, 6, 7, 8, 9, 0, 10, 11, 12, 13, 14, 15, 16, 17, 18, 1, 2, 3, 4] (by decide) rfl) hS (lv_sub hl [0, 2] rfl)
            · have hm := sd_mf hc hm
              refine lv_bipush (v := (-4 : Int32)) hx hb d_Model_write_105 (by decide) ?_
              exact sd_i1ret (u := (m_outCount, umo_6, umo_7, c_out, uaroot_1, uarest_1, uasquare_1, uapart_1, uaplus_1, uaminus_1, ualow_1, uahigh_1, uaone_6, c_two, c_digit)) hQ hx hb hr hlk hK (hP.sub [5, 6, 7, 8, 9, 0, 10, 11, 12, 13, 14, 15, 16, 17, 18, 1, 2, 3, 4] rfl) (hD.sub [5, 6, 7, 8, 9, 0, 10, 11, 12, 13, 14, 15, 16, 17, 18, 1, 2, 3, 4] (by decide) rfl) hS (Option.some.inj hm).symm d_Model_write_107
        · have hm := sd_mf hc hm
          refine lv_aload_n hx hb d_Model_write_27 rfl (lv_at hl 0 rfl) ?_
          refine lv_iconst (v := (0 : Int32)) hx hb d_Model_write_28 (by decide) ?_
          refine sd_put (ci := 5) (v := .int (0 : Int32)) (ty := .int) (C := R_Model) (T := F_Model) (N := 31) (ws2 := [(a_n, aJ g 64 c_n), (a_d, aJ g 64 c_d), (a_out, aB g 128 c_out), (a_root, aJ g 76 c_root), (a_rest, aJ g 76 c_rest), (a_square, aJ g 76 c_square), (a_part, aJ g 76 c_part), (a_plus, aJ g 76 c_plus), (a_minus, aJ g 76 c_minus), (a_low, aJ g 76 c_low), (a_high, aJ g 76 c_high), (a_one, aJ g 76 c_one), (a_two, aJ g 76 c_two), (a_digit, aI g 128 c_digit), (a_topA, aJ g 76 c_topA), (a_topB, aJ g 76 c_topB), (mo, .inr (5, [.ref a_n, .ref a_d, .ref a_r, .ref a_count, .ref a_newN, .ref a_newD, .ref a_newR, .int m_made, .ref a_out, .int (0 : Int32), .ref a_root, .ref a_rest, .ref a_square, .ref a_part, .ref a_plus, .ref a_minus, .ref a_low, .ref a_high, .ref a_one, .ref a_two, .int m_lowSign, .int m_highSign, .ref a_otherLow, .ref a_otherHigh, .ref a_digit, .ref a_topA, .ref a_underA, .ref a_topB, .ref a_underB, .ref a_quotient, .ref a_otherQuotient])), (a_r, aJ g 64 c_r), (a_count, aI g 8 c_count)]) hx hb htt i_Model t_Model t_Model_ok n_Model hown hK hP hD hS 16 rfl rfl 9 (by decide) kf_Model_256 (fun _ h9 => h9) rfl (by decide +kernel) rfl rfl (Nat.le_of_ble_eq_true rfl) rfl d_Model_write_29 (fun H locs hP hD hS => ?_)
          refine lv_aload_n hx hb d_Model_write_32 rfl (lv_at hl 0 rfl) ?_
          refine lv_aload_n hx hb d_Model_write_33 rfl (lv_at hl 0 rfl) ?_
          refine va_get (D := D) (ci := 5) (v := .ref a_count) (C := R_Model) (T := F_Model) (N := 31) hx hb htt i_Model hown hK hP 16 rfl rfl 3 (by decide) (htt _ kf_Model_19) (fun _ h9 => h9) rfl d_Model_write_34 ?_
          refine lv_iload_n hx hb d_Model_write_37 rfl (lv_at hl 1 rfl) ?_
          obtain ⟨h_2, hm⟩ := sd_mg hm
          refine sd_iald hx hb hK hP 18 rfl h_2 d_Model_write_38 ?_
          obtain ⟨y, hv, hm⟩ := sd_mb1 hm
          have J55_3 : ∀ (H : Heap) (locs : List Loc) (ls : Array Slot), va_P D classes [(a_n, aJ g 64 c_n), (a_d, aJ g 64 c_d), (a_out, aB g 128 c_out), (a_root, aJ g 76 c_root), (a_rest, aJ g 76 c_rest), (a_square, aJ g 76 c_square), (a_part, aJ g 76 c_part), (a_plus, aJ g 76 c_plus), (a_minus, aJ g 76 c_minus), (a_low, aJ g 76 c_low), (a_high, aJ g 76 c_high), (a_one, aJ g 76 c_one), (a_two, aJ g 76 c_two), (a_digit, aI g 128 c_digit), (a_topA, aJ g 76 c_topA), (a_topB, aJ g 76 c_topB), (mo, .inr (5, [.ref a_n, .ref a_d, .ref a_r, .ref a_count, .ref a_newN, .ref a_newD, .ref a_newR, .int m_made, .ref a_out, .int (0 : Int32), .ref a_root, .ref a_rest, .ref a_square, .ref a_part, .ref a_plus, .ref a_minus, .ref a_low, .ref a_high, .ref a_one, .ref a_two, .int m_lowSign, .int m_highSign, .ref a_otherLow, .ref a_otherHigh, .ref a_digit, .ref a_topA, .ref a_underA, .ref a_topB, .ref a_underB, .ref a_quotient, .ref a_otherQuotient])), (a_r, aJ g 64 c_r), (a_count, aI g 8 c_count)] H → va_D A [(a_n, aJ g 64 c_n), (a_d, aJ g 64 c_d), (a_out, aB g 128 c_out), (a_root, aJ g 76 c_root), (a_rest, aJ g 76 c_rest), (a_square, aJ g 76 c_square), (a_part, aJ g 76 c_part), (a_plus, aJ g 76 c_plus), (a_minus, aJ g 76 c_minus), (a_low, aJ g 76 c_low), (a_high, aJ g 76 c_high), (a_one, aJ g 76 c_one), (a_two, aJ g 76 c_two), (a_digit, aI g 128 c_digit), (a_topA, aJ g 76 c_topA), (a_topB, aJ g 76 c_topB), (mo, .inr (5, [.ref a_n, .ref a_d, .ref a_r, .ref a_count, .ref a_newN, .ref a_newD, .ref a_newR, .int m_made, .ref a_out, .int (0 : Int32), .ref a_root, .ref a_rest, .ref a_square, .ref a_part, .ref a_plus, .ref a_minus, .ref a_low, .ref a_high, .ref a_one, .ref a_two, .int m_lowSign, .int m_highSign, .ref a_otherLow, .ref a_otherHigh, .ref a_digit, .ref a_topA, .ref a_underA, .ref a_topB, .ref a_underB, .ref a_quotient, .ref a_otherQuotient])), (a_r, aJ g 64 c_r), (a_count, aI g 8 c_count)] → va_S A s.heap H locs → lv_has ls 4 [(0, .ref mo), (1, .int vI), (2, .int vPlaces)] → W p l e rm_Model_write s m args below meth c H locs 0 0 Q (F0 m 55 ls [.long y, .ref mo]) := by
            intro H locs ls hP hD hS hl
            refine lv_aload_n hx hb d_Model_write_55 rfl (lv_at hl 0 rfl) ?_
            refine va_get (D := D) (ci := 5) (v := .ref a_count) (C := R_Model) (T := F_Model) (N := 31) hx hb htt i_Model hown hK hP 16 rfl rfl 3 (by decide) (htt _ kf_Model_19) (fun _ h9 => h9) rfl d_Model_write_56 ?_
            refine lv_iload_n hx hb d_Model_write_59 rfl (lv_at hl 1 rfl) ?_
            obtain ⟨h_5, hm⟩ := sd_mg hm
            refine sd_iald hx hb hK hP 18 rfl h_5 d_Model_write_60 ?_
            obtain ⟨y_1, hv, hm⟩ := sd_mb1 hm
            have J77_6 : ∀ (H : Heap) (locs : List Loc) (ls : Array Slot), va_P D classes [(a_n, aJ g 64 c_n), (a_d, aJ g 64 c_d), (a_out, aB g 128 c_out), (a_root, aJ g 76 c_root), (a_rest, aJ g 76 c_rest), (a_square, aJ g 76 c_square), (a_part, aJ g 76 c_part), (a_plus, aJ g 76 c_plus), (a_minus, aJ g 76 c_minus), (a_low, aJ g 76 c_low), (a_high, aJ g 76 c_high), (a_one, aJ g 76 c_one), (a_two, aJ g 76 c_two), (a_digit, aI g 128 c_digit), (a_topA, aJ g 76 c_topA), (a_topB, aJ g 76 c_topB), (mo, .inr (5, [.ref a_n, .ref a_d, .ref a_r, .ref a_count, .ref a_newN, .ref a_newD, .ref a_newR, .int m_made, .ref a_out, .int (0 : Int32), .ref a_root, .ref a_rest, .ref a_square, .ref a_part, .ref a_plus, .ref a_minus, .ref a_low, .ref a_high, .ref a_one, .ref a_two, .int m_lowSign, .int m_highSign, .ref a_otherLow, .ref a_otherHigh, .ref a_digit, .ref a_topA, .ref a_underA, .ref a_topB, .ref a_underB, .ref a_quotient, .ref a_otherQuotient])), (a_r, aJ g 64 c_r), (a_count, aI g 8 c_count)] H → va_D A [(a_n, aJ g 64 c_n), (a_d, aJ g 64 c_d), (a_out, aB g 128 c_out), (a_root, aJ g 76 c_root), (a_rest, aJ g 76 c_rest), (a_square, aJ g 76 c_square), (a_part, aJ g 76 c_part), (a_plus, aJ g 76 c_plus), (a_minus, aJ g 76 c_minus), (a_low, aJ g 76 c_low), (a_high, aJ g 76 c_high), (a_one, aJ g 76 c_one), (a_two, aJ g 76 c_two), (a_digit, aI g 128 c_digit), (a_topA, aJ g 76 c_topA), (a_topB, aJ g 76 c_topB), (mo, .inr (5, [.ref a_n, .ref a_d, .ref a_r, .ref a_count, .ref a_newN, .ref a_newD, .ref a_newR, .int m_made, .ref a_out, .int (0 : Int32), .ref a_root, .ref a_rest, .ref a_square, .ref a_part, .ref a_plus, .ref a_minus, .ref a_low, .ref a_high, .ref a_one, .ref a_two, .int m_lowSign, .int m_highSign, .ref a_otherLow, .ref a_otherHigh, .ref a_digit, .ref a_topA, .ref a_underA, .ref a_topB, .ref a_underB, .ref a_quotient, .ref a_otherQuotient])), (a_r, aJ g 64 c_r), (a_count, aI g 8 c_count)] → va_S A s.heap H locs → lv_has ls 4 [(0, .ref mo), (2, .int vPlaces)] → W p l e rm_Model_write s m args below meth c H locs 0 0 Q (F0 m 77 ls [.long y_1, .long y, .ref mo]) := by
              intro H locs ls hP hD hS hl
              refine lv_iload_n hx hb d_Model_write_77 rfl (lv_at hl 1 rfl) ?_
              obtain ⟨umo_8, uaout_4, hc, hm⟩ := sd_mb2 hm
              refine sd_cv1 (wr := [(a_n, aJ g 64 c_n), (a_d, aJ g 64 c_d), (a_root, aJ g 76 c_root), (a_rest, aJ g 76 c_rest), (a_square, aJ g 76 c_square), (a_part, aJ g 76 c_part), (a_plus, aJ g 76 c_plus), (a_minus, aJ g 76 c_minus), (a_low, aJ g 76 c_low), (a_high, aJ g 76 c_high), (a_one, aJ g 76 c_one), (a_two, aJ g 76 c_two), (a_digit, aI g 128 c_digit), (a_topA, aJ g 76 c_topA), (a_topB, aJ g 76 c_topB), (a_r, aJ g 64 c_r), (a_count, aI g 8 c_count)]) (w2 := [(a_n, aJ g 64 c_n), (a_d, aJ g 64 c_d), (a_root, aJ g 76 c_root), (a_rest, aJ g 76 c_rest), (a_square, aJ g 76 c_square), (a_part, aJ g 76 c_part), (a_plus, aJ g 76 c_plus), (a_minus, aJ g 76 c_minus), (a_low, aJ g 76 c_low), (a_high, aJ g 76 c_high), (a_one, aJ g 76 c_one), (a_two, aJ g 76 c_two), (a_digit, aI g 128 c_digit), (a_topA, aJ g 76 c_topA), (a_topB, aJ g 76 c_topB), (a_r, aJ g 64 c_r), (a_count, aI g 8 c_count), (mo, .inr (5, [.ref a_n, .ref a_d, .ref a_r, .ref a_count, .ref a_newN, .ref a_newD, .ref a_newR, .int m_made, .ref a_out, .int umo_8, .ref a_root, .ref a_rest, .ref a_square, .ref a_part, .ref a_plus, .ref a_minus, .ref a_low, .ref a_high, .ref a_one, .ref a_two, .int m_lowSign, .int m_highSign, .ref a_otherLow, .ref a_otherHigh, .ref a_digit, .ref a_topA, .ref a_underA, .ref a_topB, .ref a_underB, .ref a_quotient, .ref a_otherQuotient])), (a_out, aB g 128 uaout_4)]) (sd_runV (rest := []) (As := [.long y, .long y_1, .int vPlaces]) S (ct_Model_writeFraction l D g mo a_n a_d a_r a_count a_newN a_newD a_newR a_out a_root a_rest a_square a_part a_plus a_minus a_low a_high a_one a_two a_otherLow a_otherHigh a_digit a_topA a_underA a_topB a_underB a_quotient a_otherQuotient (H.size) y y_1 vPlaces m_made (0 : Int32) m_lowSign m_highSign c_out F (umo_8, uaout_4) hc) kl_Model_269 (by decide) (by decide) hK hP hD [16, 2] rfl (by decide) rfl hl d_Model_write_78 rfl (Nat.le_of_ble_eq_true rfl) ⟨Nat.zero_le _, Nat.zero_le _⟩ 16 rfl rfl) hP hD hS hA [16, 2] [0, 1, 3, 4, 5, 6, 7, 8, 9, 10, 11, 12, 13, 14, 15, 17, 18] rfl rfl (by decide) (by decide) rfl (fun H locs hP hD hS => ?_)
              refine lv_aload_n hx hb d_Model_write_81 rfl (lv_at hl 0 rfl) ?_
              refine va_get (D := D) (ci := 5) (v := .int umo_8) (C := R_Model) (T := F_Model) (N := 31) hx hb htt i_Model hown hK hP 17 rfl rfl 9 (by decide) (htt _ kf_Model_256) (fun _ h9 => h9) rfl d_Model_write_82 ?_
              exact sd_i1ret (u := (umo_8, m_lowSign, m_highSign, uaout_4, c_root, c_rest, c_square, c_part, c_plus, c_minus, c_low, c_high, c_one, c_two, c_digit)) hQ hx hb hr hlk hK (hP.sub [17, 0, 1, 15, 16, 18, 2, 3, 4, 5, 6, 7, 8, 9, 10, 11, 12, 13, 14] rfl) (hD.sub [17, 0, 1, 15, 16, 18, 2, 3, 4, 5, 6, 7, 8, 9, 10, 11, 12, 13, 14] (by decide) rfl) hS (Option.some.inj hm).symm d_Model_write_85
            replace hm := hv
            refine lv_if_ne (tgt := 68) hx hb d_Model_write_61 (by decide) (fun hc => ?_) (fun hc => ?_)
            · have hm := sd_mf hc hm
              refine lv_aload_n hx hb d_Model_write_68 rfl (lv_at hl 0 rfl) ?_
              refine va_get (D := D) (ci := 5) (v := .ref a_d) (C := R_Model) (T := F_Model) (N := 31) hx hb htt i_Model hown hK hP 16 rfl rfl 1 (by decide) (htt _ kf_Model_13) (fun _ h9 => h9) rfl d_Model_write_69 ?_
              refine lv_bipush (v := (8 : Int32)) hx hb d_Model_write_72 (by decide) ?_
              refine lv_iload_n hx hb d_Model_write_74 rfl (lv_at hl 1 rfl) ?_
              refine lv_imul hx hb d_Model_write_75 ?_
              obtain ⟨h_7, hm⟩ := sd_mg hm
              refine sd_lald hx hb hK hP 1 rfl h_7 d_Model_write_76 ?_
              cases hm
              exact J77_6 H locs ls (hP.sub [0, 1, 2, 3, 4, 5, 6, 7, 8, 9, 10, 11, 12, 13, 14, 15, 16, 17, 18] rfl) (hD.sub [0, 1, 2, 3, 4, 5, 6, 7, 8, 9, 10, 11, 12, 13, 14, 15, 16, 17, 18] (by decide) rfl) hS (lv_sub hl [0, 2] rfl)
            · have hm := sd_mt hc hm
              refine lv_lconst (v := (1 : Int64)) hx hb d_Model_write_64 (by decide) ?_
              refine lv_goto (tgt := 77) hx hb d_Model_write_65 (by decide) ?_
              cases hm
              exact J77_6 H locs ls (hP.sub [0, 1, 2, 3, 4, 5, 6, 7, 8, 9, 10, 11, 12, 13, 14, 15, 16, 17, 18] rfl) (hD.sub [0, 1, 2, 3, 4, 5, 6, 7, 8, 9, 10, 11, 12, 13, 14, 15, 16, 17, 18] (by decide) rfl) hS (lv_sub hl [0, 2] rfl)
          replace hm := hv
          refine lv_if_ne (tgt := 46) hx hb d_Model_write_39 (by decide) (fun hc => ?_) (fun hc => ?_)
          · have hm := sd_mf hc hm
            refine lv_aload_n hx hb d_Model_write_46 rfl (lv_at hl 0 rfl) ?_
            refine va_get (D := D) (ci := 5) (v := .ref a_n) (C := R_Model) (T := F_Model) (N := 31) hx hb htt i_Model hown hK hP 16 rfl rfl 0 (by decide) (htt _ kf_Model_9) (fun _ h9 => h9) rfl d_Model_write_47 ?_
            refine lv_bipush (v := (8 : Int32)) hx hb d_Model_write_50 (by decide) ?_
            refine lv_iload_n hx hb d_Model_write_52 rfl (lv_at hl 1 rfl) ?_
            refine lv_imul hx hb d_Model_write_53 ?_
            obtain ⟨h_4, hm⟩ := sd_mg hm
            refine sd_lald hx hb hK hP 0 rfl h_4 d_Model_write_54 ?_
            cases hm
            exact J55_3 H locs ls (hP.sub [0, 1, 2, 3, 4, 5, 6, 7, 8, 9, 10, 11, 12, 13, 14, 15, 16, 17, 18] rfl) (hD.sub [0, 1, 2, 3, 4, 5, 6, 7, 8, 9, 10, 11, 12, 13, 14, 15, 16, 17, 18] (by decide) rfl) hS (lv_sub hl [0, 1, 2] rfl)
          · have hm := sd_mt hc hm
            refine lv_lconst (v := (0 : Int64)) hx hb d_Model_write_42 (by decide) ?_
            refine lv_goto (tgt := 55) hx hb d_Model_write_43 (by decide) ?_
            cases hm
            exact J55_3 H locs ls (hP.sub [0, 1, 2, 3, 4, 5, 6, 7, 8, 9, 10, 11, 12, 13, 14, 15, 16, 17, 18] rfl) (hD.sub [0, 1, 2, 3, 4, 5, 6, 7, 8, 9, 10, 11, 12, 13, 14, 15, 16, 17, 18] (by decide) rfl) hS (lv_sub hl [0, 1, 2] rfl)
      · have hm := sd_mf hc hm
        refine lv_iconst (v := (-1 : Int32)) hx hb d_Model_write_17 (by decide) ?_
        exact sd_i1ret (u := (m_outCount, m_lowSign, m_highSign, c_out, c_root, c_rest, c_square, c_part, c_plus, c_minus, c_low, c_high, c_one, c_two, c_digit)) hQ hx hb hr hlk hK (hP.sub [0, 1, 2, 3, 4, 5, 6, 7, 8, 9, 10, 11, 12, 13, 14, 15, 16, 17, 18] rfl) (hD.sub [0, 1, 2, 3, 4, 5, 6, 7, 8, 9, 10, 11, 12, 13, 14, 15, 16, 17, 18] (by decide) rfl) hS (Option.some.inj hm).symm d_Model_write_18
