/-! EndsFinder_bringDown, EndsFinder_findHead, EndsFinder_findDigit, EndsFinder_findTwiceRoot, EndsFinder_findSize, EndsFinder_find -/
theorem kf_EndsFinder_15 : Cond.fieldLink R_EndsFinder 15 "SurdDesk$EndsFinder" "twice" "[I" ∈ sd_tb := (sd_in (List.mem_of_getElem? (i := 109) (by decide +kernel)) rfl)
theorem kf_EndsFinder_18 : Cond.fieldLink R_EndsFinder 18 "SurdDesk$EndsFinder" "size" "[I" ∈ sd_tb := (sd_in (List.mem_of_getElem? (i := 110) (by decide +kernel)) rfl)
theorem kf_EndsFinder_21 : Cond.fieldLink R_EndsFinder 21 "SurdDesk$Sum" "endsAreKnown" "Z" ∈ sd_tb := (sd_in (List.mem_of_getElem? (i := 82) (by decide +kernel)) rfl)
theorem kf_EndsFinder_27 : Cond.fieldLink R_EndsFinder 27 "SurdDesk$Sum" "low" "[I" ∈ sd_tb := (sd_in (List.mem_of_getElem? (i := 76) (by decide +kernel)) rfl)
theorem kf_EndsFinder_40 : Cond.fieldLink R_EndsFinder 40 "SurdDesk$Sum" "tops" "[J" ∈ sd_tb := (sd_in (List.mem_of_getElem? (i := 66) (by decide +kernel)) rfl)
theorem kf_EndsFinder_50 : Cond.fieldLink R_EndsFinder 50 "SurdDesk$Sum" "bottoms" "[J" ∈ sd_tb := (sd_in (List.mem_of_getElem? (i := 69) (by decide +kernel)) rfl)
theorem kf_EndsFinder_53 : Cond.fieldLink R_EndsFinder 53 "SurdDesk$Sum" "radicands" "[J" ∈ sd_tb := (sd_in (List.mem_of_getElem? (i := 72) (by decide +kernel)) rfl)
theorem kf_EndsFinder_67 : Cond.fieldLink R_EndsFinder 67 "SurdDesk$Sum" "high" "[I" ∈ sd_tb := (sd_in (List.mem_of_getElem? (i := 80) (by decide +kernel)) rfl)
theorem kf_EndsFinder_89 : Cond.fieldLink R_EndsFinder 89 "SurdDesk$EndsFinder" "headRoot" "J" ∈ sd_tb := (sd_in (List.mem_of_getElem? (i := 111) (by decide +kernel)) rfl)
theorem kf_EndsFinder_9 : Cond.fieldLink R_EndsFinder 9 "SurdDesk$EndsFinder" "rest" "[I" ∈ sd_tb := (sd_in (List.mem_of_getElem? (i := 108) (by decide +kernel)) rfl)
theorem kf_EndsFinder_99 : Cond.fieldLink R_EndsFinder 99 "SurdDesk$EndsFinder" "headRest" "J" ∈ sd_tb := (sd_in (List.mem_of_getElem? (i := 112) (by decide +kernel)) rfl)
theorem kl_EndsFinder_102 : sd_LS R_EndsFinder 102 y_Wide_topOf b_Wide_topOf 2 (some .int) 1 := ⟨(sd_in (List.mem_of_getElem? (i := 337) (by decide +kernel)) rfl), (sd_in (List.mem_of_getElem? (i := 338) (by decide +kernel)) rfl), (sd_in (List.mem_of_getElem? (i := 45) (by decide +kernel)) rfl), (sd_in (List.mem_of_getElem? (i := 339) (by decide +kernel)) rfl), by decide +kernel, by decide +kernel, by decide +kernel⟩
theorem kl_EndsFinder_106 : sd_LV R_EndsFinder 106 y_EndsFinder_findDigit b_EndsFinder_findDigit 5 none 2 := ⟨(sd_in (List.mem_of_getElem? (i := 340) (by decide +kernel)) rfl), (sd_in (List.mem_of_getElem? (i := 342) (by decide +kernel)) rfl), (sd_in (List.mem_of_getElem? (i := 11) (by decide +kernel)) rfl), (sd_in (List.mem_of_getElem? (i := 37) (by decide +kernel)) rfl), (sd_in (List.mem_of_getElem? (i := 343) (by decide +kernel)) rfl), by decide +kernel, by decide +kernel, by decide +kernel⟩
theorem kl_EndsFinder_114 : sd_LS R_EndsFinder 114 y_Wide_guess b_Wide_guess 11 (some .int) 4 := ⟨(sd_in (List.mem_of_getElem? (i := 344) (by decide +kernel)) rfl), (sd_in (List.mem_of_getElem? (i := 345) (by decide +kernel)) rfl), (sd_in (List.mem_of_getElem? (i := 45) (by decide +kernel)) rfl), (sd_in (List.mem_of_getElem? (i := 346) (by decide +kernel)) rfl), by decide +kernel, by decide +kernel, by decide +kernel⟩
theorem kl_EndsFinder_30 : sd_LS R_EndsFinder 30 y_Arrays_fill b_Arrays_fill 4 none 2 := ⟨(sd_in (List.mem_of_getElem? (i := 308) (by decide +kernel)) rfl), (sd_in (List.mem_of_getElem? (i := 309) (by decide +kernel)) rfl), (sd_in (List.mem_of_getElem? (i := 44) (by decide +kernel)) rfl), (sd_in (List.mem_of_getElem? (i := 310) (by decide +kernel)) rfl), by decide +kernel, by decide +kernel, by decide +kernel⟩
theorem kl_EndsFinder_36 : sd_LV R_EndsFinder 36 y_Sum_count b_Sum_count 1 (some .int) 0 := ⟨(sd_in (List.mem_of_getElem? (i := 311) (by decide +kernel)) rfl), (sd_in (List.mem_of_getElem? (i := 284) (by decide +kernel)) rfl), (sd_in (List.mem_of_getElem? (i := 285) (by decide +kernel)) rfl), (sd_in (List.mem_of_getElem? (i := 36) (by decide +kernel)) rfl), (sd_in (List.mem_of_getElem? (i := 286) (by decide +kernel)) rfl), by decide +kernel, by decide +kernel, by decide +kernel⟩
theorem kl_EndsFinder_44 : sd_LS R_EndsFinder 44 Lib.MathLoose.abs_long.x Lib.MathLoose.abs_long.code 2 (some .long) 1 := ⟨(sd_in (List.mem_of_getElem? (i := 312) (by decide +kernel)) rfl), (sd_in (List.mem_of_getElem? (i := 257) (by decide +kernel)) rfl), (sd_in (List.mem_of_getElem? (i := 42) (by decide +kernel)) rfl), (sd_in (List.mem_of_getElem? (i := 258) (by decide +kernel)) rfl), by decide +kernel, by decide +kernel, by decide +kernel⟩
theorem kl_EndsFinder_56 : sd_LV R_EndsFinder 56 y_EndsFinder_findSize b_EndsFinder_findSize 12 none 3 := ⟨(sd_in (List.mem_of_getElem? (i := 313) (by decide +kernel)) rfl), (sd_in (List.mem_of_getElem? (i := 315) (by decide +kernel)) rfl), (sd_in (List.mem_of_getElem? (i := 7) (by decide +kernel)) rfl), (sd_in (List.mem_of_getElem? (i := 37) (by decide +kernel)) rfl), (sd_in (List.mem_of_getElem? (i := 316) (by decide +kernel)) rfl), by decide +kernel, by decide +kernel, by decide +kernel⟩
theorem kl_EndsFinder_60 : sd_LS R_EndsFinder 60 y_Wide_take b_Wide_take 9 none 6 := ⟨(sd_in (List.mem_of_getElem? (i := 348) (by decide +kernel)) rfl), (sd_in (List.mem_of_getElem? (i := 349) (by decide +kernel)) rfl), (sd_in (List.mem_of_getElem? (i := 45) (by decide +kernel)) rfl), (sd_in (List.mem_of_getElem? (i := 350) (by decide +kernel)) rfl), by decide +kernel, by decide +kernel, by decide +kernel⟩
theorem kl_EndsFinder_64 : sd_LS R_EndsFinder 64 y_Wide_addSmall b_Wide_addSmall 4 none 2 := ⟨(sd_in (List.mem_of_getElem? (i := 352) (by decide +kernel)) rfl), (sd_in (List.mem_of_getElem? (i := 353) (by decide +kernel)) rfl), (sd_in (List.mem_of_getElem? (i := 45) (by decide +kernel)) rfl), (sd_in (List.mem_of_getElem? (i := 354) (by decide +kernel)) rfl), by decide +kernel, by decide +kernel, by decide +kernel⟩
theorem kl_EndsFinder_70 : sd_LC R_EndsFinder 70 := ⟨(sd_in (List.mem_of_getElem? (i := 355) (by decide +kernel)) rfl), (sd_in (List.mem_of_getElem? (i := 274) (by decide +kernel)) rfl), (sd_in (List.mem_of_getElem? (i := 273) (by decide +kernel)) rfl), (sd_in (List.mem_of_getElem? (i := 43) (by decide +kernel)) rfl)⟩
theorem kl_EndsFinder_78 : sd_LS R_EndsFinder 78 y_Wide_putLong b_Wide_putLong 7 none 3 := ⟨(sd_in (List.mem_of_getElem? (i := 318) (by decide +kernel)) rfl), (sd_in (List.mem_of_getElem? (i := 319) (by decide +kernel)) rfl), (sd_in (List.mem_of_getElem? (i := 45) (by decide +kernel)) rfl), (sd_in (List.mem_of_getElem? (i := 320) (by decide +kernel)) rfl), by decide +kernel, by decide +kernel, by decide +kernel⟩
theorem kl_EndsFinder_82 : sd_LV R_EndsFinder 82 y_EndsFinder_findTwiceRoot b_EndsFinder_findTwiceRoot 8 none 2 := ⟨(sd_in (List.mem_of_getElem? (i := 322) (by decide +kernel)) rfl), (sd_in (List.mem_of_getElem? (i := 324) (by decide +kernel)) rfl), (sd_in (List.mem_of_getElem? (i := 8) (by decide +kernel)) rfl), (sd_in (List.mem_of_getElem? (i := 37) (by decide +kernel)) rfl), (sd_in (List.mem_of_getElem? (i := 325) (by decide +kernel)) rfl), by decide +kernel, by decide +kernel, by decide +kernel⟩
theorem kl_EndsFinder_86 : sd_LV R_EndsFinder 86 y_EndsFinder_findHead b_EndsFinder_findHead 12 none 2 := ⟨(sd_in (List.mem_of_getElem? (i := 326) (by decide +kernel)) rfl), (sd_in (List.mem_of_getElem? (i := 328) (by decide +kernel)) rfl), (sd_in (List.mem_of_getElem? (i := 9) (by decide +kernel)) rfl), (sd_in (List.mem_of_getElem? (i := 37) (by decide +kernel)) rfl), (sd_in (List.mem_of_getElem? (i := 329) (by decide +kernel)) rfl), by decide +kernel, by decide +kernel, by decide +kernel⟩
theorem kl_EndsFinder_95 : sd_LV R_EndsFinder 95 y_EndsFinder_bringDown b_EndsFinder_bringDown 7 none 2 := ⟨(sd_in (List.mem_of_getElem? (i := 330) (by decide +kernel)) rfl), (sd_in (List.mem_of_getElem? (i := 332) (by decide +kernel)) rfl), (sd_in (List.mem_of_getElem? (i := 10) (by decide +kernel)) rfl), (sd_in (List.mem_of_getElem? (i := 37) (by decide +kernel)) rfl), (sd_in (List.mem_of_getElem? (i := 333) (by decide +kernel)) rfl), by decide +kernel, by decide +kernel, by decide +kernel⟩
theorem km_EndsFinder_110 : Cond.constantLong R_EndsFinder 110 (4 : Int64) ∈ sd_tb := (sd_in (List.mem_of_getElem? (i := 334) (by decide +kernel)) rfl)
theorem km_EndsFinder_112 : Cond.constantLong R_EndsFinder 112 (3 : Int64) ∈ sd_tb := (sd_in (List.mem_of_getElem? (i := 335) (by decide +kernel)) rfl)
theorem km_EndsFinder_118 : Cond.constant R_EndsFinder 118 (65535 : Int32) ∈ sd_tb := (sd_in (List.mem_of_getElem? (i := 351) (by decide +kernel)) rfl)
theorem km_EndsFinder_76 : Cond.constantLong R_EndsFinder 76 (2 : Int64) ∈ sd_tb := (sd_in (List.mem_of_getElem? (i := 317) (by decide +kernel)) rfl)
theorem km_EndsFinder_93 : Cond.constantLong R_EndsFinder 93 (65535 : Int64) ∈ sd_tb := (sd_in (List.mem_of_getElem? (i := 336) (by decide +kernel)) rfl)
theorem d_EndsFinder_bringDown_0 : decode b_EndsFinder_bringDown 0 = .ok (.iconst 2, 1) := by decide +kernel
theorem d_EndsFinder_bringDown_1 : decode b_EndsFinder_bringDown 1 = .ok (.iload_n 3, 1) := by decide +kernel
theorem d_EndsFinder_bringDown_2 : decode b_EndsFinder_bringDown 2 = .ok (.imul, 1) := by decide +kernel
theorem d_EndsFinder_bringDown_3 : decode b_EndsFinder_bringDown 3 = .ok (.iconst 2, 1) := by decide +kernel
theorem d_EndsFinder_bringDown_4 : decode b_EndsFinder_bringDown 4 = .ok (.isub, 1) := by decide +kernel
theorem d_EndsFinder_bringDown_5 : decode b_EndsFinder_bringDown 5 = .ok (.istore 4, 2) := by decide +kernel
theorem d_EndsFinder_bringDown_7 : decode b_EndsFinder_bringDown 7 = .ok (.iload 4, 2) := by decide +kernel
theorem d_EndsFinder_bringDown_9 : decode b_EndsFinder_bringDown 9 = .ok (.ifCond .lt 85, 3) := by decide +kernel
theorem d_EndsFinder_bringDown_12 : decode b_EndsFinder_bringDown 12 = .ok (.aload_n 0, 1) := by decide +kernel
theorem d_EndsFinder_bringDown_13 : decode b_EndsFinder_bringDown 13 = .ok (.ldc2_w 110, 3) := by decide +kernel
theorem d_EndsFinder_bringDown_16 : decode b_EndsFinder_bringDown 16 = .ok (.aload_n 0, 1) := by decide +kernel
theorem d_EndsFinder_bringDown_17 : decode b_EndsFinder_bringDown 17 = .ok (.getfield 99, 3) := by decide +kernel
theorem d_EndsFinder_bringDown_20 : decode b_EndsFinder_bringDown 20 = .ok (.lmul, 1) := by decide +kernel
theorem d_EndsFinder_bringDown_21 : decode b_EndsFinder_bringDown 21 = .ok (.lload_n 1, 1) := by decide +kernel
theorem d_EndsFinder_bringDown_22 : decode b_EndsFinder_bringDown 22 = .ok (.iload 4, 2) := by decide +kernel
theorem d_EndsFinder_bringDown_24 : decode b_EndsFinder_bringDown 24 = .ok (.lshr, 1) := by decide +kernel
theorem d_EndsFinder_bringDown_25 : decode b_EndsFinder_bringDown 25 = .ok (.ldc2_w 112, 3) := by decide +kernel
theorem d_EndsFinder_bringDown_28 : decode b_EndsFinder_bringDown 28 = .ok (.land, 1) := by decide +kernel
theorem d_EndsFinder_bringDown_29 : decode b_EndsFinder_bringDown 29 = .ok (.ladd, 1) := by decide +kernel
theorem d_EndsFinder_bringDown_30 : decode b_EndsFinder_bringDown 30 = .ok (.putfield 99, 3) := by decide +kernel
theorem d_EndsFinder_bringDown_33 : decode b_EndsFinder_bringDown 33 = .ok (.ldc2_w 110, 3) := by decide +kernel
theorem d_EndsFinder_bringDown_36 : decode b_EndsFinder_bringDown 36 = .ok (.aload_n 0, 1) := by decide +kernel
theorem d_EndsFinder_bringDown_37 : decode b_EndsFinder_bringDown 37 = .ok (.getfield 89, 3) := by decide +kernel
theorem d_EndsFinder_bringDown_40 : decode b_EndsFinder_bringDown 40 = .ok (.lmul, 1) := by decide +kernel
theorem d_EndsFinder_bringDown_41 : decode b_EndsFinder_bringDown 41 = .ok (.lconst 1, 1) := by decide +kernel
theorem d_EndsFinder_bringDown_42 : decode b_EndsFinder_bringDown 42 = .ok (.ladd, 1) := by decide +kernel
theorem d_EndsFinder_bringDown_43 : decode b_EndsFinder_bringDown 43 = .ok (.lstore 5, 2) := by decide +kernel
theorem d_EndsFinder_bringDown_45 : decode b_EndsFinder_bringDown 45 = .ok (.aload_n 0, 1) := by decide +kernel
theorem d_EndsFinder_bringDown_46 : decode b_EndsFinder_bringDown 46 = .ok (.dup, 1) := by decide +kernel
theorem d_EndsFinder_bringDown_47 : decode b_EndsFinder_bringDown 47 = .ok (.getfield 89, 3) := by decide +kernel
theorem d_EndsFinder_bringDown_50 : decode b_EndsFinder_bringDown 50 = .ok (.ldc2_w 76, 3) := by decide +kernel
theorem d_EndsFinder_bringDown_53 : decode b_EndsFinder_bringDown 53 = .ok (.lmul, 1) := by decide +kernel
theorem d_EndsFinder_bringDown_54 : decode b_EndsFinder_bringDown 54 = .ok (.putfield 89, 3) := by decide +kernel
theorem d_EndsFinder_bringDown_57 : decode b_EndsFinder_bringDown 57 = .ok (.aload_n 0, 1) := by decide +kernel
theorem d_EndsFinder_bringDown_58 : decode b_EndsFinder_bringDown 58 = .ok (.getfield 99, 3) := by decide +kernel
theorem d_EndsFinder_bringDown_61 : decode b_EndsFinder_bringDown 61 = .ok (.lload 5, 2) := by decide +kernel
theorem d_EndsFinder_bringDown_63 : decode b_EndsFinder_bringDown 63 = .ok (.lcmp, 1) := by decide +kernel
theorem d_EndsFinder_bringDown_64 : decode b_EndsFinder_bringDown 64 = .ok (.ifCond .lt 24, 3) := by decide +kernel
theorem d_EndsFinder_bringDown_67 : decode b_EndsFinder_bringDown 67 = .ok (.aload_n 0, 1) := by decide +kernel
theorem d_EndsFinder_bringDown_68 : decode b_EndsFinder_bringDown 68 = .ok (.dup, 1) := by decide +kernel
theorem d_EndsFinder_bringDown_69 : decode b_EndsFinder_bringDown 69 = .ok (.getfield 99, 3) := by decide +kernel
theorem d_EndsFinder_bringDown_72 : decode b_EndsFinder_bringDown 72 = .ok (.lload 5, 2) := by decide +kernel
theorem d_EndsFinder_bringDown_74 : decode b_EndsFinder_bringDown 74 = .ok (.lsub, 1) := by decide +kernel
theorem d_EndsFinder_bringDown_75 : decode b_EndsFinder_bringDown 75 = .ok (.putfield 99, 3) := by decide +kernel
theorem d_EndsFinder_bringDown_78 : decode b_EndsFinder_bringDown 78 = .ok (.aload_n 0, 1) := by decide +kernel
theorem d_EndsFinder_bringDown_79 : decode b_EndsFinder_bringDown 79 = .ok (.dup, 1) := by decide +kernel
theorem d_EndsFinder_bringDown_80 : decode b_EndsFinder_bringDown 80 = .ok (.getfield 89, 3) := by decide +kernel
theorem d_EndsFinder_bringDown_83 : decode b_EndsFinder_bringDown 83 = .ok (.lconst 1, 1) := by decide +kernel
theorem d_EndsFinder_bringDown_84 : decode b_EndsFinder_bringDown 84 = .ok (.ladd, 1) := by decide +kernel
theorem d_EndsFinder_bringDown_85 : decode b_EndsFinder_bringDown 85 = .ok (.putfield 89, 3) := by decide +kernel
theorem d_EndsFinder_bringDown_88 : decode b_EndsFinder_bringDown 88 = .ok (.iinc 4 (-2), 3) := by decide +kernel
theorem d_EndsFinder_bringDown_91 : decode b_EndsFinder_bringDown 91 = .ok (.goto (-84), 3) := by decide +kernel
theorem d_EndsFinder_bringDown_94 : decode b_EndsFinder_bringDown 94 = .ok (.return_, 1) := by decide +kernel
def mf_EndsFinder_bringDown_L7 (vBits : Int64) : Nat → Int32 → Int64 → Int64 → Option (Int64 × Int64)
  | 0, _, _, _ => none
  | fu + 1, x4_1, ufe, ufe_1 => (if x4_1 < 0 then (some (ufe, ufe_1)) else (sd_let ((((4 : Int64) * ufe_1) + ((vBits >>> (x4_1.toInt64 &&& 63)) &&& (3 : Int64)))) fun ufeheadRest => (sd_let ((((4 : Int64) * ufe) + (1 : Int64))) fun x5 => (sd_let ((ufe * (2 : Int64))) fun ufeheadRoot => (sd_b2 (if ufeheadRest < x5 then (some (ufeheadRoot, ufeheadRest)) else (sd_let ((ufeheadRest - x5)) fun ufeheadRest_1 => (sd_let ((ufeheadRoot + (1 : Int64))) fun ufeheadRoot_1 => (some (ufeheadRoot_1, ufeheadRest_1))))) fun ufe_2 ufe_3 => (sd_let (x4_1 + (-2 : Int32)) fun x4_2 => ((mf_EndsFinder_bringDown_L7 vBits fu) x4_2 ufe_2 ufe_3)))))))
def mf_EndsFinder_bringDown (F : Nat) (vBits : Int64) (vPairs : Int32) (fR : Int64) (fQ : Int64) : Option (Int64 × Int64) :=
  (sd_let ((((2 : Int32) * vPairs) - (2 : Int32))) fun x4 => (sd_b2 (mf_EndsFinder_bringDown_L7 vBits F x4 fR fQ) fun rufe rufe_1 => (some (rufe, rufe_1))))
abbrev rm_EndsFinder_bringDown : Room := { frames := 0, cells := 0, slots := 0, locals := 0 }
set_option maxHeartbeats 4000000 in
set_option maxRecDepth 100000 in
theorem ct_EndsFinder_bringDown (l : Launch) (D : va_G) (g : G4) (fe : Nat) (fr : Nat) (ft : Nat) (fs : Nat) (sz : Nat) (vBits : Int64) (vPairs : Int32) (fR : Int64) (fQ : Int64) (F : Nat) (res : Int64 × Int64) (hm : mf_EndsFinder_bringDown F vBits vPairs fR fQ = some res) : Met l y_EndsFinder_bringDown (.code y_EndsFinder_bringDown b_EndsFinder_bringDown 7 none :: sd_tb) rm_EndsFinder_bringDown (sd_PW D g [.ref fe, .long vBits, .int vPairs] sz [(fe, .inr (1, [.ref fr, .ref ft, .ref fs, .long fR, .long fQ]))]) (sd_Qv1 D g res (fun u : Int64 × Int64 => [(fe, .inr (1, [.ref fr, .ref ft, .ref fs, .long (u.1), .long (u.2)]))]) (va_A [(fe, .inr (1, [.ref fr, .ref ft, .ref fs, .long fR, .long fQ]))] sz)) 0 0 (va_A [(fe, .inr (1, [.ref fr, .ref ft, .ref fs, .long fR, .long fQ]))] sz) := by
  refine sd_met (Qf := fun A => sd_Qv1 D g res (fun u : Int64 × Int64 => [(fe, .inr (1, [.ref fr, .ref ft, .ref fs, .long (u.1), .long (u.2)]))]) A) (own := R_EndsFinder) (by decide +kernel) rfl (Nat.le_of_ble_eq_true rfl) ?_
  intro p e s m args below meth c S hr hlk hK A hA Q hQ H locs hP hD hS ls hl
  have hx := S.1
  have hb := S.2.1
  have hml := S.2.2.1
  have hown := S.2.2.2.1
  have htt := sd_tt S
  replace hl : lv_has ls 7 [(0, .ref fe), (1, .long vBits), (3, .int vPairs)] := hl
  unfold mf_EndsFinder_bringDown at hm
  refine lv_iconst (v := (2 : Int32)) hx hb d_EndsFinder_bringDown_0 (by decide) ?_
  refine lv_iload_n hx hb d_EndsFinder_bringDown_1 rfl (lv_at hl 2 rfl) ?_
  refine lv_imul hx hb d_EndsFinder_bringDown_2 ?_
  refine lv_iconst (v := (2 : Int32)) hx hb d_EndsFinder_bringDown_3 (by decide) ?_
  refine lv_isub hx hb d_EndsFinder_bringDown_4 ?_
  obtain ⟨x4, ex4, hm⟩ := sd_mlet hm
  refine sd_topi ex4 ?_
  refine lv_istore (lv' := [(4, .int x4), (0, .ref fe), (1, .long vBits), (3, .int vPairs)]) hx hb d_EndsFinder_bringDown_5 hl (by decide) rfl (fun ls hl => ?_)
  have L7 : ∀ (fu : Nat) (x4_1 : Int32) (ufe : Int64) (ufe_1 : Int64) (rufe : Int64) (rufe_1 : Int64), mf_EndsFinder_bringDown_L7 vBits fu x4_1 ufe ufe_1 = some (rufe, rufe_1) → ∀ (H : Heap) (locs : List Loc) (ls : Array Slot), va_P D classes [(fe, .inr (1, [.ref fr, .ref ft, .ref fs, .long ufe, .long ufe_1]))] H → va_D A [(fe, .inr (1, [.ref fr, .ref ft, .ref fs, .long ufe, .long ufe_1]))] → va_S A s.heap H locs → lv_has ls 7 [(0, .ref fe), (1, .long vBits), (4, .int x4_1)] → (∀ (H : Heap) (locs : List Loc) (ls : Array Slot), va_P D classes [(fe, .inr (1, [.ref fr, .ref ft, .ref fs, .long rufe, .long rufe_1]))] H → va_D A [(fe, .inr (1, [.ref fr, .ref ft, .ref fs, .long rufe, .long rufe_1]))] → va_S A s.heap H locs → lv_has ls 7 [] → W p l e rm_EndsFinder_bringDown s m args below meth c H locs 0 0 Q (F0 m 94 ls [])) → W p l e rm_EndsFinder_bringDown s m args below meth c H locs 0 0 Q (F0 m 7 ls []) := by
    intro fu
    induction fu with
    | zero => intro x4_1 ufe ufe_1 rufe rufe_1 hm; exact absurd (show (none : Option (Int64 × Int64)) = some (rufe, rufe_1) from hm) (fun h => nomatch h)
    | succ fu ih =>
      intro x4_1 ufe ufe_1 rufe rufe_1 hm H locs ls hP hD hS hl kx94
      rw [mf_EndsFinder_bringDown_L7] at hm
      refine lv_iload hx hb d_EndsFinder_bringDown_7 (lv_at hl 2 rfl) ?_
      refine lv_if_lt (tgt := 94) hx hb d_EndsFinder_bringDown_9 (by decide) (fun hc => ?_) (fun hc => ?_)
      · have hm := sd_mt hc hm
        cases hm
        exact kx94 H locs ls (hP.sub [0] rfl) (hD.sub [0] (by decide) rfl) hS (lv_sub hl [] rfl)
      · have hm := sd_mf hc hm
        refine lv_aload_n hx hb d_EndsFinder_bringDown_12 rfl (lv_at hl 0 rfl) ?_
        refine sd_ldc2 (v := (4 : Int64)) hx hb hown (htt _ km_EndsFinder_110) d_EndsFinder_bringDown_13 ?_
        refine lv_aload_n hx hb d_EndsFinder_bringDown_16 rfl (lv_at hl 0 rfl) ?_
        refine va_get (D := D) (ci := 1) (v := .long ufe_1) (C := R_EndsFinder) (T := F_EndsFinder) (N := 5) hx hb htt i_EndsFinder hown hK hP 0 rfl rfl 4 (by decide) (htt _ kf_EndsFinder_99) (fun _ h9 => h9) rfl d_EndsFinder_bringDown_17 ?_
        refine lv_lmul hx hb d_EndsFinder_bringDown_20 ?_
        refine lv_lload_n hx hb d_EndsFinder_bringDown_21 rfl (lv_at hl 1 rfl) ?_
        refine lv_iload hx hb d_EndsFinder_bringDown_22 (lv_at hl 2 rfl) ?_
        refine lv_lshr hx hb d_EndsFinder_bringDown_24 rfl ?_
        refine sd_ldc2 (v := (3 : Int64)) hx hb hown (htt _ km_EndsFinder_112) d_EndsFinder_bringDown_25 ?_
        refine lv_land hx hb d_EndsFinder_bringDown_28 ?_
        refine lv_ladd hx hb d_EndsFinder_bringDown_29 ?_
        obtain ⟨ufeheadRest, eufeheadRest, hm⟩ := sd_mlet hm
        refine sd_topj eufeheadRest ?_
        refine sd_put (ci := 1) (v := .long ufeheadRest) (ty := .long) (C := R_EndsFinder) (T := F_EndsFinder) (N := 5) (ws2 := [(fe, .inr (1, [.ref fr, .ref ft, .ref fs, .long ufe, .long ufeheadRest]))]) hx hb htt i_EndsFinder t_EndsFinder t_EndsFinder_ok n_EndsFinder hown hK hP hD hS 0 rfl rfl 4 (by decide) kf_EndsFinder_99 (fun _ h9 => h9) rfl (by decide +kernel) rfl rfl (Nat.le_of_ble_eq_true rfl) rfl d_EndsFinder_bringDown_30 (fun H locs hP hD hS => ?_)
        refine sd_ldc2 (v := (4 : Int64)) hx hb hown (htt _ km_EndsFinder_110) d_EndsFinder_bringDown_33 ?_
        refine lv_aload_n hx hb d_EndsFinder_bringDown_36 rfl (lv_at hl 0 rfl) ?_
        refine va_get (D := D) (ci := 1) (v := .long ufe) (C := R_EndsFinder) (T := F_EndsFinder) (N := 5) hx hb htt i_EndsFinder hown hK hP 0 rfl rfl 3 (by decide) (htt _ kf_EndsFinder_89) (fun _ h9 => h9) rfl d_EndsFinder_bringDown_37 ?_
        refine lv_lmul hx hb d_EndsFinder_bringDown_40 ?_
        refine lv_lconst (v := (1 : Int64)) hx hb d_EndsFinder_bringDown_41 (by decide) ?_
        refine lv_ladd hx hb d_EndsFinder_bringDown_42 ?_
        obtain ⟨x5, ex5, hm⟩ := sd_mlet hm
        refine sd_topj ex5 ?_
        refine lv_lstore (lv' := [(5, .long x5), (0, .ref fe), (1, .long vBits), (4, .int x4_1)]) hx hb d_EndsFinder_bringDown_43 hl (by decide) rfl (fun ls hl => ?_)
        refine lv_aload_n hx hb d_EndsFinder_bringDown_45 rfl (lv_at hl 1 rfl) ?_
        refine lv_dup hx hb d_EndsFinder_bringDown_46 rfl ?_
        refine va_get (D := D) (ci := 1) (v := .long ufe) (C := R_EndsFinder) (T := F_EndsFinder) (N := 5) hx hb htt i_EndsFinder hown hK hP 0 rfl rfl 3 (by decide) (htt _ kf_EndsFinder_89) (fun _ h9 => h9) rfl d_EndsFinder_bringDown_47 ?_
        refine sd_ldc2 (v := (2 : Int64)) hx hb hown (htt _ km_EndsFinder_76) d_EndsFinder_bringDown_50 ?_
        refine lv_lmul hx hb d_EndsFinder_bringDown_53 ?_
        obtain ⟨ufeheadRoot, eufeheadRoot, hm⟩ := sd_mlet hm
        refine sd_topj eufeheadRoot ?_
        refine sd_put (ci := 1) (v := .long ufeheadRoot) (ty := .long) (C := R_EndsFinder) (T := F_EndsFinder) (N := 5) (ws2 := [(fe, .inr (1, [.ref fr, .ref ft, .ref fs, .long ufeheadRoot, .long ufeheadRest]))]) hx hb htt i_EndsFinder t_EndsFinder t_EndsFinder_ok n_EndsFinder hown hK hP hD hS 0 rfl rfl 3 (by decide) kf_EndsFinder_89 (fun _ h9 => h9) rfl (by decide +kernel) rfl rfl (Nat.le_of_ble_eq_true rfl) rfl d_EndsFinder_bringDown_54 (fun H locs hP hD hS => ?_)
        refine lv_aload_n hx hb d_EndsFinder_bringDown_57 rfl (lv_at hl 1 rfl) ?_
        refine va_get (D := D) (ci := 1) (v := .long ufeheadRest) (C := R_EndsFinder) (T := F_EndsFinder) (N := 5) hx hb htt i_EndsFinder hown hK hP 0 rfl rfl 4 (by decide) (htt _ kf_EndsFinder_99) (fun _ h9 => h9) rfl d_EndsFinder_bringDown_58 ?_
        refine lv_lload hx hb d_EndsFinder_bringDown_61 (lv_at hl 0 rfl) ?_
        obtain ⟨ufe_2, ufe_3, hv, hm⟩ := sd_mb2 hm
        have J88_1 : ∀ (H : Heap) (locs : List Loc) (ls : Array Slot), va_P D classes [(fe, .inr (1, [.ref fr, .ref ft, .ref fs, .long ufe_2, .long ufe_3]))] H → va_D A [(fe, .inr (1, [.ref fr, .ref ft, .ref fs, .long ufe_2, .long ufe_3]))] → va_S A s.heap H locs → lv_has ls 7 [(0, .ref fe), (1, .long vBits), (4, .int x4_1)] → W p l e rm_EndsFinder_bringDown s m args below meth c H locs 0 0 Q (F0 m 88 ls []) := by
          intro H locs ls hP hD hS hl
          obtain ⟨x4_2, ex4_2, hm⟩ := sd_mlet hm
          refine lv_iinc (v := x4_2) (lv' := [(4, .int x4_2), (0, .ref fe), (1, .long vBits)]) hx hb d_EndsFinder_bringDown_88 hl (k := 2) rfl (by rw [ex4_2]; rfl) (by decide) rfl (fun ls hl => ?_)
          refine lv_goto (tgt := 7) hx hb d_EndsFinder_bringDown_91 (by decide) ?_
          exact ih x4_2 ufe_2 ufe_3 rufe rufe_1 hm H locs ls (hP.sub [0] rfl) (hD.sub [0] (by decide) rfl) hS (lv_sub hl [1, 2, 0] rfl) kx94
        replace hm := hv
        refine sd_llt (tgt := 88) hx hb d_EndsFinder_bringDown_63 d_EndsFinder_bringDown_64 (by decide) (fun hc => ?_) (fun hc => ?_)
        · have hm := sd_mt hc hm
          cases hm
          exact J88_1 H locs ls (hP.sub [0] rfl) (hD.sub [0] (by decide) rfl) hS (lv_sub hl [1, 2, 3] rfl)
        · have hm := sd_mf hc hm
          refine lv_aload_n hx hb d_EndsFinder_bringDown_67 rfl (lv_at hl 1 rfl) ?_
          refine lv_dup hx hb d_EndsFinder_bringDown_68 rfl ?_
          refine va_get (D := D) (ci := 1) (v := .long ufeheadRest) (C := R_EndsFinder) (T := F_EndsFinder) (N := 5) hx hb htt i_EndsFinder hown hK hP 0 rfl rfl 4 (by decide) (htt _ kf_EndsFinder_99) (fun _ h9 => h9) rfl d_EndsFinder_bringDown_69 ?_
          refine lv_lload hx hb d_EndsFinder_bringDown_72 (lv_at hl 0 rfl) ?_
          refine lv_lsub hx hb d_EndsFinder_bringDown_74 ?_
          obtain ⟨ufeheadRest_1, eufeheadRest_1, hm⟩ := sd_mlet hm
          refine sd_topj eufeheadRest_1 ?_
          refine sd_put (ci := 1) (v := .long ufeheadRest_1) (ty := .long) (C := R_EndsFinder) (T := F_EndsFinder) (N := 5) (ws2 := [(fe, .inr (1, [.ref fr, .ref ft, .ref fs, .long ufeheadRoot, .long ufeheadRest_1]))]) hx hb htt i_EndsFinder t_EndsFinder t_EndsFinder_ok n_EndsFinder hown hK hP hD hS 0 rfl rfl 4 (by decide) kf_EndsFinder_99 (fun _ h9 => h9) rfl (by decide +kernel) rfl rfl (Nat.le_of_ble_eq_true rfl) rfl d_EndsFinder_bringDown_75 (fun H locs hP hD hS => ?_)
          refine lv_aload_n hx hb d_EndsFinder_bringDown_78 rfl (lv_at hl 1 rfl) ?_
          refine lv_dup hx hb d_EndsFinder_bringDown_79 rfl ?_
          refine va_get (D := D) (ci := 1) (v := .long ufeheadRoot) (C := R_EndsFinder) (T := F_EndsFinder) (N := 5) hx hb htt i_EndsFinder hown hK hP 0 rfl rfl 3 (by decide) (htt _ kf_EndsFinder_89) (fun _ h9 => h9) rfl d_EndsFinder_bringDown_80 ?_
          refine lv_lconst (v := (1 : Int64)) hx hb d_EndsFinder_bringDown_83 (by decide) ?_
          refine lv_ladd hx hb d_EndsFinder_bringDown_84 ?_
          obtain ⟨ufeheadRoot_1, eufeheadRoot_1, hm⟩ := sd_mlet hm
          refine sd_topj eufeheadRoot_1 ?_
          refine sd_put (ci := 1) (v := .long ufeheadRoot_1) (ty := .long) (C := R_EndsFinder) (T := F_EndsFinder) (N := 5) (ws2 := [(fe, .inr (1, [.ref fr, .ref ft, .ref fs, .long ufeheadRoot_1, .long ufeheadRest_1]))]) hx hb htt i_EndsFinder t_EndsFinder t_EndsFinder_ok n_EndsFinder hown hK hP hD hS 0 rfl rfl 3 (by decide) kf_EndsFinder_89 (fun _ h9 => h9) rfl (by decide +kernel) rfl rfl (Nat.le_of_ble_eq_true rfl) rfl d_EndsFinder_bringDown_85 (fun H locs hP hD hS => ?_)
          cases hm
          exact J88_1 H locs ls (hP.sub [0] rfl) (hD.sub [0] (by decide) rfl) hS (lv_sub hl [1, 2, 3] rfl)
  obtain ⟨rufe, rufe_1, hc, hm⟩ := sd_mb2 hm
  refine L7 F x4 fR fQ rufe rufe_1 hc H locs ls (hP.sub [0] rfl) (hD.sub [0] (by decide) rfl) hS (lv_sub hl [1, 2, 0] rfl) ?_
  intro H locs ls hP hD hS hl
  exact sd_v1ret (u := (rufe, rufe_1)) hQ hx hb hr hlk hK (hP.sub [0] rfl) (hD.sub [0] (by decide) rfl) hS (Option.some.inj hm).symm d_EndsFinder_bringDown_94
theorem d_EndsFinder_findHead_0 : decode b_EndsFinder_findHead 0 = .ok (.bipush 30, 2) := by decide +kernel
theorem d_EndsFinder_findHead_2 : decode b_EndsFinder_findHead 2 = .ok (.istore 5, 2) := by decide +kernel
theorem d_EndsFinder_findHead_4 : decode b_EndsFinder_findHead 4 = .ok (.lconst 1, 1) := by decide +kernel
theorem d_EndsFinder_findHead_5 : decode b_EndsFinder_findHead 5 = .ok (.iload 5, 2) := by decide +kernel
theorem d_EndsFinder_findHead_7 : decode b_EndsFinder_findHead 7 = .ok (.lshl, 1) := by decide +kernel
theorem d_EndsFinder_findHead_8 : decode b_EndsFinder_findHead 8 = .ok (.lconst 1, 1) := by decide +kernel
theorem d_EndsFinder_findHead_9 : decode b_EndsFinder_findHead 9 = .ok (.lsub, 1) := by decide +kernel
theorem d_EndsFinder_findHead_10 : decode b_EndsFinder_findHead 10 = .ok (.lstore 6, 2) := by decide +kernel
theorem d_EndsFinder_findHead_12 : decode b_EndsFinder_findHead 12 = .ok (.lload_n 1, 1) := by decide +kernel
theorem d_EndsFinder_findHead_13 : decode b_EndsFinder_findHead 13 = .ok (.lload 6, 2) := by decide +kernel
theorem d_EndsFinder_findHead_15 : decode b_EndsFinder_findHead 15 = .ok (.land, 1) := by decide +kernel
theorem d_EndsFinder_findHead_16 : decode b_EndsFinder_findHead 16 = .ok (.lload_n 3, 1) := by decide +kernel
theorem d_EndsFinder_findHead_17 : decode b_EndsFinder_findHead 17 = .ok (.lmul, 1) := by decide +kernel
theorem d_EndsFinder_findHead_18 : decode b_EndsFinder_findHead 18 = .ok (.lstore 8, 2) := by decide +kernel
theorem d_EndsFinder_findHead_20 : decode b_EndsFinder_findHead 20 = .ok (.lload_n 1, 1) := by decide +kernel
theorem d_EndsFinder_findHead_21 : decode b_EndsFinder_findHead 21 = .ok (.iload 5, 2) := by decide +kernel
theorem d_EndsFinder_findHead_23 : decode b_EndsFinder_findHead 23 = .ok (.lshr, 1) := by decide +kernel
theorem d_EndsFinder_findHead_24 : decode b_EndsFinder_findHead 24 = .ok (.lload_n 3, 1) := by decide +kernel
theorem d_EndsFinder_findHead_25 : decode b_EndsFinder_findHead 25 = .ok (.lmul, 1) := by decide +kernel
theorem d_EndsFinder_findHead_26 : decode b_EndsFinder_findHead 26 = .ok (.lload 8, 2) := by decide +kernel
theorem d_EndsFinder_findHead_28 : decode b_EndsFinder_findHead 28 = .ok (.iload 5, 2) := by decide +kernel
theorem d_EndsFinder_findHead_30 : decode b_EndsFinder_findHead 30 = .ok (.lshr, 1) := by decide +kernel
theorem d_EndsFinder_findHead_31 : decode b_EndsFinder_findHead 31 = .ok (.ladd, 1) := by decide +kernel
theorem d_EndsFinder_findHead_32 : decode b_EndsFinder_findHead 32 = .ok (.lstore 10, 2) := by decide +kernel
theorem d_EndsFinder_findHead_34 : decode b_EndsFinder_findHead 34 = .ok (.aload_n 0, 1) := by decide +kernel
theorem d_EndsFinder_findHead_35 : decode b_EndsFinder_findHead 35 = .ok (.lconst 0, 1) := by decide +kernel
theorem d_EndsFinder_findHead_36 : decode b_EndsFinder_findHead 36 = .ok (.putfield 89, 3) := by decide +kernel
theorem d_EndsFinder_findHead_39 : decode b_EndsFinder_findHead 39 = .ok (.aload_n 0, 1) := by decide +kernel
theorem d_EndsFinder_findHead_40 : decode b_EndsFinder_findHead 40 = .ok (.lconst 0, 1) := by decide +kernel
theorem d_EndsFinder_findHead_41 : decode b_EndsFinder_findHead 41 = .ok (.putfield 99, 3) := by decide +kernel
theorem d_EndsFinder_findHead_44 : decode b_EndsFinder_findHead 44 = .ok (.aload_n 0, 1) := by decide +kernel
theorem d_EndsFinder_findHead_45 : decode b_EndsFinder_findHead 45 = .ok (.lload 10, 2) := by decide +kernel
theorem d_EndsFinder_findHead_47 : decode b_EndsFinder_findHead 47 = .ok (.bipush 31, 2) := by decide +kernel
theorem d_EndsFinder_findHead_49 : decode b_EndsFinder_findHead 49 = .ok (.invokevirtual 95, 3) := by decide +kernel
theorem d_EndsFinder_findHead_52 : decode b_EndsFinder_findHead 52 = .ok (.aload_n 0, 1) := by decide +kernel
theorem d_EndsFinder_findHead_53 : decode b_EndsFinder_findHead 53 = .ok (.lload 8, 2) := by decide +kernel
theorem d_EndsFinder_findHead_55 : decode b_EndsFinder_findHead 55 = .ok (.lload 6, 2) := by decide +kernel
theorem d_EndsFinder_findHead_57 : decode b_EndsFinder_findHead 57 = .ok (.land, 1) := by decide +kernel
theorem d_EndsFinder_findHead_58 : decode b_EndsFinder_findHead 58 = .ok (.bipush 15, 2) := by decide +kernel
theorem d_EndsFinder_findHead_60 : decode b_EndsFinder_findHead 60 = .ok (.invokevirtual 95, 3) := by decide +kernel
theorem d_EndsFinder_findHead_63 : decode b_EndsFinder_findHead 63 = .ok (.return_, 1) := by decide +kernel
def mf_EndsFinder_findHead (F : Nat) (vSq : Int64) (vRad : Int64) (fR : Int64) (fQ : Int64) : Option (Int64 × Int64) :=
  (sd_let ((((1 : Int64) <<< ((30 : Int32).toInt64 &&& 63)) - (1 : Int64))) fun x6 => (sd_let (((vSq &&& x6) * vRad)) fun x8 => (sd_let ((((vSq >>> ((30 : Int32).toInt64 &&& 63)) * vRad) + (x8 >>> ((30 : Int32).toInt64 &&& 63)))) fun x10 => (sd_b2 (mf_EndsFinder_bringDown F x10 (31 : Int32) (0 : Int64) (0 : Int64)) fun ufe ufe_1 => (sd_b2 (mf_EndsFinder_bringDown F (x8 &&& x6) (15 : Int32) ufe ufe_1) fun ufe_2 ufe_3 => (some (ufe_2, ufe_3)))))))
abbrev rm_EndsFinder_findHead : Room := { frames := 1, cells := 0, slots := 0, locals := 26 }
set_option maxHeartbeats 4000000 in
set_option maxRecDepth 100000 in
theorem ct_EndsFinder_findHead (l : Launch) (D : va_G) (g : G4) (fe : Nat) (fr : Nat) (ft : Nat) (fs : Nat) (sz : Nat) (vSq : Int64) (vRad : Int64) (fR : Int64) (fQ : Int64) (F : Nat) (res : Int64 × Int64) (hm : mf_EndsFinder_findHead F vSq vRad fR fQ = some res) : Met l y_EndsFinder_findHead (.code y_EndsFinder_findHead b_EndsFinder_findHead 12 none :: sd_tb) rm_EndsFinder_findHead (sd_PW D g [.ref fe, .long vSq, .long vRad] sz [(fe, .inr (1, [.ref fr, .ref ft, .ref fs, .long fR, .long fQ]))]) (sd_Qv1 D g res (fun u : Int64 × Int64 => [(fe, .inr (1, [.ref fr, .ref ft, .ref fs, .long (u.1), .long (u.2)]))]) (va_A [(fe, .inr (1, [.ref fr, .ref ft, .ref fs, .long fR, .long fQ]))] sz)) 0 0 (va_A [(fe, .inr (1, [.ref fr, .ref ft, .ref fs, .long fR, .long fQ]))] sz) := by
  refine sd_met (Qf := fun A => sd_Qv1 D g res (fun u : Int64 × Int64 => [(fe, .inr (1, [.ref fr, .ref ft, .ref fs, .long (u.1), .long (u.2)]))]) A) (own := R_EndsFinder) (by decide +kernel) rfl (Nat.le_of_ble_eq_true rfl) ?_
  intro p e s m args below meth c S hr hlk hK A hA Q hQ H locs hP hD hS ls hl
  have hx := S.1
  have hb := S.2.1
  have hml := S.2.2.1
  have hown := S.2.2.2.1
  have htt := sd_tt S
  replace hl : lv_has ls 12 [(0, .ref fe), (1, .long vSq), (3, .long vRad)] := hl
  unfold mf_EndsFinder_findHead at hm
  refine lv_bipush (v := (30 : Int32)) hx hb d_EndsFinder_findHead_0 (by decide) ?_
  refine lv_istore (lv' := [(5, .int (30 : Int32)), (0, .ref fe), (1, .long vSq), (3, .long vRad)]) hx hb d_EndsFinder_findHead_2 hl (by decide) rfl (fun ls hl => ?_)
  refine lv_lconst (v := (1 : Int64)) hx hb d_EndsFinder_findHead_4 (by decide) ?_
  refine lv_iload hx hb d_EndsFinder_findHead_5 (lv_at hl 0 rfl) ?_
  refine lv_lshl hx hb d_EndsFinder_findHead_7 rfl ?_
  refine lv_lconst (v := (1 : Int64)) hx hb d_EndsFinder_findHead_8 (by decide) ?_
  refine lv_lsub hx hb d_EndsFinder_findHead_9 ?_
  obtain ⟨x6, ex6, hm⟩ := sd_mlet hm
  refine sd_topj ex6 ?_
  refine lv_lstore (lv' := [(6, .long x6), (5, .int (30 : Int32)), (0, .ref fe), (1, .long vSq), (3, .long vRad)]) hx hb d_EndsFinder_findHead_10 hl (by decide) rfl (fun ls hl => ?_)
  refine lv_lload_n hx hb d_EndsFinder_findHead_12 rfl (lv_at hl 3 rfl) ?_
  refine lv_lload hx hb d_EndsFinder_findHead_13 (lv_at hl 0 rfl) ?_
  refine lv_land hx hb d_EndsFinder_findHead_15 ?_
  refine lv_lload_n hx hb d_EndsFinder_findHead_16 rfl (lv_at hl 4 rfl) ?_
  refine lv_lmul hx hb d_EndsFinder_findHead_17 ?_
  obtain ⟨x8, ex8, hm⟩ := sd_mlet hm
  refine sd_topj ex8 ?_
  refine lv_lstore (lv' := [(8, .long x8), (6, .long x6), (5, .int (30 : Int32)), (0, .ref fe), (1, .long vSq), (3, .long vRad)]) hx hb d_EndsFinder_findHead_18 hl (by decide) rfl (fun ls hl => ?_)
  refine lv_lload_n hx hb d_EndsFinder_findHead_20 rfl (lv_at hl 4 rfl) ?_
  refine lv_iload hx hb d_EndsFinder_findHead_21 (lv_at hl 2 rfl) ?_
  refine lv_lshr hx hb d_EndsFinder_findHead_23 rfl ?_
  refine lv_lload_n hx hb d_EndsFinder_findHead_24 rfl (lv_at hl 5 rfl) ?_
  refine lv_lmul hx hb d_EndsFinder_findHead_25 ?_
  refine lv_lload hx hb d_EndsFinder_findHead_26 (lv_at hl 0 rfl) ?_
  refine lv_iload hx hb d_EndsFinder_findHead_28 (lv_at hl 2 rfl) ?_
  refine lv_lshr hx hb d_EndsFinder_findHead_30 rfl ?_
  refine lv_ladd hx hb d_EndsFinder_findHead_31 ?_
  obtain ⟨x10, ex10, hm⟩ := sd_mlet hm
  refine sd_topj ex10 ?_
  refine lv_lstore (lv' := [(10, .long x10), (8, .long x8), (6, .long x6), (5, .int (30 : Int32)), (0, .ref fe), (1, .long vSq), (3, .long vRad)]) hx hb d_EndsFinder_findHead_32 hl (by decide) rfl (fun ls hl => ?_)
  refine lv_aload_n hx hb d_EndsFinder_findHead_34 rfl (lv_at hl 4 rfl) ?_
  refine lv_lconst (v := (0 : Int64)) hx hb d_EndsFinder_findHead_35 (by decide) ?_
  refine sd_put (ci := 1) (v := .long (0 : Int64)) (ty := .long) (C := R_EndsFinder) (T := F_EndsFinder) (N := 5) (ws2 := [(fe, .inr (1, [.ref fr, .ref ft, .ref fs, .long (0 : Int64), .long fQ]))]) hx hb htt i_EndsFinder t_EndsFinder t_EndsFinder_ok n_EndsFinder hown hK hP hD hS 0 rfl rfl 3 (by decide) kf_EndsFinder_89 (fun _ h9 => h9) rfl (by decide +kernel) rfl rfl (Nat.le_of_ble_eq_true rfl) rfl d_EndsFinder_findHead_36 (fun H locs hP hD hS => ?_)
  refine lv_aload_n hx hb d_EndsFinder_findHead_39 rfl (lv_at hl 4 rfl) ?_
  refine lv_lconst (v := (0 : Int64)) hx hb d_EndsFinder_findHead_40 (by decide) ?_
  refine sd_put (ci := 1) (v := .long (0 : Int64)) (ty := .long) (C := R_EndsFinder) (T := F_EndsFinder) (N := 5) (ws2 := [(fe, .inr (1, [.ref fr, .ref ft, .ref fs, .long (0 : Int64), .long (0 : Int64)]))]) hx hb htt i_EndsFinder t_EndsFinder t_EndsFinder_ok n_EndsFinder hown hK hP hD hS 0 rfl rfl 4 (by decide) kf_EndsFinder_99 (fun _ h9 => h9) rfl (by decide +kernel) rfl rfl (Nat.le_of_ble_eq_true rfl) rfl d_EndsFinder_findHead_41 (fun H locs hP hD hS => ?_)
  refine lv_aload_n hx hb d_EndsFinder_findHead_44 rfl (lv_at hl 4 rfl) ?_
  refine lv_lload hx hb d_EndsFinder_findHead_45 (lv_at hl 0 rfl) ?_
  refine lv_bipush (v := (31 : Int32)) hx hb d_EndsFinder_findHead_47 (by decide) ?_
  obtain ⟨ufe, ufe_1, hc, hm⟩ := sd_mb2 hm
  refine sd_cv1 (wr := []) (w2 := [(fe, .inr (1, [.ref fr, .ref ft, .ref fs, .long ufe, .long ufe_1]))]) (sd_runV (rest := []) (As := [.long x10, .int (31 : Int32)]) S (ct_EndsFinder_bringDown l D g fe fr ft fs (H.size) x10 (31 : Int32) (0 : Int64) (0 : Int64) F (ufe, ufe_1) hc) kl_EndsFinder_95 (by decide) (by decide) hK hP hD [0] rfl (by decide) rfl hl d_EndsFinder_findHead_49 rfl (Nat.le_of_ble_eq_true rfl) ⟨Nat.zero_le _, Nat.zero_le _⟩ 0 rfl rfl) hP hD hS hA [0] [] rfl rfl (by decide) (by decide) rfl (fun H locs hP hD hS => ?_)
  refine lv_aload_n hx hb d_EndsFinder_findHead_52 rfl (lv_at hl 4 rfl) ?_
  refine lv_lload hx hb d_EndsFinder_findHead_53 (lv_at hl 1 rfl) ?_
  refine lv_lload hx hb d_EndsFinder_findHead_55 (lv_at hl 2 rfl) ?_
  refine lv_land hx hb d_EndsFinder_findHead_57 ?_
  refine lv_bipush (v := (15 : Int32)) hx hb d_EndsFinder_findHead_58 (by decide) ?_
  obtain ⟨ufe_2, ufe_3, hc, hm⟩ := sd_mb2 hm
  refine sd_cv1 (wr := []) (w2 := [(fe, .inr (1, [.ref fr, .ref ft, .ref fs, .long ufe_2, .long ufe_3]))]) (sd_runV (rest := []) (As := [.long (x8 &&& x6), .int (15 : Int32)]) S (ct_EndsFinder_bringDown l D g fe fr ft fs (H.size) (x8 &&& x6) (15 : Int32) ufe ufe_1 F (ufe_2, ufe_3) hc) kl_EndsFinder_95 (by decide) (by decide) hK hP hD [0] rfl (by decide) rfl hl d_EndsFinder_findHead_60 rfl (Nat.le_of_ble_eq_true rfl) ⟨Nat.zero_le _, Nat.zero_le _⟩ 0 rfl rfl) hP hD hS hA [0] [] rfl rfl (by decide) (by decide) rfl (fun H locs hP hD hS => ?_)
  exact sd_v1ret (u := (ufe_2, ufe_3)) hQ hx hb hr hlk hK (hP.sub [0] rfl) (hD.sub [0] (by decide) rfl) hS (Option.some.inj hm).symm d_EndsFinder_findHead_63
theorem d_EndsFinder_findDigit_0 : decode b_EndsFinder_findDigit 0 = .ok (.aload_n 0, 1) := by decide +kernel
theorem d_EndsFinder_findDigit_1 : decode b_EndsFinder_findDigit 1 = .ok (.getfield 9, 3) := by decide +kernel
theorem d_EndsFinder_findDigit_4 : decode b_EndsFinder_findDigit 4 = .ok (.iload_n 1, 1) := by decide +kernel
theorem d_EndsFinder_findDigit_5 : decode b_EndsFinder_findDigit 5 = .ok (.aload_n 0, 1) := by decide +kernel
theorem d_EndsFinder_findDigit_6 : decode b_EndsFinder_findDigit 6 = .ok (.getfield 15, 3) := by decide +kernel
theorem d_EndsFinder_findDigit_9 : decode b_EndsFinder_findDigit 9 = .ok (.iload_n 2, 1) := by decide +kernel
theorem d_EndsFinder_findDigit_10 : decode b_EndsFinder_findDigit 10 = .ok (.invokestatic 114, 3) := by decide +kernel
theorem d_EndsFinder_findDigit_13 : decode b_EndsFinder_findDigit 13 = .ok (.istore_n 3, 1) := by decide +kernel
theorem d_EndsFinder_findDigit_14 : decode b_EndsFinder_findDigit 14 = .ok (.aload_n 0, 1) := by decide +kernel
theorem d_EndsFinder_findDigit_15 : decode b_EndsFinder_findDigit 15 = .ok (.getfield 15, 3) := by decide +kernel
theorem d_EndsFinder_findDigit_18 : decode b_EndsFinder_findDigit 18 = .ok (.iload_n 1, 1) := by decide +kernel
theorem d_EndsFinder_findDigit_19 : decode b_EndsFinder_findDigit 19 = .ok (.iload_n 3, 1) := by decide +kernel
theorem d_EndsFinder_findDigit_20 : decode b_EndsFinder_findDigit 20 = .ok (.iastore, 1) := by decide +kernel
theorem d_EndsFinder_findDigit_21 : decode b_EndsFinder_findDigit 21 = .ok (.aload_n 0, 1) := by decide +kernel
theorem d_EndsFinder_findDigit_22 : decode b_EndsFinder_findDigit 22 = .ok (.getfield 9, 3) := by decide +kernel
theorem d_EndsFinder_findDigit_25 : decode b_EndsFinder_findDigit 25 = .ok (.iload_n 1, 1) := by decide +kernel
theorem d_EndsFinder_findDigit_26 : decode b_EndsFinder_findDigit 26 = .ok (.aload_n 0, 1) := by decide +kernel
theorem d_EndsFinder_findDigit_27 : decode b_EndsFinder_findDigit 27 = .ok (.getfield 15, 3) := by decide +kernel
theorem d_EndsFinder_findDigit_30 : decode b_EndsFinder_findDigit 30 = .ok (.iload_n 1, 1) := by decide +kernel
theorem d_EndsFinder_findDigit_31 : decode b_EndsFinder_findDigit 31 = .ok (.iload_n 2, 1) := by decide +kernel
theorem d_EndsFinder_findDigit_32 : decode b_EndsFinder_findDigit 32 = .ok (.iload_n 3, 1) := by decide +kernel
theorem d_EndsFinder_findDigit_33 : decode b_EndsFinder_findDigit 33 = .ok (.invokestatic 60, 3) := by decide +kernel
theorem d_EndsFinder_findDigit_36 : decode b_EndsFinder_findDigit 36 = .ok (.iconst 0, 1) := by decide +kernel
theorem d_EndsFinder_findDigit_37 : decode b_EndsFinder_findDigit 37 = .ok (.istore 4, 2) := by decide +kernel
theorem d_EndsFinder_findDigit_39 : decode b_EndsFinder_findDigit 39 = .ok (.iload 4, 2) := by decide +kernel
theorem d_EndsFinder_findDigit_41 : decode b_EndsFinder_findDigit 41 = .ok (.iconst 4, 1) := by decide +kernel
theorem d_EndsFinder_findDigit_42 : decode b_EndsFinder_findDigit 42 = .ok (.if_icmp .ge 51, 3) := by decide +kernel
theorem d_EndsFinder_findDigit_45 : decode b_EndsFinder_findDigit 45 = .ok (.aload_n 0, 1) := by decide +kernel
theorem d_EndsFinder_findDigit_46 : decode b_EndsFinder_findDigit 46 = .ok (.getfield 9, 3) := by decide +kernel
theorem d_EndsFinder_findDigit_49 : decode b_EndsFinder_findDigit 49 = .ok (.iload_n 2, 1) := by decide +kernel
theorem d_EndsFinder_findDigit_50 : decode b_EndsFinder_findDigit 50 = .ok (.iload_n 1, 1) := by decide +kernel
theorem d_EndsFinder_findDigit_51 : decode b_EndsFinder_findDigit 51 = .ok (.iadd, 1) := by decide +kernel
theorem d_EndsFinder_findDigit_52 : decode b_EndsFinder_findDigit 52 = .ok (.iconst 1, 1) := by decide +kernel
theorem d_EndsFinder_findDigit_53 : decode b_EndsFinder_findDigit 53 = .ok (.iadd, 1) := by decide +kernel
theorem d_EndsFinder_findDigit_54 : decode b_EndsFinder_findDigit 54 = .ok (.iaload, 1) := by decide +kernel
theorem d_EndsFinder_findDigit_55 : decode b_EndsFinder_findDigit 55 = .ok (.ifCond .ge 38, 3) := by decide +kernel
theorem d_EndsFinder_findDigit_58 : decode b_EndsFinder_findDigit 58 = .ok (.aload_n 0, 1) := by decide +kernel
theorem d_EndsFinder_findDigit_59 : decode b_EndsFinder_findDigit 59 = .ok (.getfield 15, 3) := by decide +kernel
theorem d_EndsFinder_findDigit_62 : decode b_EndsFinder_findDigit 62 = .ok (.iload_n 1, 1) := by decide +kernel
theorem d_EndsFinder_findDigit_63 : decode b_EndsFinder_findDigit 63 = .ok (.iconst 2, 1) := by decide +kernel
theorem d_EndsFinder_findDigit_64 : decode b_EndsFinder_findDigit 64 = .ok (.iload_n 3, 1) := by decide +kernel
theorem d_EndsFinder_findDigit_65 : decode b_EndsFinder_findDigit 65 = .ok (.imul, 1) := by decide +kernel
theorem d_EndsFinder_findDigit_66 : decode b_EndsFinder_findDigit 66 = .ok (.iconst 1, 1) := by decide +kernel
theorem d_EndsFinder_findDigit_67 : decode b_EndsFinder_findDigit 67 = .ok (.isub, 1) := by decide +kernel
theorem d_EndsFinder_findDigit_68 : decode b_EndsFinder_findDigit 68 = .ok (.iastore, 1) := by decide +kernel
theorem d_EndsFinder_findDigit_69 : decode b_EndsFinder_findDigit 69 = .ok (.aload_n 0, 1) := by decide +kernel
theorem d_EndsFinder_findDigit_70 : decode b_EndsFinder_findDigit 70 = .ok (.getfield 9, 3) := by decide +kernel
theorem d_EndsFinder_findDigit_73 : decode b_EndsFinder_findDigit 73 = .ok (.iload_n 1, 1) := by decide +kernel
theorem d_EndsFinder_findDigit_74 : decode b_EndsFinder_findDigit 74 = .ok (.aload_n 0, 1) := by decide +kernel
theorem d_EndsFinder_findDigit_75 : decode b_EndsFinder_findDigit 75 = .ok (.getfield 15, 3) := by decide +kernel
theorem d_EndsFinder_findDigit_78 : decode b_EndsFinder_findDigit 78 = .ok (.iload_n 1, 1) := by decide +kernel
theorem d_EndsFinder_findDigit_79 : decode b_EndsFinder_findDigit 79 = .ok (.iload_n 2, 1) := by decide +kernel
theorem d_EndsFinder_findDigit_80 : decode b_EndsFinder_findDigit 80 = .ok (.iconst (-1), 1) := by decide +kernel
theorem d_EndsFinder_findDigit_81 : decode b_EndsFinder_findDigit 81 = .ok (.invokestatic 60, 3) := by decide +kernel
theorem d_EndsFinder_findDigit_84 : decode b_EndsFinder_findDigit 84 = .ok (.iinc 3 (-1), 3) := by decide +kernel
theorem d_EndsFinder_findDigit_87 : decode b_EndsFinder_findDigit 87 = .ok (.iinc 4 1, 3) := by decide +kernel
theorem d_EndsFinder_findDigit_90 : decode b_EndsFinder_findDigit 90 = .ok (.goto (-51), 3) := by decide +kernel
theorem d_EndsFinder_findDigit_93 : decode b_EndsFinder_findDigit 93 = .ok (.aload_n 0, 1) := by decide +kernel
theorem d_EndsFinder_findDigit_94 : decode b_EndsFinder_findDigit 94 = .ok (.getfield 15, 3) := by decide +kernel
theorem d_EndsFinder_findDigit_97 : decode b_EndsFinder_findDigit 97 = .ok (.iload_n 1, 1) := by decide +kernel
theorem d_EndsFinder_findDigit_98 : decode b_EndsFinder_findDigit 98 = .ok (.iconst 2, 1) := by decide +kernel
theorem d_EndsFinder_findDigit_99 : decode b_EndsFinder_findDigit 99 = .ok (.iload_n 3, 1) := by decide +kernel
theorem d_EndsFinder_findDigit_100 : decode b_EndsFinder_findDigit 100 = .ok (.imul, 1) := by decide +kernel
theorem d_EndsFinder_findDigit_101 : decode b_EndsFinder_findDigit 101 = .ok (.ldc 118, 2) := by decide +kernel
theorem d_EndsFinder_findDigit_103 : decode b_EndsFinder_findDigit 103 = .ok (.iand, 1) := by decide +kernel
theorem d_EndsFinder_findDigit_104 : decode b_EndsFinder_findDigit 104 = .ok (.iastore, 1) := by decide +kernel
theorem d_EndsFinder_findDigit_105 : decode b_EndsFinder_findDigit 105 = .ok (.aload_n 0, 1) := by decide +kernel
theorem d_EndsFinder_findDigit_106 : decode b_EndsFinder_findDigit 106 = .ok (.getfield 15, 3) := by decide +kernel
theorem d_EndsFinder_findDigit_109 : decode b_EndsFinder_findDigit 109 = .ok (.iload_n 1, 1) := by decide +kernel
theorem d_EndsFinder_findDigit_110 : decode b_EndsFinder_findDigit 110 = .ok (.iconst 1, 1) := by decide +kernel
theorem d_EndsFinder_findDigit_111 : decode b_EndsFinder_findDigit 111 = .ok (.iadd, 1) := by decide +kernel
theorem d_EndsFinder_findDigit_112 : decode b_EndsFinder_findDigit 112 = .ok (.dup2, 1) := by decide +kernel
theorem d_EndsFinder_findDigit_113 : decode b_EndsFinder_findDigit 113 = .ok (.iaload, 1) := by decide +kernel
theorem d_EndsFinder_findDigit_114 : decode b_EndsFinder_findDigit 114 = .ok (.iconst 2, 1) := by decide +kernel
theorem d_EndsFinder_findDigit_115 : decode b_EndsFinder_findDigit 115 = .ok (.iload_n 3, 1) := by decide +kernel
theorem d_EndsFinder_findDigit_116 : decode b_EndsFinder_findDigit 116 = .ok (.imul, 1) := by decide +kernel
theorem d_EndsFinder_findDigit_117 : decode b_EndsFinder_findDigit 117 = .ok (.bipush 16, 2) := by decide +kernel
theorem d_EndsFinder_findDigit_119 : decode b_EndsFinder_findDigit 119 = .ok (.ishr, 1) := by decide +kernel
theorem d_EndsFinder_findDigit_120 : decode b_EndsFinder_findDigit 120 = .ok (.iadd, 1) := by decide +kernel
theorem d_EndsFinder_findDigit_121 : decode b_EndsFinder_findDigit 121 = .ok (.iastore, 1) := by decide +kernel
theorem d_EndsFinder_findDigit_122 : decode b_EndsFinder_findDigit 122 = .ok (.return_, 1) := by decide +kernel
def mf_EndsFinder_findDigit_L39 (vTop : Int32) (vK : Int32) (F : Nat) : Nat → Int32 → Int32 → (Nat → Int32) → (Nat → Int32) → Option (Int32 × (Nat → Int32) × (Nat → Int32))
  | 0, _, _, _, _ => none
  | fu + 1, x3, x4, ufr_1, uft_1 => (if (4 : Int32) ≤ x4 then (some (x3, ufr_1, uft_1)) else (sd_g (sd_ix ((vTop + vK) + (1 : Int32)) 132) (if 0 ≤ (ufr_1 ((vTop + vK) + (1 : Int32)).toNatClampNeg) then (some (x3, ufr_1, uft_1)) else (sd_g (sd_ix vK 68) (sd_let (upd uft_1 vK.toNatClampNeg (((2 : Int32) * x3) - (1 : Int32))) fun uft_2 => (sd_b1 (mf_Wide_take F 132 68 vK vK vTop (-1 : Int32) ufr_1 uft_2) fun ufr_2 => (sd_let (x3 + (-1 : Int32)) fun x3_1 => (sd_let (x4 + (1 : Int32)) fun x4_1 => ((mf_EndsFinder_findDigit_L39 vTop vK F fu) x3_1 x4_1 ufr_2 uft_2)))))))))
def mf_EndsFinder_findDigit (F : Nat) (vK : Int32) (vTop : Int32) (fR : Int64) (fQ : Int64) (cfr : Nat → Int32) (cft : Nat → Int32) : Option ((Nat → Int32) × (Nat → Int32)) :=
  (sd_b1 (mf_Wide_guess F 132 68 vK vTop cfr cft) fun r => (sd_g (sd_ix vK 68) (sd_let (upd cft vK.toNatClampNeg r) fun uft => (sd_b1 (mf_Wide_take F 132 68 vK vK vTop r cfr uft) fun ufr => (sd_b3 (mf_EndsFinder_findDigit_L39 vTop vK F F r (0 : Int32) ufr uft) fun rx3 rufr ruft => (sd_g (sd_ix vK 68) (sd_let (upd ruft vK.toNatClampNeg (((2 : Int32) * rx3) &&& (65535 : Int32))) fun uft_3 => (sd_g (sd_ix (vK + (1 : Int32)) 68) (sd_g (sd_ix (vK + (1 : Int32)) 68) (sd_let (upd uft_3 (vK + (1 : Int32)).toNatClampNeg ((uft_3 (vK + (1 : Int32)).toNatClampNeg) + (((2 : Int32) * rx3) >>> ((16 : Int32) &&& 31)))) fun uft_4 => (some (rufr, uft_4))))))))))))
abbrev rm_EndsFinder_findDigit : Room := { frames := 1, cells := 0, slots := 0, locals := 30 }
set_option maxHeartbeats 4000000 in
set_option maxRecDepth 100000 in
theorem ct_EndsFinder_findDigit (l : Launch) (D : va_G) (g : G4) (fe : Nat) (fr : Nat) (ft : Nat) (fs : Nat) (sz : Nat) (vK : Int32) (vTop : Int32) (fR : Int64) (fQ : Int64) (cfr : Nat → Int32) (cft : Nat → Int32) (F : Nat) (res : (Nat → Int32) × (Nat → Int32)) (hm : mf_EndsFinder_findDigit F vK vTop fR fQ cfr cft = some res) : Met l y_EndsFinder_findDigit (.code y_EndsFinder_findDigit b_EndsFinder_findDigit 5 none :: sd_tb) rm_EndsFinder_findDigit (sd_PW D g [.ref fe, .int vK, .int vTop] sz [(fe, .inr (1, [.ref fr, .ref ft, .ref fs, .long fR, .long fQ])), (fr, aI g 132 cfr), (ft, aI g 68 cft)]) (sd_Qv1 D g res (fun u : (Nat → Int32) × (Nat → Int32) => [(fe, .inr (1, [.ref fr, .ref ft, .ref fs, .long fR, .long fQ])), (fr, aI g 132 (u.1)), (ft, aI g 68 (u.2))]) (va_A [(fe, .inr (1, [.ref fr, .ref ft, .ref fs, .long fR, .long fQ])), (fr, aI g 132 cfr), (ft, aI g 68 cft)] sz)) 0 0 (va_A [(fe, .inr (1, [.ref fr, .ref ft, .ref fs, .long fR, .long fQ])), (fr, aI g 132 cfr), (ft, aI g 68 cft)] sz) := by
  refine sd_met (Qf := fun A => sd_Qv1 D g res (fun u : (Nat → Int32) × (Nat → Int32) => [(fe, .inr (1, [.ref fr, .ref ft, .ref fs, .long fR, .long fQ])), (fr, aI g 132 (u.1)), (ft, aI g 68 (u.2))]) A) (own := R_EndsFinder) (by decide +kernel) rfl (Nat.le_of_ble_eq_true rfl) ?_
  intro p e s m args below meth c S hr hlk hK A hA Q hQ H locs hP hD hS ls hl
  have hx := S.1
  have hb := S.2.1
  have hml := S.2.2.1
  have hown := S.2.2.2.1
  have htt := sd_tt S
  replace hl : lv_has ls 5 [(0, .ref fe), (1, .int vK), (2, .int vTop)] := hl
  unfold mf_EndsFinder_findDigit at hm
  refine lv_aload_n hx hb d_EndsFinder_findDigit_0 rfl (lv_at hl 0 rfl) ?_
  refine va_get (D := D) (ci := 1) (v := .ref fr) (C := R_EndsFinder) (T := F_EndsFinder) (N := 5) hx hb htt i_EndsFinder hown hK hP 0 rfl rfl 0 (by decide) (htt _ kf_EndsFinder_9) (fun _ h9 => h9) rfl d_EndsFinder_findDigit_1 ?_
  refine lv_iload_n hx hb d_EndsFinder_findDigit_4 rfl (lv_at hl 1 rfl) ?_
  refine lv_aload_n hx hb d_EndsFinder_findDigit_5 rfl (lv_at hl 0 rfl) ?_
  refine va_get (D := D) (ci := 1) (v := .ref ft) (C := R_EndsFinder) (T := F_EndsFinder) (N := 5) hx hb htt i_EndsFinder hown hK hP 0 rfl rfl 1 (by decide) (htt _ kf_EndsFinder_15) (fun _ h9 => h9) rfl d_EndsFinder_findDigit_6 ?_
  refine lv_iload_n hx hb d_EndsFinder_findDigit_9 rfl (lv_at hl 2 rfl) ?_
  obtain ⟨r, hc, hm⟩ := sd_mb1 hm
  refine sd_ci0 (wr := [(fe, .inr (1, [.ref fr, .ref ft, .ref fs, .long fR, .long fQ]))]) (w2 := [(fe, .inr (1, [.ref fr, .ref ft, .ref fs, .long fR, .long fQ])), (fr, aI g 132 cfr), (ft, aI g 68 cft)]) (sd_runS (rest := []) (As := [.ref fr, .int vK, .ref ft, .int vTop]) S (ct_Wide_guess l D g fr ft 132 68 (H.size) vK vTop cfr cft F (r) hc) kl_EndsFinder_114 (by decide) (by decide) hK hP hD [1, 2] rfl (by decide) rfl hl d_EndsFinder_findDigit_10 rfl (Nat.le_of_ble_eq_true rfl) ⟨Nat.zero_le _, Nat.zero_le _⟩) hP hD hS hA [1, 2] [0] rfl rfl (by decide) (by decide) rfl (fun H locs hP hD hS => ?_)
  refine W.eq (g2 := F0 m 13 ls [.int r]) rfl ?_
  refine lv_istore_n (lv' := [(3, .int r), (0, .ref fe), (1, .int vK), (2, .int vTop)]) hx hb d_EndsFinder_findDigit_13 rfl hl (by decide) rfl (fun ls hl => ?_)
  refine lv_aload_n hx hb d_EndsFinder_findDigit_14 rfl (lv_at hl 1 rfl) ?_
  refine va_get (D := D) (ci := 1) (v := .ref ft) (C := R_EndsFinder) (T := F_EndsFinder) (N := 5) hx hb htt i_EndsFinder hown hK hP 0 rfl rfl 1 (by decide) (htt _ kf_EndsFinder_15) (fun _ h9 => h9) rfl d_EndsFinder_findDigit_15 ?_
  refine lv_iload_n hx hb d_EndsFinder_findDigit_18 rfl (lv_at hl 2 rfl) ?_
  refine lv_iload_n hx hb d_EndsFinder_findDigit_19 rfl (lv_at hl 0 rfl) ?_
  obtain ⟨h_1, hm⟩ := sd_mg hm
  obtain ⟨uft, euft, hm⟩ := sd_mlet hm
  refine sd_iast (f2 := uft) (ws2 := [(fe, .inr (1, [.ref fr, .ref ft, .ref fs, .long fR, .long fQ])), (fr, aI g 132 cfr), (ft, aI g 68 uft)]) hx hb hK hP hD hS 2 rfl h_1 euft rfl d_EndsFinder_findDigit_20 (fun H locs hP hD hS => ?_)
  refine lv_aload_n hx hb d_EndsFinder_findDigit_21 rfl (lv_at hl 1 rfl) ?_
  refine va_get (D := D) (ci := 1) (v := .ref fr) (C := R_EndsFinder) (T := F_EndsFinder) (N := 5) hx hb htt i_EndsFinder hown hK hP 0 rfl rfl 0 (by decide) (htt _ kf_EndsFinder_9) (fun _ h9 => h9) rfl d_EndsFinder_findDigit_22 ?_
  refine lv_iload_n hx hb d_EndsFinder_findDigit_25 rfl (lv_at hl 2 rfl) ?_
  refine lv_aload_n hx hb d_EndsFinder_findDigit_26 rfl (lv_at hl 1 rfl) ?_
  refine va_get (D := D) (ci := 1) (v := .ref ft) (C := R_EndsFinder) (T := F_EndsFinder) (N := 5) hx hb htt i_EndsFinder hown hK hP 0 rfl rfl 1 (by decide) (htt _ kf_EndsFinder_15) (fun _ h9 => h9) rfl d_EndsFinder_findDigit_27 ?_
  refine lv_iload_n hx hb d_EndsFinder_findDigit_30 rfl (lv_at hl 2 rfl) ?_
  refine lv_iload_n hx hb d_EndsFinder_findDigit_31 rfl (lv_at hl 3 rfl) ?_
  refine lv_iload_n hx hb d_EndsFinder_findDigit_32 rfl (lv_at hl 0 rfl) ?_
  obtain ⟨ufr, hc, hm⟩ := sd_mb1 hm
  refine sd_cv1 (wr := [(fe, .inr (1, [.ref fr, .ref ft, .ref fs, .long fR, .long fQ]))]) (w2 := [(fe, .inr (1, [.ref fr, .ref ft, .ref fs, .long fR, .long fQ])), (fr, aI g 132 ufr), (ft, aI g 68 uft)]) (sd_runS (rest := []) (As := [.ref fr, .int vK, .ref ft, .int vK, .int vTop, .int r]) S (ct_Wide_take l D g fr ft 132 68 (H.size) vK vK vTop r cfr uft F (ufr) hc) kl_EndsFinder_60 (by decide) (by decide) hK hP hD [1, 2] rfl (by decide) rfl hl d_EndsFinder_findDigit_33 rfl (Nat.le_of_ble_eq_true rfl) ⟨Nat.zero_le _, Nat.zero_le _⟩) hP hD hS hA [1, 2] [0] rfl rfl (by decide) (by decide) rfl (fun H locs hP hD hS => ?_)
  refine lv_iconst (v := (0 : Int32)) hx hb d_EndsFinder_findDigit_36 (by decide) ?_
  refine lv_istore (lv' := [(4, .int (0 : Int32)), (3, .int r), (0, .ref fe), (1, .int vK), (2, .int vTop)]) hx hb d_EndsFinder_findDigit_37 hl (by decide) rfl (fun ls hl => ?_)
  have L39 : ∀ (fu : Nat) (x3 : Int32) (x4 : Int32) (ufr_1 : Nat → Int32) (uft_1 : Nat → Int32) (rx3 : Int32) (rufr : Nat → Int32) (ruft : Nat → Int32), mf_EndsFinder_findDigit_L39 vTop vK F fu x3 x4 ufr_1 uft_1 = some (rx3, rufr, ruft) → ∀ (H : Heap) (locs : List Loc) (ls : Array Slot), va_P D classes [(fe, .inr (1, [.ref fr, .ref ft, .ref fs, .long fR, .long fQ])), (fr, aI g 132 ufr_1), (ft, aI g 68 uft_1)] H → va_D A [(fe, .inr (1, [.ref fr, .ref ft, .ref fs, .long fR, .long fQ])), (fr, aI g 132 ufr_1), (ft, aI g 68 uft_1)] → va_S A s.heap H locs → lv_has ls 5 [(0, .ref fe), (1, .int vK), (2, .int vTop), (3, .int x3), (4, .int x4)] → (∀ (H : Heap) (locs : List Loc) (ls : Array Slot), va_P D classes [(fe, .inr (1, [.ref fr, .ref ft, .ref fs, .long fR, .long fQ])), (fr, aI g 132 rufr), (ft, aI g 68 ruft)] H → va_D A [(fe, .inr (1, [.ref fr, .ref ft, .ref fs, .long fR, .long fQ])), (fr, aI g 132 rufr), (ft, aI g 68 ruft)] → va_S A s.heap H locs → lv_has ls 5 [(0, .ref fe), (1, .int vK), (3, .int rx3)] → W p l e rm_EndsFinder_findDigit s m args below meth c H locs 0 0 Q (F0 m 93 ls [])) → W p l e rm_EndsFinder_findDigit s m args below meth c H locs 0 0 Q (F0 m 39 ls []) := by
    intro fu
    induction fu with
    | zero => intro x3 x4 ufr_1 uft_1 rx3 rufr ruft hm; exact absurd (show (none : Option (Int32 × (Nat → Int32) × (Nat → Int32))) = some (rx3, rufr, ruft) from hm) (fun h => nomatch h)
    | succ fu ih =>
      intro x3 x4 ufr_1 uft_1 rx3 rufr ruft hm H locs ls hP hD hS hl kx93
      rw [mf_EndsFinder_findDigit_L39] at hm
      refine lv_iload hx hb d_EndsFinder_findDigit_39 (lv_at hl 4 rfl) ?_
      refine lv_iconst (v := (4 : Int32)) hx hb d_EndsFinder_findDigit_41 (by decide) ?_
      refine lv_icmp_ge (tgt := 93) hx hb d_EndsFinder_findDigit_42 (by decide) (fun hc => ?_) (fun hc => ?_)
      · have hm := sd_mt hc hm
        cases hm
        exact kx93 H locs ls (hP.sub [0, 1, 2] rfl) (hD.sub [0, 1, 2] (by decide) rfl) hS (lv_sub hl [0, 1, 3] rfl)
      · have hm := sd_mf hc hm
        refine lv_aload_n hx hb d_EndsFinder_findDigit_45 rfl (lv_at hl 0 rfl) ?_
        refine va_get (D := D) (ci := 1) (v := .ref fr) (C := R_EndsFinder) (T := F_EndsFinder) (N := 5) hx hb htt i_EndsFinder hown hK hP 0 rfl rfl 0 (by decide) (htt _ kf_EndsFinder_9) (fun _ h9 => h9) rfl d_EndsFinder_findDigit_46 ?_
        refine lv_iload_n hx hb d_EndsFinder_findDigit_49 rfl (lv_at hl 2 rfl) ?_
        refine lv_iload_n hx hb d_EndsFinder_findDigit_50 rfl (lv_at hl 1 rfl) ?_
        refine lv_iadd hx hb d_EndsFinder_findDigit_51 ?_
        refine lv_iconst (v := (1 : Int32)) hx hb d_EndsFinder_findDigit_52 (by decide) ?_
        refine lv_iadd hx hb d_EndsFinder_findDigit_53 ?_
        obtain ⟨h_2, hm⟩ := sd_mg hm
        refine sd_iald hx hb hK hP 1 rfl h_2 d_EndsFinder_findDigit_54 ?_
        refine lv_if_ge (tgt := 93) hx hb d_EndsFinder_findDigit_55 (by decide) (fun hc => ?_) (fun hc => ?_)
        · have hm := sd_mt hc hm
          cases hm
          exact kx93 H locs ls (hP.sub [0, 1, 2] rfl) (hD.sub [0, 1, 2] (by decide) rfl) hS (lv_sub hl [0, 1, 3] rfl)
        · have hm := sd_mf hc hm
          refine lv_aload_n hx hb d_EndsFinder_findDigit_58 rfl (lv_at hl 0 rfl) ?_
          refine va_get (D := D) (ci := 1) (v := .ref ft) (C := R_EndsFinder) (T := F_EndsFinder) (N := 5) hx hb htt i_EndsFinder hown hK hP 0 rfl rfl 1 (by decide) (htt _ kf_EndsFinder_15) (fun _ h9 => h9) rfl d_EndsFinder_findDigit_59 ?_
          refine lv_iload_n hx hb d_EndsFinder_findDigit_62 rfl (lv_at hl 1 rfl) ?_
          refine lv_iconst (v := (2 : Int32)) hx hb d_EndsFinder_findDigit_63 (by decide) ?_
          refine lv_iload_n hx hb d_EndsFinder_findDigit_64 rfl (lv_at hl 3 rfl) ?_
          refine lv_imul hx hb d_EndsFinder_findDigit_65 ?_
          refine lv_iconst (v := (1 : Int32)) hx hb d_EndsFinder_findDigit_66 (by decide) ?_
          refine lv_isub hx hb d_EndsFinder_findDigit_67 ?_
          obtain ⟨h_3, hm⟩ := sd_mg hm
          obtain ⟨uft_2, euft_2, hm⟩ := sd_mlet hm
          refine sd_iast (f2 := uft_2) (ws2 := [(fe, .inr (1, [.ref fr, .ref ft, .ref fs, .long fR, .long fQ])), (fr, aI g 132 ufr_1), (ft, aI g 68 uft_2)]) hx hb hK hP hD hS 2 rfl h_3 euft_2 rfl d_EndsFinder_findDigit_68 (fun H locs hP hD hS => ?_)
          refine lv_aload_n hx hb d_EndsFinder_findDigit_69 rfl (lv_at hl 0 rfl) ?_
          refine va_get (D := D) (ci := 1) (v := .ref fr) (C := R_EndsFinder) (T := F_EndsFinder) (N := 5) hx hb htt i_EndsFinder hown hK hP 0 rfl rfl 0 (by decide) (htt _ kf_EndsFinder_9) (fun _ h9 => h9) rfl d_EndsFinder_findDigit_70 ?_
          refine lv_iload_n hx hb d_EndsFinder_findDigit_73 rfl (lv_at hl 1 rfl) ?_
          refine lv_aload_n hx hb d_EndsFinder_findDigit_74 rfl (lv_at hl 0 rfl) ?_
          refine va_get (D := D) (ci := 1) (v := .ref ft) (C := R_EndsFinder) (T := F_EndsFinder) (N := 5) hx hb htt i_EndsFinder hown hK hP 0 rfl rfl 1 (by decide) (htt _ kf_EndsFinder_15) (fun _ h9 => h9) rfl d_EndsFinder_findDigit_75 ?_
          refine lv_iload_n hx hb d_EndsFinder_findDigit_78 rfl (lv_at hl 1 rfl) ?_
          refine lv_iload_n hx hb d_EndsFinder_findDigit_79 rfl (lv_at hl 2 rfl) ?_
          refine lv_iconst (v := (-1 : Int32)) hx hb d_EndsFinder_findDigit_80 (by decide) ?_
          obtain ⟨ufr_2, hc, hm⟩ := sd_mb1 hm
          refine sd_cv1 (wr := [(fe, .inr (1, [.ref fr, .ref ft, .ref fs, .long fR, .long fQ]))]) (w2 := [(fe, .inr (1, [.ref fr, .ref ft, .ref fs, .long fR, .long fQ])), (fr, aI g 132 ufr_2), (ft, aI g 68 uft_2)]) (sd_runS (rest := []) (As := [.ref fr, .int vK, .ref ft, .int vK, .int vTop, .int (-1 : Int32)]) S (ct_Wide_take l D g fr ft 132 68 (H.size) vK vK vTop (-1 : Int32) ufr_1 uft_2 F (ufr_2) hc) kl_EndsFinder_60 (by decide) (by decide) hK hP hD [1, 2] rfl (by decide) rfl hl d_EndsFinder_findDigit_81 rfl (Nat.le_of_ble_eq_true rfl) ⟨Nat.zero_le _, Nat.zero_le _⟩) hP hD hS hA [1, 2] [0] rfl rfl (by decide) (by decide) rfl (fun H locs hP hD hS => ?_)
          obtain ⟨x3_1, ex3_1, hm⟩ := sd_mlet hm
          refine lv_iinc (v := x3_1) (lv' := [(3, .int x3_1), (0, .ref fe), (1, .int vK), (2, .int vTop), (4, .int x4)]) hx hb d_EndsFinder_findDigit_84 hl (k := 3) rfl (by rw [ex3_1]; rfl) (by decide) rfl (fun ls hl => ?_)
          obtain ⟨x4_1, ex4_1, hm⟩ := sd_mlet hm
          refine lv_iinc (v := x4_1) (lv' := [(4, .int x4_1), (3, .int x3_1), (0, .ref fe), (1, .int vK), (2, .int vTop)]) hx hb d_EndsFinder_findDigit_87 hl (k := 4) rfl (by rw [ex4_1]; rfl) (by decide) rfl (fun ls hl => ?_)
          refine lv_goto (tgt := 39) hx hb d_EndsFinder_findDigit_90 (by decide) ?_
          exact ih x3_1 x4_1 ufr_2 uft_2 rx3 rufr ruft hm H locs ls (hP.sub [0, 1, 2] rfl) (hD.sub [0, 1, 2] (by decide) rfl) hS (lv_sub hl [2, 3, 4, 1, 0] rfl) kx93
  obtain ⟨rx3, rufr, ruft, hc, hm⟩ := sd_mb3 hm
  refine L39 F r (0 : Int32) ufr uft rx3 rufr ruft hc H locs ls (hP.sub [0, 1, 2] rfl) (hD.sub [0, 1, 2] (by decide) rfl) hS (lv_sub hl [2, 3, 4, 1, 0] rfl) ?_
  intro H locs ls hP hD hS hl
  refine lv_aload_n hx hb d_EndsFinder_findDigit_93 rfl (lv_at hl 0 rfl) ?_
  refine va_get (D := D) (ci := 1) (v := .ref ft) (C := R_EndsFinder) (T := F_EndsFinder) (N := 5) hx hb htt i_EndsFinder hown hK hP 0 rfl rfl 1 (by decide) (htt _ kf_EndsFinder_15) (fun _ h9 => h9) rfl d_EndsFinder_findDigit_94 ?_
  refine lv_iload_n hx hb d_EndsFinder_findDigit_97 rfl (lv_at hl 1 rfl) ?_
  refine lv_iconst (v := (2 : Int32)) hx hb d_EndsFinder_findDigit_98 (by decide) ?_
  refine lv_iload_n hx hb d_EndsFinder_findDigit_99 rfl (lv_at hl 2 rfl) ?_
  refine lv_imul hx hb d_EndsFinder_findDigit_100 ?_
  refine sd_ldc (v := (65535 : Int32)) hx hb hown (htt _ km_EndsFinder_118) d_EndsFinder_findDigit_101 ?_
  refine lv_iand hx hb d_EndsFinder_findDigit_103 ?_
  obtain ⟨h_4, hm⟩ := sd_mg hm
  obtain ⟨uft_3, euft_3, hm⟩ := sd_mlet hm
  refine sd_iast (f2 := uft_3) (ws2 := [(fe, .inr (1, [.ref fr, .ref ft, .ref fs, .long fR, .long fQ])), (fr, aI g 132 rufr), (ft, aI g 68 uft_3)]) hx hb hK hP hD hS 2 rfl h_4 euft_3 rfl d_EndsFinder_findDigit_104 (fun H locs hP hD hS => ?_)
  refine lv_aload_n hx hb d_EndsFinder_findDigit_105 rfl (lv_at hl 0 rfl) ?_
  refine va_get (D := D) (ci := 1) (v := .ref ft) (C := R_EndsFinder) (T := F_EndsFinder) (N := 5) hx hb htt i_EndsFinder hown hK hP 0 rfl rfl 1 (by decide) (htt _ kf_EndsFinder_15) (fun _ h9 => h9) rfl d_EndsFinder_findDigit_106 ?_
  refine lv_iload_n hx hb d_EndsFinder_findDigit_109 rfl (lv_at hl 1 rfl) ?_
  refine lv_iconst (v := (1 : Int32)) hx hb d_EndsFinder_findDigit_110 (by decide) ?_
  refine lv_iadd hx hb d_EndsFinder_findDigit_111 ?_
  refine lv_dup2_11 hx hb d_EndsFinder_findDigit_112 rfl rfl ?_
  obtain ⟨h_5, hm⟩ := sd_mg hm
  refine sd_iald hx hb hK hP 2 rfl h_5 d_EndsFinder_findDigit_113 ?_
  refine lv_iconst (v := (2 : Int32)) hx hb d_EndsFinder_findDigit_114 (by decide) ?_
  refine lv_iload_n hx hb d_EndsFinder_findDigit_115 rfl (lv_at hl 2 rfl) ?_
  refine lv_imul hx hb d_EndsFinder_findDigit_116 ?_
  refine lv_bipush (v := (16 : Int32)) hx hb d_EndsFinder_findDigit_117 (by decide) ?_
  refine lv_ishr hx hb d_EndsFinder_findDigit_119 ?_
  refine lv_iadd hx hb d_EndsFinder_findDigit_120 ?_
  obtain ⟨h_6, hm⟩ := sd_mg hm
  obtain ⟨uft_4, euft_4, hm⟩ := sd_mlet hm
  refine sd_iast (f2 := uft_4) (ws2 := [(fe, .inr (1, [.ref fr, .ref ft, .ref fs, .long fR, .long fQ])), (fr, aI g 132 rufr), (ft, aI g 68 uft_4)]) hx hb hK hP hD hS 2 rfl h_6 euft_4 rfl d_EndsFinder_findDigit_121 (fun H locs hP hD hS => ?_)
  exact sd_v1ret (u := (rufr, uft_4)) hQ hx hb hr hlk hK (hP.sub [0, 1, 2] rfl) (hD.sub [0, 1, 2] (by decide) rfl) hS (Option.some.inj hm).symm d_EndsFinder_findDigit_122
theorem d_EndsFinder_findTwiceRoot_0 : decode b_EndsFinder_findTwiceRoot 0 = .ok (.aload_n 0, 1) := by decide +kernel
theorem d_EndsFinder_findTwiceRoot_1 : decode b_EndsFinder_findTwiceRoot 1 = .ok (.lload_n 1, 1) := by decide +kernel
theorem d_EndsFinder_findTwiceRoot_2 : decode b_EndsFinder_findTwiceRoot 2 = .ok (.lload_n 3, 1) := by decide +kernel
theorem d_EndsFinder_findTwiceRoot_3 : decode b_EndsFinder_findTwiceRoot 3 = .ok (.invokevirtual 86, 3) := by decide +kernel
theorem d_EndsFinder_findTwiceRoot_6 : decode b_EndsFinder_findTwiceRoot 6 = .ok (.iconst 0, 1) := by decide +kernel
theorem d_EndsFinder_findTwiceRoot_7 : decode b_EndsFinder_findTwiceRoot 7 = .ok (.istore 5, 2) := by decide +kernel
theorem d_EndsFinder_findTwiceRoot_9 : decode b_EndsFinder_findTwiceRoot 9 = .ok (.aload_n 0, 1) := by decide +kernel
theorem d_EndsFinder_findTwiceRoot_10 : decode b_EndsFinder_findTwiceRoot 10 = .ok (.getfield 89, 3) := by decide +kernel
theorem d_EndsFinder_findTwiceRoot_13 : decode b_EndsFinder_findTwiceRoot 13 = .ok (.ldc2_w 93, 3) := by decide +kernel
theorem d_EndsFinder_findTwiceRoot_16 : decode b_EndsFinder_findTwiceRoot 16 = .ok (.lcmp, 1) := by decide +kernel
theorem d_EndsFinder_findTwiceRoot_17 : decode b_EndsFinder_findTwiceRoot 17 = .ok (.ifCond .gt 13, 3) := by decide +kernel
theorem d_EndsFinder_findTwiceRoot_20 : decode b_EndsFinder_findTwiceRoot 20 = .ok (.aload_n 0, 1) := by decide +kernel
theorem d_EndsFinder_findTwiceRoot_21 : decode b_EndsFinder_findTwiceRoot 21 = .ok (.lconst 0, 1) := by decide +kernel
theorem d_EndsFinder_findTwiceRoot_22 : decode b_EndsFinder_findTwiceRoot 22 = .ok (.bipush 16, 2) := by decide +kernel
theorem d_EndsFinder_findTwiceRoot_24 : decode b_EndsFinder_findTwiceRoot 24 = .ok (.invokevirtual 95, 3) := by decide +kernel
theorem d_EndsFinder_findTwiceRoot_27 : decode b_EndsFinder_findTwiceRoot 27 = .ok (.iconst 1, 1) := by decide +kernel
theorem d_EndsFinder_findTwiceRoot_28 : decode b_EndsFinder_findTwiceRoot 28 = .ok (.istore 5, 2) := by decide +kernel
theorem d_EndsFinder_findTwiceRoot_30 : decode b_EndsFinder_findTwiceRoot 30 = .ok (.aload_n 0, 1) := by decide +kernel
theorem d_EndsFinder_findTwiceRoot_31 : decode b_EndsFinder_findTwiceRoot 31 = .ok (.getfield 9, 3) := by decide +kernel
theorem d_EndsFinder_findTwiceRoot_34 : decode b_EndsFinder_findTwiceRoot 34 = .ok (.iconst 0, 1) := by decide +kernel
theorem d_EndsFinder_findTwiceRoot_35 : decode b_EndsFinder_findTwiceRoot 35 = .ok (.invokestatic 30, 3) := by decide +kernel
theorem d_EndsFinder_findTwiceRoot_38 : decode b_EndsFinder_findTwiceRoot 38 = .ok (.aload_n 0, 1) := by decide +kernel
theorem d_EndsFinder_findTwiceRoot_39 : decode b_EndsFinder_findTwiceRoot 39 = .ok (.getfield 15, 3) := by decide +kernel
theorem d_EndsFinder_findTwiceRoot_42 : decode b_EndsFinder_findTwiceRoot 42 = .ok (.bipush 64, 2) := by decide +kernel
theorem d_EndsFinder_findTwiceRoot_44 : decode b_EndsFinder_findTwiceRoot 44 = .ok (.iload 5, 2) := by decide +kernel
theorem d_EndsFinder_findTwiceRoot_46 : decode b_EndsFinder_findTwiceRoot 46 = .ok (.isub, 1) := by decide +kernel
theorem d_EndsFinder_findTwiceRoot_47 : decode b_EndsFinder_findTwiceRoot 47 = .ok (.ldc2_w 76, 3) := by decide +kernel
theorem d_EndsFinder_findTwiceRoot_50 : decode b_EndsFinder_findTwiceRoot 50 = .ok (.aload_n 0, 1) := by decide +kernel
theorem d_EndsFinder_findTwiceRoot_51 : decode b_EndsFinder_findTwiceRoot 51 = .ok (.getfield 89, 3) := by decide +kernel
theorem d_EndsFinder_findTwiceRoot_54 : decode b_EndsFinder_findTwiceRoot 54 = .ok (.lmul, 1) := by decide +kernel
theorem d_EndsFinder_findTwiceRoot_55 : decode b_EndsFinder_findTwiceRoot 55 = .ok (.invokestatic 78, 3) := by decide +kernel
theorem d_EndsFinder_findTwiceRoot_58 : decode b_EndsFinder_findTwiceRoot 58 = .ok (.aload_n 0, 1) := by decide +kernel
theorem d_EndsFinder_findTwiceRoot_59 : decode b_EndsFinder_findTwiceRoot 59 = .ok (.getfield 9, 3) := by decide +kernel
theorem d_EndsFinder_findTwiceRoot_62 : decode b_EndsFinder_findTwiceRoot 62 = .ok (.iconst 2, 1) := by decide +kernel
theorem d_EndsFinder_findTwiceRoot_63 : decode b_EndsFinder_findTwiceRoot 63 = .ok (.bipush 64, 2) := by decide +kernel
theorem d_EndsFinder_findTwiceRoot_65 : decode b_EndsFinder_findTwiceRoot 65 = .ok (.iload 5, 2) := by decide +kernel
theorem d_EndsFinder_findTwiceRoot_67 : decode b_EndsFinder_findTwiceRoot 67 = .ok (.isub, 1) := by decide +kernel
theorem d_EndsFinder_findTwiceRoot_68 : decode b_EndsFinder_findTwiceRoot 68 = .ok (.imul, 1) := by decide +kernel
theorem d_EndsFinder_findTwiceRoot_69 : decode b_EndsFinder_findTwiceRoot 69 = .ok (.aload_n 0, 1) := by decide +kernel
theorem d_EndsFinder_findTwiceRoot_70 : decode b_EndsFinder_findTwiceRoot 70 = .ok (.getfield 99, 3) := by decide +kernel
theorem d_EndsFinder_findTwiceRoot_73 : decode b_EndsFinder_findTwiceRoot 73 = .ok (.invokestatic 78, 3) := by decide +kernel
theorem d_EndsFinder_findTwiceRoot_76 : decode b_EndsFinder_findTwiceRoot 76 = .ok (.aload_n 0, 1) := by decide +kernel
theorem d_EndsFinder_findTwiceRoot_77 : decode b_EndsFinder_findTwiceRoot 77 = .ok (.getfield 15, 3) := by decide +kernel
theorem d_EndsFinder_findTwiceRoot_80 : decode b_EndsFinder_findTwiceRoot 80 = .ok (.invokestatic 102, 3) := by decide +kernel
theorem d_EndsFinder_findTwiceRoot_83 : decode b_EndsFinder_findTwiceRoot 83 = .ok (.istore 6, 2) := by decide +kernel
theorem d_EndsFinder_findTwiceRoot_85 : decode b_EndsFinder_findTwiceRoot 85 = .ok (.bipush 64, 2) := by decide +kernel
theorem d_EndsFinder_findTwiceRoot_87 : decode b_EndsFinder_findTwiceRoot 87 = .ok (.iload 5, 2) := by decide +kernel
theorem d_EndsFinder_findTwiceRoot_89 : decode b_EndsFinder_findTwiceRoot 89 = .ok (.isub, 1) := by decide +kernel
theorem d_EndsFinder_findTwiceRoot_90 : decode b_EndsFinder_findTwiceRoot 90 = .ok (.iconst 1, 1) := by decide +kernel
theorem d_EndsFinder_findTwiceRoot_91 : decode b_EndsFinder_findTwiceRoot 91 = .ok (.isub, 1) := by decide +kernel
theorem d_EndsFinder_findTwiceRoot_92 : decode b_EndsFinder_findTwiceRoot 92 = .ok (.istore 7, 2) := by decide +kernel
theorem d_EndsFinder_findTwiceRoot_94 : decode b_EndsFinder_findTwiceRoot 94 = .ok (.iload 7, 2) := by decide +kernel
theorem d_EndsFinder_findTwiceRoot_96 : decode b_EndsFinder_findTwiceRoot 96 = .ok (.ifCond .lt 17, 3) := by decide +kernel
theorem d_EndsFinder_findTwiceRoot_99 : decode b_EndsFinder_findTwiceRoot 99 = .ok (.aload_n 0, 1) := by decide +kernel
theorem d_EndsFinder_findTwiceRoot_100 : decode b_EndsFinder_findTwiceRoot 100 = .ok (.iload 7, 2) := by decide +kernel
theorem d_EndsFinder_findTwiceRoot_102 : decode b_EndsFinder_findTwiceRoot 102 = .ok (.iload 6, 2) := by decide +kernel
theorem d_EndsFinder_findTwiceRoot_104 : decode b_EndsFinder_findTwiceRoot 104 = .ok (.invokevirtual 106, 3) := by decide +kernel
theorem d_EndsFinder_findTwiceRoot_107 : decode b_EndsFinder_findTwiceRoot 107 = .ok (.iinc 7 (-1), 3) := by decide +kernel
theorem d_EndsFinder_findTwiceRoot_110 : decode b_EndsFinder_findTwiceRoot 110 = .ok (.goto (-16), 3) := by decide +kernel
theorem d_EndsFinder_findTwiceRoot_113 : decode b_EndsFinder_findTwiceRoot 113 = .ok (.return_, 1) := by decide +kernel
def mf_EndsFinder_findTwiceRoot_L94 (F : Nat) (r : Int32) (ufe_2 : Int64) (ufe_3 : Int64) : Nat → Int32 → (Nat → Int32) → (Nat → Int32) → Option ((Nat → Int32) × (Nat → Int32))
  | 0, _, _, _ => none
  | fu + 1, x7_1, ufr_2, uft_1 => (if x7_1 < 0 then (some (ufr_2, uft_1)) else (sd_b2 (mf_EndsFinder_findDigit F x7_1 r ufe_2 ufe_3 ufr_2 uft_1) fun ufr_3 uft_2 => (sd_let (x7_1 + (-1 : Int32)) fun x7_2 => ((mf_EndsFinder_findTwiceRoot_L94 F r ufe_2 ufe_3 fu) x7_2 ufr_3 uft_2))))
def mf_EndsFinder_findTwiceRoot (F : Nat) (vSq : Int64) (vRad : Int64) (fR : Int64) (fQ : Int64) (cfr : Nat → Int32) (cft : Nat → Int32) : Option (Int64 × Int64 × (Nat → Int32) × (Nat → Int32)) :=
  (sd_b2 (mf_EndsFinder_findHead F vSq vRad fR fQ) fun ufe ufe_1 => (sd_b3 (if (65535 : Int64) < ufe then (some ((0 : Int32), ufe, ufe_1)) else (sd_b2 (mf_EndsFinder_bringDown F (0 : Int64) (16 : Int32) ufe ufe_1) fun ufe_4 ufe_5 => (some ((1 : Int32), ufe_4, ufe_5)))) fun x5 ufe_2 ufe_3 => (sd_b1 (mf_Arrays_fill F 132 (0 : Int32) cfr) fun ufr => (sd_b1 (mf_Wide_putLong F 68 ((64 : Int32) - x5) ((2 : Int64) * ufe_2) cft) fun uft => (sd_b1 (mf_Wide_putLong F 132 ((2 : Int32) * ((64 : Int32) - x5)) ufe_3 ufr) fun ufr_1 => (sd_b1 (mf_Wide_topOf F 68 uft) fun r => (sd_let ((((64 : Int32) - x5) - (1 : Int32))) fun x7 => (sd_b2 (mf_EndsFinder_findTwiceRoot_L94 F r ufe_2 ufe_3 F x7 ufr_1 uft) fun rufr ruft => (some (ufe_2, ufe_3, rufr, ruft))))))))))
abbrev rm_EndsFinder_findTwiceRoot : Room := { frames := 2, cells := 0, slots := 0, locals := 57 }
set_option maxHeartbeats 4000000 in
set_option maxRecDepth 100000 in
theorem ct_EndsFinder_findTwiceRoot (l : Launch) (D : va_G) (g : G4) (fe : Nat) (fr : Nat) (ft : Nat) (fs : Nat) (sz : Nat) (vSq : Int64) (vRad : Int64) (fR : Int64) (fQ : Int64) (cfr : Nat → Int32) (cft : Nat → Int32) (F : Nat) (res : Int64 × Int64 × (Nat → Int32) × (Nat → Int32)) (hm : mf_EndsFinder_findTwiceRoot F vSq vRad fR fQ cfr cft = some res) : Met l y_EndsFinder_findTwiceRoot (.code y_EndsFinder_findTwiceRoot b_EndsFinder_findTwiceRoot 8 none :: sd_tb) rm_EndsFinder_findTwiceRoot (sd_PW D g [.ref fe, .long vSq, .long vRad] sz [(fe, .inr (1, [.ref fr, .ref ft, .ref fs, .long fR, .long fQ])), (fr, aI g 132 cfr), (ft, aI g 68 cft)]) (sd_Qv1 D g res (fun u : Int64 × Int64 × (Nat → Int32) × (Nat → Int32) => [(fe, .inr (1, [.ref fr, .ref ft, .ref fs, .long (u.1), .long (u.2.1)])), (fr, aI g 132 (u.2.2.1)), (ft, aI g 68 (u.2.2.2))]) (va_A [(fe, .inr (1, [.ref fr, .ref ft, .ref fs, .long fR, .long fQ])), (fr, aI g 132 cfr), (ft, aI g 68 cft)] sz)) 0 0 (va_A [(fe, .inr (1, [.ref fr, .ref ft, .ref fs, .long fR, .long fQ])), (fr, aI g 132 cfr), (ft, aI g 68 cft)] sz) := by
  refine sd_met (Qf := fun A => sd_Qv1 D g res (fun u : Int64 × Int64 × (Nat → Int32) × (Nat → Int32) => [(fe, .inr (1, [.ref fr, .ref ft, .ref fs, .long (u.1), .long (u.2.1)])), (fr, aI g 132 (u.2.2.1)), (ft, aI g 68 (u.2.2.2))]) A) (own := R_EndsFinder) (by decide +kernel) rfl (Nat.le_of_ble_eq_true rfl) ?_
  intro p e s m args below meth c S hr hlk hK A hA Q hQ H locs hP hD hS ls hl
  have hx := S.1
  have hb := S.2.1
  have hml := S.2.2.1
  have hown := S.2.2.2.1
  have htt := sd_tt S
  replace hl : lv_has ls 8 [(0, .ref fe), (1, .long vSq), (3, .long vRad)] := hl
  unfold mf_EndsFinder_findTwiceRoot at hm
  refine lv_aload_n hx hb d_EndsFinder_findTwiceRoot_0 rfl (lv_at hl 0 rfl) ?_
  refine lv_lload_n hx hb d_EndsFinder_findTwiceRoot_1 rfl (lv_at hl 1 rfl) ?_
  refine lv_lload_n hx hb d_EndsFinder_findTwiceRoot_2 rfl (lv_at hl 2 rfl) ?_
  obtain ⟨ufe, ufe_1, hc, hm⟩ := sd_mb2 hm
  refine sd_cv1 (wr := [(fr, aI g 132 cfr), (ft, aI g 68 cft)]) (w2 := [(fr, aI g 132 cfr), (ft, aI g 68 cft), (fe, .inr (1, [.ref fr, .ref ft, .ref fs, .long ufe, .long ufe_1]))]) (sd_runV (rest := []) (As := [.long vSq, .long vRad]) S (ct_EndsFinder_findHead l D g fe fr ft fs (H.size) vSq vRad fR fQ F (ufe, ufe_1) hc) kl_EndsFinder_86 (by decide) (by decide) hK hP hD [0] rfl (by decide) rfl hl d_EndsFinder_findTwiceRoot_3 rfl (Nat.le_of_ble_eq_true rfl) ⟨Nat.zero_le _, Nat.zero_le _⟩ 0 rfl rfl) hP hD hS hA [0] [1, 2] rfl rfl (by decide) (by decide) rfl (fun H locs hP hD hS => ?_)
  refine lv_iconst (v := (0 : Int32)) hx hb d_EndsFinder_findTwiceRoot_6 (by decide) ?_
  refine lv_istore (lv' := [(5, .int (0 : Int32)), (0, .ref fe), (1, .long vSq), (3, .long vRad)]) hx hb d_EndsFinder_findTwiceRoot_7 hl (by decide) rfl (fun ls hl => ?_)
  refine lv_aload_n hx hb d_EndsFinder_findTwiceRoot_9 rfl (lv_at hl 1 rfl) ?_
  refine va_get (D := D) (ci := 1) (v := .long ufe) (C := R_EndsFinder) (T := F_EndsFinder) (N := 5) hx hb htt i_EndsFinder hown hK hP 2 rfl rfl 3 (by decide) (htt _ kf_EndsFinder_89) (fun _ h9 => h9) rfl d_EndsFinder_findTwiceRoot_10 ?_
  refine sd_ldc2 (v := (65535 : Int64)) hx hb hown (htt _ km_EndsFinder_93) d_EndsFinder_findTwiceRoot_13 ?_
  obtain ⟨x5, ufe_2, ufe_3, hv, hm⟩ := sd_mb3 hm
  have J30_1 : ∀ (H : Heap) (locs : List Loc) (ls : Array Slot), va_P D classes [(fr, aI g 132 cfr), (ft, aI g 68 cft), (fe, .inr (1, [.ref fr, .ref ft, .ref fs, .long ufe_2, .long ufe_3]))] H → va_D A [(fr, aI g 132 cfr), (ft, aI g 68 cft), (fe, .inr (1, [.ref fr, .ref ft, .ref fs, .long ufe_2, .long ufe_3]))] → va_S A s.heap H locs → lv_has ls 8 [(0, .ref fe), (5, .int x5)] → W p l e rm_EndsFinder_findTwiceRoot s m args below meth c H locs 0 0 Q (F0 m 30 ls []) := by
    intro H locs ls hP hD hS hl
    refine lv_aload_n hx hb d_EndsFinder_findTwiceRoot_30 rfl (lv_at hl 0 rfl) ?_
    refine va_get (D := D) (ci := 1) (v := .ref fr) (C := R_EndsFinder) (T := F_EndsFinder) (N := 5) hx hb htt i_EndsFinder hown hK hP 2 rfl rfl 0 (by decide) (htt _ kf_EndsFinder_9) (fun _ h9 => h9) rfl d_EndsFinder_findTwiceRoot_31 ?_
    refine lv_iconst (v := (0 : Int32)) hx hb d_EndsFinder_findTwiceRoot_34 (by decide) ?_
    obtain ⟨ufr, hc, hm⟩ := sd_mb1 hm
    refine sd_cv1 (wr := [(ft, aI g 68 cft), (fe, .inr (1, [.ref fr, .ref ft, .ref fs, .long ufe_2, .long ufe_3]))]) (w2 := [(ft, aI g 68 cft), (fe, .inr (1, [.ref fr, .ref ft, .ref fs, .long ufe_2, .long ufe_3])), (fr, aI g 132 ufr)]) (sd_runS (rest := []) (As := [.ref fr, .int (0 : Int32)]) S (ct_Arrays_fill l D g fr 132 (H.size) (0 : Int32) cfr F (ufr) hc) kl_EndsFinder_30 (by decide) (by decide) hK hP hD [0] rfl (by decide) rfl hl d_EndsFinder_findTwiceRoot_35 rfl (Nat.le_of_ble_eq_true rfl) ⟨Nat.zero_le _, Nat.zero_le _⟩) hP hD hS hA [0] [1, 2] rfl rfl (by decide) (by decide) rfl (fun H locs hP hD hS => ?_)
    refine lv_aload_n hx hb d_EndsFinder_findTwiceRoot_38 rfl (lv_at hl 0 rfl) ?_
    refine va_get (D := D) (ci := 1) (v := .ref ft) (C := R_EndsFinder) (T := F_EndsFinder) (N := 5) hx hb htt i_EndsFinder hown hK hP 1 rfl rfl 1 (by decide) (htt _ kf_EndsFinder_15) (fun _ h9 => h9) rfl d_EndsFinder_findTwiceRoot_39 ?_
    refine lv_bipush (v := (64 : Int32)) hx hb d_EndsFinder_findTwiceRoot_42 (by decide) ?_
    refine lv_iload hx hb d_EndsFinder_findTwiceRoot_44 (lv_at hl 1 rfl) ?_
    refine lv_isub hx hb d_EndsFinder_findTwiceRoot_46 ?_
    refine sd_ldc2 (v := (2 : Int64)) hx hb hown (htt _ km_EndsFinder_76) d_EndsFinder_findTwiceRoot_47 ?_
    refine lv_aload_n hx hb d_EndsFinder_findTwiceRoot_50 rfl (lv_at hl 0 rfl) ?_
    refine va_get (D := D) (ci := 1) (v := .long ufe_2) (C := R_EndsFinder) (T := F_EndsFinder) (N := 5) hx hb htt i_EndsFinder hown hK hP 1 rfl rfl 3 (by decide) (htt _ kf_EndsFinder_89) (fun _ h9 => h9) rfl d_EndsFinder_findTwiceRoot_51 ?_
    refine lv_lmul hx hb d_EndsFinder_findTwiceRoot_54 ?_
    obtain ⟨uft, hc, hm⟩ := sd_mb1 hm
    refine sd_cv1 (wr := [(fe, .inr (1, [.ref fr, .ref ft, .ref fs, .long ufe_2, .long ufe_3])), (fr, aI g 132 ufr)]) (w2 := [(fe, .inr (1, [.ref fr, .ref ft, .ref fs, .long ufe_2, .long ufe_3])), (fr, aI g 132 ufr), (ft, aI g 68 uft)]) (sd_runS (rest := []) (As := [.ref ft, .int ((64 : Int32) - x5), .long ((2 : Int64) * ufe_2)]) S (ct_Wide_putLong l D g ft 68 (H.size) ((64 : Int32) - x5) ((2 : Int64) * ufe_2) cft F (uft) hc) kl_EndsFinder_78 (by decide) (by decide) hK hP hD [0] rfl (by decide) rfl hl d_EndsFinder_findTwiceRoot_55 rfl (Nat.le_of_ble_eq_true rfl) ⟨Nat.zero_le _, Nat.zero_le _⟩) hP hD hS hA [0] [1, 2] rfl rfl (by decide) (by decide) rfl (fun H locs hP hD hS => ?_)
    refine lv_aload_n hx hb d_EndsFinder_findTwiceRoot_58 rfl (lv_at hl 0 rfl) ?_
    refine va_get (D := D) (ci := 1) (v := .ref fr) (C := R_EndsFinder) (T := F_EndsFinder) (N := 5) hx hb htt i_EndsFinder hown hK hP 0 rfl rfl 0 (by decide) (htt _ kf_EndsFinder_9) (fun _ h9 => h9) rfl d_EndsFinder_findTwiceRoot_59 ?_
    refine lv_iconst (v := (2 : Int32)) hx hb d_EndsFinder_findTwiceRoot_62 (by decide) ?_
    refine lv_bipush (v := (64 : Int32)) hx hb d_EndsFinder_findTwiceRoot_63 (by decide) ?_
    refine lv_iload hx hb d_EndsFinder_findTwiceRoot_65 (lv_at hl 1 rfl) ?_
    refine lv_isub hx hb d_EndsFinder_findTwiceRoot_67 ?_
    refine lv_imul hx hb d_EndsFinder_findTwiceRoot_68 ?_
    refine lv_aload_n hx hb d_EndsFinder_findTwiceRoot_69 rfl (lv_at hl 0 rfl) ?_
    refine va_get (D := D) (ci := 1) (v := .long ufe_3) (C := R_EndsFinder) (T := F_EndsFinder) (N := 5) hx hb htt i_EndsFinder hown hK hP 0 rfl rfl 4 (by decide) (htt _ kf_EndsFinder_99) (fun _ h9 => h9) rfl d_EndsFinder_findTwiceRoot_70 ?_
    obtain ⟨ufr_1, hc, hm⟩ := sd_mb1 hm
    refine sd_cv1 (wr := [(fe, .inr (1, [.ref fr, .ref ft, .ref fs, .long ufe_2, .long ufe_3])), (ft, aI g 68 uft)]) (w2 := [(fe, .inr (1, [.ref fr, .ref ft, .ref fs, .long ufe_2, .long ufe_3])), (ft, aI g 68 uft), (fr, aI g 132 ufr_1)]) (sd_runS (rest := []) (As := [.ref fr, .int ((2 : Int32) * ((64 : Int32) - x5)), .long ufe_3]) S (ct_Wide_putLong l D g fr 132 (H.size) ((2 : Int32) * ((64 : Int32) - x5)) ufe_3 ufr F (ufr_1) hc) kl_EndsFinder_78 (by decide) (by decide) hK hP hD [1] rfl (by decide) rfl hl d_EndsFinder_findTwiceRoot_73 rfl (Nat.le_of_ble_eq_true rfl) ⟨Nat.zero_le _, Nat.zero_le _⟩) hP hD hS hA [1] [0, 2] rfl rfl (by decide) (by decide) rfl (fun H locs hP hD hS => ?_)
    refine lv_aload_n hx hb d_EndsFinder_findTwiceRoot_76 rfl (lv_at hl 0 rfl) ?_
    refine va_get (D := D) (ci := 1) (v := .ref ft) (C := R_EndsFinder) (T := F_EndsFinder) (N := 5) hx hb htt i_EndsFinder hown hK hP 0 rfl rfl 1 (by decide) (htt _ kf_EndsFinder_15) (fun _ h9 => h9) rfl d_EndsFinder_findTwiceRoot_77 ?_
    obtain ⟨r, hc, hm⟩ := sd_mb1 hm
    refine sd_ci0 (wr := [(fe, .inr (1, [.ref fr, .ref ft, .ref fs, .long ufe_2, .long ufe_3])), (fr, aI g 132 ufr_1)]) (w2 := [(fe, .inr (1, [.ref fr, .ref ft, .ref fs, .long ufe_2, .long ufe_3])), (fr, aI g 132 ufr_1), (ft, aI g 68 uft)]) (sd_runS (rest := []) (As := [.ref ft]) S (ct_Wide_topOf l D g ft 68 (H.size) uft F (r) hc) kl_EndsFinder_102 (by decide) (by decide) hK hP hD [1] rfl (by decide) rfl hl d_EndsFinder_findTwiceRoot_80 rfl (Nat.le_of_ble_eq_true rfl) ⟨Nat.zero_le _, Nat.zero_le _⟩) hP hD hS hA [1] [0, 2] rfl rfl (by decide) (by decide) rfl (fun H locs hP hD hS => ?_)
    refine W.eq (g2 := F0 m 83 ls [.int r]) rfl ?_
    refine lv_istore (lv' := [(6, .int r), (0, .ref fe), (5, .int x5)]) hx hb d_EndsFinder_findTwiceRoot_83 hl (by decide) rfl (fun ls hl => ?_)
    refine lv_bipush (v := (64 : Int32)) hx hb d_EndsFinder_findTwiceRoot_85 (by decide) ?_
    refine lv_iload hx hb d_EndsFinder_findTwiceRoot_87 (lv_at hl 2 rfl) ?_
    refine lv_isub hx hb d_EndsFinder_findTwiceRoot_89 ?_
    refine lv_iconst (v := (1 : Int32)) hx hb d_EndsFinder_findTwiceRoot_90 (by decide) ?_
    refine lv_isub hx hb d_EndsFinder_findTwiceRoot_91 ?_
    obtain ⟨x7, ex7, hm⟩ := sd_mlet hm
    refine sd_topi ex7 ?_
    refine lv_istore (lv' := [(7, .int x7), (6, .int r), (0, .ref fe), (5, .int x5)]) hx hb d_EndsFinder_findTwiceRoot_92 hl (by decide) rfl (fun ls hl => ?_)
    have L94 : ∀ (fu : Nat) (x7_1 : Int32) (ufr_2 : Nat → Int32) (uft_1 : Nat → Int32) (rufr : Nat → Int32) (ruft : Nat → Int32), mf_EndsFinder_findTwiceRoot_L94 F r ufe_2 ufe_3 fu x7_1 ufr_2 uft_1 = some (rufr, ruft) → ∀ (H : Heap) (locs : List Loc) (ls : Array Slot), va_P D classes [(fe, .inr (1, [.ref fr, .ref ft, .ref fs, .long ufe_2, .long ufe_3])), (fr, aI g 132 ufr_2), (ft, aI g 68 uft_1)] H → va_D A [(fe, .inr (1, [.ref fr, .ref ft, .ref fs, .long ufe_2, .long ufe_3])), (fr, aI g 132 ufr_2), (ft, aI g 68 uft_1)] → va_S A s.heap H locs → lv_has ls 8 [(0, .ref fe), (6, .int r), (7, .int x7_1)] → (∀ (H : Heap) (locs : List Loc) (ls : Array Slot), va_P D classes [(fe, .inr (1, [.ref fr, .ref ft, .ref fs, .long ufe_2, .long ufe_3])), (fr, aI g 132 rufr), (ft, aI g 68 ruft)] H → va_D A [(fe, .inr (1, [.ref fr, .ref ft, .ref fs, .long ufe_2, .long ufe_3])), (fr, aI g 132 rufr), (ft, aI g 68 ruft)] → va_S A s.heap H locs → lv_has ls 8 [] → W p l e rm_EndsFinder_findTwiceRoot s m args below meth c H locs 0 0 Q (F0 m 113 ls [])) → W p l e rm_EndsFinder_findTwiceRoot s m args below meth c H locs 0 0 Q (F0 m 94 ls []) := by
      intro fu
      induction fu with
      | zero => intro x7_1 ufr_2 uft_1 rufr ruft hm; exact absurd (show (none : Option ((Nat → Int32) × (Nat → Int32))) = some (rufr, ruft) from hm) (fun h => nomatch h)
      | succ fu ih =>
        intro x7_1 ufr_2 uft_1 rufr ruft hm H locs ls hP hD hS hl kx113
        rw [mf_EndsFinder_findTwiceRoot_L94] at hm
        refine lv_iload hx hb d_EndsFinder_findTwiceRoot_94 (lv_at hl 2 rfl) ?_
        refine lv_if_lt (tgt := 113) hx hb d_EndsFinder_findTwiceRoot_96 (by decide) (fun hc => ?_) (fun hc => ?_)
        · have hm := sd_mt hc hm
          cases hm
          exact kx113 H locs ls (hP.sub [0, 1, 2] rfl) (hD.sub [0, 1, 2] (by decide) rfl) hS (lv_sub hl [] rfl)
        · have hm := sd_mf hc hm
          refine lv_aload_n hx hb d_EndsFinder_findTwiceRoot_99 rfl (lv_at hl 0 rfl) ?_
          refine lv_iload hx hb d_EndsFinder_findTwiceRoot_100 (lv_at hl 2 rfl) ?_
          refine lv_iload hx hb d_EndsFinder_findTwiceRoot_102 (lv_at hl 1 rfl) ?_
          obtain ⟨ufr_3, uft_2, hc, hm⟩ := sd_mb2 hm
          refine sd_cv1 (wr := []) (w2 := [(fe, .inr (1, [.ref fr, .ref ft, .ref fs, .long ufe_2, .long ufe_3])), (fr, aI g 132 ufr_3), (ft, aI g 68 uft_2)]) (sd_runV (rest := []) (As := [.int x7_1, .int r]) S (ct_EndsFinder_findDigit l D g fe fr ft fs (H.size) x7_1 r ufe_2 ufe_3 ufr_2 uft_1 F (ufr_3, uft_2) hc) kl_EndsFinder_106 (by decide) (by decide) hK hP hD [0, 1, 2] rfl (by decide) rfl hl d_EndsFinder_findTwiceRoot_104 rfl (Nat.le_of_ble_eq_true rfl) ⟨Nat.zero_le _, Nat.zero_le _⟩ 0 rfl rfl) hP hD hS hA [0, 1, 2] [] rfl rfl (by decide) (by decide) rfl (fun H locs hP hD hS => ?_)
          obtain ⟨x7_2, ex7_2, hm⟩ := sd_mlet hm
          refine lv_iinc (v := x7_2) (lv' := [(7, .int x7_2), (0, .ref fe), (6, .int r)]) hx hb d_EndsFinder_findTwiceRoot_107 hl (k := 2) rfl (by rw [ex7_2]; rfl) (by decide) rfl (fun ls hl => ?_)
          refine lv_goto (tgt := 94) hx hb d_EndsFinder_findTwiceRoot_110 (by decide) ?_
          exact ih x7_2 ufr_3 uft_2 rufr ruft hm H locs ls (hP.sub [0, 1, 2] rfl) (hD.sub [0, 1, 2] (by decide) rfl) hS (lv_sub hl [1, 2, 0] rfl) kx113
    obtain ⟨rufr, ruft, hc, hm⟩ := sd_mb2 hm
    refine L94 F x7 ufr_1 uft rufr ruft hc H locs ls (hP.sub [0, 1, 2] rfl) (hD.sub [0, 1, 2] (by decide) rfl) hS (lv_sub hl [2, 1, 0] rfl) ?_
    intro H locs ls hP hD hS hl
    exact sd_v1ret (u := (ufe_2, ufe_3, rufr, ruft)) hQ hx hb hr hlk hK (hP.sub [0, 1, 2] rfl) (hD.sub [0, 1, 2] (by decide) rfl) hS (Option.some.inj hm).symm d_EndsFinder_findTwiceRoot_113
  replace hm := hv
  refine sd_lgt (tgt := 30) hx hb d_EndsFinder_findTwiceRoot_16 d_EndsFinder_findTwiceRoot_17 (by decide) (fun hc => ?_) (fun hc => ?_)
  · have hm := sd_mt hc hm
    cases hm
    exact J30_1 H locs ls (hP.sub [0, 1, 2] rfl) (hD.sub [0, 1, 2] (by decide) rfl) hS (lv_sub hl [1, 0] rfl)
  · have hm := sd_mf hc hm
    refine lv_aload_n hx hb d_EndsFinder_findTwiceRoot_20 rfl (lv_at hl 1 rfl) ?_
    refine lv_lconst (v := (0 : Int64)) hx hb d_EndsFinder_findTwiceRoot_21 (by decide) ?_
    refine lv_bipush (v := (16 : Int32)) hx hb d_EndsFinder_findTwiceRoot_22 (by decide) ?_
    obtain ⟨ufe_4, ufe_5, hc, hm⟩ := sd_mb2 hm
    refine sd_cv1 (wr := [(fr, aI g 132 cfr), (ft, aI g 68 cft)]) (w2 := [(fr, aI g 132 cfr), (ft, aI g 68 cft), (fe, .inr (1, [.ref fr, .ref ft, .ref fs, .long ufe_4, .long ufe_5]))]) (sd_runV (rest := []) (As := [.long (0 : Int64), .int (16 : Int32)]) S (ct_EndsFinder_bringDown l D g fe fr ft fs (H.size) (0 : Int64) (16 : Int32) ufe ufe_1 F (ufe_4, ufe_5) hc) kl_EndsFinder_95 (by decide) (by decide) hK hP hD [2] rfl (by decide) rfl hl d_EndsFinder_findTwiceRoot_24 rfl (Nat.le_of_ble_eq_true rfl) ⟨Nat.zero_le _, Nat.zero_le _⟩ 2 rfl rfl) hP hD hS hA [2] [0, 1] rfl rfl (by decide) (by decide) rfl (fun H locs hP hD hS => ?_)
    refine lv_iconst (v := (1 : Int32)) hx hb d_EndsFinder_findTwiceRoot_27 (by decide) ?_
    refine lv_istore (lv' := [(5, .int (1 : Int32)), (0, .ref fe), (1, .long vSq), (3, .long vRad)]) hx hb d_EndsFinder_findTwiceRoot_28 hl (by decide) rfl (fun ls hl => ?_)
    cases hm
    exact J30_1 H locs ls (hP.sub [0, 1, 2] rfl) (hD.sub [0, 1, 2] (by decide) rfl) hS (lv_sub hl [1, 0] rfl)
theorem d_EndsFinder_findSize_0 : decode b_EndsFinder_findSize 0 = .ok (.aload_n 0, 1) := by decide +kernel
theorem d_EndsFinder_findSize_1 : decode b_EndsFinder_findSize 1 = .ok (.getfield 15, 3) := by decide +kernel
theorem d_EndsFinder_findSize_4 : decode b_EndsFinder_findSize 4 = .ok (.iconst 0, 1) := by decide +kernel
theorem d_EndsFinder_findSize_5 : decode b_EndsFinder_findSize 5 = .ok (.invokestatic 30, 3) := by decide +kernel
theorem d_EndsFinder_findSize_8 : decode b_EndsFinder_findSize 8 = .ok (.lload 5, 2) := by decide +kernel
theorem d_EndsFinder_findSize_10 : decode b_EndsFinder_findSize 10 = .ok (.lconst 1, 1) := by decide +kernel
theorem d_EndsFinder_findSize_11 : decode b_EndsFinder_findSize 11 = .ok (.lcmp, 1) := by decide +kernel
theorem d_EndsFinder_findSize_12 : decode b_EndsFinder_findSize 12 = .ok (.ifCond .ne 20, 3) := by decide +kernel
theorem d_EndsFinder_findSize_15 : decode b_EndsFinder_findSize 15 = .ok (.aload_n 0, 1) := by decide +kernel
theorem d_EndsFinder_findSize_16 : decode b_EndsFinder_findSize 16 = .ok (.getfield 15, 3) := by decide +kernel
theorem d_EndsFinder_findSize_19 : decode b_EndsFinder_findSize 19 = .ok (.bipush 64, 2) := by decide +kernel
theorem d_EndsFinder_findSize_21 : decode b_EndsFinder_findSize 21 = .ok (.ldc2_w 76, 3) := by decide +kernel
theorem d_EndsFinder_findSize_24 : decode b_EndsFinder_findSize 24 = .ok (.lload_n 1, 1) := by decide +kernel
theorem d_EndsFinder_findSize_25 : decode b_EndsFinder_findSize 25 = .ok (.lmul, 1) := by decide +kernel
theorem d_EndsFinder_findSize_26 : decode b_EndsFinder_findSize 26 = .ok (.invokestatic 78, 3) := by decide +kernel
theorem d_EndsFinder_findSize_29 : decode b_EndsFinder_findSize 29 = .ok (.goto 12, 3) := by decide +kernel
theorem d_EndsFinder_findSize_32 : decode b_EndsFinder_findSize 32 = .ok (.aload_n 0, 1) := by decide +kernel
theorem d_EndsFinder_findSize_33 : decode b_EndsFinder_findSize 33 = .ok (.lload_n 1, 1) := by decide +kernel
theorem d_EndsFinder_findSize_34 : decode b_EndsFinder_findSize 34 = .ok (.lload_n 1, 1) := by decide +kernel
theorem d_EndsFinder_findSize_35 : decode b_EndsFinder_findSize 35 = .ok (.lmul, 1) := by decide +kernel
theorem d_EndsFinder_findSize_36 : decode b_EndsFinder_findSize 36 = .ok (.lload 5, 2) := by decide +kernel
theorem d_EndsFinder_findSize_38 : decode b_EndsFinder_findSize 38 = .ok (.invokevirtual 82, 3) := by decide +kernel
theorem d_EndsFinder_findSize_41 : decode b_EndsFinder_findSize 41 = .ok (.ldc2_w 76, 3) := by decide +kernel
theorem d_EndsFinder_findSize_44 : decode b_EndsFinder_findSize 44 = .ok (.lload_n 3, 1) := by decide +kernel
theorem d_EndsFinder_findSize_45 : decode b_EndsFinder_findSize 45 = .ok (.lmul, 1) := by decide +kernel
theorem d_EndsFinder_findSize_46 : decode b_EndsFinder_findSize 46 = .ok (.lstore 7, 2) := by decide +kernel
theorem d_EndsFinder_findSize_48 : decode b_EndsFinder_findSize 48 = .ok (.lconst 0, 1) := by decide +kernel
theorem d_EndsFinder_findSize_49 : decode b_EndsFinder_findSize 49 = .ok (.lstore 9, 2) := by decide +kernel
theorem d_EndsFinder_findSize_51 : decode b_EndsFinder_findSize 51 = .ok (.bipush 67, 2) := by decide +kernel
theorem d_EndsFinder_findSize_53 : decode b_EndsFinder_findSize 53 = .ok (.istore 11, 2) := by decide +kernel
theorem d_EndsFinder_findSize_55 : decode b_EndsFinder_findSize 55 = .ok (.iload 11, 2) := by decide +kernel
theorem d_EndsFinder_findSize_57 : decode b_EndsFinder_findSize 57 = .ok (.ifCond .lt 52, 3) := by decide +kernel
theorem d_EndsFinder_findSize_60 : decode b_EndsFinder_findSize 60 = .ok (.lload 7, 2) := by decide +kernel
theorem d_EndsFinder_findSize_62 : decode b_EndsFinder_findSize 62 = .ok (.lconst 0, 1) := by decide +kernel
theorem d_EndsFinder_findSize_63 : decode b_EndsFinder_findSize 63 = .ok (.lcmp, 1) := by decide +kernel
theorem d_EndsFinder_findSize_64 : decode b_EndsFinder_findSize 64 = .ok (.ifCond .le 45, 3) := by decide +kernel
theorem d_EndsFinder_findSize_67 : decode b_EndsFinder_findSize 67 = .ok (.lload 9, 2) := by decide +kernel
theorem d_EndsFinder_findSize_69 : decode b_EndsFinder_findSize 69 = .ok (.bipush 16, 2) := by decide +kernel
theorem d_EndsFinder_findSize_71 : decode b_EndsFinder_findSize 71 = .ok (.lshl, 1) := by decide +kernel
theorem d_EndsFinder_findSize_72 : decode b_EndsFinder_findSize 72 = .ok (.aload_n 0, 1) := by decide +kernel
theorem d_EndsFinder_findSize_73 : decode b_EndsFinder_findSize 73 = .ok (.getfield 15, 3) := by decide +kernel
theorem d_EndsFinder_findSize_76 : decode b_EndsFinder_findSize 76 = .ok (.iload 11, 2) := by decide +kernel
theorem d_EndsFinder_findSize_78 : decode b_EndsFinder_findSize 78 = .ok (.iaload, 1) := by decide +kernel
theorem d_EndsFinder_findSize_79 : decode b_EndsFinder_findSize 79 = .ok (.i2l, 1) := by decide +kernel
theorem d_EndsFinder_findSize_80 : decode b_EndsFinder_findSize 80 = .ok (.ladd, 1) := by decide +kernel
theorem d_EndsFinder_findSize_81 : decode b_EndsFinder_findSize 81 = .ok (.lstore 9, 2) := by decide +kernel
theorem d_EndsFinder_findSize_83 : decode b_EndsFinder_findSize 83 = .ok (.aload_n 0, 1) := by decide +kernel
theorem d_EndsFinder_findSize_84 : decode b_EndsFinder_findSize 84 = .ok (.getfield 18, 3) := by decide +kernel
theorem d_EndsFinder_findSize_87 : decode b_EndsFinder_findSize 87 = .ok (.iload 11, 2) := by decide +kernel
theorem d_EndsFinder_findSize_89 : decode b_EndsFinder_findSize 89 = .ok (.lload 9, 2) := by decide +kernel
theorem d_EndsFinder_findSize_91 : decode b_EndsFinder_findSize 91 = .ok (.lload 7, 2) := by decide +kernel
theorem d_EndsFinder_findSize_93 : decode b_EndsFinder_findSize 93 = .ok (.ldiv, 1) := by decide +kernel
theorem d_EndsFinder_findSize_94 : decode b_EndsFinder_findSize 94 = .ok (.l2i, 1) := by decide +kernel
theorem d_EndsFinder_findSize_95 : decode b_EndsFinder_findSize 95 = .ok (.iastore, 1) := by decide +kernel
theorem d_EndsFinder_findSize_96 : decode b_EndsFinder_findSize 96 = .ok (.lload 9, 2) := by decide +kernel
theorem d_EndsFinder_findSize_98 : decode b_EndsFinder_findSize 98 = .ok (.lload 7, 2) := by decide +kernel
theorem d_EndsFinder_findSize_100 : decode b_EndsFinder_findSize 100 = .ok (.lrem, 1) := by decide +kernel
theorem d_EndsFinder_findSize_101 : decode b_EndsFinder_findSize 101 = .ok (.lstore 9, 2) := by decide +kernel
theorem d_EndsFinder_findSize_103 : decode b_EndsFinder_findSize 103 = .ok (.iinc 11 (-1), 3) := by decide +kernel
theorem d_EndsFinder_findSize_106 : decode b_EndsFinder_findSize 106 = .ok (.goto (-51), 3) := by decide +kernel
theorem d_EndsFinder_findSize_109 : decode b_EndsFinder_findSize 109 = .ok (.return_, 1) := by decide +kernel
def mf_EndsFinder_findSize_L55 (x7 : Int64) (uft_1 : Nat → Int32) : Nat → Int64 → Int32 → (Nat → Int32) → Option ((Nat → Int32))
  | 0, _, _, _ => none
  | fu + 1, x9, x11, ufs => (if x11 < 0 then (some (ufs)) else (if x7 ≤ (0 : Int64) then (some (ufs)) else (sd_g (sd_ix x11 68) (sd_let (((x9 <<< ((16 : Int32).toInt64 &&& 63)) + ((uft_1 x11.toNatClampNeg).toInt64))) fun x9_1 => (sd_g (sd_zJ x7) (sd_g (sd_ix x11 68) (sd_let (upd ufs x11.toNatClampNeg ((x9_1 / x7).toInt32)) fun ufs_1 => (sd_g (sd_zJ x7) (sd_let ((x9_1 - x9_1 / x7 * x7)) fun x9_2 => (sd_let (x11 + (-1 : Int32)) fun x11_1 => ((mf_EndsFinder_findSize_L55 x7 uft_1 fu) x9_2 x11_1 ufs_1)))))))))))
def mf_EndsFinder_findSize (F : Nat) (vTop : Int64) (vBot : Int64) (vRad : Int64) (fR : Int64) (fQ : Int64) (cfr : Nat → Int32) (cft : Nat → Int32) (cfs : Nat → Int32) : Option (Int64 × Int64 × (Nat → Int32) × (Nat → Int32) × (Nat → Int32)) :=
  (sd_b1 (mf_Arrays_fill F 68 (0 : Int32) cft) fun uft => (sd_b4 (if vRad = (1 : Int64) then (sd_b1 (mf_Wide_putLong F 68 (64 : Int32) ((2 : Int64) * vTop) uft) fun uft_3 => (some (fR, fQ, cfr, uft_3))) else (sd_b4 (mf_EndsFinder_findTwiceRoot F (vTop * vTop) vRad fR fQ cfr uft) fun ufe_2 ufe_3 ufr_1 uft_2 => (some (ufe_2, ufe_3, ufr_1, uft_2)))) fun ufe ufe_1 ufr uft_1 => (sd_let (((2 : Int64) * vBot)) fun x7 => (sd_b1 (mf_EndsFinder_findSize_L55 x7 uft_1 F (0 : Int64) (67 : Int32) cfs) fun rufs => (some (ufe, ufe_1, ufr, uft_1, rufs))))))
abbrev rm_EndsFinder_findSize : Room := { frames := 3, cells := 0, slots := 0, locals := 84 }
set_option maxHeartbeats 4000000 in
set_option maxRecDepth 100000 in
theorem ct_EndsFinder_findSize (l : Launch) (D : va_G) (g : G4) (fe : Nat) (fr : Nat) (ft : Nat) (fs : Nat) (sz : Nat) (vTop : Int64) (vBot : Int64) (vRad : Int64) (fR : Int64) (fQ : Int64) (cfr : Nat → Int32) (cft : Nat → Int32) (cfs : Nat → Int32) (F : Nat) (res : Int64 × Int64 × (Nat → Int32) × (Nat → Int32) × (Nat → Int32)) (hm : mf_EndsFinder_findSize F vTop vBot vRad fR fQ cfr cft cfs = some res) : Met l y_EndsFinder_findSize (.code y_EndsFinder_findSize b_EndsFinder_findSize 12 none :: sd_tb) rm_EndsFinder_findSize (sd_PW D g [.ref fe, .long vTop, .long vBot, .long vRad] sz [(fe, .inr (1, [.ref fr, .ref ft, .ref fs, .long fR, .long fQ])), (fr, aI g 132 cfr), (ft, aI g 68 cft), (fs, aI g 68 cfs)]) (sd_Qv1 D g res (fun u : Int64 × Int64 × (Nat → Int32) × (Nat → Int32) × (Nat → Int32) => [(fe, .inr (1, [.ref fr, .ref ft, .ref fs, .long (u.1), .long (u.2.1)])), (fr, aI g 132 (u.2.2.1)), (ft, aI g 68 (u.2.2.2.1)), (fs, aI g 68 (u.2.2.2.2))]) (va_A [(fe, .inr (1, [.ref fr, .ref ft, .ref fs, .long fR, .long fQ])), (fr, aI g 132 cfr), (ft, aI g 68 cft), (fs, aI g 68 cfs)] sz)) 0 0 (va_A [(fe, .inr (1, [.ref fr, .ref ft, .ref fs, .long fR, .long fQ])), (fr, aI g 132 cfr), (ft, aI g 68 cft), (fs, aI g 68 cfs)] sz) := by
  refine sd_met (Qf := fun A => sd_Qv1 D g res (fun u : Int64 × Int64 × (Nat → Int32) × (Nat → Int32) × (Nat → Int32) => [(fe, .inr (1, [.ref fr, .ref ft, .ref fs, .long (u.1), .long (u.2.1)])), (fr, aI g 132 (u.2.2.1)), (ft, aI g 68 (u.2.2.2.1)), (fs, aI g 68 (u.2.2.2.2))]) A) (own := R_EndsFinder) (by decide +kernel) rfl (Nat.le_of_ble_eq_true rfl) ?_
  intro p e s m args below meth c S hr hlk hK A hA Q hQ H locs hP hD hS ls hl
  have hx := S.1
  have hb := S.2.1
  have hml := S.2.2.1
  have hown := S.2.2.2.1
  have htt := sd_tt S
  replace hl : lv_has ls 12 [(0, .ref fe), (1, .long vTop), (3, .long vBot), (5, .long vRad)] := hl
  unfold mf_EndsFinder_findSize at hm
  refine lv_aload_n hx hb d_EndsFinder_findSize_0 rfl (lv_at hl 0 rfl) ?_
  refine va_get (D := D) (ci := 1) (v := .ref ft) (C := R_EndsFinder) (T := F_EndsFinder) (N := 5) hx hb htt i_EndsFinder hown hK hP 0 rfl rfl 1 (by decide) (htt _ kf_EndsFinder_15) (fun _ h9 => h9) rfl d_EndsFinder_findSize_1 ?_
  refine lv_iconst (v := (0 : Int32)) hx hb d_EndsFinder_findSize_4 (by decide) ?_
  obtain ⟨uft, hc, hm⟩ := sd_mb1 hm
  refine sd_cv1 (wr := [(fe, .inr (1, [.ref fr, .ref ft, .ref fs, .long fR, .long fQ])), (fr, aI g 132 cfr), (fs, aI g 68 cfs)]) (w2 := [(fe, .inr (1, [.ref fr, .ref ft, .ref fs, .long fR, .long fQ])), (fr, aI g 132 cfr), (fs, aI g 68 cfs), (ft, aI g 68 uft)]) (sd_runS (rest := []) (As := [.ref ft, .int (0 : Int32)]) S (ct_Arrays_fill l D g ft 68 (H.size) (0 : Int32) cft F (uft) hc) kl_EndsFinder_30 (by decide) (by decide) hK hP hD [2] rfl (by decide) rfl hl d_EndsFinder_findSize_5 rfl (Nat.le_of_ble_eq_true rfl) ⟨Nat.zero_le _, Nat.zero_le _⟩) hP hD hS hA [2] [0, 1, 3] rfl rfl (by decide) (by decide) rfl (fun H locs hP hD hS => ?_)
  refine lv_lload hx hb d_EndsFinder_findSize_8 (lv_at hl 3 rfl) ?_
  refine lv_lconst (v := (1 : Int64)) hx hb d_EndsFinder_findSize_10 (by decide) ?_
  obtain ⟨ufe, ufe_1, ufr, uft_1, hv, hm⟩ := sd_mb4 hm
  have J41_1 : ∀ (H : Heap) (locs : List Loc) (ls : Array Slot), va_P D classes [(fe, .inr (1, [.ref fr, .ref ft, .ref fs, .long ufe, .long ufe_1])), (fr, aI g 132 ufr), (fs, aI g 68 cfs), (ft, aI g 68 uft_1)] H → va_D A [(fe, .inr (1, [.ref fr, .ref ft, .ref fs, .long ufe, .long ufe_1])), (fr, aI g 132 ufr), (fs, aI g 68 cfs), (ft, aI g 68 uft_1)] → va_S A s.heap H locs → lv_has ls 12 [(0, .ref fe), (3, .long vBot)] → W p l e rm_EndsFinder_findSize s m args below meth c H locs 0 0 Q (F0 m 41 ls []) := by
    intro H locs ls hP hD hS hl
    refine sd_ldc2 (v := (2 : Int64)) hx hb hown (htt _ km_EndsFinder_76) d_EndsFinder_findSize_41 ?_
    refine lv_lload_n hx hb d_EndsFinder_findSize_44 rfl (lv_at hl 1 rfl) ?_
    refine lv_lmul hx hb d_EndsFinder_findSize_45 ?_
    obtain ⟨x7, ex7, hm⟩ := sd_mlet hm
    refine sd_topj ex7 ?_
    refine lv_lstore (lv' := [(7, .long x7), (0, .ref fe), (3, .long vBot)]) hx hb d_EndsFinder_findSize_46 hl (by decide) rfl (fun ls hl => ?_)
    refine lv_lconst (v := (0 : Int64)) hx hb d_EndsFinder_findSize_48 (by decide) ?_
    refine lv_lstore (lv' := [(9, .long (0 : Int64)), (7, .long x7), (0, .ref fe), (3, .long vBot)]) hx hb d_EndsFinder_findSize_49 hl (by decide) rfl (fun ls hl => ?_)
    refine lv_bipush (v := (67 : Int32)) hx hb d_EndsFinder_findSize_51 (by decide) ?_
    refine lv_istore (lv' := [(11, .int (67 : Int32)), (9, .long (0 : Int64)), (7, .long x7), (0, .ref fe), (3, .long vBot)]) hx hb d_EndsFinder_findSize_53 hl (by decide) rfl (fun ls hl => ?_)
    have L55 : ∀ (fu : Nat) (x9 : Int64) (x11 : Int32) (ufs : Nat → Int32) (rufs : Nat → Int32), mf_EndsFinder_findSize_L55 x7 uft_1 fu x9 x11 ufs = some (rufs) → ∀ (H : Heap) (locs : List Loc) (ls : Array Slot), va_P D classes [(fe, .inr (1, [.ref fr, .ref ft, .ref fs, .long ufe, .long ufe_1])), (fr, aI g 132 ufr), (fs, aI g 68 ufs), (ft, aI g 68 uft_1)] H → va_D A [(fe, .inr (1, [.ref fr, .ref ft, .ref fs, .long ufe, .long ufe_1])), (fr, aI g 132 ufr), (fs, aI g 68 ufs), (ft, aI g 68 uft_1)] → va_S A s.heap H locs → lv_has ls 12 [(0, .ref fe), (7, .long x7), (9, .long x9), (11, .int x11)] → (∀ (H : Heap) (locs : List Loc) (ls : Array Slot), va_P D classes [(fe, .inr (1, [.ref fr, .ref ft, .ref fs, .long ufe, .long ufe_1])), (fr, aI g 132 ufr), (fs, aI g 68 rufs), (ft, aI g 68 uft_1)] H → va_D A [(fe, .inr (1, [.ref fr, .ref ft, .ref fs, .long ufe, .long ufe_1])), (fr, aI g 132 ufr), (fs, aI g 68 rufs), (ft, aI g 68 uft_1)] → va_S A s.heap H locs → lv_has ls 12 [] → W p l e rm_EndsFinder_findSize s m args below meth c H locs 0 0 Q (F0 m 109 ls [])) → W p l e rm_EndsFinder_findSize s m args below meth c H locs 0 0 Q (F0 m 55 ls []) := by
      intro fu
      induction fu with
      | zero => intro x9 x11 ufs rufs hm; exact absurd (show (none : Option ((Nat → Int32))) = some (rufs) from hm) (fun h => nomatch h)
      | succ fu ih =>
        intro x9 x11 ufs rufs hm H locs ls hP hD hS hl kx109
        rw [mf_EndsFinder_findSize_L55] at hm
        refine lv_iload hx hb d_EndsFinder_findSize_55 (lv_at hl 3 rfl) ?_
        refine lv_if_lt (tgt := 109) hx hb d_EndsFinder_findSize_57 (by decide) (fun hc => ?_) (fun hc => ?_)
        · have hm := sd_mt hc hm
          cases hm
          exact kx109 H locs ls (hP.sub [0, 1, 2, 3] rfl) (hD.sub [0, 1, 2, 3] (by decide) rfl) hS (lv_sub hl [] rfl)
        · have hm := sd_mf hc hm
          refine lv_lload hx hb d_EndsFinder_findSize_60 (lv_at hl 1 rfl) ?_
          refine lv_lconst (v := (0 : Int64)) hx hb d_EndsFinder_findSize_62 (by decide) ?_
          refine sd_lle (tgt := 109) hx hb d_EndsFinder_findSize_63 d_EndsFinder_findSize_64 (by decide) (fun hc => ?_) (fun hc => ?_)
          · have hm := sd_mt hc hm
            cases hm
            exact kx109 H locs ls (hP.sub [0, 1, 2, 3] rfl) (hD.sub [0, 1, 2, 3] (by decide) rfl) hS (lv_sub hl [] rfl)
          · have hm := sd_mf hc hm
            refine lv_lload hx hb d_EndsFinder_findSize_67 (lv_at hl 2 rfl) ?_
            refine lv_bipush (v := (16 : Int32)) hx hb d_EndsFinder_findSize_69 (by decide) ?_
            refine lv_lshl hx hb d_EndsFinder_findSize_71 rfl ?_
            refine lv_aload_n hx hb d_EndsFinder_findSize_72 rfl (lv_at hl 0 rfl) ?_
            refine va_get (D := D) (ci := 1) (v := .ref ft) (C := R_EndsFinder) (T := F_EndsFinder) (N := 5) hx hb htt i_EndsFinder hown hK hP 0 rfl rfl 1 (by decide) (htt _ kf_EndsFinder_15) (fun _ h9 => h9) rfl d_EndsFinder_findSize_73 ?_
            refine lv_iload hx hb d_EndsFinder_findSize_76 (lv_at hl 3 rfl) ?_
            obtain ⟨h_2, hm⟩ := sd_mg hm
            refine sd_iald hx hb hK hP 3 rfl h_2 d_EndsFinder_findSize_78 ?_
            refine lv_i2l hx hb d_EndsFinder_findSize_79 rfl ?_
            refine lv_ladd hx hb d_EndsFinder_findSize_80 ?_
            obtain ⟨x9_1, ex9_1, hm⟩ := sd_mlet hm
            refine sd_topj ex9_1 ?_
            refine lv_lstore (lv' := [(9, .long x9_1), (0, .ref fe), (7, .long x7), (11, .int x11)]) hx hb d_EndsFinder_findSize_81 hl (by decide) rfl (fun ls hl => ?_)
            refine lv_aload_n hx hb d_EndsFinder_findSize_83 rfl (lv_at hl 1 rfl) ?_
            refine va_get (D := D) (ci := 1) (v := .ref fs) (C := R_EndsFinder) (T := F_EndsFinder) (N := 5) hx hb htt i_EndsFinder hown hK hP 0 rfl rfl 2 (by decide) (htt _ kf_EndsFinder_18) (fun _ h9 => h9) rfl d_EndsFinder_findSize_84 ?_
            refine lv_iload hx hb d_EndsFinder_findSize_87 (lv_at hl 3 rfl) ?_
            refine lv_lload hx hb d_EndsFinder_findSize_89 (lv_at hl 0 rfl) ?_
            refine lv_lload hx hb d_EndsFinder_findSize_91 (lv_at hl 2 rfl) ?_
            obtain ⟨h_3, hm⟩ := sd_mg hm
            refine lv_ldiv hx hb d_EndsFinder_findSize_93 (sd_nzJ h_3) ?_
            refine lv_l2i hx hb d_EndsFinder_findSize_94 rfl ?_
            obtain ⟨h_4, hm⟩ := sd_mg hm
            obtain ⟨ufs_1, eufs_1, hm⟩ := sd_mlet hm
            refine sd_iast (f2 := ufs_1) (ws2 := [(fe, .inr (1, [.ref fr, .ref ft, .ref fs, .long ufe, .long ufe_1])), (fr, aI g 132 ufr), (fs, aI g 68 ufs_1), (ft, aI g 68 uft_1)]) hx hb hK hP hD hS 2 rfl h_4 eufs_1 rfl d_EndsFinder_findSize_95 (fun H locs hP hD hS => ?_)
            refine lv_lload hx hb d_EndsFinder_findSize_96 (lv_at hl 0 rfl) ?_
            refine lv_lload hx hb d_EndsFinder_findSize_98 (lv_at hl 2 rfl) ?_
            obtain ⟨h_5, hm⟩ := sd_mg hm
            refine lv_lrem hx hb d_EndsFinder_findSize_100 (sd_nzJ h_5) ?_
            obtain ⟨x9_2, ex9_2, hm⟩ := sd_mlet hm
            refine sd_topj ex9_2 ?_
            refine lv_lstore (lv' := [(9, .long x9_2), (0, .ref fe), (7, .long x7), (11, .int x11)]) hx hb d_EndsFinder_findSize_101 hl (by decide) rfl (fun ls hl => ?_)
            obtain ⟨x11_1, ex11_1, hm⟩ := sd_mlet hm
            refine lv_iinc (v := x11_1) (lv' := [(11, .int x11_1), (9, .long x9_2), (0, .ref fe), (7, .long x7)]) hx hb d_EndsFinder_findSize_103 hl (k := 3) rfl (by rw [ex11_1]; rfl) (by decide) rfl (fun ls hl => ?_)
            refine lv_goto (tgt := 55) hx hb d_EndsFinder_findSize_106 (by decide) ?_
            exact ih x9_2 x11_1 ufs_1 rufs hm H locs ls (hP.sub [0, 1, 2, 3] rfl) (hD.sub [0, 1, 2, 3] (by decide) rfl) hS (lv_sub hl [2, 3, 1, 0] rfl) kx109
    obtain ⟨rufs, hc, hm⟩ := sd_mb1 hm
    refine L55 F (0 : Int64) (67 : Int32) cfs rufs hc H locs ls (hP.sub [0, 1, 2, 3] rfl) (hD.sub [0, 1, 2, 3] (by decide) rfl) hS (lv_sub hl [3, 2, 1, 0] rfl) ?_
    intro H locs ls hP hD hS hl
    exact sd_v1ret (u := (ufe, ufe_1, ufr, uft_1, rufs)) hQ hx hb hr hlk hK (hP.sub [0, 1, 3, 2] rfl) (hD.sub [0, 1, 3, 2] (by decide) rfl) hS (Option.some.inj hm).symm d_EndsFinder_findSize_109
  replace hm := hv
  refine sd_lne (tgt := 32) hx hb d_EndsFinder_findSize_11 d_EndsFinder_findSize_12 (by decide) (fun hc => ?_) (fun hc => ?_)
  · have hm := sd_mf hc hm
    refine lv_aload_n hx hb d_EndsFinder_findSize_32 rfl (lv_at hl 0 rfl) ?_
    refine lv_lload_n hx hb d_EndsFinder_findSize_33 rfl (lv_at hl 1 rfl) ?_
    refine lv_lload_n hx hb d_EndsFinder_findSize_34 rfl (lv_at hl 1 rfl) ?_
    refine lv_lmul hx hb d_EndsFinder_findSize_35 ?_
    refine lv_lload hx hb d_EndsFinder_findSize_36 (lv_at hl 3 rfl) ?_
    obtain ⟨ufe_2, ufe_3, ufr_1, uft_2, hc, hm⟩ := sd_mb4 hm
    refine sd_cv1 (wr := [(fs, aI g 68 cfs)]) (w2 := [(fs, aI g 68 cfs), (fe, .inr (1, [.ref fr, .ref ft, .ref fs, .long ufe_2, .long ufe_3])), (fr, aI g 132 ufr_1), (ft, aI g 68 uft_2)]) (sd_runV (rest := []) (As := [.long (vTop * vTop), .long vRad]) S (ct_EndsFinder_findTwiceRoot l D g fe fr ft fs (H.size) (vTop * vTop) vRad fR fQ cfr uft F (ufe_2, ufe_3, ufr_1, uft_2) hc) kl_EndsFinder_82 (by decide) (by decide) hK hP hD [0, 1, 3] rfl (by decide) rfl hl d_EndsFinder_findSize_38 rfl (Nat.le_of_ble_eq_true rfl) ⟨Nat.zero_le _, Nat.zero_le _⟩ 0 rfl rfl) hP hD hS hA [0, 1, 3] [2] rfl rfl (by decide) (by decide) rfl (fun H locs hP hD hS => ?_)
    cases hm
    exact J41_1 H locs ls (hP.sub [1, 2, 0, 3] rfl) (hD.sub [1, 2, 0, 3] (by decide) rfl) hS (lv_sub hl [0, 2] rfl)
  · have hm := sd_mt hc hm
    refine lv_aload_n hx hb d_EndsFinder_findSize_15 rfl (lv_at hl 0 rfl) ?_
    refine va_get (D := D) (ci := 1) (v := .ref ft) (C := R_EndsFinder) (T := F_EndsFinder) (N := 5) hx hb htt i_EndsFinder hown hK hP 0 rfl rfl 1 (by decide) (htt _ kf_EndsFinder_15) (fun _ h9 => h9) rfl d_EndsFinder_findSize_16 ?_
    refine lv_bipush (v := (64 : Int32)) hx hb d_EndsFinder_findSize_19 (by decide) ?_
    refine sd_ldc2 (v := (2 : Int64)) hx hb hown (htt _ km_EndsFinder_76) d_EndsFinder_findSize_21 ?_
    refine lv_lload_n hx hb d_EndsFinder_findSize_24 rfl (lv_at hl 1 rfl) ?_
    refine lv_lmul hx hb d_EndsFinder_findSize_25 ?_
    obtain ⟨uft_3, hc, hm⟩ := sd_mb1 hm
    refine sd_cv1 (wr := [(fe, .inr (1, [.ref fr, .ref ft, .ref fs, .long fR, .long fQ])), (fr, aI g 132 cfr), (fs, aI g 68 cfs)]) (w2 := [(fe, .inr (1, [.ref fr, .ref ft, .ref fs, .long fR, .long fQ])), (fr, aI g 132 cfr), (fs, aI g 68 cfs), (ft, aI g 68 uft_3)]) (sd_runS (rest := []) (As := [.ref ft, .int (64 : Int32), .long ((2 : Int64) * vTop)]) S (ct_Wide_putLong l D g ft 68 (H.size) (64 : Int32) ((2 : Int64) * vTop) uft F (uft_3) hc) kl_EndsFinder_78 (by decide) (by decide) hK hP hD [3] rfl (by decide) rfl hl d_EndsFinder_findSize_26 rfl (Nat.le_of_ble_eq_true rfl) ⟨Nat.zero_le _, Nat.zero_le _⟩) hP hD hS hA [3] [0, 1, 2] rfl rfl (by decide) (by decide) rfl (fun H locs hP hD hS => ?_)
    refine lv_goto (tgt := 41) hx hb d_EndsFinder_findSize_29 (by decide) ?_
    cases hm
    exact J41_1 H locs ls (hP.sub [0, 1, 2, 3] rfl) (hD.sub [0, 1, 2, 3] (by decide) rfl) hS (lv_sub hl [0, 2] rfl)
theorem d_EndsFinder_find_0 : decode b_EndsFinder_find 0 = .ok (.aload_n 1, 1) := by decide +kernel
theorem d_EndsFinder_find_1 : decode b_EndsFinder_find 1 = .ok (.getfield 21, 3) := by decide +kernel
theorem d_EndsFinder_find_4 : decode b_EndsFinder_find 4 = .ok (.ifCond .eq 4, 3) := by decide +kernel
theorem d_EndsFinder_find_7 : decode b_EndsFinder_find 7 = .ok (.return_, 1) := by decide +kernel
theorem d_EndsFinder_find_8 : decode b_EndsFinder_find 8 = .ok (.aload_n 1, 1) := by decide +kernel
theorem d_EndsFinder_find_9 : decode b_EndsFinder_find 9 = .ok (.getfield 27, 3) := by decide +kernel
theorem d_EndsFinder_find_12 : decode b_EndsFinder_find 12 = .ok (.iconst 0, 1) := by decide +kernel
theorem d_EndsFinder_find_13 : decode b_EndsFinder_find 13 = .ok (.invokestatic 30, 3) := by decide +kernel
theorem d_EndsFinder_find_16 : decode b_EndsFinder_find 16 = .ok (.iconst 0, 1) := by decide +kernel
theorem d_EndsFinder_find_17 : decode b_EndsFinder_find 17 = .ok (.istore_n 2, 1) := by decide +kernel
theorem d_EndsFinder_find_18 : decode b_EndsFinder_find 18 = .ok (.iconst 0, 1) := by decide +kernel
theorem d_EndsFinder_find_19 : decode b_EndsFinder_find 19 = .ok (.istore_n 3, 1) := by decide +kernel
theorem d_EndsFinder_find_20 : decode b_EndsFinder_find 20 = .ok (.iload_n 3, 1) := by decide +kernel
theorem d_EndsFinder_find_21 : decode b_EndsFinder_find 21 = .ok (.aload_n 1, 1) := by decide +kernel
theorem d_EndsFinder_find_22 : decode b_EndsFinder_find 22 = .ok (.invokevirtual 36, 3) := by decide +kernel
theorem d_EndsFinder_find_25 : decode b_EndsFinder_find 25 = .ok (.if_icmp .ge 90, 3) := by decide +kernel
theorem d_EndsFinder_find_28 : decode b_EndsFinder_find 28 = .ok (.aload_n 0, 1) := by decide +kernel
theorem d_EndsFinder_find_29 : decode b_EndsFinder_find 29 = .ok (.aload_n 1, 1) := by decide +kernel
theorem d_EndsFinder_find_30 : decode b_EndsFinder_find 30 = .ok (.getfield 40, 3) := by decide +kernel
theorem d_EndsFinder_find_33 : decode b_EndsFinder_find 33 = .ok (.iload_n 3, 1) := by decide +kernel
theorem d_EndsFinder_find_34 : decode b_EndsFinder_find 34 = .ok (.laload, 1) := by decide +kernel
theorem d_EndsFinder_find_35 : decode b_EndsFinder_find 35 = .ok (.invokestatic 44, 3) := by decide +kernel
theorem d_EndsFinder_find_38 : decode b_EndsFinder_find 38 = .ok (.aload_n 1, 1) := by decide +kernel
theorem d_EndsFinder_find_39 : decode b_EndsFinder_find 39 = .ok (.getfield 50, 3) := by decide +kernel
theorem d_EndsFinder_find_42 : decode b_EndsFinder_find 42 = .ok (.iload_n 3, 1) := by decide +kernel
theorem d_EndsFinder_find_43 : decode b_EndsFinder_find 43 = .ok (.laload, 1) := by decide +kernel
theorem d_EndsFinder_find_44 : decode b_EndsFinder_find 44 = .ok (.aload_n 1, 1) := by decide +kernel
theorem d_EndsFinder_find_45 : decode b_EndsFinder_find 45 = .ok (.getfield 53, 3) := by decide +kernel
theorem d_EndsFinder_find_48 : decode b_EndsFinder_find 48 = .ok (.iload_n 3, 1) := by decide +kernel
theorem d_EndsFinder_find_49 : decode b_EndsFinder_find 49 = .ok (.laload, 1) := by decide +kernel
theorem d_EndsFinder_find_50 : decode b_EndsFinder_find 50 = .ok (.invokevirtual 56, 3) := by decide +kernel
theorem d_EndsFinder_find_53 : decode b_EndsFinder_find 53 = .ok (.aload_n 1, 1) := by decide +kernel
theorem d_EndsFinder_find_54 : decode b_EndsFinder_find 54 = .ok (.getfield 40, 3) := by decide +kernel
theorem d_EndsFinder_find_57 : decode b_EndsFinder_find 57 = .ok (.iload_n 3, 1) := by decide +kernel
theorem d_EndsFinder_find_58 : decode b_EndsFinder_find 58 = .ok (.laload, 1) := by decide +kernel
theorem d_EndsFinder_find_59 : decode b_EndsFinder_find 59 = .ok (.lconst 0, 1) := by decide +kernel
theorem d_EndsFinder_find_60 : decode b_EndsFinder_find 60 = .ok (.lcmp, 1) := by decide +kernel
theorem d_EndsFinder_find_61 : decode b_EndsFinder_find 61 = .ok (.ifCond .ge 7, 3) := by decide +kernel
theorem d_EndsFinder_find_64 : decode b_EndsFinder_find 64 = .ok (.iconst 1, 1) := by decide +kernel
theorem d_EndsFinder_find_65 : decode b_EndsFinder_find 65 = .ok (.goto 4, 3) := by decide +kernel
theorem d_EndsFinder_find_68 : decode b_EndsFinder_find 68 = .ok (.iconst 0, 1) := by decide +kernel
theorem d_EndsFinder_find_69 : decode b_EndsFinder_find 69 = .ok (.istore 4, 2) := by decide +kernel
theorem d_EndsFinder_find_71 : decode b_EndsFinder_find 71 = .ok (.aload_n 1, 1) := by decide +kernel
theorem d_EndsFinder_find_72 : decode b_EndsFinder_find 72 = .ok (.getfield 27, 3) := by decide +kernel
theorem d_EndsFinder_find_75 : decode b_EndsFinder_find 75 = .ok (.iconst 0, 1) := by decide +kernel
theorem d_EndsFinder_find_76 : decode b_EndsFinder_find 76 = .ok (.aload_n 0, 1) := by decide +kernel
theorem d_EndsFinder_find_77 : decode b_EndsFinder_find 77 = .ok (.getfield 18, 3) := by decide +kernel
theorem d_EndsFinder_find_80 : decode b_EndsFinder_find 80 = .ok (.iconst 0, 1) := by decide +kernel
theorem d_EndsFinder_find_81 : decode b_EndsFinder_find 81 = .ok (.bipush 66, 2) := by decide +kernel
theorem d_EndsFinder_find_83 : decode b_EndsFinder_find 83 = .ok (.iload 4, 2) := by decide +kernel
theorem d_EndsFinder_find_85 : decode b_EndsFinder_find 85 = .ok (.ifCond .eq 7, 3) := by decide +kernel
theorem d_EndsFinder_find_88 : decode b_EndsFinder_find 88 = .ok (.iconst 1, 1) := by decide +kernel
theorem d_EndsFinder_find_89 : decode b_EndsFinder_find 89 = .ok (.goto 4, 3) := by decide +kernel
theorem d_EndsFinder_find_92 : decode b_EndsFinder_find 92 = .ok (.iconst (-1), 1) := by decide +kernel
theorem d_EndsFinder_find_93 : decode b_EndsFinder_find 93 = .ok (.invokestatic 60, 3) := by decide +kernel
theorem d_EndsFinder_find_96 : decode b_EndsFinder_find 96 = .ok (.iload_n 2, 1) := by decide +kernel
theorem d_EndsFinder_find_97 : decode b_EndsFinder_find 97 = .ok (.iload 4, 2) := by decide +kernel
theorem d_EndsFinder_find_99 : decode b_EndsFinder_find 99 = .ok (.ifCond .eq 7, 3) := by decide +kernel
theorem d_EndsFinder_find_102 : decode b_EndsFinder_find 102 = .ok (.iconst 1, 1) := by decide +kernel
theorem d_EndsFinder_find_103 : decode b_EndsFinder_find 103 = .ok (.goto 4, 3) := by decide +kernel
theorem d_EndsFinder_find_106 : decode b_EndsFinder_find 106 = .ok (.iconst 0, 1) := by decide +kernel
theorem d_EndsFinder_find_107 : decode b_EndsFinder_find 107 = .ok (.iadd, 1) := by decide +kernel
theorem d_EndsFinder_find_108 : decode b_EndsFinder_find 108 = .ok (.istore_n 2, 1) := by decide +kernel
theorem d_EndsFinder_find_109 : decode b_EndsFinder_find 109 = .ok (.iinc 3 1, 3) := by decide +kernel
theorem d_EndsFinder_find_112 : decode b_EndsFinder_find 112 = .ok (.goto (-92), 3) := by decide +kernel
theorem d_EndsFinder_find_115 : decode b_EndsFinder_find 115 = .ok (.aload_n 1, 1) := by decide +kernel
theorem d_EndsFinder_find_116 : decode b_EndsFinder_find 116 = .ok (.getfield 27, 3) := by decide +kernel
theorem d_EndsFinder_find_119 : decode b_EndsFinder_find 119 = .ok (.iload_n 2, 1) := by decide +kernel
theorem d_EndsFinder_find_120 : decode b_EndsFinder_find 120 = .ok (.ineg, 1) := by decide +kernel
theorem d_EndsFinder_find_121 : decode b_EndsFinder_find 121 = .ok (.invokestatic 64, 3) := by decide +kernel
theorem d_EndsFinder_find_124 : decode b_EndsFinder_find 124 = .ok (.aload_n 1, 1) := by decide +kernel
theorem d_EndsFinder_find_125 : decode b_EndsFinder_find 125 = .ok (.getfield 27, 3) := by decide +kernel
theorem d_EndsFinder_find_128 : decode b_EndsFinder_find 128 = .ok (.iconst 0, 1) := by decide +kernel
theorem d_EndsFinder_find_129 : decode b_EndsFinder_find 129 = .ok (.aload_n 1, 1) := by decide +kernel
theorem d_EndsFinder_find_130 : decode b_EndsFinder_find 130 = .ok (.getfield 67, 3) := by decide +kernel
theorem d_EndsFinder_find_133 : decode b_EndsFinder_find 133 = .ok (.iconst 0, 1) := by decide +kernel
theorem d_EndsFinder_find_134 : decode b_EndsFinder_find 134 = .ok (.bipush 68, 2) := by decide +kernel
theorem d_EndsFinder_find_136 : decode b_EndsFinder_find 136 = .ok (.invokestatic 70, 3) := by decide +kernel
theorem d_EndsFinder_find_139 : decode b_EndsFinder_find 139 = .ok (.aload_n 1, 1) := by decide +kernel
theorem d_EndsFinder_find_140 : decode b_EndsFinder_find 140 = .ok (.getfield 67, 3) := by decide +kernel
theorem d_EndsFinder_find_143 : decode b_EndsFinder_find 143 = .ok (.aload_n 1, 1) := by decide +kernel
theorem d_EndsFinder_find_144 : decode b_EndsFinder_find 144 = .ok (.invokevirtual 36, 3) := by decide +kernel
theorem d_EndsFinder_find_147 : decode b_EndsFinder_find 147 = .ok (.invokestatic 64, 3) := by decide +kernel
theorem d_EndsFinder_find_150 : decode b_EndsFinder_find 150 = .ok (.aload_n 1, 1) := by decide +kernel
theorem d_EndsFinder_find_151 : decode b_EndsFinder_find 151 = .ok (.iconst 1, 1) := by decide +kernel
theorem d_EndsFinder_find_152 : decode b_EndsFinder_find 152 = .ok (.putfield 21, 3) := by decide +kernel
theorem d_EndsFinder_find_155 : decode b_EndsFinder_find 155 = .ok (.return_, 1) := by decide +kernel
def mf_EndsFinder_find_L20 (F : Nat) (xk : Int32) (xn : Int32) (xT : Nat → Int64) (xB : Nat → Int64) (xR : Nat → Int64) : Nat → Int32 → Int32 → Int64 → Int64 → (Nat → Int32) → (Nat → Int32) → (Nat → Int32) → (Nat → Int32) → Option (Int32 × Int64 × Int64 × (Nat → Int32) × (Nat → Int32) × (Nat → Int32) × (Nat → Int32))
  | 0, _, _, _, _, _, _, _, _ => none
  | fu + 1, x2, x3, ufe, ufe_1, ufr, uft, ufs, uxal_1 => (sd_b1 (mf_Sum_count F xk xn) fun r => (if r ≤ x3 then (some (x2, ufe, ufe_1, ufr, uft, ufs, uxal_1)) else (sd_g (sd_ix x3 8) (sd_g (sd_ix x3 8) (sd_g (sd_ix x3 8) (sd_b5 (mf_EndsFinder_findSize F (if 0 < (xT x3.toNatClampNeg) then (xT x3.toNatClampNeg) else -(xT x3.toNatClampNeg)) (xB x3.toNatClampNeg) (xR x3.toNatClampNeg) ufe ufe_1 ufr uft ufs) fun ufe_2 ufe_3 ufr_1 uft_1 ufs_1 => (sd_g (sd_ix x3 8) (sd_b1 (if (0 : Int64) ≤ (xT x3.toNatClampNeg) then (some ((0 : Int32))) else (some ((1 : Int32)))) fun y => (sd_b1 (if y = 0 then (some ((-1 : Int32))) else (some ((1 : Int32)))) fun y_1 => (sd_b1 (mf_Wide_take F 68 68 (0 : Int32) (0 : Int32) (66 : Int32) y_1 uxal_1 ufs_1) fun uxal_2 => (sd_b1 (if y = 0 then (some ((0 : Int32))) else (some ((1 : Int32)))) fun y_2 => (sd_let ((x2 + y_2)) fun x2_1 => (sd_let (x3 + (1 : Int32)) fun x3_1 => ((mf_EndsFinder_find_L20 F xk xn xT xB xR fu) x2_1 x3_1 ufe_2 ufe_3 ufr_1 uft_1 ufs_1 uxal_2))))))))))))))
def mf_EndsFinder_find (F : Nat) (fR : Int64) (fQ : Int64) (cfr : Nat → Int32) (cft : Nat → Int32) (cfs : Nat → Int32) (xk : Int32) (xn : Int32) (xT : Nat → Int64) (xB : Nat → Int64) (xR : Nat → Int64) (xL : Nat → Int32) (xH : Nat → Int32) : Option (Int64 × Int64 × (Nat → Int32) × (Nat → Int32) × (Nat → Int32) × Int32 × (Nat → Int32) × (Nat → Int32)) :=
  (if xk = 0 then (sd_b1 (mf_Arrays_fill F 68 (0 : Int32) xL) fun uxal => (sd_b7 (mf_EndsFinder_find_L20 F xk xn xT xB xR F (0 : Int32) (0 : Int32) fR fQ cfr cft cfs uxal) fun rx2 rufe rufe_1 rufr ruft rufs ruxal => (sd_b1 (mf_Wide_addSmall F 68 (-rx2) ruxal) fun uxal_3 => (sd_g (sd_cp (0 : Int32) (0 : Int32) (68 : Int32) 68 68) (sd_let (va_cpy uxal_3 xH (0 : Int32).toNatClampNeg (0 : Int32).toNatClampNeg (68 : Int32).toNatClampNeg) fun uxah => (sd_b1 (mf_Sum_count F xk xn) fun r_1 => (sd_b1 (mf_Wide_addSmall F 68 r_1 uxah) fun uxah_1 => (some (rufe, rufe_1, rufr, ruft, rufs, (1 : Int32), uxal_3, uxah_1))))))))) else (some (fR, fQ, cfr, cft, cfs, xk, xL, xH)))
abbrev rm_EndsFinder_find : Room := { frames := 4, cells := 0, slots := 0, locals := 115 }
set_option maxHeartbeats 4000000 in
set_option maxRecDepth 100000 in
theorem ct_EndsFinder_find (l : Launch) (D : va_G) (g : G4) (fe : Nat) (fr : Nat) (ft : Nat) (fs : Nat) (xs : Nat) (xat : Nat) (xab : Nat) (xar : Nat) (xal : Nat) (xah : Nat) (sz : Nat) (fR : Int64) (fQ : Int64) (cfr : Nat → Int32) (cft : Nat → Int32) (cfs : Nat → Int32) (xk : Int32) (xn : Int32) (xT : Nat → Int64) (xB : Nat → Int64) (xR : Nat → Int64) (xL : Nat → Int32) (xH : Nat → Int32) (F : Nat) (res : Int64 × Int64 × (Nat → Int32) × (Nat → Int32) × (Nat → Int32) × Int32 × (Nat → Int32) × (Nat → Int32)) (hm : mf_EndsFinder_find F fR fQ cfr cft cfs xk xn xT xB xR xL xH = some res) : Met l y_EndsFinder_find (.code y_EndsFinder_find b_EndsFinder_find 5 none :: sd_tb) rm_EndsFinder_find (sd_PW D g [.ref fe, .ref xs] sz [(fe, .inr (1, [.ref fr, .ref ft, .ref fs, .long fR, .long fQ])), (fr, aI g 132 cfr), (ft, aI g 68 cft), (fs, aI g 68 cfs), (xs, .inr (0, [.ref xat, .ref xab, .ref xar, .ref xal, .ref xah, .int xk, .int xn])), (xat, aJ g 8 xT), (xab, aJ g 8 xB), (xar, aJ g 8 xR), (xal, aI g 68 xL), (xah, aI g 68 xH)]) (sd_Qv1 D g res (fun u : Int64 × Int64 × (Nat → Int32) × (Nat → Int32) × (Nat → Int32) × Int32 × (Nat → Int32) × (Nat → Int32) => [(fe, .inr (1, [.ref fr, .ref ft, .ref fs, .long (u.1), .long (u.2.1)])), (fr, aI g 132 (u.2.2.1)), (ft, aI g 68 (u.2.2.2.1)), (fs, aI g 68 (u.2.2.2.2.1)), (xs, .inr (0, [.ref xat, .ref xab, .ref xar, .ref xal, .ref xah, .int (u.2.2.2.2.2.1), .int xn])), (xat, aJ g 8 xT), (xab, aJ g 8 xB), (xar, aJ g 8 xR), (xal, aI g 68 (u.2.2.2.2.2.2.1)), (xah, aI g 68 (u.2.2.2.2.2.2.2))]) (va_A [(fe, .inr (1, [.ref fr, .ref ft, .ref fs, .long fR, .long fQ])), (fr, aI g 132 cfr), (ft, aI g 68 cft), (fs, aI g 68 cfs), (xs, .inr (0, [.ref xat, .ref xab, .ref xar, .ref xal, .ref xah, .int xk, .int xn])), (xat, aJ g 8 xT), (xab, aJ g 8 xB), (xar, aJ g 8 xR), (xal, aI g 68 xL), (xah, aI g 68 xH)] sz)) 0 0 (va_A [(fe, .inr (1, [.ref fr, .ref ft, .ref fs, .long fR, .long fQ])), (fr, aI g 132 cfr), (ft, aI g 68 cft), (fs, aI g 68 cfs), (xs, .inr (0, [.ref xat, .ref xab, .ref xar, .ref xal, .ref xah, .int xk, .int xn])), (xat, aJ g 8 xT), (xab, aJ g 8 xB), (xar, aJ g 8 xR), (xal, aI g 68 xL), (xah, aI g 68 xH)] sz) := by
  refine sd_met (Qf := fun A => sd_Qv1 D g res (fun u : Int64 × Int64 × (Nat → Int32) × (Nat → Int32) × (Nat → Int32) × Int32 × (Nat → Int32) × (Nat → Int32) => [(fe, .inr (1, [.ref fr, .ref ft, .ref fs, .long (u.1), .long (u.2.1)])), (fr, aI g 132 (u.2.2.1)), (ft, aI g 68 (u.2.2.2.1)), (fs, aI g 68 (u.2.2.2.2.1)), (xs, .inr (0, [.ref xat, .ref xab, .ref xar, .ref xal, .ref xah, .int (u.2.2.2.2.2.1), .int xn])), (xat, aJ g 8 xT), (xab, aJ g 8 xB), (xar, aJ g 8 xR), (xal, aI g 68 (u.2.2.2.2.2.2.1)), (xah, aI g 68 (u.2.2.2.2.2.2.2))]) A) (own := R_EndsFinder) (by decide +kernel) rfl (Nat.le_of_ble_eq_true rfl) ?_
  intro p e s m args below meth c S hr hlk hK A hA Q hQ H locs hP hD hS ls hl
  have hx := S.1
  have hb := S.2.1
  have hml := S.2.2.1
  have hown := S.2.2.2.1
  have htt := sd_tt S
  replace hl : lv_has ls 5 [(0, .ref fe), (1, .ref xs)] := hl
  unfold mf_EndsFinder_find at hm
  refine lv_aload_n hx hb d_EndsFinder_find_0 rfl (lv_at hl 1 rfl) ?_
  refine va_get (D := D) (ci := 0) (v := .int xk) (C := R_Sum) (T := F_Sum) (N := 7) hx hb htt i_Sum hown hK hP 4 rfl rfl 5 (by decide) (htt _ kf_EndsFinder_21) (fun _ h9 => h9) rfl d_EndsFinder_find_1 ?_
  refine lv_if_eq (tgt := 8) hx hb d_EndsFinder_find_4 (by decide) (fun hc => ?_) (fun hc => ?_)
  · have hm := sd_mt hc hm
    refine lv_aload_n hx hb d_EndsFinder_find_8 rfl (lv_at hl 1 rfl) ?_
    refine va_get (D := D) (ci := 0) (v := .ref xal) (C := R_Sum) (T := F_Sum) (N := 7) hx hb htt i_Sum hown hK hP 4 rfl rfl 3 (by decide) (htt _ kf_EndsFinder_27) (fun _ h9 => h9) rfl d_EndsFinder_find_9 ?_
    refine lv_iconst (v := (0 : Int32)) hx hb d_EndsFinder_find_12 (by decide) ?_
    obtain ⟨uxal, hc, hm⟩ := sd_mb1 hm
    refine sd_cv1 (wr := [(fe, .inr (1, [.ref fr, .ref ft, .ref fs, .long fR, .long fQ])), (fr, aI g 132 cfr), (ft, aI g 68 cft), (fs, aI g 68 cfs), (xs, .inr (0, [.ref xat, .ref xab, .ref xar, .ref xal, .ref xah, .int xk, .int xn])), (xat, aJ g 8 xT), (xab, aJ g 8 xB), (xar, aJ g 8 xR), (xah, aI g 68 xH)]) (w2 := [(fe, .inr (1, [.ref fr, .ref ft, .ref fs, .long fR, .long fQ])), (fr, aI g 132 cfr), (ft, aI g 68 cft), (fs, aI g 68 cfs), (xs, .inr (0, [.ref xat, .ref xab, .ref xar, .ref xal, .ref xah, .int xk, .int xn])), (xat, aJ g 8 xT), (xab, aJ g 8 xB), (xar, aJ g 8 xR), (xah, aI g 68 xH), (xal, aI g 68 uxal)]) (sd_runS (rest := []) (As := [.ref xal, .int (0 : Int32)]) S (ct_Arrays_fill l D g xal 68 (H.size) (0 : Int32) xL F (uxal) hc) kl_EndsFinder_30 (by decide) (by decide) hK hP hD [8] rfl (by decide) rfl hl d_EndsFinder_find_13 rfl (Nat.le_of_ble_eq_true rfl) ⟨Nat.zero_le _, Nat.zero_le _⟩) hP hD hS hA [8] [0, 1, 2, 3, 4, 5, 6, 7, 9] rfl rfl (by decide) (by decide) rfl (fun H locs hP hD hS => ?_)
    refine lv_iconst (v := (0 : Int32)) hx hb d_EndsFinder_find_16 (by decide) ?_
    refine lv_istore_n (lv' := [(2, .int (0 : Int32)), (0, .ref fe), (1, .ref xs)]) hx hb d_EndsFinder_find_17 rfl hl (by decide) rfl (fun ls hl => ?_)
    refine lv_iconst (v := (0 : Int32)) hx hb d_EndsFinder_find_18 (by decide) ?_
    refine lv_istore_n (lv' := [(3, .int (0 : Int32)), (2, .int (0 : Int32)), (0, .ref fe), (1, .ref xs)]) hx hb d_EndsFinder_find_19 rfl hl (by decide) rfl (fun ls hl => ?_)
    have L20 : ∀ (fu : Nat) (x2 : Int32) (x3 : Int32) (ufe : Int64) (ufe_1 : Int64) (ufr : Nat → Int32) (uft : Nat → Int32) (ufs : Nat → Int32) (uxal_1 : Nat → Int32) (rx2 : Int32) (rufe : Int64) (rufe_1 : Int64) (rufr : Nat → Int32) (ruft : Nat → Int32) (rufs : Nat → Int32) (ruxal : Nat → Int32), mf_EndsFinder_find_L20 F xk xn xT xB xR fu x2 x3 ufe ufe_1 ufr uft ufs uxal_1 = some (rx2, rufe, rufe_1, rufr, ruft, rufs, ruxal) → ∀ (H : Heap) (locs : List Loc) (ls : Array Slot), va_P D classes [(fe, .inr (1, [.ref fr, .ref ft, .ref fs, .long ufe, .long ufe_1])), (fr, aI g 132 ufr), (ft, aI g 68 uft), (fs, aI g 68 ufs), (xs, .inr (0, [.ref xat, .ref xab, .ref xar, .ref xal, .ref xah, .int xk, .int xn])), (xat, aJ g 8 xT), (xab, aJ g 8 xB), (xar, aJ g 8 xR), (xah, aI g 68 xH), (xal, aI g 68 uxal_1)] H → va_D A [(fe, .inr (1, [.ref fr, .ref ft, .ref fs, .long ufe, .long ufe_1])), (fr, aI g 132 ufr), (ft, aI g 68 uft), (fs, aI g 68 ufs), (xs, .inr (0, [.ref xat, .ref xab, .ref xar, .ref xal, .ref xah, .int xk, .int xn])), (xat, aJ g 8 xT), (xab, aJ g 8 xB), (xar, aJ g 8 xR), (xah, aI g 68 xH), (xal, aI g 68 uxal_1)] → va_S A s.heap H locs → lv_has ls 5 [(0, .ref fe), (1, .ref xs), (2, .int x2), (3, .int x3)] → (∀ (H : Heap) (locs : List Loc) (ls : Array Slot), va_P D classes [(fe, .inr (1, [.ref fr, .ref ft, .ref fs, .long rufe, .long rufe_1])), (fr, aI g 132 rufr), (ft, aI g 68 ruft), (fs, aI g 68 rufs), (xs, .inr (0, [.ref xat, .ref xab, .ref xar, .ref xal, .ref xah, .int xk, .int xn])), (xat, aJ g 8 xT), (xab, aJ g 8 xB), (xar, aJ g 8 xR), (xah, aI g 68 xH), (xal, aI g 68 ruxal)] H → va_D A [(fe, .inr (1, [.ref fr, .ref ft, .ref fs, .long rufe, .long rufe_1])), (fr, aI g 132 rufr), (ft, aI g 68 ruft), (fs, aI g 68 rufs), (xs, .inr (0, [.ref xat, .ref xab, .ref xar, .ref xal, .ref xah, .int xk, .int xn])), (xat, aJ g 8 xT), (xab, aJ g 8 xB), (xar, aJ g 8 xR), (xah, aI g 68 xH), (xal, aI g 68 ruxal)] → va_S A s.heap H locs → lv_has ls 5 [(1, .ref xs), (2, .int rx2)] → W p l e rm_EndsFinder_find s m args below meth c H locs 0 0 Q (F0 m 115 ls [])) → W p l e rm_EndsFinder_find s m args below meth c H locs 0 0 Q (F0 m 20 ls []) := by
      intro fu
      induction fu with
      | zero => intro x2 x3 ufe ufe_1 ufr uft ufs uxal_1 rx2 rufe rufe_1 rufr ruft rufs ruxal hm; exact absurd (show (none : Option (Int32 × Int64 × Int64 × (Nat → Int32) × (Nat → Int32) × (Nat → Int32) × (Nat → Int32))) = some (rx2, rufe, rufe_1, rufr, ruft, rufs, ruxal) from hm) (fun h => nomatch h)
      | succ fu ih =>
        intro x2 x3 ufe ufe_1 ufr uft ufs uxal_1 rx2 rufe rufe_1 rufr ruft rufs ruxal hm H locs ls hP hD hS hl kx115
        rw [mf_EndsFinder_find_L20] at hm
        refine lv_iload_n hx hb d_EndsFinder_find_20 rfl (lv_at hl 3 rfl) ?_
        refine lv_aload_n hx hb d_EndsFinder_find_21 rfl (lv_at hl 1 rfl) ?_
        obtain ⟨r, hc, hm⟩ := sd_mb1 hm
        refine sd_ci0 (wr := [(fe, .inr (1, [.ref fr, .ref ft, .ref fs, .long ufe, .long ufe_1])), (fr, aI g 132 ufr), (ft, aI g 68 uft), (fs, aI g 68 ufs), (xat, aJ g 8 xT), (xab, aJ g 8 xB), (xar, aJ g 8 xR), (xah, aI g 68 xH), (xal, aI g 68 uxal_1)]) (w2 := [(fe, .inr (1, [.ref fr, .ref ft, .ref fs, .long ufe, .long ufe_1])), (fr, aI g 132 ufr), (ft, aI g 68 uft), (fs, aI g 68 ufs), (xat, aJ g 8 xT), (xab, aJ g 8 xB), (xar, aJ g 8 xR), (xah, aI g 68 xH), (xal, aI g 68 uxal_1), (xs, .inr (0, [.ref xat, .ref xab, .ref xar, .ref xal, .ref xah, .int xk, .int xn]))]) (sd_runV (rest := [.int x3]) (As := []) S (ct_Sum_count l D g xs xat xab xar xal xah (H.size) xk xn F (r) hc) kl_EndsFinder_36 (by decide) (by decide) hK hP hD [4] rfl (by decide) rfl hl d_EndsFinder_find_22 rfl (Nat.le_of_ble_eq_true rfl) ⟨Nat.zero_le _, Nat.zero_le _⟩ 4 rfl rfl) hP hD hS hA [4] [0, 1, 2, 3, 5, 6, 7, 8, 9] rfl rfl (by decide) (by decide) rfl (fun H locs hP hD hS => ?_)
        refine W.eq (g2 := F0 m 25 ls [.int r, .int x3]) rfl ?_
        refine lv_icmp_ge (tgt := 115) hx hb d_EndsFinder_find_25 (by decide) (fun hc => ?_) (fun hc => ?_)
        · have hm := sd_mt hc hm
          cases hm
          exact kx115 H locs ls (hP.sub [0, 1, 2, 3, 9, 4, 5, 6, 7, 8] rfl) (hD.sub [0, 1, 2, 3, 9, 4, 5, 6, 7, 8] (by decide) rfl) hS (lv_sub hl [1, 2] rfl)
        · have hm := sd_mf hc hm
          refine lv_aload_n hx hb d_EndsFinder_find_28 rfl (lv_at hl 0 rfl) ?_
          refine lv_aload_n hx hb d_EndsFinder_find_29 rfl (lv_at hl 1 rfl) ?_
          refine va_get (D := D) (ci := 0) (v := .ref xat) (C := R_Sum) (T := F_Sum) (N := 7) hx hb htt i_Sum hown hK hP 9 rfl rfl 0 (by decide) (htt _ kf_EndsFinder_40) (fun _ h9 => h9) rfl d_EndsFinder_find_30 ?_
          refine lv_iload_n hx hb d_EndsFinder_find_33 rfl (lv_at hl 3 rfl) ?_
          obtain ⟨h_1, hm⟩ := sd_mg hm
          refine sd_lald hx hb hK hP 4 rfl h_1 d_EndsFinder_find_34 ?_
          refine sd_abs hx hb hml hown kl_EndsFinder_44 htt hl d_EndsFinder_find_35 (Nat.le_of_ble_eq_true rfl) (Nat.le_of_ble_eq_true rfl) ?_
          refine lv_aload_n hx hb d_EndsFinder_find_38 rfl (lv_at hl 1 rfl) ?_
          refine va_get (D := D) (ci := 0) (v := .ref xab) (C := R_Sum) (T := F_Sum) (N := 7) hx hb htt i_Sum hown hK hP 9 rfl rfl 1 (by decide) (htt _ kf_EndsFinder_50) (fun _ h9 => h9) rfl d_EndsFinder_find_39 ?_
          refine lv_iload_n hx hb d_EndsFinder_find_42 rfl (lv_at hl 3 rfl) ?_
          obtain ⟨h_2, hm⟩ := sd_mg hm
          refine sd_lald hx hb hK hP 5 rfl h_2 d_EndsFinder_find_43 ?_
          refine lv_aload_n hx hb d_EndsFinder_find_44 rfl (lv_at hl 1 rfl) ?_
          refine va_get (D := D) (ci := 0) (v := .ref xar) (C := R_Sum) (T := F_Sum) (N := 7) hx hb htt i_Sum hown hK hP 9 rfl rfl 2 (by decide) (htt _ kf_EndsFinder_53) (fun _ h9 => h9) rfl d_EndsFinder_find_45 ?_
          refine lv_iload_n hx hb d_EndsFinder_find_48 rfl (lv_at hl 3 rfl) ?_
          obtain ⟨h_3, hm⟩ := sd_mg hm
          refine sd_lald hx hb hK hP 6 rfl h_3 d_EndsFinder_find_49 ?_
          obtain ⟨ufe_2, ufe_3, ufr_1, uft_1, ufs_1, hc, hm⟩ := sd_mb5 hm
          refine sd_cv1 (wr := [(xat, aJ g 8 xT), (xab, aJ g 8 xB), (xar, aJ g 8 xR), (xah, aI g 68 xH), (xal, aI g 68 uxal_1), (xs, .inr (0, [.ref xat, .ref xab, .ref xar, .ref xal, .ref xah, .int xk, .int xn]))]) (w2 := [(xat, aJ g 8 xT), (xab, aJ g 8 xB), (xar, aJ g 8 xR), (xah, aI g 68 xH), (xal, aI g 68 uxal_1), (xs, .inr (0, [.ref xat, .ref xab, .ref xar, .ref xal, .ref xah, .int xk, .int xn])), (fe, .inr (1, [.ref fr, .ref ft, .ref fs, .long ufe_2, .long ufe_3])), (fr, aI g 132 ufr_1), (ft, aI g 68 uft_1), (fs, aI g 68 ufs_1)]) (sd_runV (rest := []) (As := [.long (if 0 < (xT x3.toNatClampNeg) then (xT x3.toNatClampNeg) else -(xT x3.toNatClampNeg)), .long (xB x3.toNatClampNeg), .long (xR x3.toNatClampNeg)]) S (ct_EndsFinder_findSize l D g fe fr ft fs (H.size) (if 0 < (xT x3.toNatClampNeg) then (xT x3.toNatClampNeg) else -(xT x3.toNatClampNeg)) (xB x3.toNatClampNeg) (xR x3.toNatClampNeg) ufe ufe_1 ufr uft ufs F (ufe_2, ufe_3, ufr_1, uft_1, ufs_1) hc) kl_EndsFinder_56 (by decide) (by decide) hK hP hD [0, 1, 2, 3] rfl (by decide) rfl hl d_EndsFinder_find_50 rfl (Nat.le_of_ble_eq_true rfl) ⟨Nat.zero_le _, Nat.zero_le _⟩ 0 rfl rfl) hP hD hS hA [0, 1, 2, 3] [4, 5, 6, 7, 8, 9] rfl rfl (by decide) (by decide) rfl (fun H locs hP hD hS => ?_)
          refine lv_aload_n hx hb d_EndsFinder_find_53 rfl (lv_at hl 1 rfl) ?_
          refine va_get (D := D) (ci := 0) (v := .ref xat) (C := R_Sum) (T := F_Sum) (N := 7) hx hb htt i_Sum hown hK hP 5 rfl rfl 0 (by decide) (htt _ kf_EndsFinder_40) (fun _ h9 => h9) rfl d_EndsFinder_find_54 ?_
          refine lv_iload_n hx hb d_EndsFinder_find_57 rfl (lv_at hl 3 rfl) ?_
          obtain ⟨h_4, hm⟩ := sd_mg hm
          refine sd_lald hx hb hK hP 0 rfl h_4 d_EndsFinder_find_58 ?_
          refine lv_lconst (v := (0 : Int64)) hx hb d_EndsFinder_find_59 (by decide) ?_
          obtain ⟨y, hv, hm⟩ := sd_mb1 hm
          have J69_5 : ∀ (H : Heap) (locs : List Loc) (ls : Array Slot), va_P D classes [(xat, aJ g 8 xT), (xab, aJ g 8 xB), (xar, aJ g 8 xR), (xah, aI g 68 xH), (xal, aI g 68 uxal_1), (xs, .inr (0, [.ref xat, .ref xab, .ref xar, .ref xal, .ref xah, .int xk, .int xn])), (fe, .inr (1, [.ref fr, .ref ft, .ref fs, .long ufe_2, .long ufe_3])), (fr, aI g 132 ufr_1), (ft, aI g 68 uft_1), (fs, aI g 68 ufs_1)] H → va_D A [(xat, aJ g 8 xT), (xab, aJ g 8 xB), (xar, aJ g 8 xR), (xah, aI g 68 xH), (xal, aI g 68 uxal_1), (xs, .inr (0, [.ref xat, .ref xab, .ref xar, .ref xal, .ref xah, .int xk, .int xn])), (fe, .inr (1, [.ref fr, .ref ft, .ref fs, .long ufe_2, .long ufe_3])), (fr, aI g 132 ufr_1), (ft, aI g 68 uft_1), (fs, aI g 68 ufs_1)] → va_S A s.heap H locs → lv_has ls 5 [(0, .ref fe), (1, .ref xs), (2, .int x2), (3, .int x3)] → W p l e rm_EndsFinder_find s m args below meth c H locs 0 0 Q (F0 m 69 ls [.int y]) := by
            intro H locs ls hP hD hS hl
            refine lv_istore (lv' := [(4, .int y), (0, .ref fe), (1, .ref xs), (2, .int x2), (3, .int x3)]) hx hb d_EndsFinder_find_69 hl (by decide) rfl (fun ls hl => ?_)
            refine lv_aload_n hx hb d_EndsFinder_find_71 rfl (lv_at hl 2 rfl) ?_
            refine va_get (D := D) (ci := 0) (v := .ref xal) (C := R_Sum) (T := F_Sum) (N := 7) hx hb htt i_Sum hown hK hP 5 rfl rfl 3 (by decide) (htt _ kf_EndsFinder_27) (fun _ h9 => h9) rfl d_EndsFinder_find_72 ?_
            refine lv_iconst (v := (0 : Int32)) hx hb d_EndsFinder_find_75 (by decide) ?_
            refine lv_aload_n hx hb d_EndsFinder_find_76 rfl (lv_at hl 1 rfl) ?_
            refine va_get (D := D) (ci := 1) (v := .ref fs) (C := R_EndsFinder) (T := F_EndsFinder) (N := 5) hx hb htt i_EndsFinder hown hK hP 6 rfl rfl 2 (by decide) (htt _ kf_EndsFinder_18) (fun _ h9 => h9) rfl d_EndsFinder_find_77 ?_
            refine lv_iconst (v := (0 : Int32)) hx hb d_EndsFinder_find_80 (by decide) ?_
            refine lv_bipush (v := (66 : Int32)) hx hb d_EndsFinder_find_81 (by decide) ?_
            refine lv_iload hx hb d_EndsFinder_find_83 (lv_at hl 0 rfl) ?_
            obtain ⟨y_1, hv, hm⟩ := sd_mb1 hm
            have J93_6 : ∀ (H : Heap) (locs : List Loc) (ls : Array Slot), va_P D classes [(xat, aJ g 8 xT), (xab, aJ g 8 xB), (xar, aJ g 8 xR), (xah, aI g 68 xH), (xal, aI g 68 uxal_1), (xs, .inr (0, [.ref xat, .ref xab, .ref xar, .ref xal, .ref xah, .int xk, .int xn])), (fe, .inr (1, [.ref fr, .ref ft, .ref fs, .long ufe_2, .long ufe_3])), (fr, aI g 132 ufr_1), (ft, aI g 68 uft_1), (fs, aI g 68 ufs_1)] H → va_D A [(xat, aJ g 8 xT), (xab, aJ g 8 xB), (xar, aJ g 8 xR), (xah, aI g 68 xH), (xal, aI g 68 uxal_1), (xs, .inr (0, [.ref xat, .ref xab, .ref xar, .ref xal, .ref xah, .int xk, .int xn])), (fe, .inr (1, [.ref fr, .ref ft, .ref fs, .long ufe_2, .long ufe_3])), (fr, aI g 132 ufr_1), (ft, aI g 68 uft_1), (fs, aI g 68 ufs_1)] → va_S A s.heap H locs → lv_has ls 5 [(0, .ref fe), (1, .ref xs), (2, .int x2), (3, .int x3), (4, .int y)] → W p l e rm_EndsFinder_find s m args below meth c H locs 0 0 Q (F0 m 93 ls [.int y_1, .int (66 : Int32), .int (0 : Int32), .ref fs, .int (0 : Int32), .ref xal]) := by
              intro H locs ls hP hD hS hl
              obtain ⟨uxal_2, hc, hm⟩ := sd_mb1 hm
              refine sd_cv1 (wr := [(xat, aJ g 8 xT), (xab, aJ g 8 xB), (xar, aJ g 8 xR), (xah, aI g 68 xH), (xs, .inr (0, [.ref xat, .ref xab, .ref xar, .ref xal, .ref xah, .int xk, .int xn])), (fe, .inr (1, [.ref fr, .ref ft, .ref fs, .long ufe_2, .long ufe_3])), (fr, aI g 132 ufr_1), (ft, aI g 68 uft_1)]) (w2 := [(xat, aJ g 8 xT), (xab, aJ g 8 xB), (xar, aJ g 8 xR), (xah, aI g 68 xH), (xs, .inr (0, [.ref xat, .ref xab, .ref xar, .ref xal, .ref xah, .int xk, .int xn])), (fe, .inr (1, [.ref fr, .ref ft, .ref fs, .long ufe_2, .long ufe_3])), (fr, aI g 132 ufr_1), (ft, aI g 68 uft_1), (xal, aI g 68 uxal_2), (fs, aI g 68 ufs_1)]) (sd_runS (rest := []) (As := [.ref xal, .int (0 : Int32), .ref fs, .int (0 : Int32), .int (66 : Int32), .int y_1]) S (ct_Wide_take l D g xal fs 68 68 (H.size) (0 : Int32) (0 : Int32) (66 : Int32) y_1 uxal_1 ufs_1 F (uxal_2) hc) kl_EndsFinder_60 (by decide) (by decide) hK hP hD [4, 9] rfl (by decide) rfl hl d_EndsFinder_find_93 rfl (Nat.le_of_ble_eq_true rfl) ⟨Nat.zero_le _, Nat.zero_le _⟩) hP hD hS hA [4, 9] [0, 1, 2, 3, 5, 6, 7, 8] rfl rfl (by decide) (by decide) rfl (fun H locs hP hD hS => ?_)
              refine lv_iload_n hx hb d_EndsFinder_find_96 rfl (lv_at hl 2 rfl) ?_
              refine lv_iload hx hb d_EndsFinder_find_97 (lv_at hl 4 rfl) ?_
              obtain ⟨y_2, hv, hm⟩ := sd_mb1 hm
              have J107_7 : ∀ (H : Heap) (locs : List Loc) (ls : Array Slot), va_P D classes [(xat, aJ g 8 xT), (xab, aJ g 8 xB), (xar, aJ g 8 xR), (xah, aI g 68 xH), (xs, .inr (0, [.ref xat, .ref xab, .ref xar, .ref xal, .ref xah, .int xk, .int xn])), (fe, .inr (1, [.ref fr, .ref ft, .ref fs, .long ufe_2, .long ufe_3])), (fr, aI g 132 ufr_1), (ft, aI g 68 uft_1), (xal, aI g 68 uxal_2), (fs, aI g 68 ufs_1)] H → va_D A [(xat, aJ g 8 xT), (xab, aJ g 8 xB), (xar, aJ g 8 xR), (xah, aI g 68 xH), (xs, .inr (0, [.ref xat, .ref xab, .ref xar, .ref xal, .ref xah, .int xk, .int xn])), (fe, .inr (1, [.ref fr, .ref ft, .ref fs, .long ufe_2, .long ufe_3])), (fr, aI g 132 ufr_1), (ft, aI g 68 uft_1), (xal, aI g 68 uxal_2), (fs, aI g 68 ufs_1)] → va_S A s.heap H locs → lv_has ls 5 [(0, .ref fe), (1, .ref xs), (3, .int x3)] → W p l e rm_EndsFinder_find s m args below meth c H locs 0 0 Q (F0 m 107 ls [.int y_2, .int x2]) := by
                intro H locs ls hP hD hS hl
                refine lv_iadd hx hb d_EndsFinder_find_107 ?_
                obtain ⟨x2_1, ex2_1, hm⟩ := sd_mlet hm
                refine sd_topi ex2_1 ?_
                refine lv_istore_n (lv' := [(2, .int x2_1), (0, .ref fe), (1, .ref xs), (3, .int x3)]) hx hb d_EndsFinder_find_108 rfl hl (by decide) rfl (fun ls hl => ?_)
                obtain ⟨x3_1, ex3_1, hm⟩ := sd_mlet hm
                refine lv_iinc (v := x3_1) (lv' := [(3, .int x3_1), (2, .int x2_1), (0, .ref fe), (1, .ref xs)]) hx hb d_EndsFinder_find_109 hl (k := 3) rfl (by rw [ex3_1]; rfl) (by decide) rfl (fun ls hl => ?_)
                refine lv_goto (tgt := 20) hx hb d_EndsFinder_find_112 (by decide) ?_
                exact ih x2_1 x3_1 ufe_2 ufe_3 ufr_1 uft_1 ufs_1 uxal_2 rx2 rufe rufe_1 rufr ruft rufs ruxal hm H locs ls (hP.sub [5, 6, 7, 9, 4, 0, 1, 2, 3, 8] rfl) (hD.sub [5, 6, 7, 9, 4, 0, 1, 2, 3, 8] (by decide) rfl) hS (lv_sub hl [2, 3, 1, 0] rfl) kx115
              replace hm := hv
              refine lv_if_eq (tgt := 106) hx hb d_EndsFinder_find_99 (by decide) (fun hc => ?_) (fun hc => ?_)
              · have hm := sd_mt hc hm
                refine lv_iconst (v := (0 : Int32)) hx hb d_EndsFinder_find_106 (by decide) ?_
                cases hm
                exact J107_7 H locs ls (hP.sub [0, 1, 2, 3, 4, 5, 6, 7, 8, 9] rfl) (hD.sub [0, 1, 2, 3, 4, 5, 6, 7, 8, 9] (by decide) rfl) hS (lv_sub hl [0, 1, 3] rfl)
              · have hm := sd_mf hc hm
                refine lv_iconst (v := (1 : Int32)) hx hb d_EndsFinder_find_102 (by decide) ?_
                refine lv_goto (tgt := 107) hx hb d_EndsFinder_find_103 (by decide) ?_
                cases hm
                exact J107_7 H locs ls (hP.sub [0, 1, 2, 3, 4, 5, 6, 7, 8, 9] rfl) (hD.sub [0, 1, 2, 3, 4, 5, 6, 7, 8, 9] (by decide) rfl) hS (lv_sub hl [0, 1, 3] rfl)
            replace hm := hv
            refine lv_if_eq (tgt := 92) hx hb d_EndsFinder_find_85 (by decide) (fun hc => ?_) (fun hc => ?_)
            · have hm := sd_mt hc hm
              refine lv_iconst (v := (-1 : Int32)) hx hb d_EndsFinder_find_92 (by decide) ?_
              cases hm
              exact J93_6 H locs ls (hP.sub [0, 1, 2, 3, 4, 5, 6, 7, 8, 9] rfl) (hD.sub [0, 1, 2, 3, 4, 5, 6, 7, 8, 9] (by decide) rfl) hS (lv_sub hl [1, 2, 3, 4, 0] rfl)
            · have hm := sd_mf hc hm
              refine lv_iconst (v := (1 : Int32)) hx hb d_EndsFinder_find_88 (by decide) ?_
              refine lv_goto (tgt := 93) hx hb d_EndsFinder_find_89 (by decide) ?_
              cases hm
              exact J93_6 H locs ls (hP.sub [0, 1, 2, 3, 4, 5, 6, 7, 8, 9] rfl) (hD.sub [0, 1, 2, 3, 4, 5, 6, 7, 8, 9] (by decide) rfl) hS (lv_sub hl [1, 2, 3, 4, 0] rfl)
          replace hm := hv
          refine sd_lge (tgt := 68) hx hb d_EndsFinder_find_60 d_EndsFinder_find_61 (by decide) (fun hc => ?_) (fun hc => ?_)
          · have hm := sd_mt hc hm
            refine lv_iconst (v := (0 : Int32)) hx hb d_EndsFinder_find_68 (by decide) ?_
            cases hm
            exact J69_5 H locs ls (hP.sub [0, 1, 2, 3, 4, 5, 6, 7, 8, 9] rfl) (hD.sub [0, 1, 2, 3, 4, 5, 6, 7, 8, 9] (by decide) rfl) hS (lv_sub hl [0, 1, 2, 3] rfl)
          · have hm := sd_mf hc hm
            refine lv_iconst (v := (1 : Int32)) hx hb d_EndsFinder_find_64 (by decide) ?_
            refine lv_goto (tgt := 69) hx hb d_EndsFinder_find_65 (by decide) ?_
            cases hm
            exact J69_5 H locs ls (hP.sub [0, 1, 2, 3, 4, 5, 6, 7, 8, 9] rfl) (hD.sub [0, 1, 2, 3, 4, 5, 6, 7, 8, 9] (by decide) rfl) hS (lv_sub hl [0, 1, 2, 3] rfl)
    obtain ⟨rx2, rufe, rufe_1, rufr, ruft, rufs, ruxal, hc, hm⟩ := sd_mb7 hm
    refine L20 F (0 : Int32) (0 : Int32) fR fQ cfr cft cfs uxal rx2 rufe rufe_1 rufr ruft rufs ruxal hc H locs ls (hP.sub [0, 1, 2, 3, 4, 5, 6, 7, 8, 9] rfl) (hD.sub [0, 1, 2, 3, 4, 5, 6, 7, 8, 9] (by decide) rfl) hS (lv_sub hl [2, 3, 1, 0] rfl) ?_
    intro H locs ls hP hD hS hl
    refine lv_aload_n hx hb d_EndsFinder_find_115 rfl (lv_at hl 0 rfl) ?_
    refine va_get (D := D) (ci := 0) (v := .ref xal) (C := R_Sum) (T := F_Sum) (N := 7) hx hb htt i_Sum hown hK hP 4 rfl rfl 3 (by decide) (htt _ kf_EndsFinder_27) (fun _ h9 => h9) rfl d_EndsFinder_find_116 ?_
    refine lv_iload_n hx hb d_EndsFinder_find_119 rfl (lv_at hl 1 rfl) ?_
    refine lv_ineg hx hb d_EndsFinder_find_120 ?_
    obtain ⟨uxal_3, hc, hm⟩ := sd_mb1 hm
    refine sd_cv1 (wr := [(fe, .inr (1, [.ref fr, .ref ft, .ref fs, .long rufe, .long rufe_1])), (fr, aI g 132 rufr), (ft, aI g 68 ruft), (fs, aI g 68 rufs), (xs, .inr (0, [.ref xat, .ref xab, .ref xar, .ref xal, .ref xah, .int xk, .int xn])), (xat, aJ g 8 xT), (xab, aJ g 8 xB), (xar, aJ g 8 xR), (xah, aI g 68 xH)]) (w2 := [(fe, .inr (1, [.ref fr, .ref ft, .ref fs, .long rufe, .long rufe_1])), (fr, aI g 132 rufr), (ft, aI g 68 ruft), (fs, aI g 68 rufs), (xs, .inr (0, [.ref xat, .ref xab, .ref xar, .ref xal, .ref xah, .int xk, .int xn])), (xat, aJ g 8 xT), (xab, aJ g 8 xB), (xar, aJ g 8 xR), (xah, aI g 68 xH), (xal, aI g 68 uxal_3)]) (sd_runS (rest := []) (As := [.ref xal, .int (-rx2)]) S (ct_Wide_addSmall l D g xal 68 (H.size) (-rx2) ruxal F (uxal_3) hc) kl_EndsFinder_64 (by decide) (by decide) hK hP hD [9] rfl (by decide) rfl hl d_EndsFinder_find_121 rfl (Nat.le_of_ble_eq_true rfl) ⟨Nat.zero_le _, Nat.zero_le _⟩) hP hD hS hA [9] [0, 1, 2, 3, 4, 5, 6, 7, 8] rfl rfl (by decide) (by decide) rfl (fun H locs hP hD hS => ?_)
    refine lv_aload_n hx hb d_EndsFinder_find_124 rfl (lv_at hl 0 rfl) ?_
    refine va_get (D := D) (ci := 0) (v := .ref xal) (C := R_Sum) (T := F_Sum) (N := 7) hx hb htt i_Sum hown hK hP 4 rfl rfl 3 (by decide) (htt _ kf_EndsFinder_27) (fun _ h9 => h9) rfl d_EndsFinder_find_125 ?_
    refine lv_iconst (v := (0 : Int32)) hx hb d_EndsFinder_find_128 (by decide) ?_
    refine lv_aload_n hx hb d_EndsFinder_find_129 rfl (lv_at hl 0 rfl) ?_
    refine va_get (D := D) (ci := 0) (v := .ref xah) (C := R_Sum) (T := F_Sum) (N := 7) hx hb htt i_Sum hown hK hP 4 rfl rfl 4 (by decide) (htt _ kf_EndsFinder_67) (fun _ h9 => h9) rfl d_EndsFinder_find_130 ?_
    refine lv_iconst (v := (0 : Int32)) hx hb d_EndsFinder_find_133 (by decide) ?_
    refine lv_bipush (v := (68 : Int32)) hx hb d_EndsFinder_find_134 (by decide) ?_
    obtain ⟨h_8, hm⟩ := sd_mg hm
    obtain ⟨uxah, euxah, hm⟩ := sd_mlet hm
    refine sd_copyI (f2 := uxah) (ws2 := [(fe, .inr (1, [.ref fr, .ref ft, .ref fs, .long rufe, .long rufe_1])), (fr, aI g 132 rufr), (ft, aI g 68 ruft), (fs, aI g 68 rufs), (xs, .inr (0, [.ref xat, .ref xab, .ref xar, .ref xal, .ref xah, .int xk, .int xn])), (xat, aJ g 8 xT), (xab, aJ g 8 xB), (xar, aJ g 8 xR), (xah, aI g 68 uxah), (xal, aI g 68 uxal_3)]) hx hb hml hown kl_EndsFinder_70 htt hl hK hP hD hS 9 8 rfl rfl h_8 euxah rfl d_EndsFinder_find_136 (Nat.le_of_ble_eq_true rfl) (Nat.le_of_ble_eq_true rfl) (fun H locs hP hD hS => ?_)
    refine lv_aload_n hx hb d_EndsFinder_find_139 rfl (lv_at hl 0 rfl) ?_
    refine va_get (D := D) (ci := 0) (v := .ref xah) (C := R_Sum) (T := F_Sum) (N := 7) hx hb htt i_Sum hown hK hP 4 rfl rfl 4 (by decide) (htt _ kf_EndsFinder_67) (fun _ h9 => h9) rfl d_EndsFinder_find_140 ?_
    refine lv_aload_n hx hb d_EndsFinder_find_143 rfl (lv_at hl 0 rfl) ?_
    obtain ⟨r_1, hc, hm⟩ := sd_mb1 hm
    refine sd_ci0 (wr := [(fe, .inr (1, [.ref fr, .ref ft, .ref fs, .long rufe, .long rufe_1])), (fr, aI g 132 rufr), (ft, aI g 68 ruft), (fs, aI g 68 rufs), (xat, aJ g 8 xT), (xab, aJ g 8 xB), (xar, aJ g 8 xR), (xah, aI g 68 uxah), (xal, aI g 68 uxal_3)]) (w2 := [(fe, .inr (1, [.ref fr, .ref ft, .ref fs, .long rufe, .long rufe_1])), (fr, aI g 132 rufr), (ft, aI g 68 ruft), (fs, aI g 68 rufs), (xat, aJ g 8 xT), (xab, aJ g 8 xB), (xar, aJ g 8 xR), (xah, aI g 68 uxah), (xal, aI g 68 uxal_3), (xs, .inr (0, [.ref xat, .ref xab, .ref xar, .ref xal, .ref xah, .int xk, .int xn]))]) (sd_runV (rest := [.ref xah]) (As := []) S (ct_Sum_count l D g xs xat xab xar xal xah (H.size) xk xn F (r_1) hc) kl_EndsFinder_36 (by decide) (by decide) hK hP hD [4] rfl (by decide) rfl hl d_EndsFinder_find_144 rfl (Nat.le_of_ble_eq_true rfl) ⟨Nat.zero_le _, Nat.zero_le _⟩ 4 rfl rfl) hP hD hS hA [4] [0, 1, 2, 3, 5, 6, 7, 8, 9] rfl rfl (by decide) (by decide) rfl (fun H locs hP hD hS => ?_)
    refine W.eq (g2 := F0 m 147 ls [.int r_1, .ref xah]) rfl ?_
    obtain ⟨uxah_1, hc, hm⟩ := sd_mb1 hm
    refine sd_cv1 (wr := [(fe, .inr (1, [.ref fr, .ref ft, .ref fs, .long rufe, .long rufe_1])), (fr, aI g 132 rufr), (ft, aI g 68 ruft), (fs, aI g 68 rufs), (xat, aJ g 8 xT), (xab, aJ g 8 xB), (xar, aJ g 8 xR), (xal, aI g 68 uxal_3), (xs, .inr (0, [.ref xat, .ref xab, .ref xar, .ref xal, .ref xah, .int xk, .int xn]))]) (w2 := [(fe, .inr (1, [.ref fr, .ref ft, .ref fs, .long rufe, .long rufe_1])), (fr, aI g 132 rufr), (ft, aI g 68 ruft), (fs, aI g 68 rufs), (xat, aJ g 8 xT), (xab, aJ g 8 xB), (xar, aJ g 8 xR), (xal, aI g 68 uxal_3), (xs, .inr (0, [.ref xat, .ref xab, .ref xar, .ref xal, .ref xah, .int xk, .int xn])), (xah, aI g 68 uxah_1)]) (sd_runS (rest := []) (As := [.ref xah, .int r_1]) S (ct_Wide_addSmall l D g xah 68 (H.size) r_1 uxah F (uxah_1) hc) kl_EndsFinder_64 (by decide) (by decide) hK hP hD [7] rfl (by decide) rfl hl d_EndsFinder_find_147 rfl (Nat.le_of_ble_eq_true rfl) ⟨Nat.zero_le _, Nat.zero_le _⟩) hP hD hS hA [7] [0, 1, 2, 3, 4, 5, 6, 8, 9] rfl rfl (by decide) (by decide) rfl (fun H locs hP hD hS => ?_)
    refine lv_aload_n hx hb d_EndsFinder_find_150 rfl (lv_at hl 0 rfl) ?_
    refine lv_iconst (v := (1 : Int32)) hx hb d_EndsFinder_find_151 (by decide) ?_
    refine sd_put (ci := 0) (v := .int (1 : Int32)) (ty := .boolean) (C := R_Sum) (T := F_Sum) (N := 7) (ws2 := [(fe, .inr (1, [.ref fr, .ref ft, .ref fs, .long rufe, .long rufe_1])), (fr, aI g 132 rufr), (ft, aI g 68 ruft), (fs, aI g 68 rufs), (xat, aJ g 8 xT), (xab, aJ g 8 xB), (xar, aJ g 8 xR), (xal, aI g 68 uxal_3), (xs, .inr (0, [.ref xat, .ref xab, .ref xar, .ref xal, .ref xah, .int (1 : Int32), .int xn])), (xah, aI g 68 uxah_1)]) hx hb htt i_Sum t_Sum t_Sum_ok n_Sum hown hK hP hD hS 8 rfl rfl 5 (by decide) kf_EndsFinder_21 (fun _ h9 => h9) rfl (by decide +kernel) rfl rfl (Nat.le_of_ble_eq_true rfl) rfl d_EndsFinder_find_152 (fun H locs hP hD hS => ?_)
    exact sd_v1ret (u := (rufe, rufe_1, rufr, ruft, rufs, (1 : Int32), uxal_3, uxah_1)) hQ hx hb hr hlk hK (hP.sub [0, 1, 2, 3, 8, 4, 5, 6, 7, 9] rfl) (hD.sub [0, 1, 2, 3, 8, 4, 5, 6, 7, 9] (by decide) rfl) hS (Option.some.inj hm).symm d_EndsFinder_find_155
  · have hm := sd_mf hc hm
    exact sd_v1ret (u := (fR, fQ, cfr, cft, cfs, xk, xL, xH)) hQ hx hb hr hlk hK (hP.sub [0, 1, 2, 3, 4, 5, 6, 7, 8, 9] rfl) (hD.sub [0, 1, 2, 3, 4, 5, 6, 7, 8, 9] (by decide) rfl) hS (Option.some.inj hm).symm d_EndsFinder_find_7
