/-! Sum_addToTerm, Sum_add, Sum_addProduct, Sum_addProduct2, Sum_becomeProducts, Sum_becomeProducts2, Sum_becomeSum, Sum_becomeSum2, Sum_becomeInverse -/
theorem kl_Sum_47 : sd_LV R_Sum 47 y_Sum_add b_Sum_add 8 (some .boolean) 3 := ⟨(sd_in (List.mem_of_getElem? (i := 260) (by decide +kernel)) rfl), (sd_in (List.mem_of_getElem? (i := 262) (by decide +kernel)) rfl), (sd_in (List.mem_of_getElem? (i := 3) (by decide +kernel)) rfl), (sd_in (List.mem_of_getElem? (i := 36) (by decide +kernel)) rfl), (sd_in (List.mem_of_getElem? (i := 263) (by decide +kernel)) rfl), by decide +kernel, by decide +kernel, by decide +kernel⟩
theorem kl_Sum_51 : sd_LV R_Sum 51 y_Sum_addProduct b_Sum_addProduct 29 (some .boolean) 4 := ⟨(sd_in (List.mem_of_getElem? (i := 251) (by decide +kernel)) rfl), (sd_in (List.mem_of_getElem? (i := 253) (by decide +kernel)) rfl), (sd_in (List.mem_of_getElem? (i := 2) (by decide +kernel)) rfl), (sd_in (List.mem_of_getElem? (i := 36) (by decide +kernel)) rfl), (sd_in (List.mem_of_getElem? (i := 254) (by decide +kernel)) rfl), by decide +kernel, by decide +kernel, by decide +kernel⟩
theorem kl_Sum_55 : sd_LS R_Sum 55 y_Whole_commonDivisor b_Whole_commonDivisor 11 (some .long) 2 := ⟨(sd_in (List.mem_of_getElem? (i := 255) (by decide +kernel)) rfl), (sd_in (List.mem_of_getElem? (i := 196) (by decide +kernel)) rfl), (sd_in (List.mem_of_getElem? (i := 41) (by decide +kernel)) rfl), (sd_in (List.mem_of_getElem? (i := 197) (by decide +kernel)) rfl), by decide +kernel, by decide +kernel, by decide +kernel⟩
theorem kl_Sum_61 : sd_LS R_Sum 61 Lib.MathLoose.abs_long.x Lib.MathLoose.abs_long.code 2 (some .long) 1 := ⟨(sd_in (List.mem_of_getElem? (i := 256) (by decide +kernel)) rfl), (sd_in (List.mem_of_getElem? (i := 257) (by decide +kernel)) rfl), (sd_in (List.mem_of_getElem? (i := 42) (by decide +kernel)) rfl), (sd_in (List.mem_of_getElem? (i := 258) (by decide +kernel)) rfl), by decide +kernel, by decide +kernel, by decide +kernel⟩
theorem kl_Sum_67 : sd_LS R_Sum 67 y_Whole_isTooGreat b_Whole_isTooGreat 2 (some .boolean) 1 := ⟨(sd_in (List.mem_of_getElem? (i := 259) (by decide +kernel)) rfl), (sd_in (List.mem_of_getElem? (i := 203) (by decide +kernel)) rfl), (sd_in (List.mem_of_getElem? (i := 41) (by decide +kernel)) rfl), (sd_in (List.mem_of_getElem? (i := 204) (by decide +kernel)) rfl), by decide +kernel, by decide +kernel, by decide +kernel⟩
theorem kl_Sum_71 : sd_LV R_Sum 71 y_Sum_become b_Sum_become 7 none 3 := ⟨(sd_in (List.mem_of_getElem? (i := 295) (by decide +kernel)) rfl), (sd_in (List.mem_of_getElem? (i := 207) (by decide +kernel)) rfl), (sd_in (List.mem_of_getElem? (i := 208) (by decide +kernel)) rfl), (sd_in (List.mem_of_getElem? (i := 36) (by decide +kernel)) rfl), (sd_in (List.mem_of_getElem? (i := 209) (by decide +kernel)) rfl), by decide +kernel, by decide +kernel, by decide +kernel⟩
theorem kl_Sum_79 : sd_LV R_Sum 79 y_Sum_addToTerm b_Sum_addToTerm 12 (some .boolean) 3 := ⟨(sd_in (List.mem_of_getElem? (i := 264) (by decide +kernel)) rfl), (sd_in (List.mem_of_getElem? (i := 266) (by decide +kernel)) rfl), (sd_in (List.mem_of_getElem? (i := 4) (by decide +kernel)) rfl), (sd_in (List.mem_of_getElem? (i := 36) (by decide +kernel)) rfl), (sd_in (List.mem_of_getElem? (i := 267) (by decide +kernel)) rfl), by decide +kernel, by decide +kernel, by decide +kernel⟩
theorem kl_Sum_83 : sd_LV R_Sum 83 y_Sum_move b_Sum_move 3 none 2 := ⟨(sd_in (List.mem_of_getElem? (i := 268) (by decide +kernel)) rfl), (sd_in (List.mem_of_getElem? (i := 270) (by decide +kernel)) rfl), (sd_in (List.mem_of_getElem? (i := 5) (by decide +kernel)) rfl), (sd_in (List.mem_of_getElem? (i := 36) (by decide +kernel)) rfl), (sd_in (List.mem_of_getElem? (i := 271) (by decide +kernel)) rfl), by decide +kernel, by decide +kernel, by decide +kernel⟩
theorem d_Sum_addToTerm_0 : decode b_Sum_addToTerm 0 = .ok (.aload_n 0, 1) := by decide +kernel
theorem d_Sum_addToTerm_1 : decode b_Sum_addToTerm 1 = .ok (.getfield 9, 3) := by decide +kernel
theorem d_Sum_addToTerm_4 : decode b_Sum_addToTerm 4 = .ok (.iload_n 1, 1) := by decide +kernel
theorem d_Sum_addToTerm_5 : decode b_Sum_addToTerm 5 = .ok (.laload, 1) := by decide +kernel
theorem d_Sum_addToTerm_6 : decode b_Sum_addToTerm 6 = .ok (.lload 4, 2) := by decide +kernel
theorem d_Sum_addToTerm_8 : decode b_Sum_addToTerm 8 = .ok (.lmul, 1) := by decide +kernel
theorem d_Sum_addToTerm_9 : decode b_Sum_addToTerm 9 = .ok (.lload_n 2, 1) := by decide +kernel
theorem d_Sum_addToTerm_10 : decode b_Sum_addToTerm 10 = .ok (.aload_n 0, 1) := by decide +kernel
theorem d_Sum_addToTerm_11 : decode b_Sum_addToTerm 11 = .ok (.getfield 13, 3) := by decide +kernel
theorem d_Sum_addToTerm_14 : decode b_Sum_addToTerm 14 = .ok (.iload_n 1, 1) := by decide +kernel
theorem d_Sum_addToTerm_15 : decode b_Sum_addToTerm 15 = .ok (.laload, 1) := by decide +kernel
theorem d_Sum_addToTerm_16 : decode b_Sum_addToTerm 16 = .ok (.lmul, 1) := by decide +kernel
theorem d_Sum_addToTerm_17 : decode b_Sum_addToTerm 17 = .ok (.ladd, 1) := by decide +kernel
theorem d_Sum_addToTerm_18 : decode b_Sum_addToTerm 18 = .ok (.lstore 6, 2) := by decide +kernel
theorem d_Sum_addToTerm_20 : decode b_Sum_addToTerm 20 = .ok (.aload_n 0, 1) := by decide +kernel
theorem d_Sum_addToTerm_21 : decode b_Sum_addToTerm 21 = .ok (.getfield 13, 3) := by decide +kernel
theorem d_Sum_addToTerm_24 : decode b_Sum_addToTerm 24 = .ok (.iload_n 1, 1) := by decide +kernel
theorem d_Sum_addToTerm_25 : decode b_Sum_addToTerm 25 = .ok (.laload, 1) := by decide +kernel
theorem d_Sum_addToTerm_26 : decode b_Sum_addToTerm 26 = .ok (.lload 4, 2) := by decide +kernel
theorem d_Sum_addToTerm_28 : decode b_Sum_addToTerm 28 = .ok (.lmul, 1) := by decide +kernel
theorem d_Sum_addToTerm_29 : decode b_Sum_addToTerm 29 = .ok (.lstore 8, 2) := by decide +kernel
theorem d_Sum_addToTerm_31 : decode b_Sum_addToTerm 31 = .ok (.lload 6, 2) := by decide +kernel
theorem d_Sum_addToTerm_33 : decode b_Sum_addToTerm 33 = .ok (.lconst 0, 1) := by decide +kernel
theorem d_Sum_addToTerm_34 : decode b_Sum_addToTerm 34 = .ok (.lcmp, 1) := by decide +kernel
theorem d_Sum_addToTerm_35 : decode b_Sum_addToTerm 35 = .ok (.ifCond .ne 23, 3) := by decide +kernel
theorem d_Sum_addToTerm_38 : decode b_Sum_addToTerm 38 = .ok (.aload_n 0, 1) := by decide +kernel
theorem d_Sum_addToTerm_39 : decode b_Sum_addToTerm 39 = .ok (.iload_n 1, 1) := by decide +kernel
theorem d_Sum_addToTerm_40 : decode b_Sum_addToTerm 40 = .ok (.iconst 1, 1) := by decide +kernel
theorem d_Sum_addToTerm_41 : decode b_Sum_addToTerm 41 = .ok (.iadd, 1) := by decide +kernel
theorem d_Sum_addToTerm_42 : decode b_Sum_addToTerm 42 = .ok (.iload_n 1, 1) := by decide +kernel
theorem d_Sum_addToTerm_43 : decode b_Sum_addToTerm 43 = .ok (.invokevirtual 83, 3) := by decide +kernel
theorem d_Sum_addToTerm_46 : decode b_Sum_addToTerm 46 = .ok (.aload_n 0, 1) := by decide +kernel
theorem d_Sum_addToTerm_47 : decode b_Sum_addToTerm 47 = .ok (.dup, 1) := by decide +kernel
theorem d_Sum_addToTerm_48 : decode b_Sum_addToTerm 48 = .ok (.getfield 28, 3) := by decide +kernel
theorem d_Sum_addToTerm_51 : decode b_Sum_addToTerm 51 = .ok (.iconst 1, 1) := by decide +kernel
theorem d_Sum_addToTerm_52 : decode b_Sum_addToTerm 52 = .ok (.isub, 1) := by decide +kernel
theorem d_Sum_addToTerm_53 : decode b_Sum_addToTerm 53 = .ok (.putfield 28, 3) := by decide +kernel
theorem d_Sum_addToTerm_56 : decode b_Sum_addToTerm 56 = .ok (.iconst 1, 1) := by decide +kernel
theorem d_Sum_addToTerm_57 : decode b_Sum_addToTerm 57 = .ok (.ireturn, 1) := by decide +kernel
theorem d_Sum_addToTerm_58 : decode b_Sum_addToTerm 58 = .ok (.lload 6, 2) := by decide +kernel
theorem d_Sum_addToTerm_60 : decode b_Sum_addToTerm 60 = .ok (.lload 8, 2) := by decide +kernel
theorem d_Sum_addToTerm_62 : decode b_Sum_addToTerm 62 = .ok (.invokestatic 55, 3) := by decide +kernel
theorem d_Sum_addToTerm_65 : decode b_Sum_addToTerm 65 = .ok (.lstore 10, 2) := by decide +kernel
theorem d_Sum_addToTerm_67 : decode b_Sum_addToTerm 67 = .ok (.lload 6, 2) := by decide +kernel
theorem d_Sum_addToTerm_69 : decode b_Sum_addToTerm 69 = .ok (.lload 10, 2) := by decide +kernel
theorem d_Sum_addToTerm_71 : decode b_Sum_addToTerm 71 = .ok (.ldiv, 1) := by decide +kernel
theorem d_Sum_addToTerm_72 : decode b_Sum_addToTerm 72 = .ok (.lstore 6, 2) := by decide +kernel
theorem d_Sum_addToTerm_74 : decode b_Sum_addToTerm 74 = .ok (.lload 8, 2) := by decide +kernel
theorem d_Sum_addToTerm_76 : decode b_Sum_addToTerm 76 = .ok (.lload 10, 2) := by decide +kernel
theorem d_Sum_addToTerm_78 : decode b_Sum_addToTerm 78 = .ok (.ldiv, 1) := by decide +kernel
theorem d_Sum_addToTerm_79 : decode b_Sum_addToTerm 79 = .ok (.lstore 8, 2) := by decide +kernel
theorem d_Sum_addToTerm_81 : decode b_Sum_addToTerm 81 = .ok (.lload 6, 2) := by decide +kernel
theorem d_Sum_addToTerm_83 : decode b_Sum_addToTerm 83 = .ok (.invokestatic 61, 3) := by decide +kernel
theorem d_Sum_addToTerm_86 : decode b_Sum_addToTerm 86 = .ok (.invokestatic 67, 3) := by decide +kernel
theorem d_Sum_addToTerm_89 : decode b_Sum_addToTerm 89 = .ok (.ifCond .ne 11, 3) := by decide +kernel
theorem d_Sum_addToTerm_92 : decode b_Sum_addToTerm 92 = .ok (.lload 8, 2) := by decide +kernel
theorem d_Sum_addToTerm_94 : decode b_Sum_addToTerm 94 = .ok (.invokestatic 67, 3) := by decide +kernel
theorem d_Sum_addToTerm_97 : decode b_Sum_addToTerm 97 = .ok (.ifCond .eq 5, 3) := by decide +kernel
theorem d_Sum_addToTerm_100 : decode b_Sum_addToTerm 100 = .ok (.iconst 0, 1) := by decide +kernel
theorem d_Sum_addToTerm_101 : decode b_Sum_addToTerm 101 = .ok (.ireturn, 1) := by decide +kernel
theorem d_Sum_addToTerm_102 : decode b_Sum_addToTerm 102 = .ok (.aload_n 0, 1) := by decide +kernel
theorem d_Sum_addToTerm_103 : decode b_Sum_addToTerm 103 = .ok (.iload_n 1, 1) := by decide +kernel
theorem d_Sum_addToTerm_104 : decode b_Sum_addToTerm 104 = .ok (.lload 6, 2) := by decide +kernel
theorem d_Sum_addToTerm_106 : decode b_Sum_addToTerm 106 = .ok (.lload 8, 2) := by decide +kernel
theorem d_Sum_addToTerm_108 : decode b_Sum_addToTerm 108 = .ok (.aload_n 0, 1) := by decide +kernel
theorem d_Sum_addToTerm_109 : decode b_Sum_addToTerm 109 = .ok (.getfield 16, 3) := by decide +kernel
theorem d_Sum_addToTerm_112 : decode b_Sum_addToTerm 112 = .ok (.iload_n 1, 1) := by decide +kernel
theorem d_Sum_addToTerm_113 : decode b_Sum_addToTerm 113 = .ok (.laload, 1) := by decide +kernel
theorem d_Sum_addToTerm_114 : decode b_Sum_addToTerm 114 = .ok (.invokevirtual 43, 3) := by decide +kernel
theorem d_Sum_addToTerm_117 : decode b_Sum_addToTerm 117 = .ok (.iconst 1, 1) := by decide +kernel
theorem d_Sum_addToTerm_118 : decode b_Sum_addToTerm 118 = .ok (.ireturn, 1) := by decide +kernel
def mf_Sum_addToTerm (F : Nat) (vAt : Int32) (vTop : Int64) (vBot : Int64) (xk : Int32) (xn : Int32) (xT : Nat → Int64) (xB : Nat → Int64) (xR : Nat → Int64) : Option (Int32 × Int32 × (Nat → Int64) × (Nat → Int64) × (Nat → Int64)) :=
  (sd_g (sd_ix vAt 8) (sd_g (sd_ix vAt 8) (sd_let ((((xT vAt.toNatClampNeg) * vBot) + (vTop * (xB vAt.toNatClampNeg)))) fun x6 => (sd_g (sd_ix vAt 8) (sd_let (((xB vAt.toNatClampNeg) * vBot)) fun x8 => (if x6 = (0 : Int64) then (sd_b3 (mf_Sum_move F (vAt + (1 : Int32)) vAt xk xn xT xB xR) fun uxat_1 uxab_1 uxar_1 => (sd_let ((xn - (1 : Int32))) fun uxscount => (some ((1 : Int32), uxscount, uxat_1, uxab_1, uxar_1)))) else (sd_b1 (mf_Whole_commonDivisor F x6 x8) fun r => (sd_g (sd_zJ r) (sd_let ((x6 / r)) fun x6_1 => (sd_g (sd_zJ r) (sd_let ((x8 / r)) fun x8_1 => (sd_b1 (mf_Whole_isTooGreat F (if 0 < x6_1 then x6_1 else -x6_1)) fun r_1 => (if r_1 = 0 then (sd_b1 (mf_Whole_isTooGreat F x8_1) fun r_2 => (if r_2 = 0 then (sd_g (sd_ix vAt 8) (sd_b3 (mf_Sum_put F vAt x6_1 x8_1 (xR vAt.toNatClampNeg) xk xn xT xB xR) fun uxat uxab uxar => (some ((1 : Int32), xn, uxat, uxab, uxar)))) else (some ((0 : Int32), xn, xT, xB, xR)))) else (some ((0 : Int32), xn, xT, xB, xR)))))))))))))))
abbrev rm_Sum_addToTerm : Room := { frames := 2, cells := 0, slots := 0, locals := 102 }
set_option maxHeartbeats 4000000 in
set_option maxRecDepth 100000 in
theorem ct_Sum_addToTerm (l : Launch) (D : va_G) (g : G4) (xs : Nat) (xat : Nat) (xab : Nat) (xar : Nat) (xal : Nat) (xah : Nat) (sz : Nat) (vAt : Int32) (vTop : Int64) (vBot : Int64) (xk : Int32) (xn : Int32) (xT : Nat → Int64) (xB : Nat → Int64) (xR : Nat → Int64) (F : Nat) (res : Int32 × Int32 × (Nat → Int64) × (Nat → Int64) × (Nat → Int64)) (hm : mf_Sum_addToTerm F vAt vTop vBot xk xn xT xB xR = some res) : Met l y_Sum_addToTerm (.code y_Sum_addToTerm b_Sum_addToTerm 12 (some .boolean) :: sd_tb) rm_Sum_addToTerm (sd_PW D g [.ref xs, .int vAt, .long vTop, .long vBot] sz [(xs, .inr (0, [.ref xat, .ref xab, .ref xar, .ref xal, .ref xah, .int xk, .int xn])), (xat, aJ g 8 xT), (xab, aJ g 8 xB), (xar, aJ g 8 xR)]) (sd_Qi1 D g res (fun u : Int32 × (Nat → Int64) × (Nat → Int64) × (Nat → Int64) => [(xs, .inr (0, [.ref xat, .ref xab, .ref xar, .ref xal, .ref xah, .int xk, .int (u.1)])), (xat, aJ g 8 (u.2.1)), (xab, aJ g 8 (u.2.2.1)), (xar, aJ g 8 (u.2.2.2))]) (va_A [(xs, .inr (0, [.ref xat, .ref xab, .ref xar, .ref xal, .ref xah, .int xk, .int xn])), (xat, aJ g 8 xT), (xab, aJ g 8 xB), (xar, aJ g 8 xR)] sz)) 0 0 (va_A [(xs, .inr (0, [.ref xat, .ref xab, .ref xar, .ref xal, .ref xah, .int xk, .int xn])), (xat, aJ g 8 xT), (xab, aJ g 8 xB), (xar, aJ g 8 xR)] sz) := by
  refine sd_met (Qf := fun A => sd_Qi1 D g res (fun u : Int32 × (Nat → Int64) × (Nat → Int64) × (Nat → Int64) => [(xs, .inr (0, [.ref xat, .ref xab, .ref xar, .ref xal, .ref xah, .int xk, .int (u.1)])), (xat, aJ g 8 (u.2.1)), (xab, aJ g 8 (u.2.2.1)), (xar, aJ g 8 (u.2.2.2))]) A) (own := R_Sum) (by decide +kernel) rfl (Nat.le_of_ble_eq_true rfl) ?_
  intro p e s m args below meth c S hr hlk hK A hA Q hQ H locs hP hD hS ls hl
  have hx := S.1
  have hb := S.2.1
  have hml := S.2.2.1
  have hown := S.2.2.2.1
  have htt := sd_tt S
  replace hl : lv_has ls 12 [(0, .ref xs), (1, .int vAt), (2, .long vTop), (4, .long vBot)] := hl
  unfold mf_Sum_addToTerm at hm
  refine lv_aload_n hx hb d_Sum_addToTerm_0 rfl (lv_at hl 0 rfl) ?_
  refine va_get (D := D) (ci := 0) (v := .ref xat) (C := R_Sum) (T := F_Sum) (N := 7) hx hb htt i_Sum hown hK hP 0 rfl rfl 0 (by decide) (htt _ kf_Sum_9) (fun _ h9 => h9) rfl d_Sum_addToTerm_1 ?_
  refine lv_iload_n hx hb d_Sum_addToTerm_4 rfl (lv_at hl 1 rfl) ?_
  obtain ⟨h_1, hm⟩ := sd_mg hm
  refine sd_lald hx hb hK hP 1 rfl h_1 d_Sum_addToTerm_5 ?_
  refine lv_lload hx hb d_Sum_addToTerm_6 (lv_at hl 3 rfl) ?_
  refine lv_lmul hx hb d_Sum_addToTerm_8 ?_
  refine lv_lload_n hx hb d_Sum_addToTerm_9 rfl (lv_at hl 2 rfl) ?_
  refine lv_aload_n hx hb d_Sum_addToTerm_10 rfl (lv_at hl 0 rfl) ?_
  refine va_get (D := D) (ci := 0) (v := .ref xab) (C := R_Sum) (T := F_Sum) (N := 7) hx hb htt i_Sum hown hK hP 0 rfl rfl 1 (by decide) (htt _ kf_Sum_13) (fun _ h9 => h9) rfl d_Sum_addToTerm_11 ?_
  refine lv_iload_n hx hb d_Sum_addToTerm_14 rfl (lv_at hl 1 rfl) ?_
  obtain ⟨h_2, hm⟩ := sd_mg hm
  refine sd_lald hx hb hK hP 2 rfl h_2 d_Sum_addToTerm_15 ?_
  refine lv_lmul hx hb d_Sum_addToTerm_16 ?_
  refine lv_ladd hx hb d_Sum_addToTerm_17 ?_
  obtain ⟨x6, ex6, hm⟩ := sd_mlet hm
  refine sd_topj ex6 ?_
  refine lv_lstore (lv' := [(6, .long x6), (0, .ref xs), (1, .int vAt), (2, .long vTop), (4, .long vBot)]) hx hb d_Sum_addToTerm_18 hl (by decide) rfl (fun ls hl => ?_)
  refine lv_aload_n hx hb d_Sum_addToTerm_20 rfl (lv_at hl 1 rfl) ?_
  refine va_get (D := D) (ci := 0) (v := .ref xab) (C := R_Sum) (T := F_Sum) (N := 7) hx hb htt i_Sum hown hK hP 0 rfl rfl 1 (by decide) (htt _ kf_Sum_13) (fun _ h9 => h9) rfl d_Sum_addToTerm_21 ?_
  refine lv_iload_n hx hb d_Sum_addToTerm_24 rfl (lv_at hl 2 rfl) ?_
  obtain ⟨h_3, hm⟩ := sd_mg hm
  refine sd_lald hx hb hK hP 2 rfl h_3 d_Sum_addToTerm_25 ?_
  refine lv_lload hx hb d_Sum_addToTerm_26 (lv_at hl 4 rfl) ?_
  refine lv_lmul hx hb d_Sum_addToTerm_28 ?_
  obtain ⟨x8, ex8, hm⟩ := sd_mlet hm
  refine sd_topj ex8 ?_
  refine lv_lstore (lv' := [(8, .long x8), (6, .long x6), (0, .ref xs), (1, .int vAt), (2, .long vTop), (4, .long vBot)]) hx hb d_Sum_addToTerm_29 hl (by decide) rfl (fun ls hl => ?_)
  refine lv_lload hx hb d_Sum_addToTerm_31 (lv_at hl 1 rfl) ?_
  refine lv_lconst (v := (0 : Int64)) hx hb d_Sum_addToTerm_33 (by decide) ?_
  refine sd_lne (tgt := 58) hx hb d_Sum_addToTerm_34 d_Sum_addToTerm_35 (by decide) (fun hc => ?_) (fun hc => ?_)
  · have hm := sd_mf hc hm
    refine lv_lload hx hb d_Sum_addToTerm_58 (lv_at hl 1 rfl) ?_
    refine lv_lload hx hb d_Sum_addToTerm_60 (lv_at hl 0 rfl) ?_
    obtain ⟨r, hc, hm⟩ := sd_mb1 hm
    refine sd_cl0 (wr := [(xs, .inr (0, [.ref xat, .ref xab, .ref xar, .ref xal, .ref xah, .int xk, .int xn])), (xat, aJ g 8 xT), (xab, aJ g 8 xB), (xar, aJ g 8 xR)]) (w2 := [(xs, .inr (0, [.ref xat, .ref xab, .ref xar, .ref xal, .ref xah, .int xk, .int xn])), (xat, aJ g 8 xT), (xab, aJ g 8 xB), (xar, aJ g 8 xR)]) (sd_runS (rest := []) (As := [.long x6, .long x8]) S (ct_Whole_commonDivisor l D g (H.size) x6 x8 F (r) hc) kl_Sum_55 (by decide) (by decide) hK hP hD [] rfl (by decide) rfl hl d_Sum_addToTerm_62 rfl (Nat.le_of_ble_eq_true rfl) ⟨Nat.zero_le _, Nat.zero_le _⟩) hP hD hS hA [] [0, 1, 2, 3] rfl rfl (by decide) (by decide) rfl (fun H locs hP hD hS => ?_)
    refine W.eq (g2 := F0 m 65 ls [.long r]) rfl ?_
    refine lv_lstore (lv' := [(10, .long r), (8, .long x8), (6, .long x6), (0, .ref xs), (1, .int vAt), (2, .long vTop), (4, .long vBot)]) hx hb d_Sum_addToTerm_65 hl (by decide) rfl (fun ls hl => ?_)
    refine lv_lload hx hb d_Sum_addToTerm_67 (lv_at hl 2 rfl) ?_
    refine lv_lload hx hb d_Sum_addToTerm_69 (lv_at hl 0 rfl) ?_
    obtain ⟨h_4, hm⟩ := sd_mg hm
    refine lv_ldiv hx hb d_Sum_addToTerm_71 (sd_nzJ h_4) ?_
    obtain ⟨x6_1, ex6_1, hm⟩ := sd_mlet hm
    refine sd_topj ex6_1 ?_
    refine lv_lstore (lv' := [(6, .long x6_1), (10, .long r), (8, .long x8), (0, .ref xs), (1, .int vAt), (2, .long vTop), (4, .long vBot)]) hx hb d_Sum_addToTerm_72 hl (by decide) rfl (fun ls hl => ?_)
    refine lv_lload hx hb d_Sum_addToTerm_74 (lv_at hl 2 rfl) ?_
    refine lv_lload hx hb d_Sum_addToTerm_76 (lv_at hl 1 rfl) ?_
    obtain ⟨h_5, hm⟩ := sd_mg hm
    refine lv_ldiv hx hb d_Sum_addToTerm_78 (sd_nzJ h_5) ?_
    obtain ⟨x8_1, ex8_1, hm⟩ := sd_mlet hm
    refine sd_topj ex8_1 ?_
    refine lv_lstore (lv' := [(8, .long x8_1), (6, .long x6_1), (10, .long r), (0, .ref xs), (1, .int vAt), (2, .long vTop), (4, .long vBot)]) hx hb d_Sum_addToTerm_79 hl (by decide) rfl (fun ls hl => ?_)
    refine lv_lload hx hb d_Sum_addToTerm_81 (lv_at hl 1 rfl) ?_
    refine sd_abs hx hb hml hown kl_Sum_61 htt hl d_Sum_addToTerm_83 (Nat.le_of_ble_eq_true rfl) (Nat.le_of_ble_eq_true rfl) ?_
    obtain ⟨r_1, hc, hm⟩ := sd_mb1 hm
    refine sd_ci0 (wr := [(xs, .inr (0, [.ref xat, .ref xab, .ref xar, .ref xal, .ref xah, .int xk, .int xn])), (xat, aJ g 8 xT), (xab, aJ g 8 xB), (xar, aJ g 8 xR)]) (w2 := [(xs, .inr (0, [.ref xat, .ref xab, .ref xar, .ref xal, .ref xah, .int xk, .int xn])), (xat, aJ g 8 xT), (xab, aJ g 8 xB), (xar, aJ g 8 xR)]) (sd_runS (rest := []) (As := [.long (if 0 < x6_1 then x6_1 else -x6_1)]) S (ct_Whole_isTooGreat l D g (H.size) (if 0 < x6_1 then x6_1 else -x6_1) F (r_1) hc) kl_Sum_67 (by decide) (by decide) hK hP hD [] rfl (by decide) rfl hl d_Sum_addToTerm_86 rfl (Nat.le_of_ble_eq_true rfl) ⟨Nat.zero_le _, Nat.zero_le _⟩) hP hD hS hA [] [0, 1, 2, 3] rfl rfl (by decide) (by decide) rfl (fun H locs hP hD hS => ?_)
    refine W.eq (g2 := F0 m 89 ls [.int r_1]) rfl ?_
    refine lv_if_ne (tgt := 100) hx hb d_Sum_addToTerm_89 (by decide) (fun hc => ?_) (fun hc => ?_)
    · have hm := sd_mf hc hm
      refine lv_iconst (v := (0 : Int32)) hx hb d_Sum_addToTerm_100 (by decide) ?_
      exact sd_z1ret (u := (xn, xT, xB, xR)) hQ hx hb hr hlk rfl hK (hP.sub [0, 1, 2, 3] rfl) (hD.sub [0, 1, 2, 3] (by decide) rfl) hS (Option.some.inj hm).symm d_Sum_addToTerm_101
    · have hm := sd_mt hc hm
      refine lv_lload hx hb d_Sum_addToTerm_92 (lv_at hl 0 rfl) ?_
      obtain ⟨r_2, hc, hm⟩ := sd_mb1 hm
      refine sd_ci0 (wr := [(xs, .inr (0, [.ref xat, .ref xab, .ref xar, .ref xal, .ref xah, .int xk, .int xn])), (xat, aJ g 8 xT), (xab, aJ g 8 xB), (xar, aJ g 8 xR)]) (w2 := [(xs, .inr (0, [.ref xat, .ref xab, .ref xar, .ref xal, .ref xah, .int xk, .int xn])), (xat, aJ g 8 xT), (xab, aJ g 8 xB), (xar, aJ g 8 xR)]) (sd_runS (rest := []) (As := [.long x8_1]) S (ct_Whole_isTooGreat l D g (H.size) x8_1 F (r_2) hc) kl_Sum_67 (by decide) (by decide) hK hP hD [] rfl (by decide) rfl hl d_Sum_addToTerm_94 rfl (Nat.le_of_ble_eq_true rfl) ⟨Nat.zero_le _, Nat.zero_le _⟩) hP hD hS hA [] [0, 1, 2, 3] rfl rfl (by decide) (by decide) rfl (fun H locs hP hD hS => ?_)
      refine W.eq (g2 := F0 m 97 ls [.int r_2]) rfl ?_
      refine lv_if_eq (tgt := 102) hx hb d_Sum_addToTerm_97 (by decide) (fun hc => ?_) (fun hc => ?_)
      · have hm := sd_mt hc hm
        refine lv_aload_n hx hb d_Sum_addToTerm_102 rfl (lv_at hl 3 rfl) ?_
        refine lv_iload_n hx hb d_Sum_addToTerm_103 rfl (lv_at hl 4 rfl) ?_
        refine lv_lload hx hb d_Sum_addToTerm_104 (lv_at hl 1 rfl) ?_
        refine lv_lload hx hb d_Sum_addToTerm_106 (lv_at hl 0 rfl) ?_
        refine lv_aload_n hx hb d_Sum_addToTerm_108 rfl (lv_at hl 3 rfl) ?_
        refine va_get (D := D) (ci := 0) (v := .ref xar) (C := R_Sum) (T := F_Sum) (N := 7) hx hb htt i_Sum hown hK hP 0 rfl rfl 2 (by decide) (htt _ kf_Sum_16) (fun _ h9 => h9) rfl d_Sum_addToTerm_109 ?_
        refine lv_iload_n hx hb d_Sum_addToTerm_112 rfl (lv_at hl 4 rfl) ?_
        obtain ⟨h_6, hm⟩ := sd_mg hm
        refine sd_lald hx hb hK hP 3 rfl h_6 d_Sum_addToTerm_113 ?_
        obtain ⟨uxat, uxab, uxar, hc, hm⟩ := sd_mb3 hm
        refine sd_cv1 (wr := []) (w2 := [(xs, .inr (0, [.ref xat, .ref xab, .ref xar, .ref xal, .ref xah, .int xk, .int xn])), (xat, aJ g 8 uxat), (xab, aJ g 8 uxab), (xar, aJ g 8 uxar)]) (sd_runV (rest := []) (As := [.int vAt, .long x6_1, .long x8_1, .long (xR vAt.toNatClampNeg)]) S (ct_Sum_put l D g xs xat xab xar xal xah (H.size) vAt x6_1 x8_1 (xR vAt.toNatClampNeg) xk xn xT xB xR F (uxat, uxab, uxar) hc) kl_Sum_43 (by decide) (by decide) hK hP hD [0, 1, 2, 3] rfl (by decide) rfl hl d_Sum_addToTerm_114 rfl (Nat.le_of_ble_eq_true rfl) ⟨Nat.zero_le _, Nat.zero_le _⟩ 0 rfl rfl) hP hD hS hA [0, 1, 2, 3] [] rfl rfl (by decide) (by decide) rfl (fun H locs hP hD hS => ?_)
        refine lv_iconst (v := (1 : Int32)) hx hb d_Sum_addToTerm_117 (by decide) ?_
        exact sd_z1ret (u := (xn, uxat, uxab, uxar)) hQ hx hb hr hlk rfl hK (hP.sub [0, 1, 2, 3] rfl) (hD.sub [0, 1, 2, 3] (by decide) rfl) hS (Option.some.inj hm).symm d_Sum_addToTerm_118
      · have hm := sd_mf hc hm
        refine lv_iconst (v := (0 : Int32)) hx hb d_Sum_addToTerm_100 (by decide) ?_
        exact sd_z1ret (u := (xn, xT, xB, xR)) hQ hx hb hr hlk rfl hK (hP.sub [0, 1, 2, 3] rfl) (hD.sub [0, 1, 2, 3] (by decide) rfl) hS (Option.some.inj hm).symm d_Sum_addToTerm_101
  · have hm := sd_mt hc hm
    refine lv_aload_n hx hb d_Sum_addToTerm_38 rfl (lv_at hl 2 rfl) ?_
    refine lv_iload_n hx hb d_Sum_addToTerm_39 rfl (lv_at hl 3 rfl) ?_
    refine lv_iconst (v := (1 : Int32)) hx hb d_Sum_addToTerm_40 (by decide) ?_
    refine lv_iadd hx hb d_Sum_addToTerm_41 ?_
    refine lv_iload_n hx hb d_Sum_addToTerm_42 rfl (lv_at hl 3 rfl) ?_
    obtain ⟨uxat_1, uxab_1, uxar_1, hc, hm⟩ := sd_mb3 hm
    refine sd_cv1 (wr := []) (w2 := [(xs, .inr (0, [.ref xat, .ref xab, .ref xar, .ref xal, .ref xah, .int xk, .int xn])), (xat, aJ g 8 uxat_1), (xab, aJ g 8 uxab_1), (xar, aJ g 8 uxar_1)]) (sd_runV (rest := []) (As := [.int (vAt + (1 : Int32)), .int vAt]) S (ct_Sum_move l D g xs xat xab xar xal xah (H.size) (vAt + (1 : Int32)) vAt xk xn xT xB xR F (uxat_1, uxab_1, uxar_1) hc) kl_Sum_83 (by decide) (by decide) hK hP hD [0, 1, 2, 3] rfl (by decide) rfl hl d_Sum_addToTerm_43 rfl (Nat.le_of_ble_eq_true rfl) ⟨Nat.zero_le _, Nat.zero_le _⟩ 0 rfl rfl) hP hD hS hA [0, 1, 2, 3] [] rfl rfl (by decide) (by decide) rfl (fun H locs hP hD hS => ?_)
    refine lv_aload_n hx hb d_Sum_addToTerm_46 rfl (lv_at hl 2 rfl) ?_
    refine lv_dup hx hb d_Sum_addToTerm_47 rfl ?_
    refine va_get (D := D) (ci := 0) (v := .int xn) (C := R_Sum) (T := F_Sum) (N := 7) hx hb htt i_Sum hown hK hP 0 rfl rfl 6 (by decide) (htt _ kf_Sum_28) (fun _ h9 => h9) rfl d_Sum_addToTerm_48 ?_
    refine lv_iconst (v := (1 : Int32)) hx hb d_Sum_addToTerm_51 (by decide) ?_
    refine lv_isub hx hb d_Sum_addToTerm_52 ?_
    obtain ⟨uxscount, euxscount, hm⟩ := sd_mlet hm
    refine sd_topi euxscount ?_
    refine sd_put (ci := 0) (v := .int uxscount) (ty := .int) (C := R_Sum) (T := F_Sum) (N := 7) (ws2 := [(xs, .inr (0, [.ref xat, .ref xab, .ref xar, .ref xal, .ref xah, .int xk, .int uxscount])), (xat, aJ g 8 uxat_1), (xab, aJ g 8 uxab_1), (xar, aJ g 8 uxar_1)]) hx hb htt i_Sum t_Sum t_Sum_ok n_Sum hown hK hP hD hS 0 rfl rfl 6 (by decide) kf_Sum_28 (fun _ h9 => h9) rfl (by decide +kernel) rfl rfl (Nat.le_of_ble_eq_true rfl) rfl d_Sum_addToTerm_53 (fun H locs hP hD hS => ?_)
    refine lv_iconst (v := (1 : Int32)) hx hb d_Sum_addToTerm_56 (by decide) ?_
    exact sd_z1ret (u := (uxscount, uxat_1, uxab_1, uxar_1)) hQ hx hb hr hlk rfl hK (hP.sub [0, 1, 2, 3] rfl) (hD.sub [0, 1, 2, 3] (by decide) rfl) hS (Option.some.inj hm).symm d_Sum_addToTerm_57
theorem d_Sum_add_0 : decode b_Sum_add 0 = .ok (.iconst 0, 1) := by decide +kernel
theorem d_Sum_add_1 : decode b_Sum_add 1 = .ok (.istore 7, 2) := by decide +kernel
theorem d_Sum_add_3 : decode b_Sum_add 3 = .ok (.iload 7, 2) := by decide +kernel
theorem d_Sum_add_5 : decode b_Sum_add 5 = .ok (.aload_n 0, 1) := by decide +kernel
theorem d_Sum_add_6 : decode b_Sum_add 6 = .ok (.getfield 28, 3) := by decide +kernel
theorem d_Sum_add_9 : decode b_Sum_add 9 = .ok (.if_icmp .ge 22, 3) := by decide +kernel
theorem d_Sum_add_12 : decode b_Sum_add 12 = .ok (.aload_n 0, 1) := by decide +kernel
theorem d_Sum_add_13 : decode b_Sum_add 13 = .ok (.getfield 16, 3) := by decide +kernel
theorem d_Sum_add_16 : decode b_Sum_add 16 = .ok (.iload 7, 2) := by decide +kernel
theorem d_Sum_add_18 : decode b_Sum_add 18 = .ok (.laload, 1) := by decide +kernel
theorem d_Sum_add_19 : decode b_Sum_add 19 = .ok (.lload 5, 2) := by decide +kernel
theorem d_Sum_add_21 : decode b_Sum_add 21 = .ok (.lcmp, 1) := by decide +kernel
theorem d_Sum_add_22 : decode b_Sum_add 22 = .ok (.ifCond .ge 9, 3) := by decide +kernel
theorem d_Sum_add_25 : decode b_Sum_add 25 = .ok (.iinc 7 1, 3) := by decide +kernel
theorem d_Sum_add_28 : decode b_Sum_add 28 = .ok (.goto (-25), 3) := by decide +kernel
theorem d_Sum_add_31 : decode b_Sum_add 31 = .ok (.iload 7, 2) := by decide +kernel
theorem d_Sum_add_33 : decode b_Sum_add 33 = .ok (.aload_n 0, 1) := by decide +kernel
theorem d_Sum_add_34 : decode b_Sum_add 34 = .ok (.getfield 28, 3) := by decide +kernel
theorem d_Sum_add_37 : decode b_Sum_add 37 = .ok (.if_icmp .ge 25, 3) := by decide +kernel
theorem d_Sum_add_40 : decode b_Sum_add 40 = .ok (.aload_n 0, 1) := by decide +kernel
theorem d_Sum_add_41 : decode b_Sum_add 41 = .ok (.getfield 16, 3) := by decide +kernel
theorem d_Sum_add_44 : decode b_Sum_add 44 = .ok (.iload 7, 2) := by decide +kernel
theorem d_Sum_add_46 : decode b_Sum_add 46 = .ok (.laload, 1) := by decide +kernel
theorem d_Sum_add_47 : decode b_Sum_add 47 = .ok (.lload 5, 2) := by decide +kernel
theorem d_Sum_add_49 : decode b_Sum_add 49 = .ok (.lcmp, 1) := by decide +kernel
theorem d_Sum_add_50 : decode b_Sum_add 50 = .ok (.ifCond .ne 12, 3) := by decide +kernel
theorem d_Sum_add_53 : decode b_Sum_add 53 = .ok (.aload_n 0, 1) := by decide +kernel
theorem d_Sum_add_54 : decode b_Sum_add 54 = .ok (.iload 7, 2) := by decide +kernel
theorem d_Sum_add_56 : decode b_Sum_add 56 = .ok (.lload_n 1, 1) := by decide +kernel
theorem d_Sum_add_57 : decode b_Sum_add 57 = .ok (.lload_n 3, 1) := by decide +kernel
theorem d_Sum_add_58 : decode b_Sum_add 58 = .ok (.invokevirtual 79, 3) := by decide +kernel
theorem d_Sum_add_61 : decode b_Sum_add 61 = .ok (.ireturn, 1) := by decide +kernel
theorem d_Sum_add_62 : decode b_Sum_add 62 = .ok (.aload_n 0, 1) := by decide +kernel
theorem d_Sum_add_63 : decode b_Sum_add 63 = .ok (.getfield 28, 3) := by decide +kernel
theorem d_Sum_add_66 : decode b_Sum_add 66 = .ok (.bipush 8, 2) := by decide +kernel
theorem d_Sum_add_68 : decode b_Sum_add 68 = .ok (.if_icmp .ne 5, 3) := by decide +kernel
theorem d_Sum_add_71 : decode b_Sum_add 71 = .ok (.iconst 0, 1) := by decide +kernel
theorem d_Sum_add_72 : decode b_Sum_add 72 = .ok (.ireturn, 1) := by decide +kernel
theorem d_Sum_add_73 : decode b_Sum_add 73 = .ok (.aload_n 0, 1) := by decide +kernel
theorem d_Sum_add_74 : decode b_Sum_add 74 = .ok (.iload 7, 2) := by decide +kernel
theorem d_Sum_add_76 : decode b_Sum_add 76 = .ok (.iload 7, 2) := by decide +kernel
theorem d_Sum_add_78 : decode b_Sum_add 78 = .ok (.iconst 1, 1) := by decide +kernel
theorem d_Sum_add_79 : decode b_Sum_add 79 = .ok (.iadd, 1) := by decide +kernel
theorem d_Sum_add_80 : decode b_Sum_add 80 = .ok (.invokevirtual 83, 3) := by decide +kernel
theorem d_Sum_add_83 : decode b_Sum_add 83 = .ok (.aload_n 0, 1) := by decide +kernel
theorem d_Sum_add_84 : decode b_Sum_add 84 = .ok (.iload 7, 2) := by decide +kernel
theorem d_Sum_add_86 : decode b_Sum_add 86 = .ok (.lload_n 1, 1) := by decide +kernel
theorem d_Sum_add_87 : decode b_Sum_add 87 = .ok (.lload_n 3, 1) := by decide +kernel
theorem d_Sum_add_88 : decode b_Sum_add 88 = .ok (.lload 5, 2) := by decide +kernel
theorem d_Sum_add_90 : decode b_Sum_add 90 = .ok (.invokevirtual 43, 3) := by decide +kernel
theorem d_Sum_add_93 : decode b_Sum_add 93 = .ok (.aload_n 0, 1) := by decide +kernel
theorem d_Sum_add_94 : decode b_Sum_add 94 = .ok (.dup, 1) := by decide +kernel
theorem d_Sum_add_95 : decode b_Sum_add 95 = .ok (.getfield 28, 3) := by decide +kernel
theorem d_Sum_add_98 : decode b_Sum_add 98 = .ok (.iconst 1, 1) := by decide +kernel
theorem d_Sum_add_99 : decode b_Sum_add 99 = .ok (.iadd, 1) := by decide +kernel
theorem d_Sum_add_100 : decode b_Sum_add 100 = .ok (.putfield 28, 3) := by decide +kernel
theorem d_Sum_add_103 : decode b_Sum_add 103 = .ok (.iconst 1, 1) := by decide +kernel
theorem d_Sum_add_104 : decode b_Sum_add 104 = .ok (.ireturn, 1) := by decide +kernel
def mf_Sum_add_J62 (F : Nat) (xk : Int32) (vTop : Int64) (vBot : Int64) (vRad : Int64) (x7 : Int32) (uxs : Int32) (uxat : Nat → Int64) (uxab : Nat → Int64) (uxar : Nat → Int64) : Option (Int32 × Int32 × (Nat → Int64) × (Nat → Int64) × (Nat → Int64)) :=
  (if uxs = (8 : Int32) then (some ((0 : Int32), uxs, uxat, uxab, uxar)) else (sd_b3 (mf_Sum_move F x7 (x7 + (1 : Int32)) xk uxs uxat uxab uxar) fun uxat_1 uxab_1 uxar_1 => (sd_b3 (mf_Sum_put F x7 vTop vBot vRad xk uxs uxat_1 uxab_1 uxar_1) fun uxat_2 uxab_2 uxar_2 => (sd_let ((uxs + (1 : Int32))) fun uxscount => (some ((1 : Int32), uxscount, uxat_2, uxab_2, uxar_2))))))
def mf_Sum_add_L3 (xn : Int32) (vRad : Int64) (xR : Nat → Int64) : Nat → Int32 → Option (Int32)
  | 0, _ => none
  | fu + 1, x7_1 => (if xn ≤ x7_1 then (some (x7_1)) else (sd_g (sd_ix x7_1 8) (if vRad ≤ (xR x7_1.toNatClampNeg) then (some (x7_1)) else (sd_let (x7_1 + (1 : Int32)) fun x7_2 => ((mf_Sum_add_L3 xn vRad xR fu) x7_2)))))
def mf_Sum_add (F : Nat) (vTop : Int64) (vBot : Int64) (vRad : Int64) (xk : Int32) (xn : Int32) (xT : Nat → Int64) (xB : Nat → Int64) (xR : Nat → Int64) : Option (Int32 × Int32 × (Nat → Int64) × (Nat → Int64) × (Nat → Int64)) :=
  (sd_b1 (mf_Sum_add_L3 xn vRad xR F (0 : Int32)) fun rx7 => (if xn ≤ rx7 then (mf_Sum_add_J62 F xk vTop vBot vRad rx7 xn xT xB xR) else (sd_g (sd_ix rx7 8) (if (xR rx7.toNatClampNeg) = vRad then (sd_b5 (mf_Sum_addToTerm F rx7 vTop vBot xk xn xT xB xR) fun r uxs_1 uxat_3 uxab_3 uxar_3 => (sd_g (sd_b01 r) (some (r, uxs_1, uxat_3, uxab_3, uxar_3)))) else (mf_Sum_add_J62 F xk vTop vBot vRad rx7 xn xT xB xR)))))
abbrev rm_Sum_add : Room := { frames := 3, cells := 0, slots := 0, locals := 133 }
set_option maxHeartbeats 4000000 in
set_option maxRecDepth 100000 in
theorem ct_Sum_add (l : Launch) (D : va_G) (g : G4) (xs : Nat) (xat : Nat) (xab : Nat) (xar : Nat) (xal : Nat) (xah : Nat) (sz : Nat) (vTop : Int64) (vBot : Int64) (vRad : Int64) (xk : Int32) (xn : Int32) (xT : Nat → Int64) (xB : Nat → Int64) (xR : Nat → Int64) (F : Nat) (res : Int32 × Int32 × (Nat → Int64) × (Nat → Int64) × (Nat → Int64)) (hm : mf_Sum_add F vTop vBot vRad xk xn xT xB xR = some res) : Met l y_Sum_add (.code y_Sum_add b_Sum_add 8 (some .boolean) :: sd_tb) rm_Sum_add (sd_PW D g [.ref xs, .long vTop, .long vBot, .long vRad] sz [(xs, .inr (0, [.ref xat, .ref xab, .ref xar, .ref xal, .ref xah, .int xk, .int xn])), (xat, aJ g 8 xT), (xab, aJ g 8 xB), (xar, aJ g 8 xR)]) (sd_Qi1 D g res (fun u : Int32 × (Nat → Int64) × (Nat → Int64) × (Nat → Int64) => [(xs, .inr (0, [.ref xat, .ref xab, .ref xar, .ref xal, .ref xah, .int xk, .int (u.1)])), (xat, aJ g 8 (u.2.1)), (xab, aJ g 8 (u.2.2.1)), (xar, aJ g 8 (u.2.2.2))]) (va_A [(xs, .inr (0, [.ref xat, .ref xab, .ref xar, .ref xal, .ref xah, .int xk, .int xn])), (xat, aJ g 8 xT), (xab, aJ g 8 xB), (xar, aJ g 8 xR)] sz)) 0 0 (va_A [(xs, .inr (0, [.ref xat, .ref xab, .ref xar, .ref xal, .ref xah, .int xk, .int xn])), (xat, aJ g 8 xT), (xab, aJ g 8 xB), (xar, aJ g 8 xR)] sz) := by
  refine sd_met (Qf := fun A => sd_Qi1 D g res (fun u : Int32 × (Nat → Int64) × (Nat → Int64) × (Nat → Int64) => [(xs, .inr (0, [.ref xat, .ref xab, .ref xar, .ref xal, .ref xah, .int xk, .int (u.1)])), (xat, aJ g 8 (u.2.1)), (xab, aJ g 8 (u.2.2.1)), (xar, aJ g 8 (u.2.2.2))]) A) (own := R_Sum) (by decide +kernel) rfl (Nat.le_of_ble_eq_true rfl) ?_
  intro p e s m args below meth c S hr hlk hK A hA Q hQ H locs hP hD hS ls hl
  have hx := S.1
  have hb := S.2.1
  have hml := S.2.2.1
  have hown := S.2.2.2.1
  have htt := sd_tt S
  replace hl : lv_has ls 8 [(0, .ref xs), (1, .long vTop), (3, .long vBot), (5, .long vRad)] := hl
  unfold mf_Sum_add at hm
  have J62 : ∀ (x7 : Int32) (uxs : Int32) (uxat : Nat → Int64) (uxab : Nat → Int64) (uxar : Nat → Int64), mf_Sum_add_J62 F xk vTop vBot vRad x7 uxs uxat uxab uxar = some res → ∀ (H : Heap) (locs : List Loc) (ls : Array Slot), va_P D classes [(xs, .inr (0, [.ref xat, .ref xab, .ref xar, .ref xal, .ref xah, .int xk, .int uxs])), (xat, aJ g 8 uxat), (xab, aJ g 8 uxab), (xar, aJ g 8 uxar)] H → va_D A [(xs, .inr (0, [.ref xat, .ref xab, .ref xar, .ref xal, .ref xah, .int xk, .int uxs])), (xat, aJ g 8 uxat), (xab, aJ g 8 uxab), (xar, aJ g 8 uxar)] → va_S A s.heap H locs → lv_has ls 8 [(0, .ref xs), (1, .long vTop), (3, .long vBot), (5, .long vRad), (7, .int x7)] → W p l e rm_Sum_add s m args below meth c H locs 0 0 Q (F0 m 62 ls []) := by
    intro x7 uxs uxat uxab uxar hm H locs ls hP hD hS hl
    unfold mf_Sum_add_J62 at hm
    refine lv_aload_n hx hb d_Sum_add_62 rfl (lv_at hl 0 rfl) ?_
    refine va_get (D := D) (ci := 0) (v := .int uxs) (C := R_Sum) (T := F_Sum) (N := 7) hx hb htt i_Sum hown hK hP 0 rfl rfl 6 (by decide) (htt _ kf_Sum_28) (fun _ h9 => h9) rfl d_Sum_add_63 ?_
    refine lv_bipush (v := (8 : Int32)) hx hb d_Sum_add_66 (by decide) ?_
    refine lv_icmp_ne (tgt := 73) hx hb d_Sum_add_68 (by decide) (fun hc => ?_) (fun hc => ?_)
    · have hm := sd_mf hc hm
      refine lv_aload_n hx hb d_Sum_add_73 rfl (lv_at hl 0 rfl) ?_
      refine lv_iload hx hb d_Sum_add_74 (lv_at hl 4 rfl) ?_
      refine lv_iload hx hb d_Sum_add_76 (lv_at hl 4 rfl) ?_
      refine lv_iconst (v := (1 : Int32)) hx hb d_Sum_add_78 (by decide) ?_
      refine lv_iadd hx hb d_Sum_add_79 ?_
      obtain ⟨uxat_1, uxab_1, uxar_1, hc, hm⟩ := sd_mb3 hm
      refine sd_cv1 (wr := []) (w2 := [(xs, .inr (0, [.ref xat, .ref xab, .ref xar, .ref xal, .ref xah, .int xk, .int uxs])), (xat, aJ g 8 uxat_1), (xab, aJ g 8 uxab_1), (xar, aJ g 8 uxar_1)]) (sd_runV (rest := []) (As := [.int x7, .int (x7 + (1 : Int32))]) S (ct_Sum_move l D g xs xat xab xar xal xah (H.size) x7 (x7 + (1 : Int32)) xk uxs uxat uxab uxar F (uxat_1, uxab_1, uxar_1) hc) kl_Sum_83 (by decide) (by decide) hK hP hD [0, 1, 2, 3] rfl (by decide) rfl hl d_Sum_add_80 rfl (Nat.le_of_ble_eq_true rfl) ⟨Nat.zero_le _, Nat.zero_le _⟩ 0 rfl rfl) hP hD hS hA [0, 1, 2, 3] [] rfl rfl (by decide) (by decide) rfl (fun H locs hP hD hS => ?_)
      refine lv_aload_n hx hb d_Sum_add_83 rfl (lv_at hl 0 rfl) ?_
      refine lv_iload hx hb d_Sum_add_84 (lv_at hl 4 rfl) ?_
      refine lv_lload_n hx hb d_Sum_add_86 rfl (lv_at hl 1 rfl) ?_
      refine lv_lload_n hx hb d_Sum_add_87 rfl (lv_at hl 2 rfl) ?_
      refine lv_lload hx hb d_Sum_add_88 (lv_at hl 3 rfl) ?_
      obtain ⟨uxat_2, uxab_2, uxar_2, hc, hm⟩ := sd_mb3 hm
      refine sd_cv1 (wr := []) (w2 := [(xs, .inr (0, [.ref xat, .ref xab, .ref xar, .ref xal, .ref xah, .int xk, .int uxs])), (xat, aJ g 8 uxat_2), (xab, aJ g 8 uxab_2), (xar, aJ g 8 uxar_2)]) (sd_runV (rest := []) (As := [.int x7, .long vTop, .long vBot, .long vRad]) S (ct_Sum_put l D g xs xat xab xar xal xah (H.size) x7 vTop vBot vRad xk uxs uxat_1 uxab_1 uxar_1 F (uxat_2, uxab_2, uxar_2) hc) kl_Sum_43 (by decide) (by decide) hK hP hD [0, 1, 2, 3] rfl (by decide) rfl hl d_Sum_add_90 rfl (Nat.le_of_ble_eq_true rfl) ⟨Nat.zero_le _, Nat.zero_le _⟩ 0 rfl rfl) hP hD hS hA [0, 1, 2, 3] [] rfl rfl (by decide) (by decide) rfl (fun H locs hP hD hS => ?_)
      refine lv_aload_n hx hb d_Sum_add_93 rfl (lv_at hl 0 rfl) ?_
      refine lv_dup hx hb d_Sum_add_94 rfl ?_
      refine va_get (D := D) (ci := 0) (v := .int uxs) (C := R_Sum) (T := F_Sum) (N := 7) hx hb htt i_Sum hown hK hP 0 rfl rfl 6 (by decide) (htt _ kf_Sum_28) (fun _ h9 => h9) rfl d_Sum_add_95 ?_
      refine lv_iconst (v := (1 : Int32)) hx hb d_Sum_add_98 (by decide) ?_
      refine lv_iadd hx hb d_Sum_add_99 ?_
      obtain ⟨uxscount, euxscount, hm⟩ := sd_mlet hm
      refine sd_topi euxscount ?_
      refine sd_put (ci := 0) (v := .int uxscount) (ty := .int) (C := R_Sum) (T := F_Sum) (N := 7) (ws2 := [(xs, .inr (0, [.ref xat, .ref xab, .ref xar, .ref xal, .ref xah, .int xk, .int uxscount])), (xat, aJ g 8 uxat_2), (xab, aJ g 8 uxab_2), (xar, aJ g 8 uxar_2)]) hx hb htt i_Sum t_Sum t_Sum_ok n_Sum hown hK hP hD hS 0 rfl rfl 6 (by decide) kf_Sum_28 (fun _ h9 => h9) rfl (by decide +kernel) rfl rfl (Nat.le_of_ble_eq_true rfl) rfl d_Sum_add_100 (fun H locs hP hD hS => ?_)
      refine lv_iconst (v := (1 : Int32)) hx hb d_Sum_add_103 (by decide) ?_
      exact sd_z1ret (u := (uxscount, uxat_2, uxab_2, uxar_2)) hQ hx hb hr hlk rfl hK (hP.sub [0, 1, 2, 3] rfl) (hD.sub [0, 1, 2, 3] (by decide) rfl) hS (Option.some.inj hm).symm d_Sum_add_104
    · have hm := sd_mt hc hm
      refine lv_iconst (v := (0 : Int32)) hx hb d_Sum_add_71 (by decide) ?_
      exact sd_z1ret (u := (uxs, uxat, uxab, uxar)) hQ hx hb hr hlk rfl hK (hP.sub [0, 1, 2, 3] rfl) (hD.sub [0, 1, 2, 3] (by decide) rfl) hS (Option.some.inj hm).symm d_Sum_add_72
  refine lv_iconst (v := (0 : Int32)) hx hb d_Sum_add_0 (by decide) ?_
  refine lv_istore (lv' := [(7, .int (0 : Int32)), (0, .ref xs), (1, .long vTop), (3, .long vBot), (5, .long vRad)]) hx hb d_Sum_add_1 hl (by decide) rfl (fun ls hl => ?_)
  have L3 : ∀ (fu : Nat) (x7_1 : Int32) (rx7 : Int32), mf_Sum_add_L3 xn vRad xR fu x7_1 = some (rx7) → ∀ (H : Heap) (locs : List Loc) (ls : Array Slot), va_P D classes [(xs, .inr (0, [.ref xat, .ref xab, .ref xar, .ref xal, .ref xah, .int xk, .int xn])), (xat, aJ g 8 xT), (xab, aJ g 8 xB), (xar, aJ g 8 xR)] H → va_D A [(xs, .inr (0, [.ref xat, .ref xab, .ref xar, .ref xal, .ref xah, .int xk, .int xn])), (xat, aJ g 8 xT), (xab, aJ g 8 xB), (xar, aJ g 8 xR)] → va_S A s.heap H locs → lv_has ls 8 [(0, .ref xs), (1, .long vTop), (3, .long vBot), (5, .long vRad), (7, .int x7_1)] → (∀ (H : Heap) (locs : List Loc) (ls : Array Slot), va_P D classes [(xs, .inr (0, [.ref xat, .ref xab, .ref xar, .ref xal, .ref xah, .int xk, .int xn])), (xat, aJ g 8 xT), (xab, aJ g 8 xB), (xar, aJ g 8 xR)] H → va_D A [(xs, .inr (0, [.ref xat, .ref xab, .ref xar, .ref xal, .ref xah, .int xk, .int xn])), (xat, aJ g 8 xT), (xab, aJ g 8 xB), (xar, aJ g 8 xR)] → va_S A s.heap H locs → lv_has ls 8 [(0, .ref xs), (1, .long vTop), (3, .long vBot), (5, .long vRad), (7, .int rx7)] → W p l e rm_Sum_add s m args below meth c H locs 0 0 Q (F0 m 31 ls [])) → W p l e rm_Sum_add s m args below meth c H locs 0 0 Q (F0 m 3 ls []) := by
    intro fu
    induction fu with
    | zero => intro x7_1 rx7 hm; exact absurd (show (none : Option (Int32)) = some (rx7) from hm) (fun h => nomatch h)
    | succ fu ih =>
      intro x7_1 rx7 hm H locs ls hP hD hS hl kx31
      rw [mf_Sum_add_L3] at hm
      refine lv_iload hx hb d_Sum_add_3 (lv_at hl 4 rfl) ?_
      refine lv_aload_n hx hb d_Sum_add_5 rfl (lv_at hl 0 rfl) ?_
      refine va_get (D := D) (ci := 0) (v := .int xn) (C := R_Sum) (T := F_Sum) (N := 7) hx hb htt i_Sum hown hK hP 0 rfl rfl 6 (by decide) (htt _ kf_Sum_28) (fun _ h9 => h9) rfl d_Sum_add_6 ?_
      refine lv_icmp_ge (tgt := 31) hx hb d_Sum_add_9 (by decide) (fun hc => ?_) (fun hc => ?_)
      · have hm := sd_mt hc hm
        cases hm
        exact kx31 H locs ls (hP.sub [0, 1, 2, 3] rfl) (hD.sub [0, 1, 2, 3] (by decide) rfl) hS (lv_sub hl [0, 1, 2, 3, 4] rfl)
      · have hm := sd_mf hc hm
        refine lv_aload_n hx hb d_Sum_add_12 rfl (lv_at hl 0 rfl) ?_
        refine va_get (D := D) (ci := 0) (v := .ref xar) (C := R_Sum) (T := F_Sum) (N := 7) hx hb htt i_Sum hown hK hP 0 rfl rfl 2 (by decide) (htt _ kf_Sum_16) (fun _ h9 => h9) rfl d_Sum_add_13 ?_
        refine lv_iload hx hb d_Sum_add_16 (lv_at hl 4 rfl) ?_
        obtain ⟨h_1, hm⟩ := sd_mg hm
        refine sd_lald hx hb hK hP 3 rfl h_1 d_Sum_add_18 ?_
        refine lv_lload hx hb d_Sum_add_19 (lv_at hl 3 rfl) ?_
        refine sd_lge (tgt := 31) hx hb d_Sum_add_21 d_Sum_add_22 (by decide) (fun hc => ?_) (fun hc => ?_)
        · have hm := sd_mt hc hm
          cases hm
          exact kx31 H locs ls (hP.sub [0, 1, 2, 3] rfl) (hD.sub [0, 1, 2, 3] (by decide) rfl) hS (lv_sub hl [0, 1, 2, 3, 4] rfl)
        · have hm := sd_mf hc hm
          obtain ⟨x7_2, ex7_2, hm⟩ := sd_mlet hm
          refine lv_iinc (v := x7_2) (lv' := [(7, .int x7_2), (0, .ref xs), (1, .long vTop), (3, .long vBot), (5, .long vRad)]) hx hb d_Sum_add_25 hl (k := 4) rfl (by rw [ex7_2]; rfl) (by decide) rfl (fun ls hl => ?_)
          refine lv_goto (tgt := 3) hx hb d_Sum_add_28 (by decide) ?_
          exact ih x7_2 rx7 hm H locs ls (hP.sub [0, 1, 2, 3] rfl) (hD.sub [0, 1, 2, 3] (by decide) rfl) hS (lv_sub hl [1, 2, 3, 4, 0] rfl) kx31
  obtain ⟨rx7, hc, hm⟩ := sd_mb1 hm
  refine L3 F (0 : Int32) rx7 hc H locs ls (hP.sub [0, 1, 2, 3] rfl) (hD.sub [0, 1, 2, 3] (by decide) rfl) hS (lv_sub hl [1, 2, 3, 4, 0] rfl) ?_
  intro H locs ls hP hD hS hl
  refine lv_iload hx hb d_Sum_add_31 (lv_at hl 4 rfl) ?_
  refine lv_aload_n hx hb d_Sum_add_33 rfl (lv_at hl 0 rfl) ?_
  refine va_get (D := D) (ci := 0) (v := .int xn) (C := R_Sum) (T := F_Sum) (N := 7) hx hb htt i_Sum hown hK hP 0 rfl rfl 6 (by decide) (htt _ kf_Sum_28) (fun _ h9 => h9) rfl d_Sum_add_34 ?_
  refine lv_icmp_ge (tgt := 62) hx hb d_Sum_add_37 (by decide) (fun hc => ?_) (fun hc => ?_)
  · have hm := sd_mt hc hm
    exact J62 rx7 xn xT xB xR hm H locs ls (hP.sub [0, 1, 2, 3] rfl) (hD.sub [0, 1, 2, 3] (by decide) rfl) hS (lv_sub hl [0, 1, 2, 3, 4] rfl)
  · have hm := sd_mf hc hm
    refine lv_aload_n hx hb d_Sum_add_40 rfl (lv_at hl 0 rfl) ?_
    refine va_get (D := D) (ci := 0) (v := .ref xar) (C := R_Sum) (T := F_Sum) (N := 7) hx hb htt i_Sum hown hK hP 0 rfl rfl 2 (by decide) (htt _ kf_Sum_16) (fun _ h9 => h9) rfl d_Sum_add_41 ?_
    refine lv_iload hx hb d_Sum_add_44 (lv_at hl 4 rfl) ?_
    obtain ⟨h_2, hm⟩ := sd_mg hm
    refine sd_lald hx hb hK hP 3 rfl h_2 d_Sum_add_46 ?_
    refine lv_lload hx hb d_Sum_add_47 (lv_at hl 3 rfl) ?_
    refine sd_lne (tgt := 62) hx hb d_Sum_add_49 d_Sum_add_50 (by decide) (fun hc => ?_) (fun hc => ?_)
    · have hm := sd_mf hc hm
      exact J62 rx7 xn xT xB xR hm H locs ls (hP.sub [0, 1, 2, 3] rfl) (hD.sub [0, 1, 2, 3] (by decide) rfl) hS (lv_sub hl [0, 1, 2, 3, 4] rfl)
    · have hm := sd_mt hc hm
      refine lv_aload_n hx hb d_Sum_add_53 rfl (lv_at hl 0 rfl) ?_
      refine lv_iload hx hb d_Sum_add_54 (lv_at hl 4 rfl) ?_
      refine lv_lload_n hx hb d_Sum_add_56 rfl (lv_at hl 1 rfl) ?_
      refine lv_lload_n hx hb d_Sum_add_57 rfl (lv_at hl 2 rfl) ?_
      obtain ⟨r, uxs_1, uxat_3, uxab_3, uxar_3, hc, hm⟩ := sd_mb5 hm
      refine sd_ci1 (wr := []) (w2 := [(xs, .inr (0, [.ref xat, .ref xab, .ref xar, .ref xal, .ref xah, .int xk, .int uxs_1])), (xat, aJ g 8 uxat_3), (xab, aJ g 8 uxab_3), (xar, aJ g 8 uxar_3)]) (sd_runV (rest := []) (As := [.int rx7, .long vTop, .long vBot]) S (ct_Sum_addToTerm l D g xs xat xab xar xal xah (H.size) rx7 vTop vBot xk xn xT xB xR F (r, uxs_1, uxat_3, uxab_3, uxar_3) hc) kl_Sum_79 (by decide) (by decide) hK hP hD [0, 1, 2, 3] rfl (by decide) rfl hl d_Sum_add_58 rfl (Nat.le_of_ble_eq_true rfl) ⟨Nat.zero_le _, Nat.zero_le _⟩ 0 rfl rfl) hP hD hS hA [0, 1, 2, 3] [] rfl rfl (by decide) (by decide) rfl (fun H locs hP hD hS => ?_)
      refine W.eq (g2 := F0 m 61 ls [.int r]) rfl ?_
      obtain ⟨h_3, hm⟩ := sd_mg hm
      exact sd_z1ret (u := (uxs_1, uxat_3, uxab_3, uxar_3)) hQ hx hb hr hlk (sd_zb h_3) hK (hP.sub [0, 1, 2, 3] rfl) (hD.sub [0, 1, 2, 3] (by decide) rfl) hS (Option.some.inj hm).symm d_Sum_add_61
theorem d_Sum_addProduct_0 : decode b_Sum_addProduct 0 = .ok (.aload_n 1, 1) := by decide +kernel
theorem d_Sum_addProduct_1 : decode b_Sum_addProduct 1 = .ok (.getfield 9, 3) := by decide +kernel
theorem d_Sum_addProduct_4 : decode b_Sum_addProduct 4 = .ok (.iload_n 2, 1) := by decide +kernel
theorem d_Sum_addProduct_5 : decode b_Sum_addProduct 5 = .ok (.laload, 1) := by decide +kernel
theorem d_Sum_addProduct_6 : decode b_Sum_addProduct 6 = .ok (.lstore 5, 2) := by decide +kernel
theorem d_Sum_addProduct_8 : decode b_Sum_addProduct 8 = .ok (.aload_n 3, 1) := by decide +kernel
theorem d_Sum_addProduct_9 : decode b_Sum_addProduct 9 = .ok (.getfield 9, 3) := by decide +kernel
theorem d_Sum_addProduct_12 : decode b_Sum_addProduct 12 = .ok (.iload 4, 2) := by decide +kernel
theorem d_Sum_addProduct_14 : decode b_Sum_addProduct 14 = .ok (.laload, 1) := by decide +kernel
theorem d_Sum_addProduct_15 : decode b_Sum_addProduct 15 = .ok (.lstore 7, 2) := by decide +kernel
theorem d_Sum_addProduct_17 : decode b_Sum_addProduct 17 = .ok (.aload_n 1, 1) := by decide +kernel
theorem d_Sum_addProduct_18 : decode b_Sum_addProduct 18 = .ok (.getfield 13, 3) := by decide +kernel
theorem d_Sum_addProduct_21 : decode b_Sum_addProduct 21 = .ok (.iload_n 2, 1) := by decide +kernel
theorem d_Sum_addProduct_22 : decode b_Sum_addProduct 22 = .ok (.laload, 1) := by decide +kernel
theorem d_Sum_addProduct_23 : decode b_Sum_addProduct 23 = .ok (.lstore 9, 2) := by decide +kernel
theorem d_Sum_addProduct_25 : decode b_Sum_addProduct 25 = .ok (.aload_n 3, 1) := by decide +kernel
theorem d_Sum_addProduct_26 : decode b_Sum_addProduct 26 = .ok (.getfield 13, 3) := by decide +kernel
theorem d_Sum_addProduct_29 : decode b_Sum_addProduct 29 = .ok (.iload 4, 2) := by decide +kernel
theorem d_Sum_addProduct_31 : decode b_Sum_addProduct 31 = .ok (.laload, 1) := by decide +kernel
theorem d_Sum_addProduct_32 : decode b_Sum_addProduct 32 = .ok (.lstore 11, 2) := by decide +kernel
theorem d_Sum_addProduct_34 : decode b_Sum_addProduct 34 = .ok (.aload_n 1, 1) := by decide +kernel
theorem d_Sum_addProduct_35 : decode b_Sum_addProduct 35 = .ok (.getfield 16, 3) := by decide +kernel
theorem d_Sum_addProduct_38 : decode b_Sum_addProduct 38 = .ok (.iload_n 2, 1) := by decide +kernel
theorem d_Sum_addProduct_39 : decode b_Sum_addProduct 39 = .ok (.laload, 1) := by decide +kernel
theorem d_Sum_addProduct_40 : decode b_Sum_addProduct 40 = .ok (.aload_n 3, 1) := by decide +kernel
theorem d_Sum_addProduct_41 : decode b_Sum_addProduct 41 = .ok (.getfield 16, 3) := by decide +kernel
theorem d_Sum_addProduct_44 : decode b_Sum_addProduct 44 = .ok (.iload 4, 2) := by decide +kernel
theorem d_Sum_addProduct_46 : decode b_Sum_addProduct 46 = .ok (.laload, 1) := by decide +kernel
theorem d_Sum_addProduct_47 : decode b_Sum_addProduct 47 = .ok (.invokestatic 55, 3) := by decide +kernel
theorem d_Sum_addProduct_50 : decode b_Sum_addProduct 50 = .ok (.lstore 13, 2) := by decide +kernel
theorem d_Sum_addProduct_52 : decode b_Sum_addProduct 52 = .ok (.aload_n 1, 1) := by decide +kernel
theorem d_Sum_addProduct_53 : decode b_Sum_addProduct 53 = .ok (.getfield 16, 3) := by decide +kernel
theorem d_Sum_addProduct_56 : decode b_Sum_addProduct 56 = .ok (.iload_n 2, 1) := by decide +kernel
theorem d_Sum_addProduct_57 : decode b_Sum_addProduct 57 = .ok (.laload, 1) := by decide +kernel
theorem d_Sum_addProduct_58 : decode b_Sum_addProduct 58 = .ok (.lload 13, 2) := by decide +kernel
theorem d_Sum_addProduct_60 : decode b_Sum_addProduct 60 = .ok (.ldiv, 1) := by decide +kernel
theorem d_Sum_addProduct_61 : decode b_Sum_addProduct 61 = .ok (.aload_n 3, 1) := by decide +kernel
theorem d_Sum_addProduct_62 : decode b_Sum_addProduct 62 = .ok (.getfield 16, 3) := by decide +kernel
theorem d_Sum_addProduct_65 : decode b_Sum_addProduct 65 = .ok (.iload 4, 2) := by decide +kernel
theorem d_Sum_addProduct_67 : decode b_Sum_addProduct 67 = .ok (.laload, 1) := by decide +kernel
theorem d_Sum_addProduct_68 : decode b_Sum_addProduct 68 = .ok (.lload 13, 2) := by decide +kernel
theorem d_Sum_addProduct_70 : decode b_Sum_addProduct 70 = .ok (.ldiv, 1) := by decide +kernel
theorem d_Sum_addProduct_71 : decode b_Sum_addProduct 71 = .ok (.lmul, 1) := by decide +kernel
theorem d_Sum_addProduct_72 : decode b_Sum_addProduct 72 = .ok (.lstore 15, 2) := by decide +kernel
theorem d_Sum_addProduct_74 : decode b_Sum_addProduct 74 = .ok (.lload 5, 2) := by decide +kernel
theorem d_Sum_addProduct_76 : decode b_Sum_addProduct 76 = .ok (.lload 11, 2) := by decide +kernel
theorem d_Sum_addProduct_78 : decode b_Sum_addProduct 78 = .ok (.invokestatic 55, 3) := by decide +kernel
theorem d_Sum_addProduct_81 : decode b_Sum_addProduct 81 = .ok (.lstore 17, 2) := by decide +kernel
theorem d_Sum_addProduct_83 : decode b_Sum_addProduct 83 = .ok (.lload 7, 2) := by decide +kernel
theorem d_Sum_addProduct_85 : decode b_Sum_addProduct 85 = .ok (.lload 9, 2) := by decide +kernel
theorem d_Sum_addProduct_87 : decode b_Sum_addProduct 87 = .ok (.invokestatic 55, 3) := by decide +kernel
theorem d_Sum_addProduct_90 : decode b_Sum_addProduct 90 = .ok (.lstore 19, 2) := by decide +kernel
theorem d_Sum_addProduct_92 : decode b_Sum_addProduct 92 = .ok (.lload 5, 2) := by decide +kernel
theorem d_Sum_addProduct_94 : decode b_Sum_addProduct 94 = .ok (.lload 17, 2) := by decide +kernel
theorem d_Sum_addProduct_96 : decode b_Sum_addProduct 96 = .ok (.ldiv, 1) := by decide +kernel
theorem d_Sum_addProduct_97 : decode b_Sum_addProduct 97 = .ok (.lstore 5, 2) := by decide +kernel
theorem d_Sum_addProduct_99 : decode b_Sum_addProduct 99 = .ok (.lload 11, 2) := by decide +kernel
theorem d_Sum_addProduct_101 : decode b_Sum_addProduct 101 = .ok (.lload 17, 2) := by decide +kernel
theorem d_Sum_addProduct_103 : decode b_Sum_addProduct 103 = .ok (.ldiv, 1) := by decide +kernel
theorem d_Sum_addProduct_104 : decode b_Sum_addProduct 104 = .ok (.lstore 11, 2) := by decide +kernel
theorem d_Sum_addProduct_106 : decode b_Sum_addProduct 106 = .ok (.lload 7, 2) := by decide +kernel
theorem d_Sum_addProduct_108 : decode b_Sum_addProduct 108 = .ok (.lload 19, 2) := by decide +kernel
theorem d_Sum_addProduct_110 : decode b_Sum_addProduct 110 = .ok (.ldiv, 1) := by decide +kernel
theorem d_Sum_addProduct_111 : decode b_Sum_addProduct 111 = .ok (.lstore 7, 2) := by decide +kernel
theorem d_Sum_addProduct_113 : decode b_Sum_addProduct 113 = .ok (.lload 9, 2) := by decide +kernel
theorem d_Sum_addProduct_115 : decode b_Sum_addProduct 115 = .ok (.lload 19, 2) := by decide +kernel
theorem d_Sum_addProduct_117 : decode b_Sum_addProduct 117 = .ok (.ldiv, 1) := by decide +kernel
theorem d_Sum_addProduct_118 : decode b_Sum_addProduct 118 = .ok (.lstore 9, 2) := by decide +kernel
theorem d_Sum_addProduct_120 : decode b_Sum_addProduct 120 = .ok (.lload 13, 2) := by decide +kernel
theorem d_Sum_addProduct_122 : decode b_Sum_addProduct 122 = .ok (.lload 9, 2) := by decide +kernel
theorem d_Sum_addProduct_124 : decode b_Sum_addProduct 124 = .ok (.invokestatic 55, 3) := by decide +kernel
theorem d_Sum_addProduct_127 : decode b_Sum_addProduct 127 = .ok (.lstore 21, 2) := by decide +kernel
theorem d_Sum_addProduct_129 : decode b_Sum_addProduct 129 = .ok (.lload 13, 2) := by decide +kernel
theorem d_Sum_addProduct_131 : decode b_Sum_addProduct 131 = .ok (.lload 21, 2) := by decide +kernel
theorem d_Sum_addProduct_133 : decode b_Sum_addProduct 133 = .ok (.ldiv, 1) := by decide +kernel
theorem d_Sum_addProduct_134 : decode b_Sum_addProduct 134 = .ok (.lload 11, 2) := by decide +kernel
theorem d_Sum_addProduct_136 : decode b_Sum_addProduct 136 = .ok (.invokestatic 55, 3) := by decide +kernel
theorem d_Sum_addProduct_139 : decode b_Sum_addProduct 139 = .ok (.lstore 23, 2) := by decide +kernel
theorem d_Sum_addProduct_141 : decode b_Sum_addProduct 141 = .ok (.lload 13, 2) := by decide +kernel
theorem d_Sum_addProduct_143 : decode b_Sum_addProduct 143 = .ok (.lload 21, 2) := by decide +kernel
theorem d_Sum_addProduct_145 : decode b_Sum_addProduct 145 = .ok (.ldiv, 1) := by decide +kernel
theorem d_Sum_addProduct_146 : decode b_Sum_addProduct 146 = .ok (.lload 23, 2) := by decide +kernel
theorem d_Sum_addProduct_148 : decode b_Sum_addProduct 148 = .ok (.ldiv, 1) := by decide +kernel
theorem d_Sum_addProduct_149 : decode b_Sum_addProduct 149 = .ok (.lstore 13, 2) := by decide +kernel
theorem d_Sum_addProduct_151 : decode b_Sum_addProduct 151 = .ok (.lload 9, 2) := by decide +kernel
theorem d_Sum_addProduct_153 : decode b_Sum_addProduct 153 = .ok (.lload 21, 2) := by decide +kernel
theorem d_Sum_addProduct_155 : decode b_Sum_addProduct 155 = .ok (.ldiv, 1) := by decide +kernel
theorem d_Sum_addProduct_156 : decode b_Sum_addProduct 156 = .ok (.lload 11, 2) := by decide +kernel
theorem d_Sum_addProduct_158 : decode b_Sum_addProduct 158 = .ok (.lload 23, 2) := by decide +kernel
theorem d_Sum_addProduct_160 : decode b_Sum_addProduct 160 = .ok (.ldiv, 1) := by decide +kernel
theorem d_Sum_addProduct_161 : decode b_Sum_addProduct 161 = .ok (.lmul, 1) := by decide +kernel
theorem d_Sum_addProduct_162 : decode b_Sum_addProduct 162 = .ok (.lstore 25, 2) := by decide +kernel
theorem d_Sum_addProduct_164 : decode b_Sum_addProduct 164 = .ok (.lload 5, 2) := by decide +kernel
theorem d_Sum_addProduct_166 : decode b_Sum_addProduct 166 = .ok (.lload 7, 2) := by decide +kernel
theorem d_Sum_addProduct_168 : decode b_Sum_addProduct 168 = .ok (.lmul, 1) := by decide +kernel
theorem d_Sum_addProduct_169 : decode b_Sum_addProduct 169 = .ok (.lstore 27, 2) := by decide +kernel
theorem d_Sum_addProduct_171 : decode b_Sum_addProduct 171 = .ok (.lload 27, 2) := by decide +kernel
theorem d_Sum_addProduct_173 : decode b_Sum_addProduct 173 = .ok (.invokestatic 61, 3) := by decide +kernel
theorem d_Sum_addProduct_176 : decode b_Sum_addProduct 176 = .ok (.invokestatic 67, 3) := by decide +kernel
theorem d_Sum_addProduct_179 : decode b_Sum_addProduct 179 = .ok (.ifCond .ne 19, 3) := by decide +kernel
theorem d_Sum_addProduct_182 : decode b_Sum_addProduct 182 = .ok (.lload 25, 2) := by decide +kernel
theorem d_Sum_addProduct_184 : decode b_Sum_addProduct 184 = .ok (.invokestatic 67, 3) := by decide +kernel
theorem d_Sum_addProduct_187 : decode b_Sum_addProduct 187 = .ok (.ifCond .ne 11, 3) := by decide +kernel
theorem d_Sum_addProduct_190 : decode b_Sum_addProduct 190 = .ok (.lload 15, 2) := by decide +kernel
theorem d_Sum_addProduct_192 : decode b_Sum_addProduct 192 = .ok (.invokestatic 67, 3) := by decide +kernel
theorem d_Sum_addProduct_195 : decode b_Sum_addProduct 195 = .ok (.ifCond .eq 5, 3) := by decide +kernel
theorem d_Sum_addProduct_198 : decode b_Sum_addProduct 198 = .ok (.iconst 0, 1) := by decide +kernel
theorem d_Sum_addProduct_199 : decode b_Sum_addProduct 199 = .ok (.ireturn, 1) := by decide +kernel
theorem d_Sum_addProduct_200 : decode b_Sum_addProduct 200 = .ok (.lload 27, 2) := by decide +kernel
theorem d_Sum_addProduct_202 : decode b_Sum_addProduct 202 = .ok (.lload 13, 2) := by decide +kernel
theorem d_Sum_addProduct_204 : decode b_Sum_addProduct 204 = .ok (.lmul, 1) := by decide +kernel
theorem d_Sum_addProduct_205 : decode b_Sum_addProduct 205 = .ok (.lstore 27, 2) := by decide +kernel
theorem d_Sum_addProduct_207 : decode b_Sum_addProduct 207 = .ok (.lload 27, 2) := by decide +kernel
theorem d_Sum_addProduct_209 : decode b_Sum_addProduct 209 = .ok (.invokestatic 61, 3) := by decide +kernel
theorem d_Sum_addProduct_212 : decode b_Sum_addProduct 212 = .ok (.invokestatic 67, 3) := by decide +kernel
theorem d_Sum_addProduct_215 : decode b_Sum_addProduct 215 = .ok (.ifCond .ne 20, 3) := by decide +kernel
theorem d_Sum_addProduct_218 : decode b_Sum_addProduct 218 = .ok (.aload_n 0, 1) := by decide +kernel
theorem d_Sum_addProduct_219 : decode b_Sum_addProduct 219 = .ok (.lload 27, 2) := by decide +kernel
theorem d_Sum_addProduct_221 : decode b_Sum_addProduct 221 = .ok (.lload 25, 2) := by decide +kernel
theorem d_Sum_addProduct_223 : decode b_Sum_addProduct 223 = .ok (.lload 15, 2) := by decide +kernel
theorem d_Sum_addProduct_225 : decode b_Sum_addProduct 225 = .ok (.invokevirtual 47, 3) := by decide +kernel
theorem d_Sum_addProduct_228 : decode b_Sum_addProduct 228 = .ok (.ifCond .eq 7, 3) := by decide +kernel
theorem d_Sum_addProduct_231 : decode b_Sum_addProduct 231 = .ok (.iconst 1, 1) := by decide +kernel
theorem d_Sum_addProduct_232 : decode b_Sum_addProduct 232 = .ok (.goto 4, 3) := by decide +kernel
theorem d_Sum_addProduct_235 : decode b_Sum_addProduct 235 = .ok (.iconst 0, 1) := by decide +kernel
theorem d_Sum_addProduct_236 : decode b_Sum_addProduct 236 = .ok (.ireturn, 1) := by decide +kernel
def mf_Sum_addProduct (F : Nat) (vI : Int32) (vJ : Int32) (dk : Int32) (dn : Int32) (dT : Nat → Int64) (dB : Nat → Int64) (dR : Nat → Int64) (xk : Int32) (xn : Int32) (xT : Nat → Int64) (xB : Nat → Int64) (xR : Nat → Int64) (yk : Int32) (yn : Int32) (yT : Nat → Int64) (yB : Nat → Int64) (yR : Nat → Int64) : Option (Int32 × Int32 × (Nat → Int64) × (Nat → Int64) × (Nat → Int64)) :=
  (sd_g (sd_ix vI 8) (sd_let ((xT vI.toNatClampNeg)) fun x5 => (sd_g (sd_ix vJ 8) (sd_let ((yT vJ.toNatClampNeg)) fun x7 => (sd_g (sd_ix vI 8) (sd_let ((xB vI.toNatClampNeg)) fun x9 => (sd_g (sd_ix vJ 8) (sd_let ((yB vJ.toNatClampNeg)) fun x11 => (sd_g (sd_ix vI 8) (sd_g (sd_ix vJ 8) (sd_b1 (mf_Whole_commonDivisor F (xR vI.toNatClampNeg) (yR vJ.toNatClampNeg)) fun r => (sd_g (sd_ix vI 8) (sd_g (sd_zJ r) (sd_g (sd_ix vJ 8) (sd_g (sd_zJ r) (sd_let ((((xR vI.toNatClampNeg) / r) * ((yR vJ.toNatClampNeg) / r))) fun x15 => (sd_b1 (mf_Whole_commonDivisor F x5 x11) fun r_1 => (sd_b1 (mf_Whole_commonDivisor F x7 x9) fun r_2 => (sd_g (sd_zJ r_1) (sd_let ((x5 / r_1)) fun x5_1 => (sd_g (sd_zJ r_1) (sd_let ((x11 / r_1)) fun x11_1 => (sd_g (sd_zJ r_2) (sd_let ((x7 / r_2)) fun x7_1 => (sd_g (sd_zJ r_2) (sd_let ((x9 / r_2)) fun x9_1 => (sd_b1 (mf_Whole_commonDivisor F r x9_1) fun r_3 => (sd_g (sd_zJ r_3) (sd_b1 (mf_Whole_commonDivisor F (r / r_3) x11_1) fun r_4 => (sd_g (sd_zJ r_3) (sd_g (sd_zJ r_4) (sd_let (((r / r_3) / r_4)) fun x13 => (sd_g (sd_zJ r_3) (sd_g (sd_zJ r_4) (sd_let (((x9_1 / r_3) * (x11_1 / r_4))) fun x25 => (sd_let ((x5_1 * x7_1)) fun x27 => (sd_b1 (mf_Whole_isTooGreat F (if 0 < x27 then x27 else -x27)) fun r_5 => (if r_5 = 0 then (sd_b1 (mf_Whole_isTooGreat F x25) fun r_6 => (if r_6 = 0 then (sd_b1 (mf_Whole_isTooGreat F x15) fun r_7 => (if r_7 = 0 then (sd_let ((x27 * x13)) fun x27_1 => (sd_b1 (mf_Whole_isTooGreat F (if 0 < x27_1 then x27_1 else -x27_1)) fun r_8 => (sd_b5 (if r_8 = 0 then (sd_b5 (mf_Sum_add F x27_1 x25 x15 dk dn dT dB dR) fun r_9 uds_1 udat_1 udab_1 udar_1 => (if r_9 = 0 then (some ((0 : Int32), uds_1, udat_1, udab_1, udar_1)) else (some ((1 : Int32), uds_1, udat_1, udab_1, udar_1)))) else (some ((0 : Int32), dn, dT, dB, dR))) fun y uds udat udab udar => (sd_g (sd_b01 y) (some (y, uds, udat, udab, udar)))))) else (some ((0 : Int32), dn, dT, dB, dR)))) else (some ((0 : Int32), dn, dT, dB, dR)))) else (some ((0 : Int32), dn, dT, dB, dR))))))))))))))))))))))))))))))))))))))))
abbrev rm_Sum_addProduct : Room := { frames := 4, cells := 0, slots := 0, locals := 160 }
set_option maxHeartbeats 4000000 in
set_option maxRecDepth 100000 in
theorem ct_Sum_addProduct (l : Launch) (D : va_G) (g : G4) (ds : Nat) (dat : Nat) (dab : Nat) (dar : Nat) (dal : Nat) (dah : Nat) (xs : Nat) (xat : Nat) (xab : Nat) (xar : Nat) (xal : Nat) (xah : Nat) (ys : Nat) (yat : Nat) (yab : Nat) (yar : Nat) (yal : Nat) (yah : Nat) (sz : Nat) (vI : Int32) (vJ : Int32) (dk : Int32) (dn : Int32) (dT : Nat → Int64) (dB : Nat → Int64) (dR : Nat → Int64) (xk : Int32) (xn : Int32) (xT : Nat → Int64) (xB : Nat → Int64) (xR : Nat → Int64) (yk : Int32) (yn : Int32) (yT : Nat → Int64) (yB : Nat → Int64) (yR : Nat → Int64) (F : Nat) (res : Int32 × Int32 × (Nat → Int64) × (Nat → Int64) × (Nat → Int64)) (hm : mf_Sum_addProduct F vI vJ dk dn dT dB dR xk xn xT xB xR yk yn yT yB yR = some res) : Met l y_Sum_addProduct (.code y_Sum_addProduct b_Sum_addProduct 29 (some .boolean) :: sd_tb) rm_Sum_addProduct (sd_PW D g [.ref ds, .ref xs, .int vI, .ref ys, .int vJ] sz [(ds, .inr (0, [.ref dat, .ref dab, .ref dar, .ref dal, .ref dah, .int dk, .int dn])), (dat, aJ g 8 dT), (dab, aJ g 8 dB), (dar, aJ g 8 dR), (xs, .inr (0, [.ref xat, .ref xab, .ref xar, .ref xal, .ref xah, .int xk, .int xn])), (xat, aJ g 8 xT), (xab, aJ g 8 xB), (xar, aJ g 8 xR), (ys, .inr (0, [.ref yat, .ref yab, .ref yar, .ref yal, .ref yah, .int yk, .int yn])), (yat, aJ g 8 yT), (yab, aJ g 8 yB), (yar, aJ g 8 yR)]) (sd_Qi1 D g res (fun u : Int32 × (Nat → Int64) × (Nat → Int64) × (Nat → Int64) => [(ds, .inr (0, [.ref dat, .ref dab, .ref dar, .ref dal, .ref dah, .int dk, .int (u.1)])), (dat, aJ g 8 (u.2.1)), (dab, aJ g 8 (u.2.2.1)), (dar, aJ g 8 (u.2.2.2)), (xs, .inr (0, [.ref xat, .ref xab, .ref xar, .ref xal, .ref xah, .int xk, .int xn])), (xat, aJ g 8 xT), (xab, aJ g 8 xB), (xar, aJ g 8 xR), (ys, .inr (0, [.ref yat, .ref yab, .ref yar, .ref yal, .ref yah, .int yk, .int yn])), (yat, aJ g 8 yT), (yab, aJ g 8 yB), (yar, aJ g 8 yR)]) (va_A [(ds, .inr (0, [.ref dat, .ref dab, .ref dar, .ref dal, .ref dah, .int dk, .int dn])), (dat, aJ g 8 dT), (dab, aJ g 8 dB), (dar, aJ g 8 dR), (xs, .inr (0, [.ref xat, .ref xab, .ref xar, .ref xal, .ref xah, .int xk, .int xn])), (xat, aJ g 8 xT), (xab, aJ g 8 xB), (xar, aJ g 8 xR), (ys, .inr (0, [.ref yat, .ref yab, .ref yar, .ref yal, .ref yah, .int yk, .int yn])), (yat, aJ g 8 yT), (yab, aJ g 8 yB), (yar, aJ g 8 yR)] sz)) 0 0 (va_A [(ds, .inr (0, [.ref dat, .ref dab, .ref dar, .ref dal, .ref dah, .int dk, .int dn])), (dat, aJ g 8 dT), (dab, aJ g 8 dB), (dar, aJ g 8 dR), (xs, .inr (0, [.ref xat, .ref xab, .ref xar, .ref xal, .ref xah, .int xk, .int xn])), (xat, aJ g 8 xT), (xab, aJ g 8 xB), (xar, aJ g 8 xR), (ys, .inr (0, [.ref yat, .ref yab, .ref yar, .ref yal, .ref yah, .int yk, .int yn])), (yat, aJ g 8 yT), (yab, aJ g 8 yB), (yar, aJ g 8 yR)] sz) := by
  refine sd_met (Qf := fun A => sd_Qi1 D g res (fun u : Int32 × (Nat → Int64) × (Nat → Int64) × (Nat → Int64) => [(ds, .inr (0, [.ref dat, .ref dab, .ref dar, .ref dal, .ref dah, .int dk, .int (u.1)])), (dat, aJ g 8 (u.2.1)), (dab, aJ g 8 (u.2.2.1)), (dar, aJ g 8 (u.2.2.2)), (xs, .inr (0, [.ref xat, .ref xab, .ref xar, .ref xal, .ref xah, .int xk, .int xn])), (xat, aJ g 8 xT), (xab, aJ g 8 xB), (xar, aJ g 8 xR), (ys, .inr (0, [.ref yat, .ref yab, .ref yar, .ref yal, .ref yah, .int yk, .int yn])), (yat, aJ g 8 yT), (yab, aJ g 8 yB), (yar, aJ g 8 yR)]) A) (own := R_Sum) (by decide +kernel) rfl (Nat.le_of_ble_eq_true rfl) ?_
  intro p e s m args below meth c S hr hlk hK A hA Q hQ H locs hP hD hS ls hl
  have hx := S.1
  have hb := S.2.1
  have hml := S.2.2.1
  have hown := S.2.2.2.1
  have htt := sd_tt S
  replace hl : lv_has ls 29 [(0, .ref ds), (1, .ref xs), (2, .int vI), (3, .ref ys), (4, .int vJ)] := hl
  unfold mf_Sum_addProduct at hm
  refine lv_aload_n hx hb d_Sum_addProduct_0 rfl (lv_at hl 1 rfl) ?_
  refine va_get (D := D) (ci := 0) (v := .ref xat) (C := R_Sum) (T := F_Sum) (N := 7) hx hb htt i_Sum hown hK hP 4 rfl rfl 0 (by decide) (htt _ kf_Sum_9) (fun _ h9 => h9) rfl d_Sum_addProduct_1 ?_
  refine lv_iload_n hx hb d_Sum_addProduct_4 rfl (lv_at hl 2 rfl) ?_
  obtain ⟨h_1, hm⟩ := sd_mg hm
  refine sd_lald hx hb hK hP 5 rfl h_1 d_Sum_addProduct_5 ?_
  obtain ⟨x5, ex5, hm⟩ := sd_mlet hm
  refine sd_topj ex5 ?_
  refine lv_lstore (lv' := [(5, .long x5), (0, .ref ds), (1, .ref xs), (2, .int vI), (3, .ref ys), (4, .int vJ)]) hx hb d_Sum_addProduct_6 hl (by decide) rfl (fun ls hl => ?_)
  refine lv_aload_n hx hb d_Sum_addProduct_8 rfl (lv_at hl 4 rfl) ?_
  refine va_get (D := D) (ci := 0) (v := .ref yat) (C := R_Sum) (T := F_Sum) (N := 7) hx hb htt i_Sum hown hK hP 8 rfl rfl 0 (by decide) (htt _ kf_Sum_9) (fun _ h9 => h9) rfl d_Sum_addProduct_9 ?_
  refine lv_iload hx hb d_Sum_addProduct_12 (lv_at hl 5 rfl) ?_
  obtain ⟨h_2, hm⟩ := sd_mg hm
  refine sd_lald hx hb hK hP 9 rfl h_2 d_Sum_addProduct_14 ?_
  obtain ⟨x7, ex7, hm⟩ := sd_mlet hm
  refine sd_topj ex7 ?_
  refine lv_lstore (lv' := [(7, .long x7), (5, .long x5), (0, .ref ds), (1, .ref xs), (2, .int vI), (3, .ref ys), (4, .int vJ)]) hx hb d_Sum_addProduct_15 hl (by decide) rfl (fun ls hl => ?_)
  refine lv_aload_n hx hb d_Sum_addProduct_17 rfl (lv_at hl 3 rfl) ?_
  refine va_get (D := D) (ci := 0) (v := .ref xab) (C := R_Sum) (T := F_Sum) (N := 7) hx hb htt i_Sum hown hK hP 4 rfl rfl 1 (by decide) (htt _ kf_Sum_13) (fun _ h9 => h9) rfl d_Sum_addProduct_18 ?_
  refine lv_iload_n hx hb d_Sum_addProduct_21 rfl (lv_at hl 4 rfl) ?_
  obtain ⟨h_3, hm⟩ := sd_mg hm
  refine sd_lald hx hb hK hP 6 rfl h_3 d_Sum_addProduct_22 ?_
  obtain ⟨x9, ex9, hm⟩ := sd_mlet hm
  refine sd_topj ex9 ?_
  refine lv_lstore (lv' := [(9, .long x9), (7, .long x7), (5, .long x5), (0, .ref ds), (1, .ref xs), (2, .int vI), (3, .ref ys), (4, .int vJ)]) hx hb d_Sum_addProduct_23 hl (by decide) rfl (fun ls hl => ?_)
  refine lv_aload_n hx hb d_Sum_addProduct_25 rfl (lv_at hl 6 rfl) ?_
  refine va_get (D := D) (ci := 0) (v := .ref yab) (C := R_Sum) (T := F_Sum) (N := 7) hx hb htt i_Sum hown hK hP 8 rfl rfl 1 (by decide) (htt _ kf_Sum_13) (fun _ h9 => h9) rfl d_Sum_addProduct_26 ?_
  refine lv_iload hx hb d_Sum_addProduct_29 (lv_at hl 7 rfl) ?_
  obtain ⟨h_4, hm⟩ := sd_mg hm
  refine sd_lald hx hb hK hP 10 rfl h_4 d_Sum_addProduct_31 ?_
  obtain ⟨x11, ex11, hm⟩ := sd_mlet hm
  refine sd_topj ex11 ?_
  refine lv_lstore (lv' := [(11, .long x11), (9, .long x9), (7, .long x7), (5, .long x5), (0, .ref ds), (1, .ref xs), (2, .int vI), (3, .ref ys), (4, .int vJ)]) hx hb d_Sum_addProduct_32 hl (by decide) rfl (fun ls hl => ?_)
  refine lv_aload_n hx hb d_Sum_addProduct_34 rfl (lv_at hl 5 rfl) ?_
  refine va_get (D := D) (ci := 0) (v := .ref xar) (C := R_Sum) (T := F_Sum) (N := 7) hx hb htt i_Sum hown hK hP 4 rfl rfl 2 (by decide) (htt _ kf_Sum_16) (fun _ h9 => h9) rfl d_Sum_addProduct_35 ?_
  refine lv_iload_n hx hb d_Sum_addProduct_38 rfl (lv_at hl 6 rfl) ?_
  obtain ⟨h_5, hm⟩ := sd_mg hm
  refine sd_lald hx hb hK hP 7 rfl h_5 d_Sum_addProduct_39 ?_
  refine lv_aload_n hx hb d_Sum_addProduct_40 rfl (lv_at hl 7 rfl) ?_
  refine va_get (D := D) (ci := 0) (v := .ref yar) (C := R_Sum) (T := F_Sum) (N := 7) hx hb htt i_Sum hown hK hP 8 rfl rfl 2 (by decide) (htt _ kf_Sum_16) (fun _ h9 => h9) rfl d_Sum_addProduct_41 ?_
  refine lv_iload hx hb d_Sum_addProduct_44 (lv_at hl 8 rfl) ?_
  obtain ⟨h_6, hm⟩ := sd_mg hm
  refine sd_lald hx hb hK hP 11 rfl h_6 d_Sum_addProduct_46 ?_
  obtain ⟨r, hc, hm⟩ := sd_mb1 hm
  refine sd_cl0 (wr := [(ds, .inr (0, [.ref dat, .ref dab, .ref dar, .ref dal, .ref dah, .int dk, .int dn])), (dat, aJ g 8 dT), (dab, aJ g 8 dB), (dar, aJ g 8 dR), (xs, .inr (0, [.ref xat, .ref xab, .ref xar, .ref xal, .ref xah, .int xk, .int xn])), (xat, aJ g 8 xT), (xab, aJ g 8 xB), (xar, aJ g 8 xR), (ys, .inr (0, [.ref yat, .ref yab, .ref yar, .ref yal, .ref yah, .int yk, .int yn])), (yat, aJ g 8 yT), (yab, aJ g 8 yB), (yar, aJ g 8 yR)]) (w2 := [(ds, .inr (0, [.ref dat, .ref dab, .ref dar, .ref dal, .ref dah, .int dk, .int dn])), (dat, aJ g 8 dT), (dab, aJ g 8 dB), (dar, aJ g 8 dR), (xs, .inr (0, [.ref xat, .ref xab, .ref xar, .ref xal, .ref xah, .int xk, .int xn])), (xat, aJ g 8 xT), (xab, aJ g 8 xB), (xar, aJ g 8 xR), (ys, .inr (0, [.ref yat, .ref yab, .ref yar, .ref yal, .ref yah, .int yk, .int yn])), (yat, aJ g 8 yT), (yab, aJ g 8 yB), (yar, aJ g 8 yR)]) (sd_runS (rest := []) (As := [.long (xR vI.toNatClampNeg), .long (yR vJ.toNatClampNeg)]) S (ct_Whole_commonDivisor l D g (H.size) (xR vI.toNatClampNeg) (yR vJ.toNatClampNeg) F (r) hc) kl_Sum_55 (by decide) (by decide) hK hP hD [] rfl (by decide) rfl hl d_Sum_addProduct_47 rfl (Nat.le_of_ble_eq_true rfl) ⟨Nat.zero_le _, Nat.zero_le _⟩) hP hD hS hA [] [0, 1, 2, 3, 4, 5, 6, 7, 8, 9, 10, 11] rfl rfl (by decide) (by decide) rfl (fun H locs hP hD hS => ?_)
  refine W.eq (g2 := F0 m 50 ls [.long r]) rfl ?_
  refine lv_lstore (lv' := [(13, .long r), (11, .long x11), (9, .long x9), (7, .long x7), (5, .long x5), (0, .ref ds), (1, .ref xs), (2, .int vI), (3, .ref ys), (4, .int vJ)]) hx hb d_Sum_addProduct_50 hl (by decide) rfl (fun ls hl => ?_)
  refine lv_aload_n hx hb d_Sum_addProduct_52 rfl (lv_at hl 6 rfl) ?_
  refine va_get (D := D) (ci := 0) (v := .ref xar) (C := R_Sum) (T := F_Sum) (N := 7) hx hb htt i_Sum hown hK hP 4 rfl rfl 2 (by decide) (htt _ kf_Sum_16) (fun _ h9 => h9) rfl d_Sum_addProduct_53 ?_
  refine lv_iload_n hx hb d_Sum_addProduct_56 rfl (lv_at hl 7 rfl) ?_
  obtain ⟨h_7, hm⟩ := sd_mg hm
  refine sd_lald hx hb hK hP 7 rfl h_7 d_Sum_addProduct_57 ?_
  refine lv_lload hx hb d_Sum_addProduct_58 (lv_at hl 0 rfl) ?_
  obtain ⟨h_8, hm⟩ := sd_mg hm
  refine lv_ldiv hx hb d_Sum_addProduct_60 (sd_nzJ h_8) ?_
  refine lv_aload_n hx hb d_Sum_addProduct_61 rfl (lv_at hl 8 rfl) ?_
  refine va_get (D := D) (ci := 0) (v := .ref yar) (C := R_Sum) (T := F_Sum) (N := 7) hx hb htt i_Sum hown hK hP 8 rfl rfl 2 (by decide) (htt _ kf_Sum_16) (fun _ h9 => h9) rfl d_Sum_addProduct_62 ?_
  refine lv_iload hx hb d_Sum_addProduct_65 (lv_at hl 9 rfl) ?_
  obtain ⟨h_9, hm⟩ := sd_mg hm
  refine sd_lald hx hb hK hP 11 rfl h_9 d_Sum_addProduct_67 ?_
  refine lv_lload hx hb d_Sum_addProduct_68 (lv_at hl 0 rfl) ?_
  obtain ⟨h_10, hm⟩ := sd_mg hm
  refine lv_ldiv hx hb d_Sum_addProduct_70 (sd_nzJ h_10) ?_
  refine lv_lmul hx hb d_Sum_addProduct_71 ?_
  obtain ⟨x15, ex15, hm⟩ := sd_mlet hm
  refine sd_topj ex15 ?_
  refine lv_lstore (lv' := [(15, .long x15), (13, .long r), (11, .long x11), (9, .long x9), (7, .long x7), (5, .long x5), (0, .ref ds), (1, .ref xs), (2, .int vI), (3, .ref ys), (4, .int vJ)]) hx hb d_Sum_addProduct_72 hl (by decide) rfl (fun ls hl => ?_)
  refine lv_lload hx hb d_Sum_addProduct_74 (lv_at hl 5 rfl) ?_
  refine lv_lload hx hb d_Sum_addProduct_76 (lv_at hl 2 rfl) ?_
  obtain ⟨r_1, hc, hm⟩ := sd_mb1 hm
  refine sd_cl0 (wr := [(ds, .inr (0, [.ref dat, .ref dab, .ref dar, .ref dal, .ref dah, .int dk, .int dn])), (dat, aJ g 8 dT), (dab, aJ g 8 dB), (dar, aJ g 8 dR), (xs, .inr (0, [.ref xat, .ref xab, .ref xar, .ref xal, .ref xah, .int xk, .int xn])), (xat, aJ g 8 xT), (xab, aJ g 8 xB), (xar, aJ g 8 xR), (ys, .inr (0, [.ref yat, .ref yab, .ref yar, .ref yal, .ref yah, .int yk, .int yn])), (yat, aJ g 8 yT), (yab, aJ g 8 yB), (yar, aJ g 8 yR)]) (w2 := [(ds, .inr (0, [.ref dat, .ref dab, .ref dar, .ref dal, .ref dah, .int dk, .int dn])), (dat, aJ g 8 dT), (dab, aJ g 8 dB), (dar, aJ g 8 dR), (xs, .inr (0, [.ref xat, .ref xab, .ref xar, .ref xal, .ref xah, .int xk, .int xn])), (xat, aJ g 8 xT), (xab, aJ g 8 xB), (xar, aJ g 8 xR), (ys, .inr (0, [.ref yat, .ref yab, .ref yar, .ref yal, .ref yah, .int yk, .int yn])), (yat, aJ g 8 yT), (yab, aJ g 8 yB), (yar, aJ g 8 yR)]) (sd_runS (rest := []) (As := [.long x5, .long x11]) S (ct_Whole_commonDivisor l D g (H.size) x5 x11 F (r_1) hc) kl_Sum_55 (by decide) (by decide) hK hP hD [] rfl (by decide) rfl hl d_Sum_addProduct_78 rfl (Nat.le_of_ble_eq_true rfl) ⟨Nat.zero_le _, Nat.zero_le _⟩) hP hD hS hA [] [0, 1, 2, 3, 4, 5, 6, 7, 8, 9, 10, 11] rfl rfl (by decide) (by decide) rfl (fun H locs hP hD hS => ?_)
  refine W.eq (g2 := F0 m 81 ls [.long r_1]) rfl ?_
  refine lv_lstore (lv' := [(17, .long r_1), (15, .long x15), (13, .long r), (11, .long x11), (9, .long x9), (7, .long x7), (5, .long x5), (0, .ref ds), (1, .ref xs), (2, .int vI), (3, .ref ys), (4, .int vJ)]) hx hb d_Sum_addProduct_81 hl (by decide) rfl (fun ls hl => ?_)
  refine lv_lload hx hb d_Sum_addProduct_83 (lv_at hl 5 rfl) ?_
  refine lv_lload hx hb d_Sum_addProduct_85 (lv_at hl 4 rfl) ?_
  obtain ⟨r_2, hc, hm⟩ := sd_mb1 hm
  refine sd_cl0 (wr := [(ds, .inr (0, [.ref dat, .ref dab, .ref dar, .ref dal, .ref dah, .int dk, .int dn])), (dat, aJ g 8 dT), (dab, aJ g 8 dB), (dar, aJ g 8 dR), (xs, .inr (0, [.ref xat, .ref xab, .ref xar, .ref xal, .ref xah, .int xk, .int xn])), (xat, aJ g 8 xT), (xab, aJ g 8 xB), (xar, aJ g 8 xR), (ys, .inr (0, [.ref yat, .ref yab, .ref yar, .ref yal, .ref yah, .int yk, .int yn])), (yat, aJ g 8 yT), (yab, aJ g 8 yB), (yar, aJ g 8 yR)]) (w2 := [(ds, .inr (0, [.ref dat, .ref dab, .ref dar, .ref dal, .ref dah, .int dk, .int dn])), (dat, aJ g 8 dT), (dab, aJ g 8 dB), (dar, aJ g 8 dR), (xs, .inr (0, [.ref xat, .ref xab, .ref xar, .ref xal, .ref xah, .int xk, .int xn])), (xat, aJ g 8 xT), (xab, aJ g 8 xB), (xar, aJ g 8 xR), (ys, .inr (0, [.ref yat, .ref yab, .ref yar, .ref yal, .ref yah, .int yk, .int yn])), (yat, aJ g 8 yT), (yab, aJ g 8 yB), (yar, aJ g 8 yR)]) (sd_runS (rest := []) (As := [.long x7, .long x9]) S (ct_Whole_commonDivisor l D g (H.size) x7 x9 F (r_2) hc) kl_Sum_55 (by decide) (by decide) hK hP hD [] rfl (by decide) rfl hl d_Sum_addProduct_87 rfl (Nat.le_of_ble_eq_true rfl) ⟨Nat.zero_le _, Nat.zero_le _⟩) hP hD hS hA [] [0, 1, 2, 3, 4, 5, 6, 7, 8, 9, 10, 11] rfl rfl (by decide) (by decide) rfl (fun H locs hP hD hS => ?_)
  refine W.eq (g2 := F0 m 90 ls [.long r_2]) rfl ?_
  refine lv_lstore (lv' := [(19, .long r_2), (17, .long r_1), (15, .long x15), (13, .long r), (11, .long x11), (9, .long x9), (7, .long x7), (5, .long x5), (0, .ref ds), (1, .ref xs), (2, .int vI), (3, .ref ys), (4, .int vJ)]) hx hb d_Sum_addProduct_90 hl (by decide) rfl (fun ls hl => ?_)
  refine lv_lload hx hb d_Sum_addProduct_92 (lv_at hl 7 rfl) ?_
  refine lv_lload hx hb d_Sum_addProduct_94 (lv_at hl 1 rfl) ?_
  obtain ⟨h_11, hm⟩ := sd_mg hm
  refine lv_ldiv hx hb d_Sum_addProduct_96 (sd_nzJ h_11) ?_
  obtain ⟨x5_1, ex5_1, hm⟩ := sd_mlet hm
  refine sd_topj ex5_1 ?_
  refine lv_lstore (lv' := [(5, .long x5_1), (19, .long r_2), (17, .long r_1), (15, .long x15), (13, .long r), (11, .long x11), (9, .long x9), (7, .long x7), (0, .ref ds), (1, .ref xs), (2, .int vI), (3, .ref ys), (4, .int vJ)]) hx hb d_Sum_addProduct_97 hl (by decide) rfl (fun ls hl => ?_)
  refine lv_lload hx hb d_Sum_addProduct_99 (lv_at hl 5 rfl) ?_
  refine lv_lload hx hb d_Sum_addProduct_101 (lv_at hl 2 rfl) ?_
  obtain ⟨h_12, hm⟩ := sd_mg hm
  refine lv_ldiv hx hb d_Sum_addProduct_103 (sd_nzJ h_12) ?_
  obtain ⟨x11_1, ex11_1, hm⟩ := sd_mlet hm
  refine sd_topj ex11_1 ?_
  refine lv_lstore (lv' := [(11, .long x11_1), (5, .long x5_1), (19, .long r_2), (17, .long r_1), (15, .long x15), (13, .long r), (9, .long x9), (7, .long x7), (0, .ref ds), (1, .ref xs), (2, .int vI), (3, .ref ys), (4, .int vJ)]) hx hb d_Sum_addProduct_104 hl (by decide) rfl (fun ls hl => ?_)
  refine lv_lload hx hb d_Sum_addProduct_106 (lv_at hl 7 rfl) ?_
  refine lv_lload hx hb d_Sum_addProduct_108 (lv_at hl 2 rfl) ?_
  obtain ⟨h_13, hm⟩ := sd_mg hm
  refine lv_ldiv hx hb d_Sum_addProduct_110 (sd_nzJ h_13) ?_
  obtain ⟨x7_1, ex7_1, hm⟩ := sd_mlet hm
  refine sd_topj ex7_1 ?_
  refine lv_lstore (lv' := [(7, .long x7_1), (11, .long x11_1), (5, .long x5_1), (19, .long r_2), (17, .long r_1), (15, .long x15), (13, .long r), (9, .long x9), (0, .ref ds), (1, .ref xs), (2, .int vI), (3, .ref ys), (4, .int vJ)]) hx hb d_Sum_addProduct_111 hl (by decide) rfl (fun ls hl => ?_)
  refine lv_lload hx hb d_Sum_addProduct_113 (lv_at hl 7 rfl) ?_
  refine lv_lload hx hb d_Sum_addProduct_115 (lv_at hl 3 rfl) ?_
  obtain ⟨h_14, hm⟩ := sd_mg hm
  refine lv_ldiv hx hb d_Sum_addProduct_117 (sd_nzJ h_14) ?_
  obtain ⟨x9_1, ex9_1, hm⟩ := sd_mlet hm
  refine sd_topj ex9_1 ?_
  refine lv_lstore (lv' := [(9, .long x9_1), (7, .long x7_1), (11, .long x11_1), (5, .long x5_1), (19, .long r_2), (17, .long r_1), (15, .long x15), (13, .long r), (0, .ref ds), (1, .ref xs), (2, .int vI), (3, .ref ys), (4, .int vJ)]) hx hb d_Sum_addProduct_118 hl (by decide) rfl (fun ls hl => ?_)
  refine lv_lload hx hb d_Sum_addProduct_120 (lv_at hl 7 rfl) ?_
  refine lv_lload hx hb d_Sum_addProduct_122 (lv_at hl 0 rfl) ?_
  obtain ⟨r_3, hc, hm⟩ := sd_mb1 hm
  refine sd_cl0 (wr := [(ds, .inr (0, [.ref dat, .ref dab, .ref dar, .ref dal, .ref dah, .int dk, .int dn])), (dat, aJ g 8 dT), (dab, aJ g 8 dB), (dar, aJ g 8 dR), (xs, .inr (0, [.ref xat, .ref xab, .ref xar, .ref xal, .ref xah, .int xk, .int xn])), (xat, aJ g 8 xT), (xab, aJ g 8 xB), (xar, aJ g 8 xR), (ys, .inr (0, [.ref yat, .ref yab, .ref yar, .ref yal, .ref yah, .int yk, .int yn])), (yat, aJ g 8 yT), (yab, aJ g 8 yB), (yar, aJ g 8 yR)]) (w2 := [(ds, .inr (0, [.ref dat, .ref dab, .ref dar, .ref dal, .ref dah, .int dk, .int dn])), (dat, aJ g 8 dT), (dab, aJ g 8 dB), (dar, aJ g 8 dR), (xs, .inr (0, [.ref xat, .ref xab, .ref xar, .ref xal, .ref xah, .int xk, .int xn])), (xat, aJ g 8 xT), (xab, aJ g 8 xB), (xar, aJ g 8 xR), (ys, .inr (0, [.ref yat, .ref yab, .ref yar, .ref yal, .ref yah, .int yk, .int yn])), (yat, aJ g 8 yT), (yab, aJ g 8 yB), (yar, aJ g 8 yR)]) (sd_runS (rest := []) (As := [.long r, .long x9_1]) S (ct_Whole_commonDivisor l D g (H.size) r x9_1 F (r_3) hc) kl_Sum_55 (by decide) (by decide) hK hP hD [] rfl (by decide) rfl hl d_Sum_addProduct_124 rfl (Nat.le_of_ble_eq_true rfl) ⟨Nat.zero_le _, Nat.zero_le _⟩) hP hD hS hA [] [0, 1, 2, 3, 4, 5, 6, 7, 8, 9, 10, 11] rfl rfl (by decide) (by decide) rfl (fun H locs hP hD hS => ?_)
  refine W.eq (g2 := F0 m 127 ls [.long r_3]) rfl ?_
  refine lv_lstore (lv' := [(21, .long r_3), (9, .long x9_1), (7, .long x7_1), (11, .long x11_1), (5, .long x5_1), (19, .long r_2), (17, .long r_1), (15, .long x15), (13, .long r), (0, .ref ds), (1, .ref xs), (2, .int vI), (3, .ref ys), (4, .int vJ)]) hx hb d_Sum_addProduct_127 hl (by decide) rfl (fun ls hl => ?_)
  refine lv_lload hx hb d_Sum_addProduct_129 (lv_at hl 8 rfl) ?_
  refine lv_lload hx hb d_Sum_addProduct_131 (lv_at hl 0 rfl) ?_
  obtain ⟨h_15, hm⟩ := sd_mg hm
  refine lv_ldiv hx hb d_Sum_addProduct_133 (sd_nzJ h_15) ?_
  refine lv_lload hx hb d_Sum_addProduct_134 (lv_at hl 3 rfl) ?_
  obtain ⟨r_4, hc, hm⟩ := sd_mb1 hm
  refine sd_cl0 (wr := [(ds, .inr (0, [.ref dat, .ref dab, .ref dar, .ref dal, .ref dah, .int dk, .int dn])), (dat, aJ g 8 dT), (dab, aJ g 8 dB), (dar, aJ g 8 dR), (xs, .inr (0, [.ref xat, .ref xab, .ref xar, .ref xal, .ref xah, .int xk, .int xn])), (xat, aJ g 8 xT), (xab, aJ g 8 xB), (xar, aJ g 8 xR), (ys, .inr (0, [.ref yat, .ref yab, .ref yar, .ref yal, .ref yah, .int yk, .int yn])), (yat, aJ g 8 yT), (yab, aJ g 8 yB), (yar, aJ g 8 yR)]) (w2 := [(ds, .inr (0, [.ref dat, .ref dab, .ref dar, .ref dal, .ref dah, .int dk, .int dn])), (dat, aJ g 8 dT), (dab, aJ g 8 dB), (dar, aJ g 8 dR), (xs, .inr (0, [.ref xat, .ref xab, .ref xar, .ref xal, .ref xah, .int xk, .int xn])), (xat, aJ g 8 xT), (xab, aJ g 8 xB), (xar, aJ g 8 xR), (ys, .inr (0, [.ref yat, .ref yab, .ref yar, .ref yal, .ref yah, .int yk, .int yn])), (yat, aJ g 8 yT), (yab, aJ g 8 yB), (yar, aJ g 8 yR)]) (sd_runS (rest := []) (As := [.long (r / r_3), .long x11_1]) S (ct_Whole_commonDivisor l D g (H.size) (r / r_3) x11_1 F (r_4) hc) kl_Sum_55 (by decide) (by decide) hK hP hD [] rfl (by decide) rfl hl d_Sum_addProduct_136 rfl (Nat.le_of_ble_eq_true rfl) ⟨Nat.zero_le _, Nat.zero_le _⟩) hP hD hS hA [] [0, 1, 2, 3, 4, 5, 6, 7, 8, 9, 10, 11] rfl rfl (by decide) (by decide) rfl (fun H locs hP hD hS => ?_)
  refine W.eq (g2 := F0 m 139 ls [.long r_4]) rfl ?_
  refine lv_lstore (lv' := [(23, .long r_4), (21, .long r_3), (9, .long x9_1), (7, .long x7_1), (11, .long x11_1), (5, .long x5_1), (19, .long r_2), (17, .long r_1), (15, .long x15), (13, .long r), (0, .ref ds), (1, .ref xs), (2, .int vI), (3, .ref ys), (4, .int vJ)]) hx hb d_Sum_addProduct_139 hl (by decide) rfl (fun ls hl => ?_)
  refine lv_lload hx hb d_Sum_addProduct_141 (lv_at hl 9 rfl) ?_
  refine lv_lload hx hb d_Sum_addProduct_143 (lv_at hl 1 rfl) ?_
  obtain ⟨h_16, hm⟩ := sd_mg hm
  refine lv_ldiv hx hb d_Sum_addProduct_145 (sd_nzJ h_16) ?_
  refine lv_lload hx hb d_Sum_addProduct_146 (lv_at hl 0 rfl) ?_
  obtain ⟨h_17, hm⟩ := sd_mg hm
  refine lv_ldiv hx hb d_Sum_addProduct_148 (sd_nzJ h_17) ?_
  obtain ⟨x13, ex13, hm⟩ := sd_mlet hm
  refine sd_topj ex13 ?_
  refine lv_lstore (lv' := [(13, .long x13), (23, .long r_4), (21, .long r_3), (9, .long x9_1), (7, .long x7_1), (11, .long x11_1), (5, .long x5_1), (19, .long r_2), (17, .long r_1), (15, .long x15), (0, .ref ds), (1, .ref xs), (2, .int vI), (3, .ref ys), (4, .int vJ)]) hx hb d_Sum_addProduct_149 hl (by decide) rfl (fun ls hl => ?_)
  refine lv_lload hx hb d_Sum_addProduct_151 (lv_at hl 3 rfl) ?_
  refine lv_lload hx hb d_Sum_addProduct_153 (lv_at hl 2 rfl) ?_
  obtain ⟨h_18, hm⟩ := sd_mg hm
  refine lv_ldiv hx hb d_Sum_addProduct_155 (sd_nzJ h_18) ?_
  refine lv_lload hx hb d_Sum_addProduct_156 (lv_at hl 5 rfl) ?_
  refine lv_lload hx hb d_Sum_addProduct_158 (lv_at hl 1 rfl) ?_
  obtain ⟨h_19, hm⟩ := sd_mg hm
  refine lv_ldiv hx hb d_Sum_addProduct_160 (sd_nzJ h_19) ?_
  refine lv_lmul hx hb d_Sum_addProduct_161 ?_
  obtain ⟨x25, ex25, hm⟩ := sd_mlet hm
  refine sd_topj ex25 ?_
  refine lv_lstore (lv' := [(25, .long x25), (13, .long x13), (23, .long r_4), (21, .long r_3), (9, .long x9_1), (7, .long x7_1), (11, .long x11_1), (5, .long x5_1), (19, .long r_2), (17, .long r_1), (15, .long x15), (0, .ref ds), (1, .ref xs), (2, .int vI), (3, .ref ys), (4, .int vJ)]) hx hb d_Sum_addProduct_162 hl (by decide) rfl (fun ls hl => ?_)
  refine lv_lload hx hb d_Sum_addProduct_164 (lv_at hl 7 rfl) ?_
  refine lv_lload hx hb d_Sum_addProduct_166 (lv_at hl 5 rfl) ?_
  refine lv_lmul hx hb d_Sum_addProduct_168 ?_
  obtain ⟨x27, ex27, hm⟩ := sd_mlet hm
  refine sd_topj ex27 ?_
  refine lv_lstore (lv' := [(27, .long x27), (25, .long x25), (13, .long x13), (23, .long r_4), (21, .long r_3), (9, .long x9_1), (7, .long x7_1), (11, .long x11_1), (5, .long x5_1), (19, .long r_2), (17, .long r_1), (15, .long x15), (0, .ref ds), (1, .ref xs), (2, .int vI), (3, .ref ys), (4, .int vJ)]) hx hb d_Sum_addProduct_169 hl (by decide) rfl (fun ls hl => ?_)
  refine lv_lload hx hb d_Sum_addProduct_171 (lv_at hl 0 rfl) ?_
  refine sd_abs hx hb hml hown kl_Sum_61 htt hl d_Sum_addProduct_173 (Nat.le_of_ble_eq_true rfl) (Nat.le_of_ble_eq_true rfl) ?_
  obtain ⟨r_5, hc, hm⟩ := sd_mb1 hm
  refine sd_ci0 (wr := [(ds, .inr (0, [.ref dat, .ref dab, .ref dar, .ref dal, .ref dah, .int dk, .int dn])), (dat, aJ g 8 dT), (dab, aJ g 8 dB), (dar, aJ g 8 dR), (xs, .inr (0, [.ref xat, .ref xab, .ref xar, .ref xal, .ref xah, .int xk, .int xn])), (xat, aJ g 8 xT), (xab, aJ g 8 xB), (xar, aJ g 8 xR), (ys, .inr (0, [.ref yat, .ref yab, .ref yar, .ref yal, .ref yah, .int yk, .int yn])), (yat, aJ g 8 yT), (yab, aJ g 8 yB), (yar, aJ g 8 yR)]) (w2 := [(ds, .inr (0, [.ref dat, .ref dab, .ref dar, .ref dal, .ref dah, .int dk, .int dn])), (dat, aJ g 8 dT), (dab, aJ g 8 dB), (dar, aJ g 8 dR), (xs, .inr (0, [.ref xat, .ref xab, .ref xar, .ref xal, .ref xah, .int xk, .int xn])), (xat, aJ g 8 xT), (xab, aJ g 8 xB), (xar, aJ g 8 xR), (ys, .inr (0, [.ref yat, .ref yab, .ref yar, .ref yal, .ref yah, .int yk, .int yn])), (yat, aJ g 8 yT), (yab, aJ g 8 yB), (yar, aJ g 8 yR)]) (sd_runS (rest := []) (As := [.long (if 0 < x27 then x27 else -x27)]) S (ct_Whole_isTooGreat l D g (H.size) (if 0 < x27 then x27 else -x27) F (r_5) hc) kl_Sum_67 (by decide) (by decide) hK hP hD [] rfl (by decide) rfl hl d_Sum_addProduct_176 rfl (Nat.le_of_ble_eq_true rfl) ⟨Nat.zero_le _, Nat.zero_le _⟩) hP hD hS hA [] [0, 1, 2, 3, 4, 5, 6, 7, 8, 9, 10, 11] rfl rfl (by decide) (by decide) rfl (fun H locs hP hD hS => ?_)
  refine W.eq (g2 := F0 m 179 ls [.int r_5]) rfl ?_
  refine lv_if_ne (tgt := 198) hx hb d_Sum_addProduct_179 (by decide) (fun hc => ?_) (fun hc => ?_)
  · have hm := sd_mf hc hm
    refine lv_iconst (v := (0 : Int32)) hx hb d_Sum_addProduct_198 (by decide) ?_
    exact sd_z1ret (u := (dn, dT, dB, dR)) hQ hx hb hr hlk rfl hK (hP.sub [0, 1, 2, 3, 4, 5, 6, 7, 8, 9, 10, 11] rfl) (hD.sub [0, 1, 2, 3, 4, 5, 6, 7, 8, 9, 10, 11] (by decide) rfl) hS (Option.some.inj hm).symm d_Sum_addProduct_199
  · have hm := sd_mt hc hm
    refine lv_lload hx hb d_Sum_addProduct_182 (lv_at hl 1 rfl) ?_
    obtain ⟨r_6, hc, hm⟩ := sd_mb1 hm
    refine sd_ci0 (wr := [(ds, .inr (0, [.ref dat, .ref dab, .ref dar, .ref dal, .ref dah, .int dk, .int dn])), (dat, aJ g 8 dT), (dab, aJ g 8 dB), (dar, aJ g 8 dR), (xs, .inr (0, [.ref xat, .ref xab, .ref xar, .ref xal, .ref xah, .int xk, .int xn])), (xat, aJ g 8 xT), (xab, aJ g 8 xB), (xar, aJ g 8 xR), (ys, .inr (0, [.ref yat, .ref yab, .ref yar, .ref yal, .ref yah, .int yk, .int yn])), (yat, aJ g 8 yT), (yab, aJ g 8 yB), (yar, aJ g 8 yR)]) (w2 := [(ds, .inr (0, [.ref dat, .ref dab, .ref dar, .ref dal, .ref dah, .int dk, .int dn])), (dat, aJ g 8 dT), (dab, aJ g 8 dB), (dar, aJ g 8 dR), (xs, .inr (0, [.ref xat, .ref xab, .ref xar, .ref xal, .ref xah, .int xk, .int xn])), (xat, aJ g 8 xT), (xab, aJ g 8 xB), (xar, aJ g 8 xR), (ys, .inr (0, [.ref yat, .ref yab, .ref yar, .ref yal, .ref yah, .int yk, .int yn])), (yat, aJ g 8 yT), (yab, aJ g 8 yB), (yar, aJ g 8 yR)]) (sd_runS (rest := []) (As := [.long x25]) S (ct_Whole_isTooGreat l D g (H.size) x25 F (r_6) hc) kl_Sum_67 (by decide) (by decide) hK hP hD [] rfl (by decide) rfl hl d_Sum_addProduct_184 rfl (Nat.le_of_ble_eq_true rfl) ⟨Nat.zero_le _, Nat.zero_le _⟩) hP hD hS hA [] [0, 1, 2, 3, 4, 5, 6, 7, 8, 9, 10, 11] rfl rfl (by decide) (by decide) rfl (fun H locs hP hD hS => ?_)
    refine W.eq (g2 := F0 m 187 ls [.int r_6]) rfl ?_
    refine lv_if_ne (tgt := 198) hx hb d_Sum_addProduct_187 (by decide) (fun hc => ?_) (fun hc => ?_)
    · have hm := sd_mf hc hm
      refine lv_iconst (v := (0 : Int32)) hx hb d_Sum_addProduct_198 (by decide) ?_
      exact sd_z1ret (u := (dn, dT, dB, dR)) hQ hx hb hr hlk rfl hK (hP.sub [0, 1, 2, 3, 4, 5, 6, 7, 8, 9, 10, 11] rfl) (hD.sub [0, 1, 2, 3, 4, 5, 6, 7, 8, 9, 10, 11] (by decide) rfl) hS (Option.some.inj hm).symm d_Sum_addProduct_199
    · have hm := sd_mt hc hm
      refine lv_lload hx hb d_Sum_addProduct_190 (lv_at hl 11 rfl) ?_
      obtain ⟨r_7, hc, hm⟩ := sd_mb1 hm
      refine sd_ci0 (wr := [(ds, .inr (0, [.ref dat, .ref dab, .ref dar, .ref dal, .ref dah, .int dk, .int dn])), (dat, aJ g 8 dT), (dab, aJ g 8 dB), (dar, aJ g 8 dR), (xs, .inr (0, [.ref xat, .ref xab, .ref xar, .ref xal, .ref xah, .int xk, .int xn])), (xat, aJ g 8 xT), (xab, aJ g 8 xB), (xar, aJ g 8 xR), (ys, .inr (0, [.ref yat, .ref yab, .ref yar, .ref yal, .ref yah, .int yk, .int yn])), (yat, aJ g 8 yT), (yab, aJ g 8 yB), (yar, aJ g 8 yR)]) (w2 := [(ds, .inr (0, [.ref dat, .ref dab, .ref dar, .ref dal, .ref dah, .int dk, .int dn])), (dat, aJ g 8 dT), (dab, aJ g 8 dB), (dar, aJ g 8 dR), (xs, .inr (0, [.ref xat, .ref xab, .ref xar, .ref xal, .ref xah, .int xk, .int xn])), (xat, aJ g 8 xT), (xab, aJ g 8 xB), (xar, aJ g 8 xR), (ys, .inr (0, [.ref yat, .ref yab, .ref yar, .ref yal, .ref yah, .int yk, .int yn])), (yat, aJ g 8 yT), (yab, aJ g 8 yB), (yar, aJ g 8 yR)]) (sd_runS (rest := []) (As := [.long x15]) S (ct_Whole_isTooGreat l D g (H.size) x15 F (r_7) hc) kl_Sum_67 (by decide) (by decide) hK hP hD [] rfl (by decide) rfl hl d_Sum_addProduct_192 rfl (Nat.le_of_ble_eq_true rfl) ⟨Nat.zero_le _, Nat.zero_le _⟩) hP hD hS hA [] [0, 1, 2, 3, 4, 5, 6, 7, 8, 9, 10, 11] rfl rfl (by decide) (by decide) rfl (fun H locs hP hD hS => ?_)
      refine W.eq (g2 := F0 m 195 ls [.int r_7]) rfl ?_
      refine lv_if_eq (tgt := 200) hx hb d_Sum_addProduct_195 (by decide) (fun hc => ?_) (fun hc => ?_)
      · have hm := sd_mt hc hm
        refine lv_lload hx hb d_Sum_addProduct_200 (lv_at hl 0 rfl) ?_
        refine lv_lload hx hb d_Sum_addProduct_202 (lv_at hl 2 rfl) ?_
        refine lv_lmul hx hb d_Sum_addProduct_204 ?_
        obtain ⟨x27_1, ex27_1, hm⟩ := sd_mlet hm
        refine sd_topj ex27_1 ?_
        refine lv_lstore (lv' := [(27, .long x27_1), (25, .long x25), (13, .long x13), (23, .long r_4), (21, .long r_3), (9, .long x9_1), (7, .long x7_1), (11, .long x11_1), (5, .long x5_1), (19, .long r_2), (17, .long r_1), (15, .long x15), (0, .ref ds), (1, .ref xs), (2, .int vI), (3, .ref ys), (4, .int vJ)]) hx hb d_Sum_addProduct_205 hl (by decide) rfl (fun ls hl => ?_)
        refine lv_lload hx hb d_Sum_addProduct_207 (lv_at hl 0 rfl) ?_
        refine sd_abs hx hb hml hown kl_Sum_61 htt hl d_Sum_addProduct_209 (Nat.le_of_ble_eq_true rfl) (Nat.le_of_ble_eq_true rfl) ?_
        obtain ⟨r_8, hc, hm⟩ := sd_mb1 hm
        refine sd_ci0 (wr := [(ds, .inr (0, [.ref dat, .ref dab, .ref dar, .ref dal, .ref dah, .int dk, .int dn])), (dat, aJ g 8 dT), (dab, aJ g 8 dB), (dar, aJ g 8 dR), (xs, .inr (0, [.ref xat, .ref xab, .ref xar, .ref xal, .ref xah, .int xk, .int xn])), (xat, aJ g 8 xT), (xab, aJ g 8 xB), (xar, aJ g 8 xR), (ys, .inr (0, [.ref yat, .ref yab, .ref yar, .ref yal, .ref yah, .int yk, .int yn])), (yat, aJ g 8 yT), (yab, aJ g 8 yB), (yar, aJ g 8 yR)]) (w2 := [(ds, .inr (0, [.ref dat, .ref dab, .ref dar, .ref dal, .ref dah, .int dk, .int dn])), (dat, aJ g 8 dT), (dab, aJ g 8 dB), (dar, aJ g 8 dR), (xs, .inr (0, [.ref xat, .ref xab, .ref xar, .ref xal, .ref xah, .int xk, .int xn])), (xat, aJ g 8 xT), (xab, aJ g 8 xB), (xar, aJ g 8 xR), (ys, .inr (0, [.ref yat, .ref yab, .ref yar, .ref yal, .ref yah, .int yk, .int yn])), (yat, aJ g 8 yT), (yab, aJ g 8 yB), (yar, aJ g 8 yR)]) (sd_runS (rest := []) (As := [.long (if 0 < x27_1 then x27_1 else -x27_1)]) S (ct_Whole_isTooGreat l D g (H.size) (if 0 < x27_1 then x27_1 else -x27_1) F (r_8) hc) kl_Sum_67 (by decide) (by decide) hK hP hD [] rfl (by decide) rfl hl d_Sum_addProduct_212 rfl (Nat.le_of_ble_eq_true rfl) ⟨Nat.zero_le _, Nat.zero_le _⟩) hP hD hS hA [] [0, 1, 2, 3, 4, 5, 6, 7, 8, 9, 10, 11] rfl rfl (by decide) (by decide) rfl (fun H locs hP hD hS => ?_)
        refine W.eq (g2 := F0 m 215 ls [.int r_8]) rfl ?_
        obtain ⟨y, uds, udat, udab, udar, hv, hm⟩ := sd_mb5 hm
        have J236_20 : ∀ (H : Heap) (locs : List Loc) (ls : Array Slot), va_P D classes [(ds, .inr (0, [.ref dat, .ref dab, .ref dar, .ref dal, .ref dah, .int dk, .int uds])), (dat, aJ g 8 udat), (dab, aJ g 8 udab), (dar, aJ g 8 udar), (xs, .inr (0, [.ref xat, .ref xab, .ref xar, .ref xal, .ref xah, .int xk, .int xn])), (xat, aJ g 8 xT), (xab, aJ g 8 xB), (xar, aJ g 8 xR), (ys, .inr (0, [.ref yat, .ref yab, .ref yar, .ref yal, .ref yah, .int yk, .int yn])), (yat, aJ g 8 yT), (yab, aJ g 8 yB), (yar, aJ g 8 yR)] H → va_D A [(ds, .inr (0, [.ref dat, .ref dab, .ref dar, .ref dal, .ref dah, .int dk, .int uds])), (dat, aJ g 8 udat), (dab, aJ g 8 udab), (dar, aJ g 8 udar), (xs, .inr (0, [.ref xat, .ref xab, .ref xar, .ref xal, .ref xah, .int xk, .int xn])), (xat, aJ g 8 xT), (xab, aJ g 8 xB), (xar, aJ g 8 xR), (ys, .inr (0, [.ref yat, .ref yab, .ref yar, .ref yal, .ref yah, .int yk, .int yn])), (yat, aJ g 8 yT), (yab, aJ g 8 yB), (yar, aJ g 8 yR)] → va_S A s.heap H locs → lv_has ls 29 [] → W p l e rm_Sum_addProduct s m args below meth c H locs 0 0 Q (F0 m 236 ls [.int y]) := by
          intro H locs ls hP hD hS hl
          obtain ⟨h_21, hm⟩ := sd_mg hm
          exact sd_z1ret (u := (uds, udat, udab, udar)) hQ hx hb hr hlk (sd_zb h_21) hK (hP.sub [0, 1, 2, 3, 4, 5, 6, 7, 8, 9, 10, 11] rfl) (hD.sub [0, 1, 2, 3, 4, 5, 6, 7, 8, 9, 10, 11] (by decide) rfl) hS (Option.some.inj hm).symm d_Sum_addProduct_236
        replace hm := hv
        refine lv_if_ne (tgt := 235) hx hb d_Sum_addProduct_215 (by decide) (fun hc => ?_) (fun hc => ?_)
        · have hm := sd_mf hc hm
          refine lv_iconst (v := (0 : Int32)) hx hb d_Sum_addProduct_235 (by decide) ?_
          cases hm
          exact J236_20 H locs ls (hP.sub [0, 1, 2, 3, 4, 5, 6, 7, 8, 9, 10, 11] rfl) (hD.sub [0, 1, 2, 3, 4, 5, 6, 7, 8, 9, 10, 11] (by decide) rfl) hS (lv_sub hl [] rfl)
        · have hm := sd_mt hc hm
          refine lv_aload_n hx hb d_Sum_addProduct_218 rfl (lv_at hl 12 rfl) ?_
          refine lv_lload hx hb d_Sum_addProduct_219 (lv_at hl 0 rfl) ?_
          refine lv_lload hx hb d_Sum_addProduct_221 (lv_at hl 1 rfl) ?_
          refine lv_lload hx hb d_Sum_addProduct_223 (lv_at hl 11 rfl) ?_
          obtain ⟨r_9, uds_1, udat_1, udab_1, udar_1, hc, hm⟩ := sd_mb5 hm
          refine sd_ci1 (wr := [(xs, .inr (0, [.ref xat, .ref xab, .ref xar, .ref xal, .ref xah, .int xk, .int xn])), (xat, aJ g 8 xT), (xab, aJ g 8 xB), (xar, aJ g 8 xR), (ys, .inr (0, [.ref yat, .ref yab, .ref yar, .ref yal, .ref yah, .int yk, .int yn])), (yat, aJ g 8 yT), (yab, aJ g 8 yB), (yar, aJ g 8 yR)]) (w2 := [(xs, .inr (0, [.ref xat, .ref xab, .ref xar, .ref xal, .ref xah, .int xk, .int xn])), (xat, aJ g 8 xT), (xab, aJ g 8 xB), (xar, aJ g 8 xR), (ys, .inr (0, [.ref yat, .ref yab, .ref yar, .ref yal, .ref yah, .int yk, .int yn])), (yat, aJ g 8 yT), (yab, aJ g 8 yB), (yar, aJ g 8 yR), (ds, .inr (0, [.ref dat, .ref dab, .ref dar, .ref dal, .ref dah, .int dk, .int uds_1])), (dat, aJ g 8 udat_1), (dab, aJ g 8 udab_1), (dar, aJ g 8 udar_1)]) (sd_runV (rest := []) (As := [.long x27_1, .long x25, .long x15]) S (ct_Sum_add l D g ds dat dab dar dal dah (H.size) x27_1 x25 x15 dk dn dT dB dR F (r_9, uds_1, udat_1, udab_1, udar_1) hc) kl_Sum_47 (by decide) (by decide) hK hP hD [0, 1, 2, 3] rfl (by decide) rfl hl d_Sum_addProduct_225 rfl (Nat.le_of_ble_eq_true rfl) ⟨Nat.zero_le _, Nat.zero_le _⟩ 0 rfl rfl) hP hD hS hA [0, 1, 2, 3] [4, 5, 6, 7, 8, 9, 10, 11] rfl rfl (by decide) (by decide) rfl (fun H locs hP hD hS => ?_)
          refine W.eq (g2 := F0 m 228 ls [.int r_9]) rfl ?_
          refine lv_if_eq (tgt := 235) hx hb d_Sum_addProduct_228 (by decide) (fun hc => ?_) (fun hc => ?_)
          · have hm := sd_mt hc hm
            refine lv_iconst (v := (0 : Int32)) hx hb d_Sum_addProduct_235 (by decide) ?_
            cases hm
            exact J236_20 H locs ls (hP.sub [8, 9, 10, 11, 0, 1, 2, 3, 4, 5, 6, 7] rfl) (hD.sub [8, 9, 10, 11, 0, 1, 2, 3, 4, 5, 6, 7] (by decide) rfl) hS (lv_sub hl [] rfl)
          · have hm := sd_mf hc hm
            refine lv_iconst (v := (1 : Int32)) hx hb d_Sum_addProduct_231 (by decide) ?_
            refine lv_goto (tgt := 236) hx hb d_Sum_addProduct_232 (by decide) ?_
            cases hm
            exact J236_20 H locs ls (hP.sub [8, 9, 10, 11, 0, 1, 2, 3, 4, 5, 6, 7] rfl) (hD.sub [8, 9, 10, 11, 0, 1, 2, 3, 4, 5, 6, 7] (by decide) rfl) hS (lv_sub hl [] rfl)
      · have hm := sd_mf hc hm
        refine lv_iconst (v := (0 : Int32)) hx hb d_Sum_addProduct_198 (by decide) ?_
        exact sd_z1ret (u := (dn, dT, dB, dR)) hQ hx hb hr hlk rfl hK (hP.sub [0, 1, 2, 3, 4, 5, 6, 7, 8, 9, 10, 11] rfl) (hD.sub [0, 1, 2, 3, 4, 5, 6, 7, 8, 9, 10, 11] (by decide) rfl) hS (Option.some.inj hm).symm d_Sum_addProduct_199
abbrev rm_Sum_addProduct2 : Room := { frames := 4, cells := 0, slots := 0, locals := 160 }
set_option maxHeartbeats 4000000 in
set_option maxRecDepth 100000 in
theorem ct_Sum_addProduct2 (l : Launch) (D : va_G) (g : G4) (ds : Nat) (dat : Nat) (dab : Nat) (dar : Nat) (dal : Nat) (dah : Nat) (xs : Nat) (xat : Nat) (xab : Nat) (xar : Nat) (xal : Nat) (xah : Nat) (sz : Nat) (vI : Int32) (vJ : Int32) (dk : Int32) (dn : Int32) (dT : Nat → Int64) (dB : Nat → Int64) (dR : Nat → Int64) (xk : Int32) (xn : Int32) (xT : Nat → Int64) (xB : Nat → Int64) (xR : Nat → Int64) (F : Nat) (res : Int32 × Int32 × (Nat → Int64) × (Nat → Int64) × (Nat → Int64)) (hm : mf_Sum_addProduct F vI vJ dk dn dT dB dR xk xn xT xB xR xk xn xT xB xR = some res) : Met l y_Sum_addProduct (.code y_Sum_addProduct b_Sum_addProduct 29 (some .boolean) :: sd_tb) rm_Sum_addProduct2 (sd_PW D g [.ref ds, .ref xs, .int vI, .ref xs, .int vJ] sz [(ds, .inr (0, [.ref dat, .ref dab, .ref dar, .ref dal, .ref dah, .int dk, .int dn])), (dat, aJ g 8 dT), (dab, aJ g 8 dB), (dar, aJ g 8 dR), (xs, .inr (0, [.ref xat, .ref xab, .ref xar, .ref xal, .ref xah, .int xk, .int xn])), (xat, aJ g 8 xT), (xab, aJ g 8 xB), (xar, aJ g 8 xR)]) (sd_Qi1 D g res (fun u : Int32 × (Nat → Int64) × (Nat → Int64) × (Nat → Int64) => [(ds, .inr (0, [.ref dat, .ref dab, .ref dar, .ref dal, .ref dah, .int dk, .int (u.1)])), (dat, aJ g 8 (u.2.1)), (dab, aJ g 8 (u.2.2.1)), (dar, aJ g 8 (u.2.2.2)), (xs, .inr (0, [.ref xat, .ref xab, .ref xar, .ref xal, .ref xah, .int xk, .int xn])), (xat, aJ g 8 xT), (xab, aJ g 8 xB), (xar, aJ g 8 xR)]) (va_A [(ds, .inr (0, [.ref dat, .ref dab, .ref dar, .ref dal, .ref dah, .int dk, .int dn])), (dat, aJ g 8 dT), (dab, aJ g 8 dB), (dar, aJ g 8 dR), (xs, .inr (0, [.ref xat, .ref xab, .ref xar, .ref xal, .ref xah, .int xk, .int xn])), (xat, aJ g 8 xT), (xab, aJ g 8 xB), (xar, aJ g 8 xR)] sz)) 0 0 (va_A [(ds, .inr (0, [.ref dat, .ref dab, .ref dar, .ref dal, .ref dah, .int dk, .int dn])), (dat, aJ g 8 dT), (dab, aJ g 8 dB), (dar, aJ g 8 dR), (xs, .inr (0, [.ref xat, .ref xab, .ref xar, .ref xal, .ref xah, .int xk, .int xn])), (xat, aJ g 8 xT), (xab, aJ g 8 xB), (xar, aJ g 8 xR)] sz) := by
  refine sd_met (Qf := fun A => sd_Qi1 D g res (fun u : Int32 × (Nat → Int64) × (Nat → Int64) × (Nat → Int64) => [(ds, .inr (0, [.ref dat, .ref dab, .ref dar, .ref dal, .ref dah, .int dk, .int (u.1)])), (dat, aJ g 8 (u.2.1)), (dab, aJ g 8 (u.2.2.1)), (dar, aJ g 8 (u.2.2.2)), (xs, .inr (0, [.ref xat, .ref xab, .ref xar, .ref xal, .ref xah, .int xk, .int xn])), (xat, aJ g 8 xT), (xab, aJ g 8 xB), (xar, aJ g 8 xR)]) A) (own := R_Sum) (by decide +kernel) rfl (Nat.le_of_ble_eq_true rfl) ?_
  intro p e s m args below meth c S hr hlk hK A hA Q hQ H locs hP hD hS ls hl
  have hx := S.1
  have hb := S.2.1
  have hml := S.2.2.1
  have hown := S.2.2.2.1
  have htt := sd_tt S
  replace hl : lv_has ls 29 [(0, .ref ds), (1, .ref xs), (2, .int vI), (3, .ref xs), (4, .int vJ)] := hl
  unfold mf_Sum_addProduct at hm
  refine lv_aload_n hx hb d_Sum_addProduct_0 rfl (lv_at hl 1 rfl) ?_
  refine va_get (D := D) (ci := 0) (v := .ref xat) (C := R_Sum) (T := F_Sum) (N := 7) hx hb htt i_Sum hown hK hP 4 rfl rfl 0 (by decide) (htt _ kf_Sum_9) (fun _ h9 => h9) rfl d_Sum_addProduct_1 ?_
  refine lv_iload_n hx hb d_Sum_addProduct_4 rfl (lv_at hl 2 rfl) ?_
  obtain ⟨h_1, hm⟩ := sd_mg hm
  refine sd_lald hx hb hK hP 5 rfl h_1 d_Sum_addProduct_5 ?_
  obtain ⟨x5, ex5, hm⟩ := sd_mlet hm
  refine sd_topj ex5 ?_
  refine lv_lstore (lv' := [(5, .long x5), (0, .ref ds), (1, .ref xs), (2, .int vI), (3, .ref xs), (4, .int vJ)]) hx hb d_Sum_addProduct_6 hl (by decide) rfl (fun ls hl => ?_)
  refine lv_aload_n hx hb d_Sum_addProduct_8 rfl (lv_at hl 4 rfl) ?_
  refine va_get (D := D) (ci := 0) (v := .ref xat) (C := R_Sum) (T := F_Sum) (N := 7) hx hb htt i_Sum hown hK hP 4 rfl rfl 0 (by decide) (htt _ kf_Sum_9) (fun _ h9 => h9) rfl d_Sum_addProduct_9 ?_
  refine lv_iload hx hb d_Sum_addProduct_12 (lv_at hl 5 rfl) ?_
  obtain ⟨h_2, hm⟩ := sd_mg hm
  refine sd_lald hx hb hK hP 5 rfl h_2 d_Sum_addProduct_14 ?_
  obtain ⟨x7, ex7, hm⟩ := sd_mlet hm
  refine sd_topj ex7 ?_
  refine lv_lstore (lv' := [(7, .long x7), (5, .long x5), (0, .ref ds), (1, .ref xs), (2, .int vI), (3, .ref xs), (4, .int vJ)]) hx hb d_Sum_addProduct_15 hl (by decide) rfl (fun ls hl => ?_)
  refine lv_aload_n hx hb d_Sum_addProduct_17 rfl (lv_at hl 3 rfl) ?_
  refine va_get (D := D) (ci := 0) (v := .ref xab) (C := R_Sum) (T := F_Sum) (N := 7) hx hb htt i_Sum hown hK hP 4 rfl rfl 1 (by decide) (htt _ kf_Sum_13) (fun _ h9 => h9) rfl d_Sum_addProduct_18 ?_
  refine lv_iload_n hx hb d_Sum_addProduct_21 rfl (lv_at hl 4 rfl) ?_
  obtain ⟨h_3, hm⟩ := sd_mg hm
  refine sd_lald hx hb hK hP 6 rfl h_3 d_Sum_addProduct_22 ?_
  obtain ⟨x9, ex9, hm⟩ := sd_mlet hm
  refine sd_topj ex9 ?_
  refine lv_lstore (lv' := [(9, .long x9), (7, .long x7), (5, .long x5), (0, .ref ds), (1, .ref xs), (2, .int vI), (3, .ref xs), (4, .int vJ)]) hx hb d_Sum_addProduct_23 hl (by decide) rfl (fun ls hl => ?_)
  refine lv_aload_n hx hb d_Sum_addProduct_25 rfl (lv_at hl 6 rfl) ?_
  refine va_get (D := D) (ci := 0) (v := .ref xab) (C := R_Sum) (T := F_Sum) (N := 7) hx hb htt i_Sum hown hK hP 4 rfl rfl 1 (by decide) (htt _ kf_Sum_13) (fun _ h9 => h9) rfl d_Sum_addProduct_26 ?_
  refine lv_iload hx hb d_Sum_addProduct_29 (lv_at hl 7 rfl) ?_
  obtain ⟨h_4, hm⟩ := sd_mg hm
  refine sd_lald hx hb hK hP 6 rfl h_4 d_Sum_addProduct_31 ?_
  obtain ⟨x11, ex11, hm⟩ := sd_mlet hm
  refine sd_topj ex11 ?_
  refine lv_lstore (lv' := [(11, .long x11), (9, .long x9), (7, .long x7), (5, .long x5), (0, .ref ds), (1, .ref xs), (2, .int vI), (3, .ref xs), (4, .int vJ)]) hx hb d_Sum_addProduct_32 hl (by decide) rfl (fun ls hl => ?_)
  refine lv_aload_n hx hb d_Sum_addProduct_34 rfl (lv_at hl 5 rfl) ?_
  refine va_get (D := D) (ci := 0) (v := .ref xar) (C := R_Sum) (T := F_Sum) (N := 7) hx hb htt i_Sum hown hK hP 4 rfl rfl 2 (by decide) (htt _ kf_Sum_16) (fun _ h9 => h9) rfl d_Sum_addProduct_35 ?_
  refine lv_iload_n hx hb d_Sum_addProduct_38 rfl (lv_at hl 6 rfl) ?_
  obtain ⟨h_5, hm⟩ := sd_mg hm
  refine sd_lald hx hb hK hP 7 rfl h_5 d_Sum_addProduct_39 ?_
  refine lv_aload_n hx hb d_Sum_addProduct_40 rfl (lv_at hl 7 rfl) ?_
  refine va_get (D := D) (ci := 0) (v := .ref xar) (C := R_Sum) (T := F_Sum) (N := 7) hx hb htt i_Sum hown hK hP 4 rfl rfl 2 (by decide) (htt _ kf_Sum_16) (fun _ h9 => h9) rfl d_Sum_addProduct_41 ?_
  refine lv_iload hx hb d_Sum_addProduct_44 (lv_at hl 8 rfl) ?_
  obtain ⟨h_6, hm⟩ := sd_mg hm
  refine sd_lald hx hb hK hP 7 rfl h_6 d_Sum_addProduct_46 ?_
  obtain ⟨r, hc, hm⟩ := sd_mb1 hm
  refine sd_cl0 (wr := [(ds, .inr (0, [.ref dat, .ref dab, .ref dar, .ref dal, .ref dah, .int dk, .int dn])), (dat, aJ g 8 dT), (dab, aJ g 8 dB), (dar, aJ g 8 dR), (xs, .inr (0, [.ref xat, .ref xab, .ref xar, .ref xal, .ref xah, .int xk, .int xn])), (xat, aJ g 8 xT), (xab, aJ g 8 xB), (xar, aJ g 8 xR)]) (w2 := [(ds, .inr (0, [.ref dat, .ref dab, .ref dar, .ref dal, .ref dah, .int dk, .int dn])), (dat, aJ g 8 dT), (dab, aJ g 8 dB), (dar, aJ g 8 dR), (xs, .inr (0, [.ref xat, .ref xab, .ref xar, .ref xal, .ref xah, .int xk, .int xn])), (xat, aJ g 8 xT), (xab, aJ g 8 xB), (xar, aJ g 8 xR)]) (sd_runS (rest := []) (As := [.long (xR vI.toNatClampNeg), .long (xR vJ.toNatClampNeg)]) S (ct_Whole_commonDivisor l D g (H.size) (xR vI.toNatClampNeg) (xR vJ.toNatClampNeg) F (r) hc) kl_Sum_55 (by decide) (by decide) hK hP hD [] rfl (by decide) rfl hl d_Sum_addProduct_47 rfl (Nat.le_of_ble_eq_true rfl) ⟨Nat.zero_le _, Nat.zero_le _⟩) hP hD hS hA [] [0, 1, 2, 3, 4, 5, 6, 7] rfl rfl (by decide) (by decide) rfl (fun H locs hP hD hS => ?_)
  refine W.eq (g2 := F0 m 50 ls [.long r]) rfl ?_
  refine lv_lstore (lv' := [(13, .long r), (11, .long x11), (9, .long x9), (7, .long x7), (5, .long x5), (0, .ref ds), (1, .ref xs), (2, .int vI), (3, .ref xs), (4, .int vJ)]) hx hb d_Sum_addProduct_50 hl (by decide) rfl (fun ls hl => ?_)
  refine lv_aload_n hx hb d_Sum_addProduct_52 rfl (lv_at hl 6 rfl) ?_
  refine va_get (D := D) (ci := 0) (v := .ref xar) (C := R_Sum) (T := F_Sum) (N := 7) hx hb htt i_Sum hown hK hP 4 rfl rfl 2 (by decide) (htt _ kf_Sum_16) (fun _ h9 => h9) rfl d_Sum_addProduct_53 ?_
  refine lv_iload_n hx hb d_Sum_addProduct_56 rfl (lv_at hl 7 rfl) ?_
  obtain ⟨h_7, hm⟩ := sd_mg hm
  refine sd_lald hx hb hK hP 7 rfl h_7 d_Sum_addProduct_57 ?_
  refine lv_lload hx hb d_Sum_addProduct_58 (lv_at hl 0 rfl) ?_
  obtain ⟨h_8, hm⟩ := sd_mg hm
  refine lv_ldiv hx hb d_Sum_addProduct_60 (sd_nzJ h_8) ?_
  refine lv_aload_n hx hb d_Sum_addProduct_61 rfl (lv_at hl 8 rfl) ?_
  refine va_get (D := D) (ci := 0) (v := .ref xar) (C := R_Sum) (T := F_Sum) (N := 7) hx hb htt i_Sum hown hK hP 4 rfl rfl 2 (by decide) (htt _ kf_Sum_16) (fun _ h9 => h9) rfl d_Sum_addProduct_62 ?_
  refine lv_iload hx hb d_Sum_addProduct_65 (lv_at hl 9 rfl) ?_
  obtain ⟨h_9, hm⟩ := sd_mg hm
  refine sd_lald hx hb hK hP 7 rfl h_9 d_Sum_addProduct_67 ?_
  refine lv_lload hx hb d_Sum_addProduct_68 (lv_at hl 0 rfl) ?_
  obtain ⟨h_10, hm⟩ := sd_mg hm
  refine lv_ldiv hx hb d_Sum_addProduct_70 (sd_nzJ h_10) ?_
  refine lv_lmul hx hb d_Sum_addProduct_71 ?_
  obtain ⟨x15, ex15, hm⟩ := sd_mlet hm
  refine sd_topj ex15 ?_
  refine lv_lstore (lv' := [(15, .long x15), (13, .long r), (11, .long x11), (9, .long x9), (7, .long x7), (5, .long x5), (0, .ref ds), (1, .ref xs), (2, .int vI), (3, .ref xs), (4, .int vJ)]) hx hb d_Sum_addProduct_72 hl (by decide) rfl (fun ls hl => ?_)
  refine lv_lload hx hb d_Sum_addProduct_74 (lv_at hl 5 rfl) ?_
  refine lv_lload hx hb d_Sum_addProduct_76 (lv_at hl 2 rfl) ?_
  obtain ⟨r_1, hc, hm⟩ := sd_mb1 hm
  refine sd_cl0 (wr := [(ds, .inr (0, [.ref dat, .ref dab, .ref dar, .ref dal, .ref dah, .int dk, .int dn])), (dat, aJ g 8 dT), (dab, aJ g 8 dB), (dar, aJ g 8 dR), (xs, .inr (0, [.ref xat, .ref xab, .ref xar, .ref xal, .ref xah, .int xk, .int xn])), (xat, aJ g 8 xT), (xab, aJ g 8 xB), (xar, aJ g 8 xR)]) (w2 := [(ds, .inr (0, [.ref dat, .ref dab, .ref dar, .ref dal, .ref dah, .int dk, .int dn])), (dat, aJ g 8 dT), (dab, aJ g 8 dB), (dar, aJ g 8 dR), (xs, .inr (0, [.ref xat, .ref xab, .ref xar, .ref xal, .ref xah, .int xk, .int xn])), (xat, aJ g 8 xT), (xab, aJ g 8 xB), (xar, aJ g 8 xR)]) (sd_runS (rest := []) (As := [.long x5, .long x11]) S (ct_Whole_commonDivisor l D g (H.size) x5 x11 F (r_1) hc) kl_Sum_55 (by decide) (by decide) hK hP hD [] rfl (by decide) rfl hl d_Sum_addProduct_78 rfl (Nat.le_of_ble_eq_true rfl) ⟨Nat.zero_le _, Nat.zero_le _⟩) hP hD hS hA [] [0, 1, 2, 3, 4, 5, 6, 7] rfl rfl (by decide) (by decide) rfl (fun H locs hP hD hS => ?_)
  refine W.eq (g2 := F0 m 81 ls [.long r_1]) rfl ?_
  refine lv_lstore (lv' := [(17, .long r_1), (15, .long x15), (13, .long r), (11, .long x11), (9, .long x9), (7, .long x7), (5, .long x5), (0, .ref ds), (1, .ref xs), (2, .int vI), (3, .ref xs), (4, .int vJ)]) hx hb d_Sum_addProduct_81 hl (by decide) rfl (fun ls hl => ?_)
  refine lv_lload hx hb d_Sum_addProduct_83 (lv_at hl 5 rfl) ?_
  refine lv_lload hx hb d_Sum_addProduct_85 (lv_at hl 4 rfl) ?_
  obtain ⟨r_2, hc, hm⟩ := sd_mb1 hm
  refine sd_cl0 (wr := [(ds, .inr (0, [.ref dat, .ref dab, .ref dar, .ref dal, .ref dah, .int dk, .int dn])), (dat, aJ g 8 dT), (dab, aJ g 8 dB), (dar, aJ g 8 dR), (xs, .inr (0, [.ref xat, .ref xab, .ref xar, .ref xal, .ref xah, .int xk, .int xn])), (xat, aJ g 8 xT), (xab, aJ g 8 xB), (xar, aJ g 8 xR)]) (w2 := [(ds, .inr (0, [.ref dat, .ref dab, .ref dar, .ref dal, .ref dah, .int dk, .int dn])), (dat, aJ g 8 dT), (dab, aJ g 8 dB), (dar, aJ g 8 dR), (xs, .inr (0, [.ref xat, .ref xab, .ref xar, .ref xal, .ref xah, .int xk, .int xn])), (xat, aJ g 8 xT), (xab, aJ g 8 xB), (xar, aJ g 8 xR)]) (sd_runS (rest := []) (As := [.long x7, .long x9]) S (ct_Whole_commonDivisor l D g (H.size) x7 x9 F (r_2) hc) kl_Sum_55 (by decide) (by decide) hK hP hD [] rfl (by decide) rfl hl d_Sum_addProduct_87 rfl (Nat.le_of_ble_eq_true rfl) ⟨Nat.zero_le _, Nat.zero_le _⟩) hP hD hS hA [] [0, 1, 2, 3, 4, 5, 6, 7] rfl rfl (by decide) (by decide) rfl (fun H locs hP hD hS => ?_)
  refine W.eq (g2 := F0 m 90 ls [.long r_2]) rfl ?_
  refine lv_lstore (lv' := [(19, .long r_2), (17, .long r_1), (15, .long x15), (13, .long r), (11, .long x11), (9, .long x9), (7, .long x7), (5, .long x5), (0, .ref ds), (1, .ref xs), (2, .int vI), (3, .ref xs), (4, .int vJ)]) hx hb d_Sum_addProduct_90 hl (by decide) rfl (fun ls hl => ?_)
  refine lv_lload hx hb d_Sum_addProduct_92 (lv_at hl 7 rfl) ?_
  refine lv_lload hx hb d_Sum_addProduct_94 (lv_at hl 1 rfl) ?_
  obtain ⟨h_11, hm⟩ := sd_mg hm
  refine lv_ldiv hx hb d_Sum_addProduct_96 (sd_nzJ h_11) ?_
  obtain ⟨x5_1, ex5_1, hm⟩ := sd_mlet hm
  refine sd_topj ex5_1 ?_
  refine lv_lstore (lv' := [(5, .long x5_1), (19, .long r_2), (17, .long r_1), (15, .long x15), (13, .long r), (11, .long x11), (9, .long x9), (7, .long x7), (0, .ref ds), (1, .ref xs), (2, .int vI), (3, .ref xs), (4, .int vJ)]) hx hb d_Sum_addProduct_97 hl (by decide) rfl (fun ls hl => ?_)
  refine lv_lload hx hb d_Sum_addProduct_99 (lv_at hl 5 rfl) ?_
  refine lv_lload hx hb d_Sum_addProduct_101 (lv_at hl 2 rfl) ?_
  obtain ⟨h_12, hm⟩ := sd_mg hm
  refine lv_ldiv hx hb d_Sum_addProduct_103 (sd_nzJ h_12) ?_
  obtain ⟨x11_1, ex11_1, hm⟩ := sd_mlet hm
  refine sd_topj ex11_1 ?_
  refine lv_lstore (lv' := [(11, .long x11_1), (5, .long x5_1), (19, .long r_2), (17, .long r_1), (15, .long x15), (13, .long r), (9, .long x9), (7, .long x7), (0, .ref ds), (1, .ref xs), (2, .int vI), (3, .ref xs), (4, .int vJ)]) hx hb d_Sum_addProduct_104 hl (by decide) rfl (fun ls hl => ?_)
  refine lv_lload hx hb d_Sum_addProduct_106 (lv_at hl 7 rfl) ?_
  refine lv_lload hx hb d_Sum_addProduct_108 (lv_at hl 2 rfl) ?_
  obtain ⟨h_13, hm⟩ := sd_mg hm
  refine lv_ldiv hx hb d_Sum_addProduct_110 (sd_nzJ h_13) ?_
  obtain ⟨x7_1, ex7_1, hm⟩ := sd_mlet hm
  refine sd_topj ex7_1 ?_
  refine lv_lstore (lv' := [(7, .long x7_1), (11, .long x11_1), (5, .long x5_1), (19, .long r_2), (17, .long r_1), (15, .long x15), (13, .long r), (9, .long x9), (0, .ref ds), (1, .ref xs), (2, .int vI), (3, .ref xs), (4, .int vJ)]) hx hb d_Sum_addProduct_111 hl (by decide) rfl (fun ls hl => ?_)
  refine lv_lload hx hb d_Sum_addProduct_113 (lv_at hl 7 rfl) ?_
  refine lv_lload hx hb d_Sum_addProduct_115 (lv_at hl 3 rfl) ?_
  obtain ⟨h_14, hm⟩ := sd_mg hm
  refine lv_ldiv hx hb d_Sum_addProduct_117 (sd_nzJ h_14) ?_
  obtain ⟨x9_1, ex9_1, hm⟩ := sd_mlet hm
  refine sd_topj ex9_1 ?_
  refine lv_lstore (lv' := [(9, .long x9_1), (7, .long x7_1), (11, .long x11_1), (5, .long x5_1), (19, .long r_2), (17, .long r_1), (15, .long x15), (13, .long r), (0, .ref ds), (1, .ref xs), (2, .int vI), (3, .ref xs), (4, .int vJ)]) hx hb d_Sum_addProduct_118 hl (by decide) rfl (fun ls hl => ?_)
  refine lv_lload hx hb d_Sum_addProduct_120 (lv_at hl 7 rfl) ?_
  refine lv_lload hx hb d_Sum_addProduct_122 (lv_at hl 0 rfl) ?_
  obtain ⟨r_3, hc, hm⟩ := sd_mb1 hm
  refine sd_cl0 (wr := [(ds, .inr (0, [.ref dat, .ref dab, .ref dar, .ref dal, .ref dah, .int dk, .int dn])), (dat, aJ g 8 dT), (dab, aJ g 8 dB), (dar, aJ g 8 dR), (xs, .inr (0, [.ref xat, .ref xab, .ref xar, .ref xal, .ref xah, .int xk, .int xn])), (xat, aJ g 8 xT), (xab, aJ g 8 xB), (xar, aJ g 8 xR)]) (w2 := [(ds, .inr (0, [.ref dat, .ref dab, .ref dar, .ref dal, .ref dah, .int dk, .int dn])), (dat, aJ g 8 dT), (dab, aJ g 8 dB), (dar, aJ g 8 dR), (xs, .inr (0, [.ref xat, .ref xab, .ref xar, .ref xal, .ref xah, .int xk, .int xn])), (xat, aJ g 8 xT), (xab, aJ g 8 xB), (xar, aJ g 8 xR)]) (sd_runS (rest := []) (As := [.long r, .long x9_1]) S (ct_Whole_commonDivisor l D g (H.size) r x9_1 F (r_3) hc) kl_Sum_55 (by decide) (by decide) hK hP hD [] rfl (by decide) rfl hl d_Sum_addProduct_124 rfl (Nat.le_of_ble_eq_true rfl) ⟨Nat.zero_le _, Nat.zero_le _⟩) hP hD hS hA [] [0, 1, 2, 3, 4, 5, 6, 7] rfl rfl (by decide) (by decide) rfl (fun H locs hP hD hS => ?_)
  refine W.eq (g2 := F0 m 127 ls [.long r_3]) rfl ?_
  refine lv_lstore (lv' := [(21, .long r_3), (9, .long x9_1), (7, .long x7_1), (11, .long x11_1), (5, .long x5_1), (19, .long r_2), (17, .long r_1), (15, .long x15), (13, .long r), (0, .ref ds), (1, .ref xs), (2, .int vI), (3, .ref xs), (4, .int vJ)]) hx hb d_Sum_addProduct_127 hl (by decide) rfl (fun ls hl => ?_)
  refine lv_lload hx hb d_Sum_addProduct_129 (lv_at hl 8 rfl) ?_
  refine lv_lload hx hb d_Sum_addProduct_131 (lv_at hl 0 rfl) ?_
  obtain ⟨h_15, hm⟩ := sd_mg hm
  refine lv_ldiv hx hb d_Sum_addProduct_133 (sd_nzJ h_15) ?_
  refine lv_lload hx hb d_Sum_addProduct_134 (lv_at hl 3 rfl) ?_
  obtain ⟨r_4, hc, hm⟩ := sd_mb1 hm
  refine sd_cl0 (wr := [(ds, .inr (0, [.ref dat, .ref dab, .ref dar, .ref dal, .ref dah, .int dk, .int dn])), (dat, aJ g 8 dT), (dab, aJ g 8 dB), (dar, aJ g 8 dR), (xs, .inr (0, [.ref xat, .ref xab, .ref xar, .ref xal, .ref xah, .int xk, .int xn])), (xat, aJ g 8 xT), (xab, aJ g 8 xB), (xar, aJ g 8 xR)]) (w2 := [(ds, .inr (0, [.ref dat, .ref dab, .ref dar, .ref dal, .ref dah, .int dk, .int dn])), (dat, aJ g 8 dT), (dab, aJ g 8 dB), (dar, aJ g 8 dR), (xs, .inr (0, [.ref xat, .ref xab, .ref xar, .ref xal, .ref xah, .int xk, .int xn])), (xat, aJ g 8 xT), (xab, aJ g 8 xB), (xar, aJ g 8 xR)]) (sd_runS (rest := []) (As := [.long (r / r_3), .long x11_1]) S (ct_Whole_commonDivisor l D g (H.size) (r / r_3) x11_1 F (r_4) hc) kl_Sum_55 (by decide) (by decide) hK hP hD [] rfl (by decide) rfl hl d_Sum_addProduct_136 rfl (Nat.le_of_ble_eq_true rfl) ⟨Nat.zero_le _, Nat.zero_le _⟩) hP hD hS hA [] [0, 1, 2, 3, 4, 5, 6, 7] rfl rfl (by decide) (by decide) rfl (fun H locs hP hD hS => ?_)
  refine W.eq (g2 := F0 m 139 ls [.long r_4]) rfl ?_
  refine lv_lstore (lv' := [(23, .long r_4), (21, .long r_3), (9, .long x9_1), (7, .long x7_1), (11, .long x11_1), (5, .long x5_1), (19, .long r_2), (17, .long r_1), (15, .long x15), (13, .long r), (0, .ref ds), (1, .ref xs), (2, .int vI), (3, .ref xs), (4, .int vJ)]) hx hb d_Sum_addProduct_139 hl (by decide) rfl (fun ls hl => ?_)
  refine lv_lload hx hb d_Sum_addProduct_141 (lv_at hl 9 rfl) ?_
  refine lv_lload hx hb d_Sum_addProduct_143 (lv_at hl 1 rfl) ?_
  obtain ⟨h_16, hm⟩ := sd_mg hm
  refine lv_ldiv hx hb d_Sum_addProduct_145 (sd_nzJ h_16) ?_
  refine lv_lload hx hb d_Sum_addProduct_146 (lv_at hl 0 rfl) ?_
  obtain ⟨h_17, hm⟩ := sd_mg hm
  refine lv_ldiv hx hb d_Sum_addProduct_148 (sd_nzJ h_17) ?_
  obtain ⟨x13, ex13, hm⟩ := sd_mlet hm
  refine sd_topj ex13 ?_
  refine lv_lstore (lv' := [(13, .long x13), (23, .long r_4), (21, .long r_3), (9, .long x9_1), (7, .long x7_1), (11, .long x11_1), (5, .long x5_1), (19, .long r_2), (17, .long r_1), (15, .long x15), (0, .ref ds), (1, .ref xs), (2, .int vI), (3, .ref xs), (4, .int vJ)]) hx hb d_Sum_addProduct_149 hl (by decide) rfl (fun ls hl => ?_)
  refine lv_lload hx hb d_Sum_addProduct_151 (lv_at hl 3 rfl) ?_
  refine lv_lload hx hb d_Sum_addProduct_153 (lv_at hl 2 rfl) ?_
  obtain ⟨h_18, hm⟩ := sd_mg hm
  refine lv_ldiv hx hb d_Sum_addProduct_155 (sd_nzJ h_18) ?_
  refine lv_lload hx hb d_Sum_addProduct_156 (lv_at hl 5 rfl) ?_
  refine lv_lload hx hb d_Sum_addProduct_158 (lv_at hl 1 rfl) ?_
  obtain ⟨h_19, hm⟩ := sd_mg hm
  refine lv_ldiv hx hb d_Sum_addProduct_160 (sd_nzJ h_19) ?_
  refine lv_lmul hx hb d_Sum_addProduct_161 ?_
  obtain ⟨x25, ex25, hm⟩ := sd_mlet hm
  refine sd_topj ex25 ?_
  refine lv_lstore (lv' := [(25, .long x25), (13, .long x13), (23, .long r_4), (21, .long r_3), (9, .long x9_1), (7, .long x7_1), (11, .long x11_1), (5, .long x5_1), (19, .long r_2), (17, .long r_1), (15, .long x15), (0, .ref ds), (1, .ref xs), (2, .int vI), (3, .ref xs), (4, .int vJ)]) hx hb d_Sum_addProduct_162 hl (by decide) rfl (fun ls hl => ?_)
  refine lv_lload hx hb d_Sum_addProduct_164 (lv_at hl 7 rfl) ?_
  refine lv_lload hx hb d_Sum_addProduct_166 (lv_at hl 5 rfl) ?_
  refine lv_lmul hx hb d_Sum_addProduct_168 ?_
  obtain ⟨x27, ex27, hm⟩ := sd_mlet hm
  refine sd_topj ex27 ?_
  refine lv_lstore (lv' := [(27, .long x27), (25, .long x25), (13, .long x13), (23, .long r_4), (21, .long r_3), (9, .long x9_1), (7, .long x7_1), (11, .long x11_1), (5, .long x5_1), (19, .long r_2), (17, .long r_1), (15, .long x15), (0, .ref ds), (1, .ref xs), (2, .int vI), (3, .ref xs), (4, .int vJ)]) hx hb d_Sum_addProduct_169 hl (by decide) rfl (fun ls hl => ?_)
  refine lv_lload hx hb d_Sum_addProduct_171 (lv_at hl 0 rfl) ?_
  refine sd_abs hx hb hml hown kl_Sum_61 htt hl d_Sum_addProduct_173 (Nat.le_of_ble_eq_true rfl) (Nat.le_of_ble_eq_true rfl) ?_
  obtain ⟨r_5, hc, hm⟩ := sd_mb1 hm
  refine sd_ci0 (wr := [(ds, .inr (0, [.ref dat, .ref dab, .ref dar, .ref dal, .ref dah, .int dk, .int dn])), (dat, aJ g 8 dT), (dab, aJ g 8 dB), (dar, aJ g 8 dR), (xs, .inr (0, [.ref xat, .ref xab, .ref xar, .ref xal, .ref xah, .int xk, .int xn])), (xat, aJ g 8 xT), (xab, aJ g 8 xB), (xar, aJ g 8 xR)]) (w2 := [(ds, .inr (0, [.ref dat, .ref dab, .ref dar, .ref dal, .ref dah, .int dk, .int dn])), (dat, aJ g 8 dT), (dab, aJ g 8 dB), (dar, aJ g 8 dR), (xs, .inr (0, [.ref xat, .ref xab, .ref xar, .ref xal, .ref xah, .int xk, .int xn])), (xat, aJ g 8 xT), (xab, aJ g 8 xB), (xar, aJ g 8 xR)]) (sd_runS (rest := []) (As := [.long (if 0 < x27 then x27 else -x27)]) S (ct_Whole_isTooGreat l D g (H.size) (if 0 < x27 then x27 else -x27) F (r_5) hc) kl_Sum_67 (by decide) (by decide) hK hP hD [] rfl (by decide) rfl hl d_Sum_addProduct_176 rfl (Nat.le_of_ble_eq_true rfl) ⟨Nat.zero_le _, Nat.zero_le _⟩) hP hD hS hA [] [0, 1, 2, 3, 4, 5, 6, 7] rfl rfl (by decide) (by decide) rfl (fun H locs hP hD hS => ?_)
  refine W.eq (g2 := F0 m 179 ls [.int r_5]) rfl ?_
  refine lv_if_ne (tgt := 198) hx hb d_Sum_addProduct_179 (by decide) (fun hc => ?_) (fun hc => ?_)
  · have hm := sd_mf hc hm
    refine lv_iconst (v := (0 : Int32)) hx hb d_Sum_addProduct_198 (by decide) ?_
    exact sd_z1ret (u := (dn, dT, dB, dR)) hQ hx hb hr hlk rfl hK (hP.sub [0, 1, 2, 3, 4, 5, 6, 7] rfl) (hD.sub [0, 1, 2, 3, 4, 5, 6, 7] (by decide) rfl) hS (Option.some.inj hm).symm d_Sum_addProduct_199
  · have hm := sd_mt hc hm
    refine lv_lload hx hb d_Sum_addProduct_182 (lv_at hl 1 rfl) ?_
    obtain ⟨r_6, hc, hm⟩ := sd_mb1 hm
    refine sd_ci0 (wr := [(ds, .inr (0, [.ref dat, .ref dab, .ref dar, .ref dal, .ref dah, .int dk, .int dn])), (dat, aJ g 8 dT), (dab, aJ g 8 dB), (dar, aJ g 8 dR), (xs, .inr (0, [.ref xat, .ref xab, .ref xar, .ref xal, .ref xah, .int xk, .int xn])), (xat, aJ g 8 xT), (xab, aJ g 8 xB), (xar, aJ g 8 xR)]) (w2 := [(ds, .inr (0, [.ref dat, .ref dab, .ref dar, .ref dal, .ref dah, .int dk, .int dn])), (dat, aJ g 8 dT), (dab, aJ g 8 dB), (dar, aJ g 8 dR), (xs, .inr (0, [.ref xat, .ref xab, .ref xar, .ref xal, .ref xah, .int xk, .int xn])), (xat, aJ g 8 xT), (xab, aJ g 8 xB), (xar, aJ g 8 xR)]) (sd_runS (rest := []) (As := [.long x25]) S (ct_Whole_isTooGreat l D g (H.size) x25 F (r_6) hc) kl_Sum_67 (by decide) (by decide) hK hP hD [] rfl (by decide) rfl hl d_Sum_addProduct_184 rfl (Nat.le_of_ble_eq_true rfl) ⟨Nat.zero_le _, Nat.zero_le _⟩) hP hD hS hA [] [0, 1, 2, 3, 4, 5, 6, 7] rfl rfl (by decide) (by decide) rfl (fun H locs hP hD hS => ?_)
    refine W.eq (g2 := F0 m 187 ls [.int r_6]) rfl ?_
    refine lv_if_ne (tgt := 198) hx hb d_Sum_addProduct_187 (by decide) (fun hc => ?_) (fun hc => ?_)
    · have hm := sd_mf hc hm
      refine lv_iconst (v := (0 : Int32)) hx hb d_Sum_addProduct_198 (by decide) ?_
      exact sd_z1ret (u := (dn, dT, dB, dR)) hQ hx hb hr hlk rfl hK (hP.sub [0, 1, 2, 3, 4, 5, 6, 7] rfl) (hD.sub [0, 1, 2, 3, 4, 5, 6, 7] (by decide) rfl) hS (Option.some.inj hm).symm d_Sum_addProduct_199
    · have hm := sd_mt hc hm
      refine lv_lload hx hb d_Sum_addProduct_190 (lv_at hl 11 rfl) ?_
      obtain ⟨r_7, hc, hm⟩ := sd_mb1 hm
      refine sd_ci0 (wr := [(ds, .inr (0, [.ref dat, .ref dab, .ref dar, .ref dal, .ref dah, .int dk, .int dn])), (dat, aJ g 8 dT), (dab, aJ g 8 dB), (dar, aJ g 8 dR), (xs, .inr (0, [.ref xat, .ref xab, .ref xar, .ref xal, .ref xah, .int xk, .int xn])), (xat, aJ g 8 xT), (xab, aJ g 8 xB), (xar, aJ g 8 xR)]) (w2 := [(ds, .inr (0, [.ref dat, .ref dab, .ref dar, .ref dal, .ref dah, .int dk, .int dn])), (dat, aJ g 8 dT), (dab, aJ g 8 dB), (dar, aJ g 8 dR), (xs, .inr (0, [.ref xat, .ref xab, .ref xar, .ref xal, .ref xah, .int xk, .int xn])), (xat, aJ g 8 xT), (xab, aJ g 8 xB), (xar, aJ g 8 xR)]) (sd_runS (rest := []) (As := [.long x15]) S (ct_Whole_isTooGreat l D g (H.size) x15 F (r_7) hc) kl_Sum_67 (by decide) (by decide) hK hP hD [] rfl (by decide) rfl hl d_Sum_addProduct_192 rfl (Nat.le_of_ble_eq_true rfl) ⟨Nat.zero_le _, Nat.zero_le _⟩) hP hD hS hA [] [0, 1, 2, 3, 4, 5, 6, 7] rfl rfl (by decide) (by decide) rfl (fun H locs hP hD hS => ?_)
      refine W.eq (g2 := F0 m 195 ls [.int r_7]) rfl ?_
      refine lv_if_eq (tgt := 200) hx hb d_Sum_addProduct_195 (by decide) (fun hc => ?_) (fun hc => ?_)
      · have hm := sd_mt hc hm
        refine lv_lload hx hb d_Sum_addProduct_200 (lv_at hl 0 rfl) ?_
        refine lv_lload hx hb d_Sum_addProduct_202 (lv_at hl 2 rfl) ?_
        refine lv_lmul hx hb d_Sum_addProduct_204 ?_
        obtain ⟨x27_1, ex27_1, hm⟩ := sd_mlet hm
        refine sd_topj ex27_1 ?_
        refine lv_lstore (lv' := [(27, .long x27_1), (25, .long x25), (13, .long x13), (23, .long r_4), (21, .long r_3), (9, .long x9_1), (7, .long x7_1), (11, .long x11_1), (5, .long x5_1), (19, .long r_2), (17, .long r_1), (15, .long x15), (0, .ref ds), (1, .ref xs), (2, .int vI), (3, .ref xs), (4, .int vJ)]) hx hb d_Sum_addProduct_205 hl (by decide) rfl (fun ls hl => ?_)
        refine lv_lload hx hb d_Sum_addProduct_207 (lv_at hl 0 rfl) ?_
        refine sd_abs hx hb hml hown kl_Sum_61 htt hl d_Sum_addProduct_209 (Nat.le_of_ble_eq_true rfl) (Nat.le_of_ble_eq_true rfl) ?_
        obtain ⟨r_8, hc, hm⟩ := sd_mb1 hm
        refine sd_ci0 (wr := [(ds, .inr (0, [.ref dat, .ref dab, .ref dar, .ref dal, .ref dah, .int dk, .int dn])), (dat, aJ g 8 dT), (dab, aJ g 8 dB), (dar, aJ g 8 dR), (xs, .inr (0, [.ref xat, .ref xab, .ref xar, .ref xal, .ref xah, .int xk, .int xn])), (xat, aJ g 8 xT), (xab, aJ g 8 xB), (xar, aJ g 8 xR)]) (w2 := [(ds, .inr (0, [.ref dat, .ref dab, .ref dar, .ref dal, .ref dah, .int dk, .int dn])), (dat, aJ g 8 dT), (dab, aJ g 8 dB), (dar, aJ g 8 dR), (xs, .inr (0, [.ref xat, .ref xab, .ref xar, .ref xal, .ref xah, .int xk, .int xn])), (xat, aJ g 8 xT), (xab, aJ g 8 xB), (xar, aJ g 8 xR)]) (sd_runS (rest := []) (As := [.long (if 0 < x27_1 then x27_1 else -x27_1)]) S (ct_Whole_isTooGreat l D g (H.size) (if 0 < x27_1 then x27_1 else -x27_1) F (r_8) hc) kl_Sum_67 (by decide) (by decide) hK hP hD [] rfl (by decide) rfl hl d_Sum_addProduct_212 rfl (Nat.le_of_ble_eq_true rfl) ⟨Nat.zero_le _, Nat.zero_le _⟩) hP hD hS hA [] [0, 1, 2, 3, 4, 5, 6, 7] rfl rfl (by decide) (by decide) rfl (fun H locs hP hD hS => ?_)
        refine W.eq (g2 := F0 m 215 ls [.int r_8]) rfl ?_
        obtain ⟨y, uds, udat, udab, udar, hv, hm⟩ := sd_mb5 hm
        have J236_20 : ∀ (H : Heap) (locs : List Loc) (ls : Array Slot), va_P D classes [(ds, .inr (0, [.ref dat, .ref dab, .ref dar, .ref dal, .ref dah, .int dk, .int uds])), (dat, aJ g 8 udat), (dab, aJ g 8 udab), (dar, aJ g 8 udar), (xs, .inr (0, [.ref xat, .ref xab, .ref xar, .ref xal, .ref xah, .int xk, .int xn])), (xat, aJ g 8 xT), (xab, aJ g 8 xB), (xar, aJ g 8 xR)] H → va_D A [(ds, .inr (0, [.ref dat, .ref dab, .ref dar, .ref dal, .ref dah, .int dk, .int uds])), (dat, aJ g 8 udat), (dab, aJ g 8 udab), (dar, aJ g 8 udar), (xs, .inr (0, [.ref xat, .ref xab, .ref xar, .ref xal, .ref xah, .int xk, .int xn])), (xat, aJ g 8 xT), (xab, aJ g 8 xB), (xar, aJ g 8 xR)] → va_S A s.heap H locs → lv_has ls 29 [] → W p l e rm_Sum_addProduct2 s m args below meth c H locs 0 0 Q (F0 m 236 ls [.int y]) := by
          intro H locs ls hP hD hS hl
          obtain ⟨h_21, hm⟩ := sd_mg hm
          exact sd_z1ret (u := (uds, udat, udab, udar)) hQ hx hb hr hlk (sd_zb h_21) hK (hP.sub [0, 1, 2, 3, 4, 5, 6, 7] rfl) (hD.sub [0, 1, 2, 3, 4, 5, 6, 7] (by decide) rfl) hS (Option.some.inj hm).symm d_Sum_addProduct_236
        replace hm := hv
        refine lv_if_ne (tgt := 235) hx hb d_Sum_addProduct_215 (by decide) (fun hc => ?_) (fun hc => ?_)
        · have hm := sd_mf hc hm
          refine lv_iconst (v := (0 : Int32)) hx hb d_Sum_addProduct_235 (by decide) ?_
          cases hm
          exact J236_20 H locs ls (hP.sub [0, 1, 2, 3, 4, 5, 6, 7] rfl) (hD.sub [0, 1, 2, 3, 4, 5, 6, 7] (by decide) rfl) hS (lv_sub hl [] rfl)
        · have hm := sd_mt hc hm
          refine lv_aload_n hx hb d_Sum_addProduct_218 rfl (lv_at hl 12 rfl) ?_
          refine lv_lload hx hb d_Sum_addProduct_219 (lv_at hl 0 rfl) ?_
          refine lv_lload hx hb d_Sum_addProduct_221 (lv_at hl 1 rfl) ?_
          refine lv_lload hx hb d_Sum_addProduct_223 (lv_at hl 11 rfl) ?_
          obtain ⟨r_9, uds_1, udat_1, udab_1, udar_1, hc, hm⟩ := sd_mb5 hm
          refine sd_ci1 (wr := [(xs, .inr (0, [.ref xat, .ref xab, .ref xar, .ref xal, .ref xah, .int xk, .int xn])), (xat, aJ g 8 xT), (xab, aJ g 8 xB), (xar, aJ g 8 xR)]) (w2 := [(xs, .inr (0, [.ref xat, .ref xab, .ref xar, .ref xal, .ref xah, .int xk, .int xn])), (xat, aJ g 8 xT), (xab, aJ g 8 xB), (xar, aJ g 8 xR), (ds, .inr (0, [.ref dat, .ref dab, .ref dar, .ref dal, .ref dah, .int dk, .int uds_1])), (dat, aJ g 8 udat_1), (dab, aJ g 8 udab_1), (dar, aJ g 8 udar_1)]) (sd_runV (rest := []) (As := [.long x27_1, .long x25, .long x15]) S (ct_Sum_add l D g ds dat dab dar dal dah (H.size) x27_1 x25 x15 dk dn dT dB dR F (r_9, uds_1, udat_1, udab_1, udar_1) hc) kl_Sum_47 (by decide) (by decide) hK hP hD [0, 1, 2, 3] rfl (by decide) rfl hl d_Sum_addProduct_225 rfl (Nat.le_of_ble_eq_true rfl) ⟨Nat.zero_le _, Nat.zero_le _⟩ 0 rfl rfl) hP hD hS hA [0, 1, 2, 3] [4, 5, 6, 7] rfl rfl (by decide) (by decide) rfl (fun H locs hP hD hS => ?_)
          refine W.eq (g2 := F0 m 228 ls [.int r_9]) rfl ?_
          refine lv_if_eq (tgt := 235) hx hb d_Sum_addProduct_228 (by decide) (fun hc => ?_) (fun hc => ?_)
          · have hm := sd_mt hc hm
            refine lv_iconst (v := (0 : Int32)) hx hb d_Sum_addProduct_235 (by decide) ?_
            cases hm
            exact J236_20 H locs ls (hP.sub [4, 5, 6, 7, 0, 1, 2, 3] rfl) (hD.sub [4, 5, 6, 7, 0, 1, 2, 3] (by decide) rfl) hS (lv_sub hl [] rfl)
          · have hm := sd_mf hc hm
            refine lv_iconst (v := (1 : Int32)) hx hb d_Sum_addProduct_231 (by decide) ?_
            refine lv_goto (tgt := 236) hx hb d_Sum_addProduct_232 (by decide) ?_
            cases hm
            exact J236_20 H locs ls (hP.sub [4, 5, 6, 7, 0, 1, 2, 3] rfl) (hD.sub [4, 5, 6, 7, 0, 1, 2, 3] (by decide) rfl) hS (lv_sub hl [] rfl)
      · have hm := sd_mf hc hm
        refine lv_iconst (v := (0 : Int32)) hx hb d_Sum_addProduct_198 (by decide) ?_
        exact sd_z1ret (u := (dn, dT, dB, dR)) hQ hx hb hr hlk rfl hK (hP.sub [0, 1, 2, 3, 4, 5, 6, 7] rfl) (hD.sub [0, 1, 2, 3, 4, 5, 6, 7] (by decide) rfl) hS (Option.some.inj hm).symm d_Sum_addProduct_199
theorem d_Sum_becomeProducts_0 : decode b_Sum_becomeProducts 0 = .ok (.aload_n 0, 1) := by decide +kernel
theorem d_Sum_becomeProducts_1 : decode b_Sum_becomeProducts 1 = .ok (.invokevirtual 40, 3) := by decide +kernel
theorem d_Sum_becomeProducts_4 : decode b_Sum_becomeProducts 4 = .ok (.iconst 0, 1) := by decide +kernel
theorem d_Sum_becomeProducts_5 : decode b_Sum_becomeProducts 5 = .ok (.istore_n 3, 1) := by decide +kernel
theorem d_Sum_becomeProducts_6 : decode b_Sum_becomeProducts 6 = .ok (.iload_n 3, 1) := by decide +kernel
theorem d_Sum_becomeProducts_7 : decode b_Sum_becomeProducts 7 = .ok (.aload_n 1, 1) := by decide +kernel
theorem d_Sum_becomeProducts_8 : decode b_Sum_becomeProducts 8 = .ok (.getfield 28, 3) := by decide +kernel
theorem d_Sum_becomeProducts_11 : decode b_Sum_becomeProducts 11 = .ok (.if_icmp .ge 41, 3) := by decide +kernel
theorem d_Sum_becomeProducts_14 : decode b_Sum_becomeProducts 14 = .ok (.iconst 0, 1) := by decide +kernel
theorem d_Sum_becomeProducts_15 : decode b_Sum_becomeProducts 15 = .ok (.istore 4, 2) := by decide +kernel
theorem d_Sum_becomeProducts_17 : decode b_Sum_becomeProducts 17 = .ok (.iload 4, 2) := by decide +kernel
theorem d_Sum_becomeProducts_19 : decode b_Sum_becomeProducts 19 = .ok (.aload_n 2, 1) := by decide +kernel
theorem d_Sum_becomeProducts_20 : decode b_Sum_becomeProducts 20 = .ok (.getfield 28, 3) := by decide +kernel
theorem d_Sum_becomeProducts_23 : decode b_Sum_becomeProducts 23 = .ok (.if_icmp .ge 23, 3) := by decide +kernel
theorem d_Sum_becomeProducts_26 : decode b_Sum_becomeProducts 26 = .ok (.aload_n 0, 1) := by decide +kernel
theorem d_Sum_becomeProducts_27 : decode b_Sum_becomeProducts 27 = .ok (.aload_n 1, 1) := by decide +kernel
theorem d_Sum_becomeProducts_28 : decode b_Sum_becomeProducts 28 = .ok (.iload_n 3, 1) := by decide +kernel
theorem d_Sum_becomeProducts_29 : decode b_Sum_becomeProducts 29 = .ok (.aload_n 2, 1) := by decide +kernel
theorem d_Sum_becomeProducts_30 : decode b_Sum_becomeProducts 30 = .ok (.iload 4, 2) := by decide +kernel
theorem d_Sum_becomeProducts_32 : decode b_Sum_becomeProducts 32 = .ok (.invokevirtual 51, 3) := by decide +kernel
theorem d_Sum_becomeProducts_35 : decode b_Sum_becomeProducts 35 = .ok (.ifCond .ne 5, 3) := by decide +kernel
theorem d_Sum_becomeProducts_38 : decode b_Sum_becomeProducts 38 = .ok (.iconst 0, 1) := by decide +kernel
theorem d_Sum_becomeProducts_39 : decode b_Sum_becomeProducts 39 = .ok (.ireturn, 1) := by decide +kernel
theorem d_Sum_becomeProducts_40 : decode b_Sum_becomeProducts 40 = .ok (.iinc 4 1, 3) := by decide +kernel
theorem d_Sum_becomeProducts_43 : decode b_Sum_becomeProducts 43 = .ok (.goto (-26), 3) := by decide +kernel
theorem d_Sum_becomeProducts_46 : decode b_Sum_becomeProducts 46 = .ok (.iinc 3 1, 3) := by decide +kernel
theorem d_Sum_becomeProducts_49 : decode b_Sum_becomeProducts 49 = .ok (.goto (-43), 3) := by decide +kernel
theorem d_Sum_becomeProducts_52 : decode b_Sum_becomeProducts 52 = .ok (.iconst 1, 1) := by decide +kernel
theorem d_Sum_becomeProducts_53 : decode b_Sum_becomeProducts 53 = .ok (.ireturn, 1) := by decide +kernel
def mf_Sum_becomeProducts_L17 (yn : Int32) (F : Nat) (x3 : Int32) (uds : Int32) (xk : Int32) (xn : Int32) (xT : Nat → Int64) (xB : Nat → Int64) (xR : Nat → Int64) (yk : Int32) (yT : Nat → Int64) (yB : Nat → Int64) (yR : Nat → Int64) : Nat → Int32 → (Nat → Int64) → (Nat → Int64) → (Nat → Int64) → Int32 → Option (Nat × (Nat → Int64) × (Nat → Int64) × (Nat → Int64) × Int32)
  | 0, _, _, _, _, _ => none
  | fu + 1, x4, udat_1, udab_1, udar_1, uds_3 => (if yn ≤ x4 then (some (1, udat_1, udab_1, udar_1, uds_3)) else (sd_b5 (mf_Sum_addProduct F x3 x4 uds uds_3 udat_1 udab_1 udar_1 xk xn xT xB xR yk yn yT yB yR) fun r uds_4 udat_2 udab_2 udar_2 => (if r = 0 then (some (0, udat_2, udab_2, udar_2, uds_4)) else (sd_let (x4 + (1 : Int32)) fun x4_1 => ((mf_Sum_becomeProducts_L17 yn F x3 uds xk xn xT xB xR yk yT yB yR fu) x4_1 udat_2 udab_2 udar_2 uds_4)))))
def mf_Sum_becomeProducts_L6 (xn : Int32) (yn : Int32) (F : Nat) (uds : Int32) (xk : Int32) (xT : Nat → Int64) (xB : Nat → Int64) (xR : Nat → Int64) (yk : Int32) (yT : Nat → Int64) (yB : Nat → Int64) (yR : Nat → Int64) : Nat → Int32 → (Nat → Int64) → (Nat → Int64) → (Nat → Int64) → Int32 → Option (Nat × (Nat → Int64) × (Nat → Int64) × (Nat → Int64) × Int32)
  | 0, _, _, _, _, _ => none
  | fu + 1, x3, udat, udab, udar, uds_2 => (if xn ≤ x3 then (some (1, udat, udab, udar, uds_2)) else (sd_b5 (mf_Sum_becomeProducts_L17 yn F x3 uds xk xn xT xB xR yk yT yB yR F (0 : Int32) udat udab udar uds_2) fun tg_1 rudat_1 rudab_1 rudar_1 ruds_1 => (if tg_1 = 0 then (some (0, rudat_1, rudab_1, rudar_1, ruds_1)) else (sd_let (x3 + (1 : Int32)) fun x3_1 => ((mf_Sum_becomeProducts_L6 xn yn F uds xk xT xB xR yk yT yB yR fu) x3_1 rudat_1 rudab_1 rudar_1 ruds_1)))))
def mf_Sum_becomeProducts (F : Nat) (dk : Int32) (dn : Int32) (dT : Nat → Int64) (dB : Nat → Int64) (dR : Nat → Int64) (xk : Int32) (xn : Int32) (xT : Nat → Int64) (xB : Nat → Int64) (xR : Nat → Int64) (yk : Int32) (yn : Int32) (yT : Nat → Int64) (yB : Nat → Int64) (yR : Nat → Int64) : Option (Int32 × Int32 × Int32 × (Nat → Int64) × (Nat → Int64) × (Nat → Int64)) :=
  (sd_b2 (mf_Sum_clear F dk dn) fun uds uds_1 => (sd_b5 (mf_Sum_becomeProducts_L6 xn yn F uds xk xT xB xR yk yT yB yR F (0 : Int32) dT dB dR uds_1) fun tg rudat rudab rudar ruds => (if tg = 0 then (some ((0 : Int32), uds, ruds, rudat, rudab, rudar)) else (some ((1 : Int32), uds, ruds, rudat, rudab, rudar)))))
abbrev rm_Sum_becomeProducts : Room := { frames := 5, cells := 0, slots := 0, locals := 208 }
set_option maxHeartbeats 4000000 in
set_option maxRecDepth 100000 in
theorem ct_Sum_becomeProducts (l : Launch) (D : va_G) (g : G4) (ds : Nat) (dat : Nat) (dab : Nat) (dar : Nat) (dal : Nat) (dah : Nat) (xs : Nat) (xat : Nat) (xab : Nat) (xar : Nat) (xal : Nat) (xah : Nat) (ys : Nat) (yat : Nat) (yab : Nat) (yar : Nat) (yal : Nat) (yah : Nat) (sz : Nat) (dk : Int32) (dn : Int32) (dT : Nat → Int64) (dB : Nat → Int64) (dR : Nat → Int64) (xk : Int32) (xn : Int32) (xT : Nat → Int64) (xB : Nat → Int64) (xR : Nat → Int64) (yk : Int32) (yn : Int32) (yT : Nat → Int64) (yB : Nat → Int64) (yR : Nat → Int64) (F : Nat) (res : Int32 × Int32 × Int32 × (Nat → Int64) × (Nat → Int64) × (Nat → Int64)) (hm : mf_Sum_becomeProducts F dk dn dT dB dR xk xn xT xB xR yk yn yT yB yR = some res) : Met l y_Sum_becomeProducts (.code y_Sum_becomeProducts b_Sum_becomeProducts 5 (some .boolean) :: sd_tb) rm_Sum_becomeProducts (sd_PW D g [.ref ds, .ref xs, .ref ys] sz [(ds, .inr (0, [.ref dat, .ref dab, .ref dar, .ref dal, .ref dah, .int dk, .int dn])), (dat, aJ g 8 dT), (dab, aJ g 8 dB), (dar, aJ g 8 dR), (xs, .inr (0, [.ref xat, .ref xab, .ref xar, .ref xal, .ref xah, .int xk, .int xn])), (xat, aJ g 8 xT), (xab, aJ g 8 xB), (xar, aJ g 8 xR), (ys, .inr (0, [.ref yat, .ref yab, .ref yar, .ref yal, .ref yah, .int yk, .int yn])), (yat, aJ g 8 yT), (yab, aJ g 8 yB), (yar, aJ g 8 yR)]) (sd_Qi1 D g res (fun u : Int32 × Int32 × (Nat → Int64) × (Nat → Int64) × (Nat → Int64) => [(ds, .inr (0, [.ref dat, .ref dab, .ref dar, .ref dal, .ref dah, .int (u.1), .int (u.2.1)])), (dat, aJ g 8 (u.2.2.1)), (dab, aJ g 8 (u.2.2.2.1)), (dar, aJ g 8 (u.2.2.2.2)), (xs, .inr (0, [.ref xat, .ref xab, .ref xar, .ref xal, .ref xah, .int xk, .int xn])), (xat, aJ g 8 xT), (xab, aJ g 8 xB), (xar, aJ g 8 xR), (ys, .inr (0, [.ref yat, .ref yab, .ref yar, .ref yal, .ref yah, .int yk, .int yn])), (yat, aJ g 8 yT), (yab, aJ g 8 yB), (yar, aJ g 8 yR)]) (va_A [(ds, .inr (0, [.ref dat, .ref dab, .ref dar, .ref dal, .ref dah, .int dk, .int dn])), (dat, aJ g 8 dT), (dab, aJ g 8 dB), (dar, aJ g 8 dR), (xs, .inr (0, [.ref xat, .ref xab, .ref xar, .ref xal, .ref xah, .int xk, .int xn])), (xat, aJ g 8 xT), (xab, aJ g 8 xB), (xar, aJ g 8 xR), (ys, .inr (0, [.ref yat, .ref yab, .ref yar, .ref yal, .ref yah, .int yk, .int yn])), (yat, aJ g 8 yT), (yab, aJ g 8 yB), (yar, aJ g 8 yR)] sz)) 0 0 (va_A [(ds, .inr (0, [.ref dat, .ref dab, .ref dar, .ref dal, .ref dah, .int dk, .int dn])), (dat, aJ g 8 dT), (dab, aJ g 8 dB), (dar, aJ g 8 dR), (xs, .inr (0, [.ref xat, .ref xab, .ref xar, .ref xal, .ref xah, .int xk, .int xn])), (xat, aJ g 8 xT), (xab, aJ g 8 xB), (xar, aJ g 8 xR), (ys, .inr (0, [.ref yat, .ref yab, .ref yar, .ref yal, .ref yah, .int yk, .int yn])), (yat, aJ g 8 yT), (yab, aJ g 8 yB), (yar, aJ g 8 yR)] sz) := by
  refine sd_met (Qf := fun A => sd_Qi1 D g res (fun u : Int32 × Int32 × (Nat → Int64) × (Nat → Int64) × (Nat → Int64) => [(ds, .inr (0, [.ref dat, .ref dab, .ref dar, .ref dal, .ref dah, .int (u.1), .int (u.2.1)])), (dat, aJ g 8 (u.2.2.1)), (dab, aJ g 8 (u.2.2.2.1)), (dar, aJ g 8 (u.2.2.2.2)), (xs, .inr (0, [.ref xat, .ref xab, .ref xar, .ref xal, .ref xah, .int xk, .int xn])), (xat, aJ g 8 xT), (xab, aJ g 8 xB), (xar, aJ g 8 xR), (ys, .inr (0, [.ref yat, .ref yab, .ref yar, .ref yal, .ref yah, .int yk, .int yn])), (yat, aJ g 8 yT), (yab, aJ g 8 yB), (yar, aJ g 8 yR)]) A) (own := R_Sum) (by decide +kernel) rfl (Nat.le_of_ble_eq_true rfl) ?_
  intro p e s m args below meth c S hr hlk hK A hA Q hQ H locs hP hD hS ls hl
  have hx := S.1
  have hb := S.2.1
  have hml := S.2.2.1
  have hown := S.2.2.2.1
  have htt := sd_tt S
  replace hl : lv_has ls 5 [(0, .ref ds), (1, .ref xs), (2, .ref ys)] := hl
  unfold mf_Sum_becomeProducts at hm
  refine lv_aload_n hx hb d_Sum_becomeProducts_0 rfl (lv_at hl 0 rfl) ?_
  obtain ⟨uds, uds_1, hc, hm⟩ := sd_mb2 hm
  refine sd_cv1 (wr := [(dat, aJ g 8 dT), (dab, aJ g 8 dB), (dar, aJ g 8 dR), (xs, .inr (0, [.ref xat, .ref xab, .ref xar, .ref xal, .ref xah, .int xk, .int xn])), (xat, aJ g 8 xT), (xab, aJ g 8 xB), (xar, aJ g 8 xR), (ys, .inr (0, [.ref yat, .ref yab, .ref yar, .ref yal, .ref yah, .int yk, .int yn])), (yat, aJ g 8 yT), (yab, aJ g 8 yB), (yar, aJ g 8 yR)]) (w2 := [(dat, aJ g 8 dT), (dab, aJ g 8 dB), (dar, aJ g 8 dR), (xs, .inr (0, [.ref xat, .ref xab, .ref xar, .ref xal, .ref xah, .int xk, .int xn])), (xat, aJ g 8 xT), (xab, aJ g 8 xB), (xar, aJ g 8 xR), (ys, .inr (0, [.ref yat, .ref yab, .ref yar, .ref yal, .ref yah, .int yk, .int yn])), (yat, aJ g 8 yT), (yab, aJ g 8 yB), (yar, aJ g 8 yR), (ds, .inr (0, [.ref dat, .ref dab, .ref dar, .ref dal, .ref dah, .int uds, .int uds_1]))]) (sd_runV (rest := []) (As := []) S (ct_Sum_clear l D g ds dat dab dar dal dah (H.size) dk dn F (uds, uds_1) hc) kl_Sum_40 (by decide) (by decide) hK hP hD [0] rfl (by decide) rfl hl d_Sum_becomeProducts_1 rfl (Nat.le_of_ble_eq_true rfl) ⟨Nat.zero_le _, Nat.zero_le _⟩ 0 rfl rfl) hP hD hS hA [0] [1, 2, 3, 4, 5, 6, 7, 8, 9, 10, 11] rfl rfl (by decide) (by decide) rfl (fun H locs hP hD hS => ?_)
  refine lv_iconst (v := (0 : Int32)) hx hb d_Sum_becomeProducts_4 (by decide) ?_
  refine lv_istore_n (lv' := [(3, .int (0 : Int32)), (0, .ref ds), (1, .ref xs), (2, .ref ys)]) hx hb d_Sum_becomeProducts_5 rfl hl (by decide) rfl (fun ls hl => ?_)
  have L6 : ∀ (fu : Nat) (x3 : Int32) (udat : Nat → Int64) (udab : Nat → Int64) (udar : Nat → Int64) (uds_2 : Int32) (tg : Nat) (rudat : Nat → Int64) (rudab : Nat → Int64) (rudar : Nat → Int64) (ruds : Int32), mf_Sum_becomeProducts_L6 xn yn F uds xk xT xB xR yk yT yB yR fu x3 udat udab udar uds_2 = some (tg, rudat, rudab, rudar, ruds) → ∀ (H : Heap) (locs : List Loc) (ls : Array Slot), va_P D classes [(dat, aJ g 8 udat), (dab, aJ g 8 udab), (dar, aJ g 8 udar), (xs, .inr (0, [.ref xat, .ref xab, .ref xar, .ref xal, .ref xah, .int xk, .int xn])), (xat, aJ g 8 xT), (xab, aJ g 8 xB), (xar, aJ g 8 xR), (ys, .inr (0, [.ref yat, .ref yab, .ref yar, .ref yal, .ref yah, .int yk, .int yn])), (yat, aJ g 8 yT), (yab, aJ g 8 yB), (yar, aJ g 8 yR), (ds, .inr (0, [.ref dat, .ref dab, .ref dar, .ref dal, .ref dah, .int uds, .int uds_2]))] H → va_D A [(dat, aJ g 8 udat), (dab, aJ g 8 udab), (dar, aJ g 8 udar), (xs, .inr (0, [.ref xat, .ref xab, .ref xar, .ref xal, .ref xah, .int xk, .int xn])), (xat, aJ g 8 xT), (xab, aJ g 8 xB), (xar, aJ g 8 xR), (ys, .inr (0, [.ref yat, .ref yab, .ref yar, .ref yal, .ref yah, .int yk, .int yn])), (yat, aJ g 8 yT), (yab, aJ g 8 yB), (yar, aJ g 8 yR), (ds, .inr (0, [.ref dat, .ref dab, .ref dar, .ref dal, .ref dah, .int uds, .int uds_2]))] → va_S A s.heap H locs → lv_has ls 5 [(0, .ref ds), (1, .ref xs), (2, .ref ys), (3, .int x3)] → (tg = 0 → ∀ (H : Heap) (locs : List Loc) (ls : Array Slot), va_P D classes [(dat, aJ g 8 rudat), (dab, aJ g 8 rudab), (dar, aJ g 8 rudar), (xs, .inr (0, [.ref xat, .ref xab, .ref xar, .ref xal, .ref xah, .int xk, .int xn])), (xat, aJ g 8 xT), (xab, aJ g 8 xB), (xar, aJ g 8 xR), (ys, .inr (0, [.ref yat, .ref yab, .ref yar, .ref yal, .ref yah, .int yk, .int yn])), (yat, aJ g 8 yT), (yab, aJ g 8 yB), (yar, aJ g 8 yR), (ds, .inr (0, [.ref dat, .ref dab, .ref dar, .ref dal, .ref dah, .int uds, .int ruds]))] H → va_D A [(dat, aJ g 8 rudat), (dab, aJ g 8 rudab), (dar, aJ g 8 rudar), (xs, .inr (0, [.ref xat, .ref xab, .ref xar, .ref xal, .ref xah, .int xk, .int xn])), (xat, aJ g 8 xT), (xab, aJ g 8 xB), (xar, aJ g 8 xR), (ys, .inr (0, [.ref yat, .ref yab, .ref yar, .ref yal, .ref yah, .int yk, .int yn])), (yat, aJ g 8 yT), (yab, aJ g 8 yB), (yar, aJ g 8 yR), (ds, .inr (0, [.ref dat, .ref dab, .ref dar, .ref dal, .ref dah, .int uds, .int ruds]))] → va_S A s.heap H locs → lv_has ls 5 [] → W p l e rm_Sum_becomeProducts s m args below meth c H locs 0 0 Q (F0 m 38 ls [])) → (tg = 1 → ∀ (H : Heap) (locs : List Loc) (ls : Array Slot), va_P D classes [(dat, aJ g 8 rudat), (dab, aJ g 8 rudab), (dar, aJ g 8 rudar), (xs, .inr (0, [.ref xat, .ref xab, .ref xar, .ref xal, .ref xah, .int xk, .int xn])), (xat, aJ g 8 xT), (xab, aJ g 8 xB), (xar, aJ g 8 xR), (ys, .inr (0, [.ref yat, .ref yab, .ref yar, .ref yal, .ref yah, .int yk, .int yn])), (yat, aJ g 8 yT), (yab, aJ g 8 yB), (yar, aJ g 8 yR), (ds, .inr (0, [.ref dat, .ref dab, .ref dar, .ref dal, .ref dah, .int uds, .int ruds]))] H → va_D A [(dat, aJ g 8 rudat), (dab, aJ g 8 rudab), (dar, aJ g 8 rudar), (xs, .inr (0, [.ref xat, .ref xab, .ref xar, .ref xal, .ref xah, .int xk, .int xn])), (xat, aJ g 8 xT), (xab, aJ g 8 xB), (xar, aJ g 8 xR), (ys, .inr (0, [.ref yat, .ref yab, .ref yar, .ref yal, .ref yah, .int yk, .int yn])), (yat, aJ g 8 yT), (yab, aJ g 8 yB), (yar, aJ g 8 yR), (ds, .inr (0, [.ref dat, .ref dab, .ref dar, .ref dal, .ref dah, .int uds, .int ruds]))] → va_S A s.heap H locs → lv_has ls 5 [] → W p l e rm_Sum_becomeProducts s m args below meth c H locs 0 0 Q (F0 m 52 ls [])) → W p l e rm_Sum_becomeProducts s m args below meth c H locs 0 0 Q (F0 m 6 ls []) := by
    intro fu
    induction fu with
    | zero => intro x3 udat udab udar uds_2 tg rudat rudab rudar ruds hm; exact absurd (show (none : Option (Nat × (Nat → Int64) × (Nat → Int64) × (Nat → Int64) × Int32)) = some (tg, rudat, rudab, rudar, ruds) from hm) (fun h => nomatch h)
    | succ fu ih =>
      intro x3 udat udab udar uds_2 tg rudat rudab rudar ruds hm H locs ls hP hD hS hl kx38 kx52
      rw [mf_Sum_becomeProducts_L6] at hm
      refine lv_iload_n hx hb d_Sum_becomeProducts_6 rfl (lv_at hl 3 rfl) ?_
      refine lv_aload_n hx hb d_Sum_becomeProducts_7 rfl (lv_at hl 1 rfl) ?_
      refine va_get (D := D) (ci := 0) (v := .int xn) (C := R_Sum) (T := F_Sum) (N := 7) hx hb htt i_Sum hown hK hP 3 rfl rfl 6 (by decide) (htt _ kf_Sum_28) (fun _ h9 => h9) rfl d_Sum_becomeProducts_8 ?_
      refine lv_icmp_ge (tgt := 52) hx hb d_Sum_becomeProducts_11 (by decide) (fun hc => ?_) (fun hc => ?_)
      · have hm := sd_mt hc hm
        cases hm
        exact kx52 rfl H locs ls (hP.sub [0, 1, 2, 3, 4, 5, 6, 7, 8, 9, 10, 11] rfl) (hD.sub [0, 1, 2, 3, 4, 5, 6, 7, 8, 9, 10, 11] (by decide) rfl) hS (lv_sub hl [] rfl)
      · have hm := sd_mf hc hm
        refine lv_iconst (v := (0 : Int32)) hx hb d_Sum_becomeProducts_14 (by decide) ?_
        refine lv_istore (lv' := [(4, .int (0 : Int32)), (0, .ref ds), (1, .ref xs), (2, .ref ys), (3, .int x3)]) hx hb d_Sum_becomeProducts_15 hl (by decide) rfl (fun ls hl => ?_)
        have L17 : ∀ (fu : Nat) (x4 : Int32) (udat_1 : Nat → Int64) (udab_1 : Nat → Int64) (udar_1 : Nat → Int64) (uds_3 : Int32) (tg_1 : Nat) (rudat_1 : Nat → Int64) (rudab_1 : Nat → Int64) (rudar_1 : Nat → Int64) (ruds_1 : Int32), mf_Sum_becomeProducts_L17 yn F x3 uds xk xn xT xB xR yk yT yB yR fu x4 udat_1 udab_1 udar_1 uds_3 = some (tg_1, rudat_1, rudab_1, rudar_1, ruds_1) → ∀ (H : Heap) (locs : List Loc) (ls : Array Slot), va_P D classes [(dat, aJ g 8 udat_1), (dab, aJ g 8 udab_1), (dar, aJ g 8 udar_1), (xs, .inr (0, [.ref xat, .ref xab, .ref xar, .ref xal, .ref xah, .int xk, .int xn])), (xat, aJ g 8 xT), (xab, aJ g 8 xB), (xar, aJ g 8 xR), (ys, .inr (0, [.ref yat, .ref yab, .ref yar, .ref yal, .ref yah, .int yk, .int yn])), (yat, aJ g 8 yT), (yab, aJ g 8 yB), (yar, aJ g 8 yR), (ds, .inr (0, [.ref dat, .ref dab, .ref dar, .ref dal, .ref dah, .int uds, .int uds_3]))] H → va_D A [(dat, aJ g 8 udat_1), (dab, aJ g 8 udab_1), (dar, aJ g 8 udar_1), (xs, .inr (0, [.ref xat, .ref xab, .ref xar, .ref xal, .ref xah, .int xk, .int xn])), (xat, aJ g 8 xT), (xab, aJ g 8 xB), (xar, aJ g 8 xR), (ys, .inr (0, [.ref yat, .ref yab, .ref yar, .ref yal, .ref yah, .int yk, .int yn])), (yat, aJ g 8 yT), (yab, aJ g 8 yB), (yar, aJ g 8 yR), (ds, .inr (0, [.ref dat, .ref dab, .ref dar, .ref dal, .ref dah, .int uds, .int uds_3]))] → va_S A s.heap H locs → lv_has ls 5 [(0, .ref ds), (1, .ref xs), (2, .ref ys), (3, .int x3), (4, .int x4)] → (tg_1 = 0 → ∀ (H : Heap) (locs : List Loc) (ls : Array Slot), va_P D classes [(dat, aJ g 8 rudat_1), (dab, aJ g 8 rudab_1), (dar, aJ g 8 rudar_1), (xs, .inr (0, [.ref xat, .ref xab, .ref xar, .ref xal, .ref xah, .int xk, .int xn])), (xat, aJ g 8 xT), (xab, aJ g 8 xB), (xar, aJ g 8 xR), (ys, .inr (0, [.ref yat, .ref yab, .ref yar, .ref yal, .ref yah, .int yk, .int yn])), (yat, aJ g 8 yT), (yab, aJ g 8 yB), (yar, aJ g 8 yR), (ds, .inr (0, [.ref dat, .ref dab, .ref dar, .ref dal, .ref dah, .int uds, .int ruds_1]))] H → va_D A [(dat, aJ g 8 rudat_1), (dab, aJ g 8 rudab_1), (dar, aJ g 8 rudar_1), (xs, .inr (0, [.ref xat, .ref xab, .ref xar, .ref xal, .ref xah, .int xk, .int xn])), (xat, aJ g 8 xT), (xab, aJ g 8 xB), (xar, aJ g 8 xR), (ys, .inr (0, [.ref yat, .ref yab, .ref yar, .ref yal, .ref yah, .int yk, .int yn])), (yat, aJ g 8 yT), (yab, aJ g 8 yB), (yar, aJ g 8 yR), (ds, .inr (0, [.ref dat, .ref dab, .ref dar, .ref dal, .ref dah, .int uds, .int ruds_1]))] → va_S A s.heap H locs → lv_has ls 5 [] → W p l e rm_Sum_becomeProducts s m args below meth c H locs 0 0 Q (F0 m 38 ls [])) → (tg_1 = 1 → ∀ (H : Heap) (locs : List Loc) (ls : Array Slot), va_P D classes [(dat, aJ g 8 rudat_1), (dab, aJ g 8 rudab_1), (dar, aJ g 8 rudar_1), (xs, .inr (0, [.ref xat, .ref xab, .ref xar, .ref xal, .ref xah, .int xk, .int xn])), (xat, aJ g 8 xT), (xab, aJ g 8 xB), (xar, aJ g 8 xR), (ys, .inr (0, [.ref yat, .ref yab, .ref yar, .ref yal, .ref yah, .int yk, .int yn])), (yat, aJ g 8 yT), (yab, aJ g 8 yB), (yar, aJ g 8 yR), (ds, .inr (0, [.ref dat, .ref dab, .ref dar, .ref dal, .ref dah, .int uds, .int ruds_1]))] H → va_D A [(dat, aJ g 8 rudat_1), (dab, aJ g 8 rudab_1), (dar, aJ g 8 rudar_1), (xs, .inr (0, [.ref xat, .ref xab, .ref xar, .ref xal, .ref xah, .int xk, .int xn])), (xat, aJ g 8 xT), (xab, aJ g 8 xB), (xar, aJ g 8 xR), (ys, .inr (0, [.ref yat, .ref yab, .ref yar, .ref yal, .ref yah, .int yk, .int yn])), (yat, aJ g 8 yT), (yab, aJ g 8 yB), (yar, aJ g 8 yR), (ds, .inr (0, [.ref dat, .ref dab, .ref dar, .ref dal, .ref dah, .int uds, .int ruds_1]))] → va_S A s.heap H locs → lv_has ls 5 [(0, .ref ds), (1, .ref xs), (2, .ref ys), (3, .int x3)] → W p l e rm_Sum_becomeProducts s m args below meth c H locs 0 0 Q (F0 m 46 ls [])) → W p l e rm_Sum_becomeProducts s m args below meth c H locs 0 0 Q (F0 m 17 ls []) := by
          intro fu
          induction fu with
          | zero => intro x4 udat_1 udab_1 udar_1 uds_3 tg_1 rudat_1 rudab_1 rudar_1 ruds_1 hm; exact absurd (show (none : Option (Nat × (Nat → Int64) × (Nat → Int64) × (Nat → Int64) × Int32)) = some (tg_1, rudat_1, rudab_1, rudar_1, ruds_1) from hm) (fun h => nomatch h)
          | succ fu ih =>
            intro x4 udat_1 udab_1 udar_1 uds_3 tg_1 rudat_1 rudab_1 rudar_1 ruds_1 hm H locs ls hP hD hS hl kx38 kx46
            rw [mf_Sum_becomeProducts_L17] at hm
            refine lv_iload hx hb d_Sum_becomeProducts_17 (lv_at hl 4 rfl) ?_
            refine lv_aload_n hx hb d_Sum_becomeProducts_19 rfl (lv_at hl 2 rfl) ?_
            refine va_get (D := D) (ci := 0) (v := .int yn) (C := R_Sum) (T := F_Sum) (N := 7) hx hb htt i_Sum hown hK hP 7 rfl rfl 6 (by decide) (htt _ kf_Sum_28) (fun _ h9 => h9) rfl d_Sum_becomeProducts_20 ?_
            refine lv_icmp_ge (tgt := 46) hx hb d_Sum_becomeProducts_23 (by decide) (fun hc => ?_) (fun hc => ?_)
            · have hm := sd_mt hc hm
              cases hm
              exact kx46 rfl H locs ls (hP.sub [0, 1, 2, 3, 4, 5, 6, 7, 8, 9, 10, 11] rfl) (hD.sub [0, 1, 2, 3, 4, 5, 6, 7, 8, 9, 10, 11] (by decide) rfl) hS (lv_sub hl [0, 1, 2, 3] rfl)
            · have hm := sd_mf hc hm
              refine lv_aload_n hx hb d_Sum_becomeProducts_26 rfl (lv_at hl 0 rfl) ?_
              refine lv_aload_n hx hb d_Sum_becomeProducts_27 rfl (lv_at hl 1 rfl) ?_
              refine lv_iload_n hx hb d_Sum_becomeProducts_28 rfl (lv_at hl 3 rfl) ?_
              refine lv_aload_n hx hb d_Sum_becomeProducts_29 rfl (lv_at hl 2 rfl) ?_
              refine lv_iload hx hb d_Sum_becomeProducts_30 (lv_at hl 4 rfl) ?_
              obtain ⟨r, uds_4, udat_2, udab_2, udar_2, hc, hm⟩ := sd_mb5 hm
              refine sd_ci1 (wr := []) (w2 := [(ds, .inr (0, [.ref dat, .ref dab, .ref dar, .ref dal, .ref dah, .int uds, .int uds_4])), (dat, aJ g 8 udat_2), (dab, aJ g 8 udab_2), (dar, aJ g 8 udar_2), (xs, .inr (0, [.ref xat, .ref xab, .ref xar, .ref xal, .ref xah, .int xk, .int xn])), (xat, aJ g 8 xT), (xab, aJ g 8 xB), (xar, aJ g 8 xR), (ys, .inr (0, [.ref yat, .ref yab, .ref yar, .ref yal, .ref yah, .int yk, .int yn])), (yat, aJ g 8 yT), (yab, aJ g 8 yB), (yar, aJ g 8 yR)]) (sd_runV (rest := []) (As := [.ref xs, .int x3, .ref ys, .int x4]) S (ct_Sum_addProduct l D g ds dat dab dar dal dah xs xat xab xar xal xah ys yat yab yar yal yah (H.size) x3 x4 uds uds_3 udat_1 udab_1 udar_1 xk xn xT xB xR yk yn yT yB yR F (r, uds_4, udat_2, udab_2, udar_2) hc) kl_Sum_51 (by decide) (by decide) hK hP hD [11, 0, 1, 2, 3, 4, 5, 6, 7, 8, 9, 10] rfl (by decide) rfl hl d_Sum_becomeProducts_32 rfl (Nat.le_of_ble_eq_true rfl) ⟨Nat.zero_le _, Nat.zero_le _⟩ 11 rfl rfl) hP hD hS hA [11, 0, 1, 2, 3, 4, 5, 6, 7, 8, 9, 10] [] rfl rfl (by decide) (by decide) rfl (fun H locs hP hD hS => ?_)
              refine W.eq (g2 := F0 m 35 ls [.int r]) rfl ?_
              refine lv_if_ne (tgt := 40) hx hb d_Sum_becomeProducts_35 (by decide) (fun hc => ?_) (fun hc => ?_)
              · have hm := sd_mf hc hm
                obtain ⟨x4_1, ex4_1, hm⟩ := sd_mlet hm
                refine lv_iinc (v := x4_1) (lv' := [(4, .int x4_1), (0, .ref ds), (1, .ref xs), (2, .ref ys), (3, .int x3)]) hx hb d_Sum_becomeProducts_40 hl (k := 4) rfl (by rw [ex4_1]; rfl) (by decide) rfl (fun ls hl => ?_)
                refine lv_goto (tgt := 17) hx hb d_Sum_becomeProducts_43 (by decide) ?_
                exact ih x4_1 udat_2 udab_2 udar_2 uds_4 tg_1 rudat_1 rudab_1 rudar_1 ruds_1 hm H locs ls (hP.sub [1, 2, 3, 4, 5, 6, 7, 8, 9, 10, 11, 0] rfl) (hD.sub [1, 2, 3, 4, 5, 6, 7, 8, 9, 10, 11, 0] (by decide) rfl) hS (lv_sub hl [1, 2, 3, 4, 0] rfl) kx38 kx46
              · have hm := sd_mt hc hm
                cases hm
                exact kx38 rfl H locs ls (hP.sub [1, 2, 3, 4, 5, 6, 7, 8, 9, 10, 11, 0] rfl) (hD.sub [1, 2, 3, 4, 5, 6, 7, 8, 9, 10, 11, 0] (by decide) rfl) hS (lv_sub hl [] rfl)
        obtain ⟨tg_1, rudat_1, rudab_1, rudar_1, ruds_1, hc, hm⟩ := sd_mb5 hm
        refine L17 F (0 : Int32) udat udab udar uds_2 tg_1 rudat_1 rudab_1 rudar_1 ruds_1 hc H locs ls (hP.sub [0, 1, 2, 3, 4, 5, 6, 7, 8, 9, 10, 11] rfl) (hD.sub [0, 1, 2, 3, 4, 5, 6, 7, 8, 9, 10, 11] (by decide) rfl) hS (lv_sub hl [1, 2, 3, 4, 0] rfl) ?_ ?_
        · intro ht H locs ls hP hD hS hl
          have hm := sd_mt ht hm
          cases hm
          exact kx38 rfl H locs ls (hP.sub [0, 1, 2, 3, 4, 5, 6, 7, 8, 9, 10, 11] rfl) (hD.sub [0, 1, 2, 3, 4, 5, 6, 7, 8, 9, 10, 11] (by decide) rfl) hS (lv_sub hl [] rfl)
        · intro ht H locs ls hP hD hS hl
          have hm := sd_mf (by rw [ht]; decide) hm
          obtain ⟨x3_1, ex3_1, hm⟩ := sd_mlet hm
          refine lv_iinc (v := x3_1) (lv' := [(3, .int x3_1), (0, .ref ds), (1, .ref xs), (2, .ref ys)]) hx hb d_Sum_becomeProducts_46 hl (k := 3) rfl (by rw [ex3_1]; rfl) (by decide) rfl (fun ls hl => ?_)
          refine lv_goto (tgt := 6) hx hb d_Sum_becomeProducts_49 (by decide) ?_
          exact ih x3_1 rudat_1 rudab_1 rudar_1 ruds_1 tg rudat rudab rudar ruds hm H locs ls (hP.sub [0, 1, 2, 3, 4, 5, 6, 7, 8, 9, 10, 11] rfl) (hD.sub [0, 1, 2, 3, 4, 5, 6, 7, 8, 9, 10, 11] (by decide) rfl) hS (lv_sub hl [1, 2, 3, 0] rfl) kx38 kx52
  obtain ⟨tg, rudat, rudab, rudar, ruds, hc, hm⟩ := sd_mb5 hm
  refine L6 F (0 : Int32) dT dB dR uds_1 tg rudat rudab rudar ruds hc H locs ls (hP.sub [0, 1, 2, 3, 4, 5, 6, 7, 8, 9, 10, 11] rfl) (hD.sub [0, 1, 2, 3, 4, 5, 6, 7, 8, 9, 10, 11] (by decide) rfl) hS (lv_sub hl [1, 2, 3, 0] rfl) ?_ ?_
  · intro ht H locs ls hP hD hS hl
    have hm := sd_mt ht hm
    refine lv_iconst (v := (0 : Int32)) hx hb d_Sum_becomeProducts_38 (by decide) ?_
    exact sd_z1ret (u := (uds, ruds, rudat, rudab, rudar)) hQ hx hb hr hlk rfl hK (hP.sub [11, 0, 1, 2, 3, 4, 5, 6, 7, 8, 9, 10] rfl) (hD.sub [11, 0, 1, 2, 3, 4, 5, 6, 7, 8, 9, 10] (by decide) rfl) hS (Option.some.inj hm).symm d_Sum_becomeProducts_39
  · intro ht H locs ls hP hD hS hl
    have hm := sd_mf (by rw [ht]; decide) hm
    refine lv_iconst (v := (1 : Int32)) hx hb d_Sum_becomeProducts_52 (by decide) ?_
    exact sd_z1ret (u := (uds, ruds, rudat, rudab, rudar)) hQ hx hb hr hlk rfl hK (hP.sub [11, 0, 1, 2, 3, 4, 5, 6, 7, 8, 9, 10] rfl) (hD.sub [11, 0, 1, 2, 3, 4, 5, 6, 7, 8, 9, 10] (by decide) rfl) hS (Option.some.inj hm).symm d_Sum_becomeProducts_53
abbrev rm_Sum_becomeProducts2 : Room := { frames := 5, cells := 0, slots := 0, locals := 208 }
set_option maxHeartbeats 4000000 in
set_option maxRecDepth 100000 in
theorem ct_Sum_becomeProducts2 (l : Launch) (D : va_G) (g : G4) (ds : Nat) (dat : Nat) (dab : Nat) (dar : Nat) (dal : Nat) (dah : Nat) (xs : Nat) (xat : Nat) (xab : Nat) (xar : Nat) (xal : Nat) (xah : Nat) (sz : Nat) (dk : Int32) (dn : Int32) (dT : Nat → Int64) (dB : Nat → Int64) (dR : Nat → Int64) (xk : Int32) (xn : Int32) (xT : Nat → Int64) (xB : Nat → Int64) (xR : Nat → Int64) (F : Nat) (res : Int32 × Int32 × Int32 × (Nat → Int64) × (Nat → Int64) × (Nat → Int64)) (hm : mf_Sum_becomeProducts F dk dn dT dB dR xk xn xT xB xR xk xn xT xB xR = some res) : Met l y_Sum_becomeProducts (.code y_Sum_becomeProducts b_Sum_becomeProducts 5 (some .boolean) :: sd_tb) rm_Sum_becomeProducts2 (sd_PW D g [.ref ds, .ref xs, .ref xs] sz [(ds, .inr (0, [.ref dat, .ref dab, .ref dar, .ref dal, .ref dah, .int dk, .int dn])), (dat, aJ g 8 dT), (dab, aJ g 8 dB), (dar, aJ g 8 dR), (xs, .inr (0, [.ref xat, .ref xab, .ref xar, .ref xal, .ref xah, .int xk, .int xn])), (xat, aJ g 8 xT), (xab, aJ g 8 xB), (xar, aJ g 8 xR)]) (sd_Qi1 D g res (fun u : Int32 × Int32 × (Nat → Int64) × (Nat → Int64) × (Nat → Int64) => [(ds, .inr (0, [.ref dat, .ref dab, .ref dar, .ref dal, .ref dah, .int (u.1), .int (u.2.1)])), (dat, aJ g 8 (u.2.2.1)), (dab, aJ g 8 (u.2.2.2.1)), (dar, aJ g 8 (u.2.2.2.2)), (xs, .inr (0, [.ref xat, .ref xab, .ref xar, .ref xal, .ref xah, .int xk, .int xn])), (xat, aJ g 8 xT), (xab, aJ g 8 xB), (xar, aJ g 8 xR)]) (va_A [(ds, .inr (0, [.ref dat, .ref dab, .ref dar, .ref dal, .ref dah, .int dk, .int dn])), (dat, aJ g 8 dT), (dab, aJ g 8 dB), (dar, aJ g 8 dR), (xs, .inr (0, [.ref xat, .ref xab, .ref xar, .ref xal, .ref xah, .int xk, .int xn])), (xat, aJ g 8 xT), (xab, aJ g 8 xB), (xar, aJ g 8 xR)] sz)) 0 0 (va_A [(ds, .inr (0, [.ref dat, .ref dab, .ref dar, .ref dal, .ref dah, .int dk, .int dn])), (dat, aJ g 8 dT), (dab, aJ g 8 dB), (dar, aJ g 8 dR), (xs, .inr (0, [.ref xat, .ref xab, .ref xar, .ref xal, .ref xah, .int xk, .int xn])), (xat, aJ g 8 xT), (xab, aJ g 8 xB), (xar, aJ g 8 xR)] sz) := by
  refine sd_met (Qf := fun A => sd_Qi1 D g res (fun u : Int32 × Int32 × (Nat → Int64) × (Nat → Int64) × (Nat → Int64) => [(ds, .inr (0, [.ref dat, .ref dab, .ref dar, .ref dal, .ref dah, .int (u.1), .int (u.2.1)])), (dat, aJ g 8 (u.2.2.1)), (dab, aJ g 8 (u.2.2.2.1)), (dar, aJ g 8 (u.2.2.2.2)), (xs, .inr (0, [.ref xat, .ref xab, .ref xar, .ref xal, .ref xah, .int xk, .int xn])), (xat, aJ g 8 xT), (xab, aJ g 8 xB), (xar, aJ g 8 xR)]) A) (own := R_Sum) (by decide +kernel) rfl (Nat.le_of_ble_eq_true rfl) ?_
  intro p e s m args below meth c S hr hlk hK A hA Q hQ H locs hP hD hS ls hl
  have hx := S.1
  have hb := S.2.1
  have hml := S.2.2.1
  have hown := S.2.2.2.1
  have htt := sd_tt S
  replace hl : lv_has ls 5 [(0, .ref ds), (1, .ref xs), (2, .ref xs)] := hl
  unfold mf_Sum_becomeProducts at hm
  refine lv_aload_n hx hb d_Sum_becomeProducts_0 rfl (lv_at hl 0 rfl) ?_
  obtain ⟨uds, uds_1, hc, hm⟩ := sd_mb2 hm
  refine sd_cv1 (wr := [(dat, aJ g 8 dT), (dab, aJ g 8 dB), (dar, aJ g 8 dR), (xs, .inr (0, [.ref xat, .ref xab, .ref xar, .ref xal, .ref xah, .int xk, .int xn])), (xat, aJ g 8 xT), (xab, aJ g 8 xB), (xar, aJ g 8 xR)]) (w2 := [(dat, aJ g 8 dT), (dab, aJ g 8 dB), (dar, aJ g 8 dR), (xs, .inr (0, [.ref xat, .ref xab, .ref xar, .ref xal, .ref xah, .int xk, .int xn])), (xat, aJ g 8 xT), (xab, aJ g 8 xB), (xar, aJ g 8 xR), (ds, .inr (0, [.ref dat, .ref dab, .ref dar, .ref dal, .ref dah, .int uds, .int uds_1]))]) (sd_runV (rest := []) (As := []) S (ct_Sum_clear l D g ds dat dab dar dal dah (H.size) dk dn F (uds, uds_1) hc) kl_Sum_40 (by decide) (by decide) hK hP hD [0] rfl (by decide) rfl hl d_Sum_becomeProducts_1 rfl (Nat.le_of_ble_eq_true rfl) ⟨Nat.zero_le _, Nat.zero_le _⟩ 0 rfl rfl) hP hD hS hA [0] [1, 2, 3, 4, 5, 6, 7] rfl rfl (by decide) (by decide) rfl (fun H locs hP hD hS => ?_)
  refine lv_iconst (v := (0 : Int32)) hx hb d_Sum_becomeProducts_4 (by decide) ?_
  refine lv_istore_n (lv' := [(3, .int (0 : Int32)), (0, .ref ds), (1, .ref xs), (2, .ref xs)]) hx hb d_Sum_becomeProducts_5 rfl hl (by decide) rfl (fun ls hl => ?_)
  have L6 : ∀ (fu : Nat) (x3 : Int32) (udat : Nat → Int64) (udab : Nat → Int64) (udar : Nat → Int64) (uds_2 : Int32) (tg : Nat) (rudat : Nat → Int64) (rudab : Nat → Int64) (rudar : Nat → Int64) (ruds : Int32), mf_Sum_becomeProducts_L6 xn xn F uds xk xT xB xR xk xT xB xR fu x3 udat udab udar uds_2 = some (tg, rudat, rudab, rudar, ruds) → ∀ (H : Heap) (locs : List Loc) (ls : Array Slot), va_P D classes [(dat, aJ g 8 udat), (dab, aJ g 8 udab), (dar, aJ g 8 udar), (xs, .inr (0, [.ref xat, .ref xab, .ref xar, .ref xal, .ref xah, .int xk, .int xn])), (xat, aJ g 8 xT), (xab, aJ g 8 xB), (xar, aJ g 8 xR), (ds, .inr (0, [.ref dat, .ref dab, .ref dar, .ref dal, .ref dah, .int uds, .int uds_2]))] H → va_D A [(dat, aJ g 8 udat), (dab, aJ g 8 udab), (dar, aJ g 8 udar), (xs, .inr (0, [.ref xat, .ref xab, .ref xar, .ref xal, .ref xah, .int xk, .int xn])), (xat, aJ g 8 xT), (xab, aJ g 8 xB), (xar, aJ g 8 xR), (ds, .inr (0, [.ref dat, .ref dab, .ref dar, .ref dal, .ref dah, .int uds, .int uds_2]))] → va_S A s.heap H locs → lv_has ls 5 [(0, .ref ds), (1, .ref xs), (2, .ref xs), (3, .int x3)] → (tg = 0 → ∀ (H : Heap) (locs : List Loc) (ls : Array Slot), va_P D classes [(dat, aJ g 8 rudat), (dab, aJ g 8 rudab), (dar, aJ g 8 rudar), (xs, .inr (0, [.ref xat, .ref xab, .ref xar, .ref xal, .ref xah, .int xk, .int xn])), (xat, aJ g 8 xT), (xab, aJ g 8 xB), (xar, aJ g 8 xR), (ds, .inr (0, [.ref dat, .ref dab, .ref dar, .ref dal, .ref dah, .int uds, .int ruds]))] H → va_D A [(dat, aJ g 8 rudat), (dab, aJ g 8 rudab), (dar, aJ g 8 rudar), (xs, .inr (0, [.ref xat, .ref xab, .ref xar, .ref xal, .ref xah, .int xk, .int xn])), (xat, aJ g 8 xT), (xab, aJ g 8 xB), (xar, aJ g 8 xR), (ds, .inr (0, [.ref dat, .ref dab, .ref dar, .ref dal, .ref dah, .int uds, .int ruds]))] → va_S A s.heap H locs → lv_has ls 5 [] → W p l e rm_Sum_becomeProducts2 s m args below meth c H locs 0 0 Q (F0 m 38 ls [])) → (tg = 1 → ∀ (H : Heap) (locs : List Loc) (ls : Array Slot), va_P D classes [(dat, aJ g 8 rudat), (dab, aJ g 8 rudab), (dar, aJ g 8 rudar), (xs, .inr (0, [.ref xat, .ref xab, .ref xar, .ref xal, .ref xah, .int xk, .int xn])), (xat, aJ g 8 xT), (xab, aJ g 8 xB), (xar, aJ g 8 xR), (ds, .inr (0, [.ref dat, .ref dab, .ref dar, .ref dal, .ref dah, .int uds, .int ruds]))] H → va_D A [(dat, aJ g 8 rudat), (dab, aJ g 8 rudab), (dar, aJ g 8 rudar), (xs, .inr (0, [.ref xat, .ref xab, .ref xar, .ref xal, .ref xah, .int xk, .int xn])), (xat, aJ g 8 xT), (xab, aJ g 8 xB), (xar, aJ g 8 xR), (ds, .inr (0, [.ref dat, .ref dab, .ref dar, .ref dal, .ref dah, .int uds, .int ruds]))] → va_S A s.heap H locs → lv_has ls 5 [] → W p l e rm_Sum_becomeProducts2 s m args below meth c H locs 0 0 Q (F0 m 52 ls [])) → W p l e rm_Sum_becomeProducts2 s m args below meth c H locs 0 0 Q (F0 m 6 ls []) := by
    intro fu
    induction fu with
    | zero => intro x3 udat udab udar uds_2 tg rudat rudab rudar ruds hm; exact absurd (show (none : Option (Nat × (Nat → Int64) × (Nat → Int64) × (Nat → Int64) × Int32)) = some (tg, rudat, rudab, rudar, ruds) from hm) (fun h => nomatch h)
    | succ fu ih =>
      intro x3 udat udab udar uds_2 tg rudat rudab rudar ruds hm H locs ls hP hD hS hl kx38 kx52
      rw [mf_Sum_becomeProducts_L6] at hm
      refine lv_iload_n hx hb d_Sum_becomeProducts_6 rfl (lv_at hl 3 rfl) ?_
      refine lv_aload_n hx hb d_Sum_becomeProducts_7 rfl (lv_at hl 1 rfl) ?_
      refine va_get (D := D) (ci := 0) (v := .int xn) (C := R_Sum) (T := F_Sum) (N := 7) hx hb htt i_Sum hown hK hP 3 rfl rfl 6 (by decide) (htt _ kf_Sum_28) (fun _ h9 => h9) rfl d_Sum_becomeProducts_8 ?_
      refine lv_icmp_ge (tgt := 52) hx hb d_Sum_becomeProducts_11 (by decide) (fun hc => ?_) (fun hc => ?_)
      · have hm := sd_mt hc hm
        cases hm
        exact kx52 rfl H locs ls (hP.sub [0, 1, 2, 3, 4, 5, 6, 7] rfl) (hD.sub [0, 1, 2, 3, 4, 5, 6, 7] (by decide) rfl) hS (lv_sub hl [] rfl)
      · have hm := sd_mf hc hm
        refine lv_iconst (v := (0 : Int32)) hx hb d_Sum_becomeProducts_14 (by decide) ?_
        refine lv_istore (lv' := [(4, .int (0 : Int32)), (0, .ref ds), (1, .ref xs), (2, .ref xs), (3, .int x3)]) hx hb d_Sum_becomeProducts_15 hl (by decide) rfl (fun ls hl => ?_)
        have L17 : ∀ (fu : Nat) (x4 : Int32) (udat_1 : Nat → Int64) (udab_1 : Nat → Int64) (udar_1 : Nat → Int64) (uds_3 : Int32) (tg_1 : Nat) (rudat_1 : Nat → Int64) (rudab_1 : Nat → Int64) (rudar_1 : Nat → Int64) (ruds_1 : Int32), mf_Sum_becomeProducts_L17 xn F x3 uds xk xn xT xB xR xk xT xB xR fu x4 udat_1 udab_1 udar_1 uds_3 = some (tg_1, rudat_1, rudab_1, rudar_1, ruds_1) → ∀ (H : Heap) (locs : List Loc) (ls : Array Slot), va_P D classes [(dat, aJ g 8 udat_1), (dab, aJ g 8 udab_1), (dar, aJ g 8 udar_1), (xs, .inr (0, [.ref xat, .ref xab, .ref xar, .ref xal, .ref xah, .int xk, .int xn])), (xat, aJ g 8 xT), (xab, aJ g 8 xB), (xar, aJ g 8 xR), (ds, .inr (0, [.ref dat, .ref dab, .ref dar, .ref dal, .ref dah, .int uds, .int uds_3]))] H → va_D A [(dat, aJ g 8 udat_1), (dab, aJ g 8 udab_1), (dar, aJ g 8 udar_1), (xs, .inr (0, [.ref xat, .ref xab, .ref xar, .ref xal, .ref xah, .int xk, .int xn])), (xat, aJ g 8 xT), (xab, aJ g 8 xB), (xar, aJ g 8 xR), (ds, .inr (0, [.ref dat, .ref dab, .ref dar, .ref dal, .ref dah, .int uds, .int uds_3]))] → va_S A s.heap H locs → lv_has ls 5 [(0, .ref ds), (1, .ref xs), (2, .ref xs), (3, .int x3), (4, .int x4)] → (tg_1 = 0 → ∀ (H : Heap) (locs : List Loc) (ls : Array Slot), va_P D classes [(dat, aJ g 8 rudat_1), (dab, aJ g 8 rudab_1), (dar, aJ g 8 rudar_1), (xs, .inr (0, [.ref xat, .ref xab, .ref xar, .ref xal, .ref xah, .int xk, .int xn])), (xat, aJ g 8 xT), (xab, aJ g 8 xB), (xar, aJ g 8 xR), (ds, .inr (0, [.ref dat, .ref dab, .ref dar, .ref dal, .ref dah, .int uds, .int ruds_1]))] H → va_D A [(dat, aJ g 8 rudat_1), (dab, aJ g 8 rudab_1), (dar, aJ g 8 rudar_1), (xs, .inr (0, [.ref xat, .ref xab, .ref xar, .ref xal, .ref xah, .int xk, .int xn])), (xat, aJ g 8 xT), (xab, aJ g 8 xB), (xar, aJ g 8 xR), (ds, .inr (0, [.ref dat, .ref dab, .ref dar, .ref dal, .ref dah, .int uds, .int ruds_1]))] → va_S A s.heap H locs → lv_has ls 5 [] → W p l e rm_Sum_becomeProducts2 s m args below meth c H locs 0 0 Q (F0 m 38 ls [])) → (tg_1 = 1 → ∀ (H : Heap) (locs : List Loc) (ls : Array Slot), va_P D classes [(dat, aJ g 8 rudat_1), (dab, aJ g 8 rudab_1), (dar, aJ g 8 rudar_1), (xs, .inr (0, [.ref xat, .ref xab, .ref xar, .ref xal, .ref xah, .int xk, .int xn])), (xat, aJ g 8 xT), (xab, aJ g 8 xB), (xar, aJ g 8 xR), (ds, .inr (0, [.ref dat, .ref dab, .ref dar, .ref dal, .ref dah, .int uds, .int ruds_1]))] H → va_D A [(dat, aJ g 8 rudat_1), (dab, aJ g 8 rudab_1), (dar, aJ g 8 rudar_1), (xs, .inr (0, [.ref xat, .ref xab, .ref xar, .ref xal, .ref xah, .int xk, .int xn])), (xat, aJ g 8 xT), (xab, aJ g 8 xB), (xar, aJ g 8 xR), (ds, .inr (0, [.ref dat, .ref dab, .ref dar, .ref dal, .ref dah, .int uds, .int ruds_1]))] → va_S A s.heap H locs → lv_has ls 5 [(0, .ref ds), (1, .ref xs), (2, .ref xs), (3, .int x3)] → W p l e rm_Sum_becomeProducts2 s m args below meth c H locs 0 0 Q (F0 m 46 ls [])) → W p l e rm_Sum_becomeProducts2 s m args below meth c H locs 0 0 Q (F0 m 17 ls []) := by
          intro fu
          induction fu with
          | zero => intro x4 udat_1 udab_1 udar_1 uds_3 tg_1 rudat_1 rudab_1 rudar_1 ruds_1 hm; exact absurd (show (none : Option (Nat × (Nat → Int64) × (Nat → Int64) × (Nat → Int64) × Int32)) = some (tg_1, rudat_1, rudab_1, rudar_1, ruds_1) from hm) (fun h => nomatch h)
          | succ fu ih =>
            intro x4 udat_1 udab_1 udar_1 uds_3 tg_1 rudat_1 rudab_1 rudar_1 ruds_1 hm H locs ls hP hD hS hl kx38 kx46
            rw [mf_Sum_becomeProducts_L17] at hm
            refine lv_iload hx hb d_Sum_becomeProducts_17 (lv_at hl 4 rfl) ?_
            refine lv_aload_n hx hb d_Sum_becomeProducts_19 rfl (lv_at hl 2 rfl) ?_
            refine va_get (D := D) (ci := 0) (v := .int xn) (C := R_Sum) (T := F_Sum) (N := 7) hx hb htt i_Sum hown hK hP 3 rfl rfl 6 (by decide) (htt _ kf_Sum_28) (fun _ h9 => h9) rfl d_Sum_becomeProducts_20 ?_
            refine lv_icmp_ge (tgt := 46) hx hb d_Sum_becomeProducts_23 (by decide) (fun hc => ?_) (fun hc => ?_)
            · have hm := sd_mt hc hm
              cases hm
              exact kx46 rfl H locs ls (hP.sub [0, 1, 2, 3, 4, 5, 6, 7] rfl) (hD.sub [0, 1, 2, 3, 4, 5, 6, 7] (by decide) rfl) hS (lv_sub hl [0, 1, 2, 3] rfl)
            · have hm := sd_mf hc hm
              refine lv_aload_n hx hb d_Sum_becomeProducts_26 rfl (lv_at hl 0 rfl) ?_
              refine lv_aload_n hx hb d_Sum_becomeProducts_27 rfl (lv_at hl 1 rfl) ?_
              refine lv_iload_n hx hb d_Sum_becomeProducts_28 rfl (lv_at hl 3 rfl) ?_
              refine lv_aload_n hx hb d_Sum_becomeProducts_29 rfl (lv_at hl 2 rfl) ?_
              refine lv_iload hx hb d_Sum_becomeProducts_30 (lv_at hl 4 rfl) ?_
              obtain ⟨r, uds_4, udat_2, udab_2, udar_2, hc, hm⟩ := sd_mb5 hm
              refine sd_ci1 (wr := []) (w2 := [(ds, .inr (0, [.ref dat, .ref dab, .ref dar, .ref dal, .ref dah, .int uds, .int uds_4])), (dat, aJ g 8 udat_2), (dab, aJ g 8 udab_2), (dar, aJ g 8 udar_2), (xs, .inr (0, [.ref xat, .ref xab, .ref xar, .ref xal, .ref xah, .int xk, .int xn])), (xat, aJ g 8 xT), (xab, aJ g 8 xB), (xar, aJ g 8 xR)]) (sd_runV (rest := []) (As := [.ref xs, .int x3, .ref xs, .int x4]) S (ct_Sum_addProduct2 l D g ds dat dab dar dal dah xs xat xab xar xal xah (H.size) x3 x4 uds uds_3 udat_1 udab_1 udar_1 xk xn xT xB xR F (r, uds_4, udat_2, udab_2, udar_2) hc) kl_Sum_51 (by decide) (by decide) hK hP hD [7, 0, 1, 2, 3, 4, 5, 6] rfl (by decide) rfl hl d_Sum_becomeProducts_32 rfl (Nat.le_of_ble_eq_true rfl) ⟨Nat.zero_le _, Nat.zero_le _⟩ 7 rfl rfl) hP hD hS hA [7, 0, 1, 2, 3, 4, 5, 6] [] rfl rfl (by decide) (by decide) rfl (fun H locs hP hD hS => ?_)
              refine W.eq (g2 := F0 m 35 ls [.int r]) rfl ?_
              refine lv_if_ne (tgt := 40) hx hb d_Sum_becomeProducts_35 (by decide) (fun hc => ?_) (fun hc => ?_)
              · have hm := sd_mf hc hm
                obtain ⟨x4_1, ex4_1, hm⟩ := sd_mlet hm
                refine lv_iinc (v := x4_1) (lv' := [(4, .int x4_1), (0, .ref ds), (1, .ref xs), (2, .ref xs), (3, .int x3)]) hx hb d_Sum_becomeProducts_40 hl (k := 4) rfl (by rw [ex4_1]; rfl) (by decide) rfl (fun ls hl => ?_)
                refine lv_goto (tgt := 17) hx hb d_Sum_becomeProducts_43 (by decide) ?_
                exact ih x4_1 udat_2 udab_2 udar_2 uds_4 tg_1 rudat_1 rudab_1 rudar_1 ruds_1 hm H locs ls (hP.sub [1, 2, 3, 4, 5, 6, 7, 0] rfl) (hD.sub [1, 2, 3, 4, 5, 6, 7, 0] (by decide) rfl) hS (lv_sub hl [1, 2, 3, 4, 0] rfl) kx38 kx46
              · have hm := sd_mt hc hm
                cases hm
                exact kx38 rfl H locs ls (hP.sub [1, 2, 3, 4, 5, 6, 7, 0] rfl) (hD.sub [1, 2, 3, 4, 5, 6, 7, 0] (by decide) rfl) hS (lv_sub hl [] rfl)
        obtain ⟨tg_1, rudat_1, rudab_1, rudar_1, ruds_1, hc, hm⟩ := sd_mb5 hm
        refine L17 F (0 : Int32) udat udab udar uds_2 tg_1 rudat_1 rudab_1 rudar_1 ruds_1 hc H locs ls (hP.sub [0, 1, 2, 3, 4, 5, 6, 7] rfl) (hD.sub [0, 1, 2, 3, 4, 5, 6, 7] (by decide) rfl) hS (lv_sub hl [1, 2, 3, 4, 0] rfl) ?_ ?_
        · intro ht H locs ls hP hD hS hl
          have hm := sd_mt ht hm
          cases hm
          exact kx38 rfl H locs ls (hP.sub [0, 1, 2, 3, 4, 5, 6, 7] rfl) (hD.sub [0, 1, 2, 3, 4, 5, 6, 7] (by decide) rfl) hS (lv_sub hl [] rfl)
        · intro ht H locs ls hP hD hS hl
          have hm := sd_mf (by rw [ht]; decide) hm
          obtain ⟨x3_1, ex3_1, hm⟩ := sd_mlet hm
          refine lv_iinc (v := x3_1) (lv' := [(3, .int x3_1), (0, .ref ds), (1, .ref xs), (2, .ref xs)]) hx hb d_Sum_becomeProducts_46 hl (k := 3) rfl (by rw [ex3_1]; rfl) (by decide) rfl (fun ls hl => ?_)
          refine lv_goto (tgt := 6) hx hb d_Sum_becomeProducts_49 (by decide) ?_
          exact ih x3_1 rudat_1 rudab_1 rudar_1 ruds_1 tg rudat rudab rudar ruds hm H locs ls (hP.sub [0, 1, 2, 3, 4, 5, 6, 7] rfl) (hD.sub [0, 1, 2, 3, 4, 5, 6, 7] (by decide) rfl) hS (lv_sub hl [1, 2, 3, 0] rfl) kx38 kx52
  obtain ⟨tg, rudat, rudab, rudar, ruds, hc, hm⟩ := sd_mb5 hm
  refine L6 F (0 : Int32) dT dB dR uds_1 tg rudat rudab rudar ruds hc H locs ls (hP.sub [0, 1, 2, 3, 4, 5, 6, 7] rfl) (hD.sub [0, 1, 2, 3, 4, 5, 6, 7] (by decide) rfl) hS (lv_sub hl [1, 2, 3, 0] rfl) ?_ ?_
  · intro ht H locs ls hP hD hS hl
    have hm := sd_mt ht hm
    refine lv_iconst (v := (0 : Int32)) hx hb d_Sum_becomeProducts_38 (by decide) ?_
    exact sd_z1ret (u := (uds, ruds, rudat, rudab, rudar)) hQ hx hb hr hlk rfl hK (hP.sub [7, 0, 1, 2, 3, 4, 5, 6] rfl) (hD.sub [7, 0, 1, 2, 3, 4, 5, 6] (by decide) rfl) hS (Option.some.inj hm).symm d_Sum_becomeProducts_39
  · intro ht H locs ls hP hD hS hl
    have hm := sd_mf (by rw [ht]; decide) hm
    refine lv_iconst (v := (1 : Int32)) hx hb d_Sum_becomeProducts_52 (by decide) ?_
    exact sd_z1ret (u := (uds, ruds, rudat, rudab, rudar)) hQ hx hb hr hlk rfl hK (hP.sub [7, 0, 1, 2, 3, 4, 5, 6] rfl) (hD.sub [7, 0, 1, 2, 3, 4, 5, 6] (by decide) rfl) hS (Option.some.inj hm).symm d_Sum_becomeProducts_53
theorem d_Sum_becomeSum_0 : decode b_Sum_becomeSum 0 = .ok (.aload_n 0, 1) := by decide +kernel
theorem d_Sum_becomeSum_1 : decode b_Sum_becomeSum 1 = .ok (.invokevirtual 40, 3) := by decide +kernel
theorem d_Sum_becomeSum_4 : decode b_Sum_becomeSum 4 = .ok (.iconst 0, 1) := by decide +kernel
theorem d_Sum_becomeSum_5 : decode b_Sum_becomeSum 5 = .ok (.istore 4, 2) := by decide +kernel
theorem d_Sum_becomeSum_7 : decode b_Sum_becomeSum 7 = .ok (.iload 4, 2) := by decide +kernel
theorem d_Sum_becomeSum_9 : decode b_Sum_becomeSum 9 = .ok (.aload_n 1, 1) := by decide +kernel
theorem d_Sum_becomeSum_10 : decode b_Sum_becomeSum 10 = .ok (.getfield 28, 3) := by decide +kernel
theorem d_Sum_becomeSum_13 : decode b_Sum_becomeSum 13 = .ok (.if_icmp .ge 36, 3) := by decide +kernel
theorem d_Sum_becomeSum_16 : decode b_Sum_becomeSum 16 = .ok (.aload_n 0, 1) := by decide +kernel
theorem d_Sum_becomeSum_17 : decode b_Sum_becomeSum 17 = .ok (.iload 4, 2) := by decide +kernel
theorem d_Sum_becomeSum_19 : decode b_Sum_becomeSum 19 = .ok (.aload_n 1, 1) := by decide +kernel
theorem d_Sum_becomeSum_20 : decode b_Sum_becomeSum 20 = .ok (.getfield 9, 3) := by decide +kernel
theorem d_Sum_becomeSum_23 : decode b_Sum_becomeSum 23 = .ok (.iload 4, 2) := by decide +kernel
theorem d_Sum_becomeSum_25 : decode b_Sum_becomeSum 25 = .ok (.laload, 1) := by decide +kernel
theorem d_Sum_becomeSum_26 : decode b_Sum_becomeSum 26 = .ok (.aload_n 1, 1) := by decide +kernel
theorem d_Sum_becomeSum_27 : decode b_Sum_becomeSum 27 = .ok (.getfield 13, 3) := by decide +kernel
theorem d_Sum_becomeSum_30 : decode b_Sum_becomeSum 30 = .ok (.iload 4, 2) := by decide +kernel
theorem d_Sum_becomeSum_32 : decode b_Sum_becomeSum 32 = .ok (.laload, 1) := by decide +kernel
theorem d_Sum_becomeSum_33 : decode b_Sum_becomeSum 33 = .ok (.aload_n 1, 1) := by decide +kernel
theorem d_Sum_becomeSum_34 : decode b_Sum_becomeSum 34 = .ok (.getfield 16, 3) := by decide +kernel
theorem d_Sum_becomeSum_37 : decode b_Sum_becomeSum 37 = .ok (.iload 4, 2) := by decide +kernel
theorem d_Sum_becomeSum_39 : decode b_Sum_becomeSum 39 = .ok (.laload, 1) := by decide +kernel
theorem d_Sum_becomeSum_40 : decode b_Sum_becomeSum 40 = .ok (.invokevirtual 43, 3) := by decide +kernel
theorem d_Sum_becomeSum_43 : decode b_Sum_becomeSum 43 = .ok (.iinc 4 1, 3) := by decide +kernel
theorem d_Sum_becomeSum_46 : decode b_Sum_becomeSum 46 = .ok (.goto (-39), 3) := by decide +kernel
theorem d_Sum_becomeSum_49 : decode b_Sum_becomeSum 49 = .ok (.aload_n 0, 1) := by decide +kernel
theorem d_Sum_becomeSum_50 : decode b_Sum_becomeSum 50 = .ok (.aload_n 1, 1) := by decide +kernel
theorem d_Sum_becomeSum_51 : decode b_Sum_becomeSum 51 = .ok (.getfield 28, 3) := by decide +kernel
theorem d_Sum_becomeSum_54 : decode b_Sum_becomeSum 54 = .ok (.putfield 28, 3) := by decide +kernel
theorem d_Sum_becomeSum_57 : decode b_Sum_becomeSum 57 = .ok (.iconst 0, 1) := by decide +kernel
theorem d_Sum_becomeSum_58 : decode b_Sum_becomeSum 58 = .ok (.istore 4, 2) := by decide +kernel
theorem d_Sum_becomeSum_60 : decode b_Sum_becomeSum 60 = .ok (.iload 4, 2) := by decide +kernel
theorem d_Sum_becomeSum_62 : decode b_Sum_becomeSum 62 = .ok (.aload_n 2, 1) := by decide +kernel
theorem d_Sum_becomeSum_63 : decode b_Sum_becomeSum 63 = .ok (.getfield 28, 3) := by decide +kernel
theorem d_Sum_becomeSum_66 : decode b_Sum_becomeSum 66 = .ok (.if_icmp .ge 42, 3) := by decide +kernel
theorem d_Sum_becomeSum_69 : decode b_Sum_becomeSum 69 = .ok (.aload_n 0, 1) := by decide +kernel
theorem d_Sum_becomeSum_70 : decode b_Sum_becomeSum 70 = .ok (.iload_n 3, 1) := by decide +kernel
theorem d_Sum_becomeSum_71 : decode b_Sum_becomeSum 71 = .ok (.i2l, 1) := by decide +kernel
theorem d_Sum_becomeSum_72 : decode b_Sum_becomeSum 72 = .ok (.aload_n 2, 1) := by decide +kernel
theorem d_Sum_becomeSum_73 : decode b_Sum_becomeSum 73 = .ok (.getfield 9, 3) := by decide +kernel
theorem d_Sum_becomeSum_76 : decode b_Sum_becomeSum 76 = .ok (.iload 4, 2) := by decide +kernel
theorem d_Sum_becomeSum_78 : decode b_Sum_becomeSum 78 = .ok (.laload, 1) := by decide +kernel
theorem d_Sum_becomeSum_79 : decode b_Sum_becomeSum 79 = .ok (.lmul, 1) := by decide +kernel
theorem d_Sum_becomeSum_80 : decode b_Sum_becomeSum 80 = .ok (.aload_n 2, 1) := by decide +kernel
theorem d_Sum_becomeSum_81 : decode b_Sum_becomeSum 81 = .ok (.getfield 13, 3) := by decide +kernel
theorem d_Sum_becomeSum_84 : decode b_Sum_becomeSum 84 = .ok (.iload 4, 2) := by decide +kernel
theorem d_Sum_becomeSum_86 : decode b_Sum_becomeSum 86 = .ok (.laload, 1) := by decide +kernel
theorem d_Sum_becomeSum_87 : decode b_Sum_becomeSum 87 = .ok (.aload_n 2, 1) := by decide +kernel
theorem d_Sum_becomeSum_88 : decode b_Sum_becomeSum 88 = .ok (.getfield 16, 3) := by decide +kernel
theorem d_Sum_becomeSum_91 : decode b_Sum_becomeSum 91 = .ok (.iload 4, 2) := by decide +kernel
theorem d_Sum_becomeSum_93 : decode b_Sum_becomeSum 93 = .ok (.laload, 1) := by decide +kernel
theorem d_Sum_becomeSum_94 : decode b_Sum_becomeSum 94 = .ok (.invokevirtual 47, 3) := by decide +kernel
theorem d_Sum_becomeSum_97 : decode b_Sum_becomeSum 97 = .ok (.ifCond .ne 5, 3) := by decide +kernel
theorem d_Sum_becomeSum_100 : decode b_Sum_becomeSum 100 = .ok (.iconst 0, 1) := by decide +kernel
theorem d_Sum_becomeSum_101 : decode b_Sum_becomeSum 101 = .ok (.ireturn, 1) := by decide +kernel
theorem d_Sum_becomeSum_102 : decode b_Sum_becomeSum 102 = .ok (.iinc 4 1, 3) := by decide +kernel
theorem d_Sum_becomeSum_105 : decode b_Sum_becomeSum 105 = .ok (.goto (-45), 3) := by decide +kernel
theorem d_Sum_becomeSum_108 : decode b_Sum_becomeSum 108 = .ok (.iconst 1, 1) := by decide +kernel
theorem d_Sum_becomeSum_109 : decode b_Sum_becomeSum 109 = .ok (.ireturn, 1) := by decide +kernel
def mf_Sum_becomeSum_L7 (xn : Int32) (F : Nat) (xT : Nat → Int64) (xB : Nat → Int64) (xR : Nat → Int64) (uds : Int32) (uds_1 : Int32) : Nat → Int32 → (Nat → Int64) → (Nat → Int64) → (Nat → Int64) → Option ((Nat → Int64) × (Nat → Int64) × (Nat → Int64))
  | 0, _, _, _, _ => none
  | fu + 1, x4, udat, udab, udar => (if xn ≤ x4 then (some (udat, udab, udar)) else (sd_g (sd_ix x4 8) (sd_g (sd_ix x4 8) (sd_g (sd_ix x4 8) (sd_b3 (mf_Sum_put F x4 (xT x4.toNatClampNeg) (xB x4.toNatClampNeg) (xR x4.toNatClampNeg) uds uds_1 udat udab udar) fun udat_1 udab_1 udar_1 => (sd_let (x4 + (1 : Int32)) fun x4_1 => ((mf_Sum_becomeSum_L7 xn F xT xB xR uds uds_1 fu) x4_1 udat_1 udab_1 udar_1)))))))
def mf_Sum_becomeSum_L60 (yn : Int32) (F : Nat) (vSign : Int32) (yT : Nat → Int64) (yB : Nat → Int64) (yR : Nat → Int64) (uds : Int32) : Nat → Int32 → (Nat → Int64) → (Nat → Int64) → (Nat → Int64) → Int32 → Option (Nat × (Nat → Int64) × (Nat → Int64) × (Nat → Int64) × Int32)
  | 0, _, _, _, _, _ => none
  | fu + 1, x4_2, udat_2, udab_2, udar_2, uds_2 => (if yn ≤ x4_2 then (some (1, udat_2, udab_2, udar_2, uds_2)) else (sd_g (sd_ix x4_2 8) (sd_g (sd_ix x4_2 8) (sd_g (sd_ix x4_2 8) (sd_b5 (mf_Sum_add F ((vSign.toInt64) * (yT x4_2.toNatClampNeg)) (yB x4_2.toNatClampNeg) (yR x4_2.toNatClampNeg) uds uds_2 udat_2 udab_2 udar_2) fun r uds_3 udat_3 udab_3 udar_3 => (if r = 0 then (some (0, udat_3, udab_3, udar_3, uds_3)) else (sd_let (x4_2 + (1 : Int32)) fun x4_3 => ((mf_Sum_becomeSum_L60 yn F vSign yT yB yR uds fu) x4_3 udat_3 udab_3 udar_3 uds_3))))))))
def mf_Sum_becomeSum (F : Nat) (vSign : Int32) (dk : Int32) (dn : Int32) (dT : Nat → Int64) (dB : Nat → Int64) (dR : Nat → Int64) (xk : Int32) (xn : Int32) (xT : Nat → Int64) (xB : Nat → Int64) (xR : Nat → Int64) (yk : Int32) (yn : Int32) (yT : Nat → Int64) (yB : Nat → Int64) (yR : Nat → Int64) : Option (Int32 × Int32 × Int32 × (Nat → Int64) × (Nat → Int64) × (Nat → Int64)) :=
  (sd_b2 (mf_Sum_clear F dk dn) fun uds uds_1 => (sd_b3 (mf_Sum_becomeSum_L7 xn F xT xB xR uds uds_1 F (0 : Int32) dT dB dR) fun rudat rudab rudar => (sd_b5 (mf_Sum_becomeSum_L60 yn F vSign yT yB yR uds F (0 : Int32) rudat rudab rudar xn) fun tg rudat_1 rudab_1 rudar_1 ruds => (if tg = 0 then (some ((0 : Int32), uds, ruds, rudat_1, rudab_1, rudar_1)) else (some ((1 : Int32), uds, ruds, rudat_1, rudab_1, rudar_1))))))
abbrev rm_Sum_becomeSum : Room := { frames := 4, cells := 0, slots := 0, locals := 160 }
set_option maxHeartbeats 4000000 in
set_option maxRecDepth 100000 in
theorem ct_Sum_becomeSum (l : Launch) (D : va_G) (g : G4) (ds : Nat) (dat : Nat) (dab : Nat) (dar : Nat) (dal : Nat) (dah : Nat) (xs : Nat) (xat : Nat) (xab : Nat) (xar : Nat) (xal : Nat) (xah : Nat) (ys : Nat) (yat : Nat) (yab : Nat) (yar : Nat) (yal : Nat) (yah : Nat) (sz : Nat) (vSign : Int32) (dk : Int32) (dn : Int32) (dT : Nat → Int64) (dB : Nat → Int64) (dR : Nat → Int64) (xk : Int32) (xn : Int32) (xT : Nat → Int64) (xB : Nat → Int64) (xR : Nat → Int64) (yk : Int32) (yn : Int32) (yT : Nat → Int64) (yB : Nat → Int64) (yR : Nat → Int64) (F : Nat) (res : Int32 × Int32 × Int32 × (Nat → Int64) × (Nat → Int64) × (Nat → Int64)) (hm : mf_Sum_becomeSum F vSign dk dn dT dB dR xk xn xT xB xR yk yn yT yB yR = some res) : Met l y_Sum_becomeSum (.code y_Sum_becomeSum b_Sum_becomeSum 5 (some .boolean) :: sd_tb) rm_Sum_becomeSum (sd_PW D g [.ref ds, .ref xs, .ref ys, .int vSign] sz [(ds, .inr (0, [.ref dat, .ref dab, .ref dar, .ref dal, .ref dah, .int dk, .int dn])), (dat, aJ g 8 dT), (dab, aJ g 8 dB), (dar, aJ g 8 dR), (xs, .inr (0, [.ref xat, .ref xab, .ref xar, .ref xal, .ref xah, .int xk, .int xn])), (xat, aJ g 8 xT), (xab, aJ g 8 xB), (xar, aJ g 8 xR), (ys, .inr (0, [.ref yat, .ref yab, .ref yar, .ref yal, .ref yah, .int yk, .int yn])), (yat, aJ g 8 yT), (yab, aJ g 8 yB), (yar, aJ g 8 yR)]) (sd_Qi1 D g res (fun u : Int32 × Int32 × (Nat → Int64) × (Nat → Int64) × (Nat → Int64) => [(ds, .inr (0, [.ref dat, .ref dab, .ref dar, .ref dal, .ref dah, .int (u.1), .int (u.2.1)])), (dat, aJ g 8 (u.2.2.1)), (dab, aJ g 8 (u.2.2.2.1)), (dar, aJ g 8 (u.2.2.2.2)), (xs, .inr (0, [.ref xat, .ref xab, .ref xar, .ref xal, .ref xah, .int xk, .int xn])), (xat, aJ g 8 xT), (xab, aJ g 8 xB), (xar, aJ g 8 xR), (ys, .inr (0, [.ref yat, .ref yab, .ref yar, .ref yal, .ref yah, .int yk, .int yn])), (yat, aJ g 8 yT), (yab, aJ g 8 yB), (yar, aJ g 8 yR)]) (va_A [(ds, .inr (0, [.ref dat, .ref dab, .ref dar, .ref dal, .ref dah, .int dk, .int dn])), (dat, aJ g 8 dT), (dab, aJ g 8 dB), (dar, aJ g 8 dR), (xs, .inr (0, [.ref xat, .ref xab, .ref xar, .ref xal, .ref xah, .int xk, .int xn])), (xat, aJ g 8 xT), (xab, aJ g 8 xB), (xar, aJ g 8 xR), (ys, .inr (0, [.ref yat, .ref yab, .ref yar, .ref yal, .ref yah, .int yk, .int yn])), (yat, aJ g 8 yT), (yab, aJ g 8 yB), (yar, aJ g 8 yR)] sz)) 0 0 (va_A [(ds, .inr (0, [.ref dat, .ref dab, .ref dar, .ref dal, .ref dah, .int dk, .int dn])), (dat, aJ g 8 dT), (dab, aJ g 8 dB), (dar, aJ g 8 dR), (xs, .inr (0, [.ref xat, .ref xab, .ref xar, .ref xal, .ref xah, .int xk, .int xn])), (xat, aJ g 8 xT), (xab, aJ g 8 xB), (xar, aJ g 8 xR), (ys, .inr (0, [.ref yat, .ref yab, .ref yar, .ref yal, .ref yah, .int yk, .int yn])), (yat, aJ g 8 yT), (yab, aJ g 8 yB), (yar, aJ g 8 yR)] sz) := by
  refine sd_met (Qf := fun A => sd_Qi1 D g res (fun u : Int32 × Int32 × (Nat → Int64) × (Nat → Int64) × (Nat → Int64) => [(ds, .inr (0, [.ref dat, .ref dab, .ref dar, .ref dal, .ref dah, .int (u.1), .int (u.2.1)])), (dat, aJ g 8 (u.2.2.1)), (dab, aJ g 8 (u.2.2.2.1)), (dar, aJ g 8 (u.2.2.2.2)), (xs, .inr (0, [.ref xat, .ref xab, .ref xar, .ref xal, .ref xah, .int xk, .int xn])), (xat, aJ g 8 xT), (xab, aJ g 8 xB), (xar, aJ g 8 xR), (ys, .inr (0, [.ref yat, .ref yab, .ref yar, .ref yal, .ref yah, .int yk, .int yn])), (yat, aJ g 8 yT), (yab, aJ g 8 yB), (yar, aJ g 8 yR)]) A) (own := R_Sum) (by decide +kernel) rfl (Nat.le_of_ble_eq_true rfl) ?_
  intro p e s m args below meth c S hr hlk hK A hA Q hQ H locs hP hD hS ls hl
  have hx := S.1
  have hb := S.2.1
  have hml := S.2.2.1
  have hown := S.2.2.2.1
  have htt := sd_tt S
  replace hl : lv_has ls 5 [(0, .ref ds), (1, .ref xs), (2, .ref ys), (3, .int vSign)] := hl
  unfold mf_Sum_becomeSum at hm
  refine lv_aload_n hx hb d_Sum_becomeSum_0 rfl (lv_at hl 0 rfl) ?_
  obtain ⟨uds, uds_1, hc, hm⟩ := sd_mb2 hm
  refine sd_cv1 (wr := [(dat, aJ g 8 dT), (dab, aJ g 8 dB), (dar, aJ g 8 dR), (xs, .inr (0, [.ref xat, .ref xab, .ref xar, .ref xal, .ref xah, .int xk, .int xn])), (xat, aJ g 8 xT), (xab, aJ g 8 xB), (xar, aJ g 8 xR), (ys, .inr (0, [.ref yat, .ref yab, .ref yar, .ref yal, .ref yah, .int yk, .int yn])), (yat, aJ g 8 yT), (yab, aJ g 8 yB), (yar, aJ g 8 yR)]) (w2 := [(dat, aJ g 8 dT), (dab, aJ g 8 dB), (dar, aJ g 8 dR), (xs, .inr (0, [.ref xat, .ref xab, .ref xar, .ref xal, .ref xah, .int xk, .int xn])), (xat, aJ g 8 xT), (xab, aJ g 8 xB), (xar, aJ g 8 xR), (ys, .inr (0, [.ref yat, .ref yab, .ref yar, .ref yal, .ref yah, .int yk, .int yn])), (yat, aJ g 8 yT), (yab, aJ g 8 yB), (yar, aJ g 8 yR), (ds, .inr (0, [.ref dat, .ref dab, .ref dar, .ref dal, .ref dah, .int uds, .int uds_1]))]) (sd_runV (rest := []) (As := []) S (ct_Sum_clear l D g ds dat dab dar dal dah (H.size) dk dn F (uds, uds_1) hc) kl_Sum_40 (by decide) (by decide) hK hP hD [0] rfl (by decide) rfl hl d_Sum_becomeSum_1 rfl (Nat.le_of_ble_eq_true rfl) ⟨Nat.zero_le _, Nat.zero_le _⟩ 0 rfl rfl) hP hD hS hA [0] [1, 2, 3, 4, 5, 6, 7, 8, 9, 10, 11] rfl rfl (by decide) (by decide) rfl (fun H locs hP hD hS => ?_)
  refine lv_iconst (v := (0 : Int32)) hx hb d_Sum_becomeSum_4 (by decide) ?_
  refine lv_istore (lv' := [(4, .int (0 : Int32)), (0, .ref ds), (1, .ref xs), (2, .ref ys), (3, .int vSign)]) hx hb d_Sum_becomeSum_5 hl (by decide) rfl (fun ls hl => ?_)
  have L7 : ∀ (fu : Nat) (x4 : Int32) (udat : Nat → Int64) (udab : Nat → Int64) (udar : Nat → Int64) (rudat : Nat → Int64) (rudab : Nat → Int64) (rudar : Nat → Int64), mf_Sum_becomeSum_L7 xn F xT xB xR uds uds_1 fu x4 udat udab udar = some (rudat, rudab, rudar) → ∀ (H : Heap) (locs : List Loc) (ls : Array Slot), va_P D classes [(dat, aJ g 8 udat), (dab, aJ g 8 udab), (dar, aJ g 8 udar), (xs, .inr (0, [.ref xat, .ref xab, .ref xar, .ref xal, .ref xah, .int xk, .int xn])), (xat, aJ g 8 xT), (xab, aJ g 8 xB), (xar, aJ g 8 xR), (ys, .inr (0, [.ref yat, .ref yab, .ref yar, .ref yal, .ref yah, .int yk, .int yn])), (yat, aJ g 8 yT), (yab, aJ g 8 yB), (yar, aJ g 8 yR), (ds, .inr (0, [.ref dat, .ref dab, .ref dar, .ref dal, .ref dah, .int uds, .int uds_1]))] H → va_D A [(dat, aJ g 8 udat), (dab, aJ g 8 udab), (dar, aJ g 8 udar), (xs, .inr (0, [.ref xat, .ref xab, .ref xar, .ref xal, .ref xah, .int xk, .int xn])), (xat, aJ g 8 xT), (xab, aJ g 8 xB), (xar, aJ g 8 xR), (ys, .inr (0, [.ref yat, .ref yab, .ref yar, .ref yal, .ref yah, .int yk, .int yn])), (yat, aJ g 8 yT), (yab, aJ g 8 yB), (yar, aJ g 8 yR), (ds, .inr (0, [.ref dat, .ref dab, .ref dar, .ref dal, .ref dah, .int uds, .int uds_1]))] → va_S A s.heap H locs → lv_has ls 5 [(0, .ref ds), (1, .ref xs), (2, .ref ys), (3, .int vSign), (4, .int x4)] → (∀ (H : Heap) (locs : List Loc) (ls : Array Slot), va_P D classes [(dat, aJ g 8 rudat), (dab, aJ g 8 rudab), (dar, aJ g 8 rudar), (xs, .inr (0, [.ref xat, .ref xab, .ref xar, .ref xal, .ref xah, .int xk, .int xn])), (xat, aJ g 8 xT), (xab, aJ g 8 xB), (xar, aJ g 8 xR), (ys, .inr (0, [.ref yat, .ref yab, .ref yar, .ref yal, .ref yah, .int yk, .int yn])), (yat, aJ g 8 yT), (yab, aJ g 8 yB), (yar, aJ g 8 yR), (ds, .inr (0, [.ref dat, .ref dab, .ref dar, .ref dal, .ref dah, .int uds, .int uds_1]))] H → va_D A [(dat, aJ g 8 rudat), (dab, aJ g 8 rudab), (dar, aJ g 8 rudar), (xs, .inr (0, [.ref xat, .ref xab, .ref xar, .ref xal, .ref xah, .int xk, .int xn])), (xat, aJ g 8 xT), (xab, aJ g 8 xB), (xar, aJ g 8 xR), (ys, .inr (0, [.ref yat, .ref yab, .ref yar, .ref yal, .ref yah, .int yk, .int yn])), (yat, aJ g 8 yT), (yab, aJ g 8 yB), (yar, aJ g 8 yR), (ds, .inr (0, [.ref dat, .ref dab, .ref dar, .ref dal, .ref dah, .int uds, .int uds_1]))] → va_S A s.heap H locs → lv_has ls 5 [(0, .ref ds), (1, .ref xs), (2, .ref ys), (3, .int vSign)] → W p l e rm_Sum_becomeSum s m args below meth c H locs 0 0 Q (F0 m 49 ls [])) → W p l e rm_Sum_becomeSum s m args below meth c H locs 0 0 Q (F0 m 7 ls []) := by
    intro fu
    induction fu with
    | zero => intro x4 udat udab udar rudat rudab rudar hm; exact absurd (show (none : Option ((Nat → Int64) × (Nat → Int64) × (Nat → Int64))) = some (rudat, rudab, rudar) from hm) (fun h => nomatch h)
    | succ fu ih =>
      intro x4 udat udab udar rudat rudab rudar hm H locs ls hP hD hS hl kx49
      rw [mf_Sum_becomeSum_L7] at hm
      refine lv_iload hx hb d_Sum_becomeSum_7 (lv_at hl 4 rfl) ?_
      refine lv_aload_n hx hb d_Sum_becomeSum_9 rfl (lv_at hl 1 rfl) ?_
      refine va_get (D := D) (ci := 0) (v := .int xn) (C := R_Sum) (T := F_Sum) (N := 7) hx hb htt i_Sum hown hK hP 3 rfl rfl 6 (by decide) (htt _ kf_Sum_28) (fun _ h9 => h9) rfl d_Sum_becomeSum_10 ?_
      refine lv_icmp_ge (tgt := 49) hx hb d_Sum_becomeSum_13 (by decide) (fun hc => ?_) (fun hc => ?_)
      · have hm := sd_mt hc hm
        cases hm
        exact kx49 H locs ls (hP.sub [0, 1, 2, 3, 4, 5, 6, 7, 8, 9, 10, 11] rfl) (hD.sub [0, 1, 2, 3, 4, 5, 6, 7, 8, 9, 10, 11] (by decide) rfl) hS (lv_sub hl [0, 1, 2, 3] rfl)
      · have hm := sd_mf hc hm
        refine lv_aload_n hx hb d_Sum_becomeSum_16 rfl (lv_at hl 0 rfl) ?_
        refine lv_iload hx hb d_Sum_becomeSum_17 (lv_at hl 4 rfl) ?_
        refine lv_aload_n hx hb d_Sum_becomeSum_19 rfl (lv_at hl 1 rfl) ?_
        refine va_get (D := D) (ci := 0) (v := .ref xat) (C := R_Sum) (T := F_Sum) (N := 7) hx hb htt i_Sum hown hK hP 3 rfl rfl 0 (by decide) (htt _ kf_Sum_9) (fun _ h9 => h9) rfl d_Sum_becomeSum_20 ?_
        refine lv_iload hx hb d_Sum_becomeSum_23 (lv_at hl 4 rfl) ?_
        obtain ⟨h_1, hm⟩ := sd_mg hm
        refine sd_lald hx hb hK hP 4 rfl h_1 d_Sum_becomeSum_25 ?_
        refine lv_aload_n hx hb d_Sum_becomeSum_26 rfl (lv_at hl 1 rfl) ?_
        refine va_get (D := D) (ci := 0) (v := .ref xab) (C := R_Sum) (T := F_Sum) (N := 7) hx hb htt i_Sum hown hK hP 3 rfl rfl 1 (by decide) (htt _ kf_Sum_13) (fun _ h9 => h9) rfl d_Sum_becomeSum_27 ?_
        refine lv_iload hx hb d_Sum_becomeSum_30 (lv_at hl 4 rfl) ?_
        obtain ⟨h_2, hm⟩ := sd_mg hm
        refine sd_lald hx hb hK hP 5 rfl h_2 d_Sum_becomeSum_32 ?_
        refine lv_aload_n hx hb d_Sum_becomeSum_33 rfl (lv_at hl 1 rfl) ?_
        refine va_get (D := D) (ci := 0) (v := .ref xar) (C := R_Sum) (T := F_Sum) (N := 7) hx hb htt i_Sum hown hK hP 3 rfl rfl 2 (by decide) (htt _ kf_Sum_16) (fun _ h9 => h9) rfl d_Sum_becomeSum_34 ?_
        refine lv_iload hx hb d_Sum_becomeSum_37 (lv_at hl 4 rfl) ?_
        obtain ⟨h_3, hm⟩ := sd_mg hm
        refine sd_lald hx hb hK hP 6 rfl h_3 d_Sum_becomeSum_39 ?_
        obtain ⟨udat_1, udab_1, udar_1, hc, hm⟩ := sd_mb3 hm
        refine sd_cv1 (wr := [(xs, .inr (0, [.ref xat, .ref xab, .ref xar, .ref xal, .ref xah, .int xk, .int xn])), (xat, aJ g 8 xT), (xab, aJ g 8 xB), (xar, aJ g 8 xR), (ys, .inr (0, [.ref yat, .ref yab, .ref yar, .ref yal, .ref yah, .int yk, .int yn])), (yat, aJ g 8 yT), (yab, aJ g 8 yB), (yar, aJ g 8 yR)]) (w2 := [(xs, .inr (0, [.ref xat, .ref xab, .ref xar, .ref xal, .ref xah, .int xk, .int xn])), (xat, aJ g 8 xT), (xab, aJ g 8 xB), (xar, aJ g 8 xR), (ys, .inr (0, [.ref yat, .ref yab, .ref yar, .ref yal, .ref yah, .int yk, .int yn])), (yat, aJ g 8 yT), (yab, aJ g 8 yB), (yar, aJ g 8 yR), (ds, .inr (0, [.ref dat, .ref dab, .ref dar, .ref dal, .ref dah, .int uds, .int uds_1])), (dat, aJ g 8 udat_1), (dab, aJ g 8 udab_1), (dar, aJ g 8 udar_1)]) (sd_runV (rest := []) (As := [.int x4, .long (xT x4.toNatClampNeg), .long (xB x4.toNatClampNeg), .long (xR x4.toNatClampNeg)]) S (ct_Sum_put l D g ds dat dab dar dal dah (H.size) x4 (xT x4.toNatClampNeg) (xB x4.toNatClampNeg) (xR x4.toNatClampNeg) uds uds_1 udat udab udar F (udat_1, udab_1, udar_1) hc) kl_Sum_43 (by decide) (by decide) hK hP hD [11, 0, 1, 2] rfl (by decide) rfl hl d_Sum_becomeSum_40 rfl (Nat.le_of_ble_eq_true rfl) ⟨Nat.zero_le _, Nat.zero_le _⟩ 11 rfl rfl) hP hD hS hA [11, 0, 1, 2] [3, 4, 5, 6, 7, 8, 9, 10] rfl rfl (by decide) (by decide) rfl (fun H locs hP hD hS => ?_)
        obtain ⟨x4_1, ex4_1, hm⟩ := sd_mlet hm
        refine lv_iinc (v := x4_1) (lv' := [(4, .int x4_1), (0, .ref ds), (1, .ref xs), (2, .ref ys), (3, .int vSign)]) hx hb d_Sum_becomeSum_43 hl (k := 4) rfl (by rw [ex4_1]; rfl) (by decide) rfl (fun ls hl => ?_)
        refine lv_goto (tgt := 7) hx hb d_Sum_becomeSum_46 (by decide) ?_
        exact ih x4_1 udat_1 udab_1 udar_1 rudat rudab rudar hm H locs ls (hP.sub [9, 10, 11, 0, 1, 2, 3, 4, 5, 6, 7, 8] rfl) (hD.sub [9, 10, 11, 0, 1, 2, 3, 4, 5, 6, 7, 8] (by decide) rfl) hS (lv_sub hl [1, 2, 3, 4, 0] rfl) kx49
  obtain ⟨rudat, rudab, rudar, hc, hm⟩ := sd_mb3 hm
  refine L7 F (0 : Int32) dT dB dR rudat rudab rudar hc H locs ls (hP.sub [0, 1, 2, 3, 4, 5, 6, 7, 8, 9, 10, 11] rfl) (hD.sub [0, 1, 2, 3, 4, 5, 6, 7, 8, 9, 10, 11] (by decide) rfl) hS (lv_sub hl [1, 2, 3, 4, 0] rfl) ?_
  intro H locs ls hP hD hS hl
  refine lv_aload_n hx hb d_Sum_becomeSum_49 rfl (lv_at hl 0 rfl) ?_
  refine lv_aload_n hx hb d_Sum_becomeSum_50 rfl (lv_at hl 1 rfl) ?_
  refine va_get (D := D) (ci := 0) (v := .int xn) (C := R_Sum) (T := F_Sum) (N := 7) hx hb htt i_Sum hown hK hP 3 rfl rfl 6 (by decide) (htt _ kf_Sum_28) (fun _ h9 => h9) rfl d_Sum_becomeSum_51 ?_
  refine sd_put (ci := 0) (v := .int xn) (ty := .int) (C := R_Sum) (T := F_Sum) (N := 7) (ws2 := [(dat, aJ g 8 rudat), (dab, aJ g 8 rudab), (dar, aJ g 8 rudar), (xs, .inr (0, [.ref xat, .ref xab, .ref xar, .ref xal, .ref xah, .int xk, .int xn])), (xat, aJ g 8 xT), (xab, aJ g 8 xB), (xar, aJ g 8 xR), (ys, .inr (0, [.ref yat, .ref yab, .ref yar, .ref yal, .ref yah, .int yk, .int yn])), (yat, aJ g 8 yT), (yab, aJ g 8 yB), (yar, aJ g 8 yR), (ds, .inr (0, [.ref dat, .ref dab, .ref dar, .ref dal, .ref dah, .int uds, .int xn]))]) hx hb htt i_Sum t_Sum t_Sum_ok n_Sum hown hK hP hD hS 11 rfl rfl 6 (by decide) kf_Sum_28 (fun _ h9 => h9) rfl (by decide +kernel) rfl rfl (Nat.le_of_ble_eq_true rfl) rfl d_Sum_becomeSum_54 (fun H locs hP hD hS => ?_)
  refine lv_iconst (v := (0 : Int32)) hx hb d_Sum_becomeSum_57 (by decide) ?_
  refine lv_istore (lv' := [(4, .int (0 : Int32)), (0, .ref ds), (1, .ref xs), (2, .ref ys), (3, .int vSign)]) hx hb d_Sum_becomeSum_58 hl (by decide) rfl (fun ls hl => ?_)
  have L60 : ∀ (fu : Nat) (x4_2 : Int32) (udat_2 : Nat → Int64) (udab_2 : Nat → Int64) (udar_2 : Nat → Int64) (uds_2 : Int32) (tg : Nat) (rudat_1 : Nat → Int64) (rudab_1 : Nat → Int64) (rudar_1 : Nat → Int64) (ruds : Int32), mf_Sum_becomeSum_L60 yn F vSign yT yB yR uds fu x4_2 udat_2 udab_2 udar_2 uds_2 = some (tg, rudat_1, rudab_1, rudar_1, ruds) → ∀ (H : Heap) (locs : List Loc) (ls : Array Slot), va_P D classes [(dat, aJ g 8 udat_2), (dab, aJ g 8 udab_2), (dar, aJ g 8 udar_2), (xs, .inr (0, [.ref xat, .ref xab, .ref xar, .ref xal, .ref xah, .int xk, .int xn])), (xat, aJ g 8 xT), (xab, aJ g 8 xB), (xar, aJ g 8 xR), (ys, .inr (0, [.ref yat, .ref yab, .ref yar, .ref yal, .ref yah, .int yk, .int yn])), (yat, aJ g 8 yT), (yab, aJ g 8 yB), (yar, aJ g 8 yR), (ds, .inr (0, [.ref dat, .ref dab, .ref dar, .ref dal, .ref dah, .int uds, .int uds_2]))] H → va_D A [(dat, aJ g 8 udat_2), (dab, aJ g 8 udab_2), (dar, aJ g 8 udar_2), (xs, .inr (0, [.ref xat, .ref xab, .ref xar, .ref xal, .ref xah, .int xk, .int xn])), (xat, aJ g 8 xT), (xab, aJ g 8 xB), (xar, aJ g 8 xR), (ys, .inr (0, [.ref yat, .ref yab, .ref yar, .ref yal, .ref yah, .int yk, .int yn])), (yat, aJ g 8 yT), (yab, aJ g 8 yB), (yar, aJ g 8 yR), (ds, .inr (0, [.ref dat, .ref dab, .ref dar, .ref dal, .ref dah, .int uds, .int uds_2]))] → va_S A s.heap H locs → lv_has ls 5 [(0, .ref ds), (2, .ref ys), (3, .int vSign), (4, .int x4_2)] → (tg = 0 → ∀ (H : Heap) (locs : List Loc) (ls : Array Slot), va_P D classes [(dat, aJ g 8 rudat_1), (dab, aJ g 8 rudab_1), (dar, aJ g 8 rudar_1), (xs, .inr (0, [.ref xat, .ref xab, .ref xar, .ref xal, .ref xah, .int xk, .int xn])), (xat, aJ g 8 xT), (xab, aJ g 8 xB), (xar, aJ g 8 xR), (ys, .inr (0, [.ref yat, .ref yab, .ref yar, .ref yal, .ref yah, .int yk, .int yn])), (yat, aJ g 8 yT), (yab, aJ g 8 yB), (yar, aJ g 8 yR), (ds, .inr (0, [.ref dat, .ref dab, .ref dar, .ref dal, .ref dah, .int uds, .int ruds]))] H → va_D A [(dat, aJ g 8 rudat_1), (dab, aJ g 8 rudab_1), (dar, aJ g 8 rudar_1), (xs, .inr (0, [.ref xat, .ref xab, .ref xar, .ref xal, .ref xah, .int xk, .int xn])), (xat, aJ g 8 xT), (xab, aJ g 8 xB), (xar, aJ g 8 xR), (ys, .inr (0, [.ref yat, .ref yab, .ref yar, .ref yal, .ref yah, .int yk, .int yn])), (yat, aJ g 8 yT), (yab, aJ g 8 yB), (yar, aJ g 8 yR), (ds, .inr (0, [.ref dat, .ref dab, .ref dar, .ref dal, .ref dah, .int uds, .int ruds]))] → va_S A s.heap H locs → lv_has ls 5 [] → W p l e rm_Sum_becomeSum s m args below meth c H locs 0 0 Q (F0 m 100 ls [])) → (tg = 1 → ∀ (H : Heap) (locs : List Loc) (ls : Array Slot), va_P D classes [(dat, aJ g 8 rudat_1), (dab, aJ g 8 rudab_1), (dar, aJ g 8 rudar_1), (xs, .inr (0, [.ref xat, .ref xab, .ref xar, .ref xal, .ref xah, .int xk, .int xn])), (xat, aJ g 8 xT), (xab, aJ g 8 xB), (xar, aJ g 8 xR), (ys, .inr (0, [.ref yat, .ref yab, .ref yar, .ref yal, .ref yah, .int yk, .int yn])), (yat, aJ g 8 yT), (yab, aJ g 8 yB), (yar, aJ g 8 yR), (ds, .inr (0, [.ref dat, .ref dab, .ref dar, .ref dal, .ref dah, .int uds, .int ruds]))] H → va_D A [(dat, aJ g 8 rudat_1), (dab, aJ g 8 rudab_1), (dar, aJ g 8 rudar_1), (xs, .inr (0, [.ref xat, .ref xab, .ref xar, .ref xal, .ref xah, .int xk, .int xn])), (xat, aJ g 8 xT), (xab, aJ g 8 xB), (xar, aJ g 8 xR), (ys, .inr (0, [.ref yat, .ref yab, .ref yar, .ref yal, .ref yah, .int yk, .int yn])), (yat, aJ g 8 yT), (yab, aJ g 8 yB), (yar, aJ g 8 yR), (ds, .inr (0, [.ref dat, .ref dab, .ref dar, .ref dal, .ref dah, .int uds, .int ruds]))] → va_S A s.heap H locs → lv_has ls 5 [] → W p l e rm_Sum_becomeSum s m args below meth c H locs 0 0 Q (F0 m 108 ls [])) → W p l e rm_Sum_becomeSum s m args below meth c H locs 0 0 Q (F0 m 60 ls []) := by
    intro fu
    induction fu with
    | zero => intro x4_2 udat_2 udab_2 udar_2 uds_2 tg rudat_1 rudab_1 rudar_1 ruds hm; exact absurd (show (none : Option (Nat × (Nat → Int64) × (Nat → Int64) × (Nat → Int64) × Int32)) = some (tg, rudat_1, rudab_1, rudar_1, ruds) from hm) (fun h => nomatch h)
    | succ fu ih =>
      intro x4_2 udat_2 udab_2 udar_2 uds_2 tg rudat_1 rudab_1 rudar_1 ruds hm H locs ls hP hD hS hl kx100 kx108
      rw [mf_Sum_becomeSum_L60] at hm
      refine lv_iload hx hb d_Sum_becomeSum_60 (lv_at hl 3 rfl) ?_
      refine lv_aload_n hx hb d_Sum_becomeSum_62 rfl (lv_at hl 1 rfl) ?_
      refine va_get (D := D) (ci := 0) (v := .int yn) (C := R_Sum) (T := F_Sum) (N := 7) hx hb htt i_Sum hown hK hP 7 rfl rfl 6 (by decide) (htt _ kf_Sum_28) (fun _ h9 => h9) rfl d_Sum_becomeSum_63 ?_
      refine lv_icmp_ge (tgt := 108) hx hb d_Sum_becomeSum_66 (by decide) (fun hc => ?_) (fun hc => ?_)
      · have hm := sd_mt hc hm
        cases hm
        exact kx108 rfl H locs ls (hP.sub [0, 1, 2, 3, 4, 5, 6, 7, 8, 9, 10, 11] rfl) (hD.sub [0, 1, 2, 3, 4, 5, 6, 7, 8, 9, 10, 11] (by decide) rfl) hS (lv_sub hl [] rfl)
      · have hm := sd_mf hc hm
        refine lv_aload_n hx hb d_Sum_becomeSum_69 rfl (lv_at hl 0 rfl) ?_
        refine lv_iload_n hx hb d_Sum_becomeSum_70 rfl (lv_at hl 2 rfl) ?_
        refine lv_i2l hx hb d_Sum_becomeSum_71 rfl ?_
        refine lv_aload_n hx hb d_Sum_becomeSum_72 rfl (lv_at hl 1 rfl) ?_
        refine va_get (D := D) (ci := 0) (v := .ref yat) (C := R_Sum) (T := F_Sum) (N := 7) hx hb htt i_Sum hown hK hP 7 rfl rfl 0 (by decide) (htt _ kf_Sum_9) (fun _ h9 => h9) rfl d_Sum_becomeSum_73 ?_
        refine lv_iload hx hb d_Sum_becomeSum_76 (lv_at hl 3 rfl) ?_
        obtain ⟨h_4, hm⟩ := sd_mg hm
        refine sd_lald hx hb hK hP 8 rfl h_4 d_Sum_becomeSum_78 ?_
        refine lv_lmul hx hb d_Sum_becomeSum_79 ?_
        refine lv_aload_n hx hb d_Sum_becomeSum_80 rfl (lv_at hl 1 rfl) ?_
        refine va_get (D := D) (ci := 0) (v := .ref yab) (C := R_Sum) (T := F_Sum) (N := 7) hx hb htt i_Sum hown hK hP 7 rfl rfl 1 (by decide) (htt _ kf_Sum_13) (fun _ h9 => h9) rfl d_Sum_becomeSum_81 ?_
        refine lv_iload hx hb d_Sum_becomeSum_84 (lv_at hl 3 rfl) ?_
        obtain ⟨h_5, hm⟩ := sd_mg hm
        refine sd_lald hx hb hK hP 9 rfl h_5 d_Sum_becomeSum_86 ?_
        refine lv_aload_n hx hb d_Sum_becomeSum_87 rfl (lv_at hl 1 rfl) ?_
        refine va_get (D := D) (ci := 0) (v := .ref yar) (C := R_Sum) (T := F_Sum) (N := 7) hx hb htt i_Sum hown hK hP 7 rfl rfl 2 (by decide) (htt _ kf_Sum_16) (fun _ h9 => h9) rfl d_Sum_becomeSum_88 ?_
        refine lv_iload hx hb d_Sum_becomeSum_91 (lv_at hl 3 rfl) ?_
        obtain ⟨h_6, hm⟩ := sd_mg hm
        refine sd_lald hx hb hK hP 10 rfl h_6 d_Sum_becomeSum_93 ?_
        obtain ⟨r, uds_3, udat_3, udab_3, udar_3, hc, hm⟩ := sd_mb5 hm
        refine sd_ci1 (wr := [(xs, .inr (0, [.ref xat, .ref xab, .ref xar, .ref xal, .ref xah, .int xk, .int xn])), (xat, aJ g 8 xT), (xab, aJ g 8 xB), (xar, aJ g 8 xR), (ys, .inr (0, [.ref yat, .ref yab, .ref yar, .ref yal, .ref yah, .int yk, .int yn])), (yat, aJ g 8 yT), (yab, aJ g 8 yB), (yar, aJ g 8 yR)]) (w2 := [(xs, .inr (0, [.ref xat, .ref xab, .ref xar, .ref xal, .ref xah, .int xk, .int xn])), (xat, aJ g 8 xT), (xab, aJ g 8 xB), (xar, aJ g 8 xR), (ys, .inr (0, [.ref yat, .ref yab, .ref yar, .ref yal, .ref yah, .int yk, .int yn])), (yat, aJ g 8 yT), (yab, aJ g 8 yB), (yar, aJ g 8 yR), (ds, .inr (0, [.ref dat, .ref dab, .ref dar, .ref dal, .ref dah, .int uds, .int uds_3])), (dat, aJ g 8 udat_3), (dab, aJ g 8 udab_3), (dar, aJ g 8 udar_3)]) (sd_runV (rest := []) (As := [.long ((vSign.toInt64) * (yT x4_2.toNatClampNeg)), .long (yB x4_2.toNatClampNeg), .long (yR x4_2.toNatClampNeg)]) S (ct_Sum_add l D g ds dat dab dar dal dah (H.size) ((vSign.toInt64) * (yT x4_2.toNatClampNeg)) (yB x4_2.toNatClampNeg) (yR x4_2.toNatClampNeg) uds uds_2 udat_2 udab_2 udar_2 F (r, uds_3, udat_3, udab_3, udar_3) hc) kl_Sum_47 (by decide) (by decide) hK hP hD [11, 0, 1, 2] rfl (by decide) rfl hl d_Sum_becomeSum_94 rfl (Nat.le_of_ble_eq_true rfl) ⟨Nat.zero_le _, Nat.zero_le _⟩ 11 rfl rfl) hP hD hS hA [11, 0, 1, 2] [3, 4, 5, 6, 7, 8, 9, 10] rfl rfl (by decide) (by decide) rfl (fun H locs hP hD hS => ?_)
        refine W.eq (g2 := F0 m 97 ls [.int r]) rfl ?_
        refine lv_if_ne (tgt := 102) hx hb d_Sum_becomeSum_97 (by decide) (fun hc => ?_) (fun hc => ?_)
        · have hm := sd_mf hc hm
          obtain ⟨x4_3, ex4_3, hm⟩ := sd_mlet hm
          refine lv_iinc (v := x4_3) (lv' := [(4, .int x4_3), (0, .ref ds), (2, .ref ys), (3, .int vSign)]) hx hb d_Sum_becomeSum_102 hl (k := 3) rfl (by rw [ex4_3]; rfl) (by decide) rfl (fun ls hl => ?_)
          refine lv_goto (tgt := 60) hx hb d_Sum_becomeSum_105 (by decide) ?_
          exact ih x4_3 udat_3 udab_3 udar_3 uds_3 tg rudat_1 rudab_1 rudar_1 ruds hm H locs ls (hP.sub [9, 10, 11, 0, 1, 2, 3, 4, 5, 6, 7, 8] rfl) (hD.sub [9, 10, 11, 0, 1, 2, 3, 4, 5, 6, 7, 8] (by decide) rfl) hS (lv_sub hl [1, 2, 3, 0] rfl) kx100 kx108
        · have hm := sd_mt hc hm
          cases hm
          exact kx100 rfl H locs ls (hP.sub [9, 10, 11, 0, 1, 2, 3, 4, 5, 6, 7, 8] rfl) (hD.sub [9, 10, 11, 0, 1, 2, 3, 4, 5, 6, 7, 8] (by decide) rfl) hS (lv_sub hl [] rfl)
  obtain ⟨tg, rudat_1, rudab_1, rudar_1, ruds, hc, hm⟩ := sd_mb5 hm
  refine L60 F (0 : Int32) rudat rudab rudar xn tg rudat_1 rudab_1 rudar_1 ruds hc H locs ls (hP.sub [0, 1, 2, 3, 4, 5, 6, 7, 8, 9, 10, 11] rfl) (hD.sub [0, 1, 2, 3, 4, 5, 6, 7, 8, 9, 10, 11] (by decide) rfl) hS (lv_sub hl [1, 3, 4, 0] rfl) ?_ ?_
  · intro ht H locs ls hP hD hS hl
    have hm := sd_mt ht hm
    refine lv_iconst (v := (0 : Int32)) hx hb d_Sum_becomeSum_100 (by decide) ?_
    exact sd_z1ret (u := (uds, ruds, rudat_1, rudab_1, rudar_1)) hQ hx hb hr hlk rfl hK (hP.sub [11, 0, 1, 2, 3, 4, 5, 6, 7, 8, 9, 10] rfl) (hD.sub [11, 0, 1, 2, 3, 4, 5, 6, 7, 8, 9, 10] (by decide) rfl) hS (Option.some.inj hm).symm d_Sum_becomeSum_101
  · intro ht H locs ls hP hD hS hl
    have hm := sd_mf (by rw [ht]; decide) hm
    refine lv_iconst (v := (1 : Int32)) hx hb d_Sum_becomeSum_108 (by decide) ?_
    exact sd_z1ret (u := (uds, ruds, rudat_1, rudab_1, rudar_1)) hQ hx hb hr hlk rfl hK (hP.sub [11, 0, 1, 2, 3, 4, 5, 6, 7, 8, 9, 10] rfl) (hD.sub [11, 0, 1, 2, 3, 4, 5, 6, 7, 8, 9, 10] (by decide) rfl) hS (Option.some.inj hm).symm d_Sum_becomeSum_109
abbrev rm_Sum_becomeSum2 : Room := { frames := 4, cells := 0, slots := 0, locals := 160 }
set_option maxHeartbeats 4000000 in
set_option maxRecDepth 100000 in
theorem ct_Sum_becomeSum2 (l : Launch) (D : va_G) (g : G4) (ds : Nat) (dat : Nat) (dab : Nat) (dar : Nat) (dal : Nat) (dah : Nat) (xs : Nat) (xat : Nat) (xab : Nat) (xar : Nat) (xal : Nat) (xah : Nat) (sz : Nat) (vSign : Int32) (dk : Int32) (dn : Int32) (dT : Nat → Int64) (dB : Nat → Int64) (dR : Nat → Int64) (xk : Int32) (xn : Int32) (xT : Nat → Int64) (xB : Nat → Int64) (xR : Nat → Int64) (F : Nat) (res : Int32 × Int32 × Int32 × (Nat → Int64) × (Nat → Int64) × (Nat → Int64)) (hm : mf_Sum_becomeSum F vSign dk dn dT dB dR xk xn xT xB xR xk xn xT xB xR = some res) : Met l y_Sum_becomeSum (.code y_Sum_becomeSum b_Sum_becomeSum 5 (some .boolean) :: sd_tb) rm_Sum_becomeSum2 (sd_PW D g [.ref ds, .ref xs, .ref xs, .int vSign] sz [(ds, .inr (0, [.ref dat, .ref dab, .ref dar, .ref dal, .ref dah, .int dk, .int dn])), (dat, aJ g 8 dT), (dab, aJ g 8 dB), (dar, aJ g 8 dR), (xs, .inr (0, [.ref xat, .ref xab, .ref xar, .ref xal, .ref xah, .int xk, .int xn])), (xat, aJ g 8 xT), (xab, aJ g 8 xB), (xar, aJ g 8 xR)]) (sd_Qi1 D g res (fun u : Int32 × Int32 × (Nat → Int64) × (Nat → Int64) × (Nat → Int64) => [(ds, .inr (0, [.ref dat, .ref dab, .ref dar, .ref dal, .ref dah, .int (u.1), .int (u.2.1)])), (dat, aJ g 8 (u.2.2.1)), (dab, aJ g 8 (u.2.2.2.1)), (dar, aJ g 8 (u.2.2.2.2)), (xs, .inr (0, [.ref xat, .ref xab, .ref xar, .ref xal, .ref xah, .int xk, .int xn])), (xat, aJ g 8 xT), (xab, aJ g 8 xB), (xar, aJ g 8 xR)]) (va_A [(ds, .inr (0, [.ref dat, .ref dab, .ref dar, .ref dal, .ref dah, .int dk, .int dn])), (dat, aJ g 8 dT), (dab, aJ g 8 dB), (dar, aJ g 8 dR), (xs, .inr (0, [.ref xat, .ref xab, .ref xar, .ref xal, .ref xah, .int xk, .int xn])), (xat, aJ g 8 xT), (xab, aJ g 8 xB), (xar, aJ g 8 xR)] sz)) 0 0 (va_A [(ds, .inr (0, [.ref dat, .ref dab, .ref dar, .ref dal, .ref dah, .int dk, .int dn])), (dat, aJ g 8 dT), (dab, aJ g 8 dB), (dar, aJ g 8 dR), (xs, .inr (0, [.ref xat, .ref xab, .ref xar, .ref xal, .ref xah, .int xk, .int xn])), (xat, aJ g 8 xT), (xab, aJ g 8 xB), (xar, aJ g 8 xR)] sz) := by
  refine sd_met (Qf := fun A => sd_Qi1 D g res (fun u : Int32 × Int32 × (Nat → Int64) × (Nat → Int64) × (Nat → Int64) => [(ds, .inr (0, [.ref dat, .ref dab, .ref dar, .ref dal, .ref dah, .int (u.1), .int (u.2.1)])), (dat, aJ g 8 (u.2.2.1)), (dab, aJ g 8 (u.2.2.2.1)), (dar, aJ g 8 (u.2.2.2.2)), (xs, .inr (0, [.ref xat, .ref xab, .ref xar, .ref xal, .ref xah, .int xk, .int xn])), (xat, aJ g 8 xT), (xab, aJ g 8 xB), (xar, aJ g 8 xR)]) A) (own := R_Sum) (by decide +kernel) rfl (Nat.le_of_ble_eq_true rfl) ?_
  intro p e s m args below meth c S hr hlk hK A hA Q hQ H locs hP hD hS ls hl
  have hx := S.1
  have hb := S.2.1
  have hml := S.2.2.1
  have hown := S.2.2.2.1
  have htt := sd_tt S
  replace hl : lv_has ls 5 [(0, .ref ds), (1, .ref xs), (2, .ref xs), (3, .int vSign)] := hl
  unfold mf_Sum_becomeSum at hm
  refine lv_aload_n hx hb d_Sum_becomeSum_0 rfl (lv_at hl 0 rfl) ?_
  obtain ⟨uds, uds_1, hc, hm⟩ := sd_mb2 hm
  refine sd_cv1 (wr := [(dat, aJ g 8 dT), (dab, aJ g 8 dB), (dar, aJ g 8 dR), (xs, .inr (0, [.ref xat, .ref xab, .ref xar, .ref xal, .ref xah, .int xk, .int xn])), (xat, aJ g 8 xT), (xab, aJ g 8 xB), (xar, aJ g 8 xR)]) (w2 := [(dat, aJ g 8 dT), (dab, aJ g 8 dB), (dar, aJ g 8 dR), (xs, .inr (0, [.ref xat, .ref xab, .ref xar, .ref xal, .ref xah, .int xk, .int xn])), (xat, aJ g 8 xT), (xab, aJ g 8 xB), (xar, aJ g 8 xR), (ds, .inr (0, [.ref dat, .ref dab, .ref dar, .ref dal, .ref dah, .int uds, .int uds_1]))]) (sd_runV (rest := []) (As := []) S (ct_Sum_clear l D g ds dat dab dar dal dah (H.size) dk dn F (uds, uds_1) hc) kl_Sum_40 (by decide) (by decide) hK hP hD [0] rfl (by decide) rfl hl d_Sum_becomeSum_1 rfl (Nat.le_of_ble_eq_true rfl) ⟨Nat.zero_le _, Nat.zero_le _⟩ 0 rfl rfl) hP hD hS hA [0] [1, 2, 3, 4, 5, 6, 7] rfl rfl (by decide) (by decide) rfl (fun H locs hP hD hS => ?_)
  refine lv_iconst (v := (0 : Int32)) hx hb d_Sum_becomeSum_4 (by decide) ?_
  refine lv_istore (lv' := [(4, .int (0 : Int32)), (0, .ref ds), (1, .ref xs), (2, .ref xs), (3, .int vSign)]) hx hb d_Sum_becomeSum_5 hl (by decide) rfl (fun ls hl => ?_)
  have L7 : ∀ (fu : Nat) (x4 : Int32) (udat : Nat → Int64) (udab : Nat → Int64) (udar : Nat → Int64) (rudat : Nat → Int64) (rudab : Nat → Int64) (rudar : Nat → Int64), mf_Sum_becomeSum_L7 xn F xT xB xR uds uds_1 fu x4 udat udab udar = some (rudat, rudab, rudar) → ∀ (H : Heap) (locs : List Loc) (ls : Array Slot), va_P D classes [(dat, aJ g 8 udat), (dab, aJ g 8 udab), (dar, aJ g 8 udar), (xs, .inr (0, [.ref xat, .ref xab, .ref xar, .ref xal, .ref xah, .int xk, .int xn])), (xat, aJ g 8 xT), (xab, aJ g 8 xB), (xar, aJ g 8 xR), (ds, .inr (0, [.ref dat, .ref dab, .ref dar, .ref dal, .ref dah, .int uds, .int uds_1]))] H → va_D A [(dat, aJ g 8 udat), (dab, aJ g 8 udab), (dar, aJ g 8 udar), (xs, .inr (0, [.ref xat, .ref xab, .ref xar, .ref xal, .ref xah, .int xk, .int xn])), (xat, aJ g 8 xT), (xab, aJ g 8 xB), (xar, aJ g 8 xR), (ds, .inr (0, [.ref dat, .ref dab, .ref dar, .ref dal, .ref dah, .int uds, .int uds_1]))] → va_S A s.heap H locs → lv_has ls 5 [(0, .ref ds), (1, .ref xs), (2, .ref xs), (3, .int vSign), (4, .int x4)] → (∀ (H : Heap) (locs : List Loc) (ls : Array Slot), va_P D classes [(dat, aJ g 8 rudat), (dab, aJ g 8 rudab), (dar, aJ g 8 rudar), (xs, .inr (0, [.ref xat, .ref xab, .ref xar, .ref xal, .ref xah, .int xk, .int xn])), (xat, aJ g 8 xT), (xab, aJ g 8 xB), (xar, aJ g 8 xR), (ds, .inr (0, [.ref dat, .ref dab, .ref dar, .ref dal, .ref dah, .int uds, .int uds_1]))] H → va_D A [(dat, aJ g 8 rudat), (dab, aJ g 8 rudab), (dar, aJ g 8 rudar), (xs, .inr (0, [.ref xat, .ref xab, .ref xar, .ref xal, .ref xah, .int xk, .int xn])), (xat, aJ g 8 xT), (xab, aJ g 8 xB), (xar, aJ g 8 xR), (ds, .inr (0, [.ref dat, .ref dab, .ref dar, .ref dal, .ref dah, .int uds, .int uds_1]))] → va_S A s.heap H locs → lv_has ls 5 [(0, .ref ds), (1, .ref xs), (2, .ref xs), (3, .int vSign)] → W p l e rm_Sum_becomeSum2 s m args below meth c H locs 0 0 Q (F0 m 49 ls [])) → W p l e rm_Sum_becomeSum2 s m args below meth c H locs 0 0 Q (F0 m 7 ls []) := by
    intro fu
    induction fu with
    | zero => intro x4 udat udab udar rudat rudab rudar hm; exact absurd (show (none : Option ((Nat → Int64) × (Nat → Int64) × (Nat → Int64))) = some (rudat, rudab, rudar) from hm) (fun h => nomatch h)
    | succ fu ih =>
      intro x4 udat udab udar rudat rudab rudar hm H locs ls hP hD hS hl kx49
      rw [mf_Sum_becomeSum_L7] at hm
      refine lv_iload hx hb d_Sum_becomeSum_7 (lv_at hl 4 rfl) ?_
      refine lv_aload_n hx hb d_Sum_becomeSum_9 rfl (lv_at hl 1 rfl) ?_
      refine va_get (D := D) (ci := 0) (v := .int xn) (C := R_Sum) (T := F_Sum) (N := 7) hx hb htt i_Sum hown hK hP 3 rfl rfl 6 (by decide) (htt _ kf_Sum_28) (fun _ h9 => h9) rfl d_Sum_becomeSum_10 ?_
      refine lv_icmp_ge (tgt := 49) hx hb d_Sum_becomeSum_13 (by decide) (fun hc => ?_) (fun hc => ?_)
      · have hm := sd_mt hc hm
        cases hm
        exact kx49 H locs ls (hP.sub [0, 1, 2, 3, 4, 5, 6, 7] rfl) (hD.sub [0, 1, 2, 3, 4, 5, 6, 7] (by decide) rfl) hS (lv_sub hl [0, 1, 2, 3] rfl)
      · have hm := sd_mf hc hm
        refine lv_aload_n hx hb d_Sum_becomeSum_16 rfl (lv_at hl 0 rfl) ?_
        refine lv_iload hx hb d_Sum_becomeSum_17 (lv_at hl 4 rfl) ?_
        refine lv_aload_n hx hb d_Sum_becomeSum_19 rfl (lv_at hl 1 rfl) ?_
        refine va_get (D := D) (ci := 0) (v := .ref xat) (C := R_Sum) (T := F_Sum) (N := 7) hx hb htt i_Sum hown hK hP 3 rfl rfl 0 (by decide) (htt _ kf_Sum_9) (fun _ h9 => h9) rfl d_Sum_becomeSum_20 ?_
        refine lv_iload hx hb d_Sum_becomeSum_23 (lv_at hl 4 rfl) ?_
        obtain ⟨h_1, hm⟩ := sd_mg hm
        refine sd_lald hx hb hK hP 4 rfl h_1 d_Sum_becomeSum_25 ?_
        refine lv_aload_n hx hb d_Sum_becomeSum_26 rfl (lv_at hl 1 rfl) ?_
        refine va_get (D := D) (ci := 0) (v := .ref xab) (C := R_Sum) (T := F_Sum) (N := 7) hx hb htt i_Sum hown hK hP 3 rfl rfl 1 (by decide) (htt _ kf_Sum_13) (fun _ h9 => h9) rfl d_Sum_becomeSum_27 ?_
        refine lv_iload hx hb d_Sum_becomeSum_30 (lv_at hl 4 rfl) ?_
        obtain ⟨h_2, hm⟩ := sd_mg hm
        refine sd_lald hx hb hK hP 5 rfl h_2 d_Sum_becomeSum_32 ?_
        refine lv_aload_n hx hb d_Sum_becomeSum_33 rfl (lv_at hl 1 rfl) ?_
        refine va_get (D := D) (ci := 0) (v := .ref xar) (C := R_Sum) (T := F_Sum) (N := 7) hx hb htt i_Sum hown hK hP 3 rfl rfl 2 (by decide) (htt _ kf_Sum_16) (fun _ h9 => h9) rfl d_Sum_becomeSum_34 ?_
        refine lv_iload hx hb d_Sum_becomeSum_37 (lv_at hl 4 rfl) ?_
        obtain ⟨h_3, hm⟩ := sd_mg hm
        refine sd_lald hx hb hK hP 6 rfl h_3 d_Sum_becomeSum_39 ?_
        obtain ⟨udat_1, udab_1, udar_1, hc, hm⟩ := sd_mb3 hm
        refine sd_cv1 (wr := [(xs, .inr (0, [.ref xat, .ref xab, .ref xar, .ref xal, .ref xah, .int xk, .int xn])), (xat, aJ g 8 xT), (xab, aJ g 8 xB), (xar, aJ g 8 xR)]) (w2 := [(xs, .inr (0, [.ref xat, .ref xab, .ref xar, .ref xal, .ref xah, .int xk, .int xn])), (xat, aJ g 8 xT), (xab, aJ g 8 xB), (xar, aJ g 8 xR), (ds, .inr (0, [.ref dat, .ref dab, .ref dar, .ref dal, .ref dah, .int uds, .int uds_1])), (dat, aJ g 8 udat_1), (dab, aJ g 8 udab_1), (dar, aJ g 8 udar_1)]) (sd_runV (rest := []) (As := [.int x4, .long (xT x4.toNatClampNeg), .long (xB x4.toNatClampNeg), .long (xR x4.toNatClampNeg)]) S (ct_Sum_put l D g ds dat dab dar dal dah (H.size) x4 (xT x4.toNatClampNeg) (xB x4.toNatClampNeg) (xR x4.toNatClampNeg) uds uds_1 udat udab udar F (udat_1, udab_1, udar_1) hc) kl_Sum_43 (by decide) (by decide) hK hP hD [7, 0, 1, 2] rfl (by decide) rfl hl d_Sum_becomeSum_40 rfl (Nat.le_of_ble_eq_true rfl) ⟨Nat.zero_le _, Nat.zero_le _⟩ 7 rfl rfl) hP hD hS hA [7, 0, 1, 2] [3, 4, 5, 6] rfl rfl (by decide) (by decide) rfl (fun H locs hP hD hS => ?_)
        obtain ⟨x4_1, ex4_1, hm⟩ := sd_mlet hm
        refine lv_iinc (v := x4_1) (lv' := [(4, .int x4_1), (0, .ref ds), (1, .ref xs), (2, .ref xs), (3, .int vSign)]) hx hb d_Sum_becomeSum_43 hl (k := 4) rfl (by rw [ex4_1]; rfl) (by decide) rfl (fun ls hl => ?_)
        refine lv_goto (tgt := 7) hx hb d_Sum_becomeSum_46 (by decide) ?_
        exact ih x4_1 udat_1 udab_1 udar_1 rudat rudab rudar hm H locs ls (hP.sub [5, 6, 7, 0, 1, 2, 3, 4] rfl) (hD.sub [5, 6, 7, 0, 1, 2, 3, 4] (by decide) rfl) hS (lv_sub hl [1, 2, 3, 4, 0] rfl) kx49
  obtain ⟨rudat, rudab, rudar, hc, hm⟩ := sd_mb3 hm
  refine L7 F (0 : Int32) dT dB dR rudat rudab rudar hc H locs ls (hP.sub [0, 1, 2, 3, 4, 5, 6, 7] rfl) (hD.sub [0, 1, 2, 3, 4, 5, 6, 7] (by decide) rfl) hS (lv_sub hl [1, 2, 3, 4, 0] rfl) ?_
  intro H locs ls hP hD hS hl
  refine lv_aload_n hx hb d_Sum_becomeSum_49 rfl (lv_at hl 0 rfl) ?_
  refine lv_aload_n hx hb d_Sum_becomeSum_50 rfl (lv_at hl 1 rfl) ?_
  refine va_get (D := D) (ci := 0) (v := .int xn) (C := R_Sum) (T := F_Sum) (N := 7) hx hb htt i_Sum hown hK hP 3 rfl rfl 6 (by decide) (htt _ kf_Sum_28) (fun _ h9 => h9) rfl d_Sum_becomeSum_51 ?_
  refine sd_put (ci := 0) (v := .int xn) (ty := .int) (C := R_Sum) (T := F_Sum) (N := 7) (ws2 := [(dat, aJ g 8 rudat), (dab, aJ g 8 rudab), (dar, aJ g 8 rudar), (xs, .inr (0, [.ref xat, .ref xab, .ref xar, .ref xal, .ref xah, .int xk, .int xn])), (xat, aJ g 8 xT), (xab, aJ g 8 xB), (xar, aJ g 8 xR), (ds, .inr (0, [.ref dat, .ref dab, .ref dar, .ref dal, .ref dah, .int uds, .int xn]))]) hx hb htt i_Sum t_Sum t_Sum_ok n_Sum hown hK hP hD hS 7 rfl rfl 6 (by decide) kf_Sum_28 (fun _ h9 => h9) rfl (by decide +kernel) rfl rfl (Nat.le_of_ble_eq_true rfl) rfl d_Sum_becomeSum_54 (fun H locs hP hD hS => ?_)
  refine lv_iconst (v := (0 : Int32)) hx hb d_Sum_becomeSum_57 (by decide) ?_
  refine lv_istore (lv' := [(4, .int (0 : Int32)), (0, .ref ds), (1, .ref xs), (2, .ref xs), (3, .int vSign)]) hx hb d_Sum_becomeSum_58 hl (by decide) rfl (fun ls hl => ?_)
  have L60 : ∀ (fu : Nat) (x4_2 : Int32) (udat_2 : Nat → Int64) (udab_2 : Nat → Int64) (udar_2 : Nat → Int64) (uds_2 : Int32) (tg : Nat) (rudat_1 : Nat → Int64) (rudab_1 : Nat → Int64) (rudar_1 : Nat → Int64) (ruds : Int32), mf_Sum_becomeSum_L60 xn F vSign xT xB xR uds fu x4_2 udat_2 udab_2 udar_2 uds_2 = some (tg, rudat_1, rudab_1, rudar_1, ruds) → ∀ (H : Heap) (locs : List Loc) (ls : Array Slot), va_P D classes [(dat, aJ g 8 udat_2), (dab, aJ g 8 udab_2), (dar, aJ g 8 udar_2), (xs, .inr (0, [.ref xat, .ref xab, .ref xar, .ref xal, .ref xah, .int xk, .int xn])), (xat, aJ g 8 xT), (xab, aJ g 8 xB), (xar, aJ g 8 xR), (ds, .inr (0, [.ref dat, .ref dab, .ref dar, .ref dal, .ref dah, .int uds, .int uds_2]))] H → va_D A [(dat, aJ g 8 udat_2), (dab, aJ g 8 udab_2), (dar, aJ g 8 udar_2), (xs, .inr (0, [.ref xat, .ref xab, .ref xar, .ref xal, .ref xah, .int xk, .int xn])), (xat, aJ g 8 xT), (xab, aJ g 8 xB), (xar, aJ g 8 xR), (ds, .inr (0, [.ref dat, .ref dab, .ref dar, .ref dal, .ref dah, .int uds, .int uds_2]))] → va_S A s.heap H locs → lv_has ls 5 [(0, .ref ds), (2, .ref xs), (3, .int vSign), (4, .int x4_2)] → (tg = 0 → ∀ (H : Heap) (locs : List Loc) (ls : Array Slot), va_P D classes [(dat, aJ g 8 rudat_1), (dab, aJ g 8 rudab_1), (dar, aJ g 8 rudar_1), (xs, .inr (0, [.ref xat, .ref xab, .ref xar, .ref xal, .ref xah, .int xk, .int xn])), (xat, aJ g 8 xT), (xab, aJ g 8 xB), (xar, aJ g 8 xR), (ds, .inr (0, [.ref dat, .ref dab, .ref dar, .ref dal, .ref dah, .int uds, .int ruds]))] H → va_D A [(dat, aJ g 8 rudat_1), (dab, aJ g 8 rudab_1), (dar, aJ g 8 rudar_1), (xs, .inr (0, [.ref xat, .ref xab, .ref xar, .ref xal, .ref xah, .int xk, .int xn])), (xat, aJ g 8 xT), (xab, aJ g 8 xB), (xar, aJ g 8 xR), (ds, .inr (0, [.ref dat, .ref dab, .ref dar, .ref dal, .ref dah, .int uds, .int ruds]))] → va_S A s.heap H locs → lv_has ls 5 [] → W p l e rm_Sum_becomeSum2 s m args below meth c H locs 0 0 Q (F0 m 100 ls [])) → (tg = 1 → ∀ (H : Heap) (locs : List Loc) (ls : Array Slot), va_P D classes [(dat, aJ g 8 rudat_1), (dab, aJ g 8 rudab_1), (dar, aJ g 8 rudar_1), (xs, .inr (0, [.ref xat, .ref xab, .ref xar, .ref xal, .ref xah, .int xk, .int xn])), (xat, aJ g 8 xT), (xab, aJ g 8 xB), (xar, aJ g 8 xR), (ds, .inr (0, [.ref dat, .ref dab, .ref dar, .ref dal, .ref dah, .int uds, .int ruds]))] H → va_D A [(dat, aJ g 8 rudat_1), (dab, aJ g 8 rudab_1), (dar, aJ g 8 rudar_1), (xs, .inr (0, [.ref xat, .ref xab, .ref xar, .ref xal, .ref xah, .int xk, .int xn])), (xat, aJ g 8 xT), (xab, aJ g 8 xB), (xar, aJ g 8 xR), (ds, .inr (0, [.ref dat, .ref dab, .ref dar, .ref dal, .ref dah, .int uds, .int ruds]))] → va_S A s.heap H locs → lv_has ls 5 [] → W p l e rm_Sum_becomeSum2 s m args below meth c H locs 0 0 Q (F0 m 108 ls [])) → W p l e rm_Sum_becomeSum2 s m args below meth c H locs 0 0 Q (F0 m 60 ls []) := by
    intro fu
    induction fu with
    | zero => intro x4_2 udat_2 udab_2 udar_2 uds_2 tg rudat_1 rudab_1 rudar_1 ruds hm; exact absurd (show (none : Option (Nat × (Nat → Int64) × (Nat → Int64) × (Nat → Int64) × Int32)) = some (tg, rudat_1, rudab_1, rudar_1, ruds) from hm) (fun h => nomatch h)
    | succ fu ih =>
      intro x4_2 udat_2 udab_2 udar_2 uds_2 tg rudat_1 rudab_1 rudar_1 ruds hm H locs ls hP hD hS hl kx100 kx108
      rw [mf_Sum_becomeSum_L60] at hm
      refine lv_iload hx hb d_Sum_becomeSum_60 (lv_at hl 3 rfl) ?_
      refine lv_aload_n hx hb d_Sum_becomeSum_62 rfl (lv_at hl 1 rfl) ?_
      refine va_get (D := D) (ci := 0) (v := .int xn) (C := R_Sum) (T := F_Sum) (N := 7) hx hb htt i_Sum hown hK hP 3 rfl rfl 6 (by decide) (htt _ kf_Sum_28) (fun _ h9 => h9) rfl d_Sum_becomeSum_63 ?_
      refine lv_icmp_ge (tgt := 108) hx hb d_Sum_becomeSum_66 (by decide) (fun hc => ?_) (fun hc => ?_)
      · have hm := sd_mt hc hm
        cases hm
        exact kx108 rfl H locs ls (hP.sub [0, 1, 2, 3, 4, 5, 6, 7] rfl) (hD.sub [0, 1, 2, 3, 4, 5, 6, 7] (by decide) rfl) hS (lv_sub hl [] rfl)
      · have hm := sd_mf hc hm
        refine lv_aload_n hx hb d_Sum_becomeSum_69 rfl (lv_at hl 0 rfl) ?_
        refine lv_iload_n hx hb d_Sum_becomeSum_70 rfl (lv_at hl 2 rfl) ?_
        refine lv_i2l hx hb d_Sum_becomeSum_71 rfl ?_
        refine lv_aload_n hx hb d_Sum_becomeSum_72 rfl (lv_at hl 1 rfl) ?_
        refine va_get (D := D) (ci := 0) (v := .ref xat) (C := R_Sum) (T := F_Sum) (N := 7) hx hb htt i_Sum hown hK hP 3 rfl rfl 0 (by decide) (htt _ kf_Sum_9) (fun _ h9 => h9) rfl d_Sum_becomeSum_73 ?_
        refine lv_iload hx hb d_Sum_becomeSum_76 (lv_at hl 3 rfl) ?_
        obtain ⟨h_4, hm⟩ := sd_mg hm
        refine sd_lald hx hb hK hP 4 rfl h_4 d_Sum_becomeSum_78 ?_
        refine lv_lmul hx hb d_Sum_becomeSum_79 ?_
        refine lv_aload_n hx hb d_Sum_becomeSum_80 rfl (lv_at hl 1 rfl) ?_
        refine va_get (D := D) (ci := 0) (v := .ref xab) (C := R_Sum) (T := F_Sum) (N := 7) hx hb htt i_Sum hown hK hP 3 rfl rfl 1 (by decide) (htt _ kf_Sum_13) (fun _ h9 => h9) rfl d_Sum_becomeSum_81 ?_
        refine lv_iload hx hb d_Sum_becomeSum_84 (lv_at hl 3 rfl) ?_
        obtain ⟨h_5, hm⟩ := sd_mg hm
        refine sd_lald hx hb hK hP 5 rfl h_5 d_Sum_becomeSum_86 ?_
        refine lv_aload_n hx hb d_Sum_becomeSum_87 rfl (lv_at hl 1 rfl) ?_
        refine va_get (D := D) (ci := 0) (v := .ref xar) (C := R_Sum) (T := F_Sum) (N := 7) hx hb htt i_Sum hown hK hP 3 rfl rfl 2 (by decide) (htt _ kf_Sum_16) (fun _ h9 => h9) rfl d_Sum_becomeSum_88 ?_
        refine lv_iload hx hb d_Sum_becomeSum_91 (lv_at hl 3 rfl) ?_
        obtain ⟨h_6, hm⟩ := sd_mg hm
        refine sd_lald hx hb hK hP 6 rfl h_6 d_Sum_becomeSum_93 ?_
        obtain ⟨r, uds_3, udat_3, udab_3, udar_3, hc, hm⟩ := sd_mb5 hm
        refine sd_ci1 (wr := [(xs, .inr (0, [.ref xat, .ref xab, .ref xar, .ref xal, .ref xah, .int xk, .int xn])), (xat, aJ g 8 xT), (xab, aJ g 8 xB), (xar, aJ g 8 xR)]) (w2 := [(xs, .inr (0, [.ref xat, .ref xab, .ref xar, .ref xal, .ref xah, .int xk, .int xn])), (xat, aJ g 8 xT), (xab, aJ g 8 xB), (xar, aJ g 8 xR), (ds, .inr (0, [.ref dat, .ref dab, .ref dar, .ref dal, .ref dah, .int uds, .int uds_3])), (dat, aJ g 8 udat_3), (dab, aJ g 8 udab_3), (dar, aJ g 8 udar_3)]) (sd_runV (rest := []) (As := [.long ((vSign.toInt64) * (xT x4_2.toNatClampNeg)), .long (xB x4_2.toNatClampNeg), .long (xR x4_2.toNatClampNeg)]) S (ct_Sum_add l D g ds dat dab dar dal dah (H.size) ((vSign.toInt64) * (xT x4_2.toNatClampNeg)) (xB x4_2.toNatClampNeg) (xR x4_2.toNatClampNeg) uds uds_2 udat_2 udab_2 udar_2 F (r, uds_3, udat_3, udab_3, udar_3) hc) kl_Sum_47 (by decide) (by decide) hK hP hD [7, 0, 1, 2] rfl (by decide) rfl hl d_Sum_becomeSum_94 rfl (Nat.le_of_ble_eq_true rfl) ⟨Nat.zero_le _, Nat.zero_le _⟩ 7 rfl rfl) hP hD hS hA [7, 0, 1, 2] [3, 4, 5, 6] rfl rfl (by decide) (by decide) rfl (fun H locs hP hD hS => ?_)
        refine W.eq (g2 := F0 m 97 ls [.int r]) rfl ?_
        refine lv_if_ne (tgt := 102) hx hb d_Sum_becomeSum_97 (by decide) (fun hc => ?_) (fun hc => ?_)
        · have hm := sd_mf hc hm
          obtain ⟨x4_3, ex4_3, hm⟩ := sd_mlet hm
          refine lv_iinc (v := x4_3) (lv' := [(4, .int x4_3), (0, .ref ds), (2, .ref xs), (3, .int vSign)]) hx hb d_Sum_becomeSum_102 hl (k := 3) rfl (by rw [ex4_3]; rfl) (by decide) rfl (fun ls hl => ?_)
          refine lv_goto (tgt := 60) hx hb d_Sum_becomeSum_105 (by decide) ?_
          exact ih x4_3 udat_3 udab_3 udar_3 uds_3 tg rudat_1 rudab_1 rudar_1 ruds hm H locs ls (hP.sub [5, 6, 7, 0, 1, 2, 3, 4] rfl) (hD.sub [5, 6, 7, 0, 1, 2, 3, 4] (by decide) rfl) hS (lv_sub hl [1, 2, 3, 0] rfl) kx100 kx108
        · have hm := sd_mt hc hm
          cases hm
          exact kx100 rfl H locs ls (hP.sub [5, 6, 7, 0, 1, 2, 3, 4] rfl) (hD.sub [5, 6, 7, 0, 1, 2, 3, 4] (by decide) rfl) hS (lv_sub hl [] rfl)
  obtain ⟨tg, rudat_1, rudab_1, rudar_1, ruds, hc, hm⟩ := sd_mb5 hm
  refine L60 F (0 : Int32) rudat rudab rudar xn tg rudat_1 rudab_1 rudar_1 ruds hc H locs ls (hP.sub [0, 1, 2, 3, 4, 5, 6, 7] rfl) (hD.sub [0, 1, 2, 3, 4, 5, 6, 7] (by decide) rfl) hS (lv_sub hl [1, 3, 4, 0] rfl) ?_ ?_
  · intro ht H locs ls hP hD hS hl
    have hm := sd_mt ht hm
    refine lv_iconst (v := (0 : Int32)) hx hb d_Sum_becomeSum_100 (by decide) ?_
    exact sd_z1ret (u := (uds, ruds, rudat_1, rudab_1, rudar_1)) hQ hx hb hr hlk rfl hK (hP.sub [7, 0, 1, 2, 3, 4, 5, 6] rfl) (hD.sub [7, 0, 1, 2, 3, 4, 5, 6] (by decide) rfl) hS (Option.some.inj hm).symm d_Sum_becomeSum_101
  · intro ht H locs ls hP hD hS hl
    have hm := sd_mf (by rw [ht]; decide) hm
    refine lv_iconst (v := (1 : Int32)) hx hb d_Sum_becomeSum_108 (by decide) ?_
    exact sd_z1ret (u := (uds, ruds, rudat_1, rudab_1, rudar_1)) hQ hx hb hr hlk rfl hK (hP.sub [7, 0, 1, 2, 3, 4, 5, 6] rfl) (hD.sub [7, 0, 1, 2, 3, 4, 5, 6] (by decide) rfl) hS (Option.some.inj hm).symm d_Sum_becomeSum_109
theorem d_Sum_becomeInverse_0 : decode b_Sum_becomeInverse 0 = .ok (.aload_n 1, 1) := by decide +kernel
theorem d_Sum_becomeInverse_1 : decode b_Sum_becomeInverse 1 = .ok (.getfield 9, 3) := by decide +kernel
theorem d_Sum_becomeInverse_4 : decode b_Sum_becomeInverse 4 = .ok (.iconst 0, 1) := by decide +kernel
theorem d_Sum_becomeInverse_5 : decode b_Sum_becomeInverse 5 = .ok (.laload, 1) := by decide +kernel
theorem d_Sum_becomeInverse_6 : decode b_Sum_becomeInverse 6 = .ok (.lstore_n 2, 1) := by decide +kernel
theorem d_Sum_becomeInverse_7 : decode b_Sum_becomeInverse 7 = .ok (.aload_n 1, 1) := by decide +kernel
theorem d_Sum_becomeInverse_8 : decode b_Sum_becomeInverse 8 = .ok (.getfield 13, 3) := by decide +kernel
theorem d_Sum_becomeInverse_11 : decode b_Sum_becomeInverse 11 = .ok (.iconst 0, 1) := by decide +kernel
theorem d_Sum_becomeInverse_12 : decode b_Sum_becomeInverse 12 = .ok (.laload, 1) := by decide +kernel
theorem d_Sum_becomeInverse_13 : decode b_Sum_becomeInverse 13 = .ok (.lstore 4, 2) := by decide +kernel
theorem d_Sum_becomeInverse_15 : decode b_Sum_becomeInverse 15 = .ok (.aload_n 1, 1) := by decide +kernel
theorem d_Sum_becomeInverse_16 : decode b_Sum_becomeInverse 16 = .ok (.getfield 16, 3) := by decide +kernel
theorem d_Sum_becomeInverse_19 : decode b_Sum_becomeInverse 19 = .ok (.iconst 0, 1) := by decide +kernel
theorem d_Sum_becomeInverse_20 : decode b_Sum_becomeInverse 20 = .ok (.laload, 1) := by decide +kernel
theorem d_Sum_becomeInverse_21 : decode b_Sum_becomeInverse 21 = .ok (.lstore 6, 2) := by decide +kernel
theorem d_Sum_becomeInverse_23 : decode b_Sum_becomeInverse 23 = .ok (.lload 4, 2) := by decide +kernel
theorem d_Sum_becomeInverse_25 : decode b_Sum_becomeInverse 25 = .ok (.lload 6, 2) := by decide +kernel
theorem d_Sum_becomeInverse_27 : decode b_Sum_becomeInverse 27 = .ok (.invokestatic 55, 3) := by decide +kernel
theorem d_Sum_becomeInverse_30 : decode b_Sum_becomeInverse 30 = .ok (.lstore 8, 2) := by decide +kernel
theorem d_Sum_becomeInverse_32 : decode b_Sum_becomeInverse 32 = .ok (.lload_n 2, 1) := by decide +kernel
theorem d_Sum_becomeInverse_33 : decode b_Sum_becomeInverse 33 = .ok (.invokestatic 61, 3) := by decide +kernel
theorem d_Sum_becomeInverse_36 : decode b_Sum_becomeInverse 36 = .ok (.lload 6, 2) := by decide +kernel
theorem d_Sum_becomeInverse_38 : decode b_Sum_becomeInverse 38 = .ok (.lload 8, 2) := by decide +kernel
theorem d_Sum_becomeInverse_40 : decode b_Sum_becomeInverse 40 = .ok (.ldiv, 1) := by decide +kernel
theorem d_Sum_becomeInverse_41 : decode b_Sum_becomeInverse 41 = .ok (.lmul, 1) := by decide +kernel
theorem d_Sum_becomeInverse_42 : decode b_Sum_becomeInverse 42 = .ok (.lstore 10, 2) := by decide +kernel
theorem d_Sum_becomeInverse_44 : decode b_Sum_becomeInverse 44 = .ok (.lload 10, 2) := by decide +kernel
theorem d_Sum_becomeInverse_46 : decode b_Sum_becomeInverse 46 = .ok (.invokestatic 67, 3) := by decide +kernel
theorem d_Sum_becomeInverse_49 : decode b_Sum_becomeInverse 49 = .ok (.ifCond .eq 5, 3) := by decide +kernel
theorem d_Sum_becomeInverse_52 : decode b_Sum_becomeInverse 52 = .ok (.iconst 0, 1) := by decide +kernel
theorem d_Sum_becomeInverse_53 : decode b_Sum_becomeInverse 53 = .ok (.ireturn, 1) := by decide +kernel
theorem d_Sum_becomeInverse_54 : decode b_Sum_becomeInverse 54 = .ok (.aload_n 0, 1) := by decide +kernel
theorem d_Sum_becomeInverse_55 : decode b_Sum_becomeInverse 55 = .ok (.lload_n 2, 1) := by decide +kernel
theorem d_Sum_becomeInverse_56 : decode b_Sum_becomeInverse 56 = .ok (.lconst 0, 1) := by decide +kernel
theorem d_Sum_becomeInverse_57 : decode b_Sum_becomeInverse 57 = .ok (.lcmp, 1) := by decide +kernel
theorem d_Sum_becomeInverse_58 : decode b_Sum_becomeInverse 58 = .ok (.ifCond .ge 12, 3) := by decide +kernel
theorem d_Sum_becomeInverse_61 : decode b_Sum_becomeInverse 61 = .ok (.lload 4, 2) := by decide +kernel
theorem d_Sum_becomeInverse_63 : decode b_Sum_becomeInverse 63 = .ok (.lload 8, 2) := by decide +kernel
theorem d_Sum_becomeInverse_65 : decode b_Sum_becomeInverse 65 = .ok (.ldiv, 1) := by decide +kernel
theorem d_Sum_becomeInverse_66 : decode b_Sum_becomeInverse 66 = .ok (.lneg, 1) := by decide +kernel
theorem d_Sum_becomeInverse_67 : decode b_Sum_becomeInverse 67 = .ok (.goto 8, 3) := by decide +kernel
theorem d_Sum_becomeInverse_70 : decode b_Sum_becomeInverse 70 = .ok (.lload 4, 2) := by decide +kernel
theorem d_Sum_becomeInverse_72 : decode b_Sum_becomeInverse 72 = .ok (.lload 8, 2) := by decide +kernel
theorem d_Sum_becomeInverse_74 : decode b_Sum_becomeInverse 74 = .ok (.ldiv, 1) := by decide +kernel
theorem d_Sum_becomeInverse_75 : decode b_Sum_becomeInverse 75 = .ok (.lload 10, 2) := by decide +kernel
theorem d_Sum_becomeInverse_77 : decode b_Sum_becomeInverse 77 = .ok (.lload 6, 2) := by decide +kernel
theorem d_Sum_becomeInverse_79 : decode b_Sum_becomeInverse 79 = .ok (.invokevirtual 71, 3) := by decide +kernel
theorem d_Sum_becomeInverse_82 : decode b_Sum_becomeInverse 82 = .ok (.iconst 1, 1) := by decide +kernel
theorem d_Sum_becomeInverse_83 : decode b_Sum_becomeInverse 83 = .ok (.ireturn, 1) := by decide +kernel
def mf_Sum_becomeInverse (F : Nat) (dk : Int32) (dn : Int32) (dT : Nat → Int64) (dB : Nat → Int64) (dR : Nat → Int64) (xk : Int32) (xn : Int32) (xT : Nat → Int64) (xB : Nat → Int64) (xR : Nat → Int64) : Option (Int32 × Int32 × Int32 × (Nat → Int64) × (Nat → Int64) × (Nat → Int64)) :=
  (sd_let ((xT (0 : Int32).toNatClampNeg)) fun x2 => (sd_let ((xB (0 : Int32).toNatClampNeg)) fun x4 => (sd_let ((xR (0 : Int32).toNatClampNeg)) fun x6 => (sd_b1 (mf_Whole_commonDivisor F x4 x6) fun r => (sd_g (sd_zJ r) (sd_let (((if 0 < x2 then x2 else -x2) * (x6 / r))) fun x10 => (sd_b1 (mf_Whole_isTooGreat F x10) fun r_1 => (if r_1 = 0 then (sd_b1 (if (0 : Int64) ≤ x2 then (sd_g (sd_zJ r) (some ((x4 / r)))) else (sd_g (sd_zJ r) (some ((-(x4 / r)))))) fun y => (sd_b5 (mf_Sum_become F y x10 x6 dk dn dT dB dR) fun uds uds_1 udat udab udar => (some ((1 : Int32), uds, uds_1, udat, udab, udar)))) else (some ((0 : Int32), dk, dn, dT, dB, dR))))))))))
abbrev rm_Sum_becomeInverse : Room := { frames := 2, cells := 0, slots := 0, locals := 53 }
set_option maxHeartbeats 4000000 in
set_option maxRecDepth 100000 in
theorem ct_Sum_becomeInverse (l : Launch) (D : va_G) (g : G4) (ds : Nat) (dat : Nat) (dab : Nat) (dar : Nat) (dal : Nat) (dah : Nat) (xs : Nat) (xat : Nat) (xab : Nat) (xar : Nat) (xal : Nat) (xah : Nat) (sz : Nat) (dk : Int32) (dn : Int32) (dT : Nat → Int64) (dB : Nat → Int64) (dR : Nat → Int64) (xk : Int32) (xn : Int32) (xT : Nat → Int64) (xB : Nat → Int64) (xR : Nat → Int64) (F : Nat) (res : Int32 × Int32 × Int32 × (Nat → Int64) × (Nat → Int64) × (Nat → Int64)) (hm : mf_Sum_becomeInverse F dk dn dT dB dR xk xn xT xB xR = some res) : Met l y_Sum_becomeInverse (.code y_Sum_becomeInverse b_Sum_becomeInverse 12 (some .boolean) :: sd_tb) rm_Sum_becomeInverse (sd_PW D g [.ref ds, .ref xs] sz [(ds, .inr (0, [.ref dat, .ref dab, .ref dar, .ref dal, .ref dah, .int dk, .int dn])), (dat, aJ g 8 dT), (dab, aJ g 8 dB), (dar, aJ g 8 dR), (xs, .inr (0, [.ref xat, .ref xab, .ref xar, .ref xal, .ref xah, .int xk, .int xn])), (xat, aJ g 8 xT), (xab, aJ g 8 xB), (xar, aJ g 8 xR)]) (sd_Qi1 D g res (fun u : Int32 × Int32 × (Nat → Int64) × (Nat → Int64) × (Nat → Int64) => [(ds, .inr (0, [.ref dat, .ref dab, .ref dar, .ref dal, .ref dah, .int (u.1), .int (u.2.1)])), (dat, aJ g 8 (u.2.2.1)), (dab, aJ g 8 (u.2.2.2.1)), (dar, aJ g 8 (u.2.2.2.2)), (xs, .inr (0, [.ref xat, .ref xab, .ref xar, .ref xal, .ref xah, .int xk, .int xn])), (xat, aJ g 8 xT), (xab, aJ g 8 xB), (xar, aJ g 8 xR)]) (va_A [(ds, .inr (0, [.ref dat, .ref dab, .ref dar, .ref dal, .ref dah, .int dk, .int dn])), (dat, aJ g 8 dT), (dab, aJ g 8 dB), (dar, aJ g 8 dR), (xs, .inr (0, [.ref xat, .ref xab, .ref xar, .ref xal, .ref xah, .int xk, .int xn])), (xat, aJ g 8 xT), (xab, aJ g 8 xB), (xar, aJ g 8 xR)] sz)) 0 0 (va_A [(ds, .inr (0, [.ref dat, .ref dab, .ref dar, .ref dal, .ref dah, .int dk, .int dn])), (dat, aJ g 8 dT), (dab, aJ g 8 dB), (dar, aJ g 8 dR), (xs, .inr (0, [.ref xat, .ref xab, .ref xar, .ref xal, .ref xah, .int xk, .int xn])), (xat, aJ g 8 xT), (xab, aJ g 8 xB), (xar, aJ g 8 xR)] sz) := by
  refine sd_met (Qf := fun A => sd_Qi1 D g res (fun u : Int32 × Int32 × (Nat → Int64) × (Nat → Int64) × (Nat → Int64) => [(ds, .inr (0, [.ref dat, .ref dab, .ref dar, .ref dal, .ref dah, .int (u.1), .int (u.2.1)])), (dat, aJ g 8 (u.2.2.1)), (dab, aJ g 8 (u.2.2.2.1)), (dar, aJ g 8 (u.2.2.2.2)), (xs, .inr (0, [.ref xat, .ref xab, .ref xar, .ref xal, .ref xah, .int xk, .int xn])), (xat, aJ g 8 xT), (xab, aJ g 8 xB), (xar, aJ g 8 xR)]) A) (own := R_Sum) (by decide +kernel) rfl (Nat.le_of_ble_eq_true rfl) ?_
  intro p e s m args below meth c S hr hlk hK A hA Q hQ H locs hP hD hS ls hl
  have hx := S.1
  have hb := S.2.1
  have hml := S.2.2.1
  have hown := S.2.2.2.1
  have htt := sd_tt S
  replace hl : lv_has ls 12 [(0, .ref ds), (1, .ref xs)] := hl
  unfold mf_Sum_becomeInverse at hm
  refine lv_aload_n hx hb d_Sum_becomeInverse_0 rfl (lv_at hl 1 rfl) ?_
  refine va_get (D := D) (ci := 0) (v := .ref xat) (C := R_Sum) (T := F_Sum) (N := 7) hx hb htt i_Sum hown hK hP 4 rfl rfl 0 (by decide) (htt _ kf_Sum_9) (fun _ h9 => h9) rfl d_Sum_becomeInverse_1 ?_
  refine lv_iconst (v := (0 : Int32)) hx hb d_Sum_becomeInverse_4 (by decide) ?_
  refine sd_lald hx hb hK hP 5 rfl (by decide) d_Sum_becomeInverse_5 ?_
  obtain ⟨x2, ex2, hm⟩ := sd_mlet hm
  refine sd_topj ex2 ?_
  refine lv_lstore_n (lv' := [(2, .long x2), (0, .ref ds), (1, .ref xs)]) hx hb d_Sum_becomeInverse_6 rfl hl (by decide) rfl (fun ls hl => ?_)
  refine lv_aload_n hx hb d_Sum_becomeInverse_7 rfl (lv_at hl 2 rfl) ?_
  refine va_get (D := D) (ci := 0) (v := .ref xab) (C := R_Sum) (T := F_Sum) (N := 7) hx hb htt i_Sum hown hK hP 4 rfl rfl 1 (by decide) (htt _ kf_Sum_13) (fun _ h9 => h9) rfl d_Sum_becomeInverse_8 ?_
  refine lv_iconst (v := (0 : Int32)) hx hb d_Sum_becomeInverse_11 (by decide) ?_
  refine sd_lald hx hb hK hP 6 rfl (by decide) d_Sum_becomeInverse_12 ?_
  obtain ⟨x4, ex4, hm⟩ := sd_mlet hm
  refine sd_topj ex4 ?_
  refine lv_lstore (lv' := [(4, .long x4), (2, .long x2), (0, .ref ds), (1, .ref xs)]) hx hb d_Sum_becomeInverse_13 hl (by decide) rfl (fun ls hl => ?_)
  refine lv_aload_n hx hb d_Sum_becomeInverse_15 rfl (lv_at hl 3 rfl) ?_
  refine va_get (D := D) (ci := 0) (v := .ref xar) (C := R_Sum) (T := F_Sum) (N := 7) hx hb htt i_Sum hown hK hP 4 rfl rfl 2 (by decide) (htt _ kf_Sum_16) (fun _ h9 => h9) rfl d_Sum_becomeInverse_16 ?_
  refine lv_iconst (v := (0 : Int32)) hx hb d_Sum_becomeInverse_19 (by decide) ?_
  refine sd_lald hx hb hK hP 7 rfl (by decide) d_Sum_becomeInverse_20 ?_
  obtain ⟨x6, ex6, hm⟩ := sd_mlet hm
  refine sd_topj ex6 ?_
  refine lv_lstore (lv' := [(6, .long x6), (4, .long x4), (2, .long x2), (0, .ref ds), (1, .ref xs)]) hx hb d_Sum_becomeInverse_21 hl (by decide) rfl (fun ls hl => ?_)
  refine lv_lload hx hb d_Sum_becomeInverse_23 (lv_at hl 1 rfl) ?_
  refine lv_lload hx hb d_Sum_becomeInverse_25 (lv_at hl 0 rfl) ?_
  obtain ⟨r, hc, hm⟩ := sd_mb1 hm
  refine sd_cl0 (wr := [(ds, .inr (0, [.ref dat, .ref dab, .ref dar, .ref dal, .ref dah, .int dk, .int dn])), (dat, aJ g 8 dT), (dab, aJ g 8 dB), (dar, aJ g 8 dR), (xs, .inr (0, [.ref xat, .ref xab, .ref xar, .ref xal, .ref xah, .int xk, .int xn])), (xat, aJ g 8 xT), (xab, aJ g 8 xB), (xar, aJ g 8 xR)]) (w2 := [(ds, .inr (0, [.ref dat, .ref dab, .ref dar, .ref dal, .ref dah, .int dk, .int dn])), (dat, aJ g 8 dT), (dab, aJ g 8 dB), (dar, aJ g 8 dR), (xs, .inr (0, [.ref xat, .ref xab, .ref xar, .ref xal, .ref xah, .int xk, .int xn])), (xat, aJ g 8 xT), (xab, aJ g 8 xB), (xar, aJ g 8 xR)]) (sd_runS (rest := []) (As := [.long x4, .long x6]) S (ct_Whole_commonDivisor l D g (H.size) x4 x6 F (r) hc) kl_Sum_55 (by decide) (by decide) hK hP hD [] rfl (by decide) rfl hl d_Sum_becomeInverse_27 rfl (Nat.le_of_ble_eq_true rfl) ⟨Nat.zero_le _, Nat.zero_le _⟩) hP hD hS hA [] [0, 1, 2, 3, 4, 5, 6, 7] rfl rfl (by decide) (by decide) rfl (fun H locs hP hD hS => ?_)
  refine W.eq (g2 := F0 m 30 ls [.long r]) rfl ?_
  refine lv_lstore (lv' := [(8, .long r), (6, .long x6), (4, .long x4), (2, .long x2), (0, .ref ds), (1, .ref xs)]) hx hb d_Sum_becomeInverse_30 hl (by decide) rfl (fun ls hl => ?_)
  refine lv_lload_n hx hb d_Sum_becomeInverse_32 rfl (lv_at hl 3 rfl) ?_
  refine sd_abs hx hb hml hown kl_Sum_61 htt hl d_Sum_becomeInverse_33 (Nat.le_of_ble_eq_true rfl) (Nat.le_of_ble_eq_true rfl) ?_
  refine lv_lload hx hb d_Sum_becomeInverse_36 (lv_at hl 1 rfl) ?_
  refine lv_lload hx hb d_Sum_becomeInverse_38 (lv_at hl 0 rfl) ?_
  obtain ⟨h_1, hm⟩ := sd_mg hm
  refine lv_ldiv hx hb d_Sum_becomeInverse_40 (sd_nzJ h_1) ?_
  refine lv_lmul hx hb d_Sum_becomeInverse_41 ?_
  obtain ⟨x10, ex10, hm⟩ := sd_mlet hm
  refine sd_topj ex10 ?_
  refine lv_lstore (lv' := [(10, .long x10), (8, .long r), (6, .long x6), (4, .long x4), (2, .long x2), (0, .ref ds), (1, .ref xs)]) hx hb d_Sum_becomeInverse_42 hl (by decide) rfl (fun ls hl => ?_)
  refine lv_lload hx hb d_Sum_becomeInverse_44 (lv_at hl 0 rfl) ?_
  obtain ⟨r_1, hc, hm⟩ := sd_mb1 hm
  refine sd_ci0 (wr := [(ds, .inr (0, [.ref dat, .ref dab, .ref dar, .ref dal, .ref dah, .int dk, .int dn])), (dat, aJ g 8 dT), (dab, aJ g 8 dB), (dar, aJ g 8 dR), (xs, .inr (0, [.ref xat, .ref xab, .ref xar, .ref xal, .ref xah, .int xk, .int xn])), (xat, aJ g 8 xT), (xab, aJ g 8 xB), (xar, aJ g 8 xR)]) (w2 := [(ds, .inr (0, [.ref dat, .ref dab, .ref dar, .ref dal, .ref dah, .int dk, .int dn])), (dat, aJ g 8 dT), (dab, aJ g 8 dB), (dar, aJ g 8 dR), (xs, .inr (0, [.ref xat, .ref xab, .ref xar, .ref xal, .ref xah, .int xk, .int xn])), (xat, aJ g 8 xT), (xab, aJ g 8 xB), (xar, aJ g 8 xR)]) (sd_runS (rest := []) (As := [.long x10]) S (ct_Whole_isTooGreat l D g (H.size) x10 F (r_1) hc) kl_Sum_67 (by decide) (by decide) hK hP hD [] rfl (by decide) rfl hl d_Sum_becomeInverse_46 rfl (Nat.le_of_ble_eq_true rfl) ⟨Nat.zero_le _, Nat.zero_le _⟩) hP hD hS hA [] [0, 1, 2, 3, 4, 5, 6, 7] rfl rfl (by decide) (by decide) rfl (fun H locs hP hD hS => ?_)
  refine W.eq (g2 := F0 m 49 ls [.int r_1]) rfl ?_
  refine lv_if_eq (tgt := 54) hx hb d_Sum_becomeInverse_49 (by decide) (fun hc => ?_) (fun hc => ?_)
  · have hm := sd_mt hc hm
    refine lv_aload_n hx hb d_Sum_becomeInverse_54 rfl (lv_at hl 5 rfl) ?_
    refine lv_lload_n hx hb d_Sum_becomeInverse_55 rfl (lv_at hl 4 rfl) ?_
    refine lv_lconst (v := (0 : Int64)) hx hb d_Sum_becomeInverse_56 (by decide) ?_
    obtain ⟨y, hv, hm⟩ := sd_mb1 hm
    have J75_2 : ∀ (H : Heap) (locs : List Loc) (ls : Array Slot), va_P D classes [(ds, .inr (0, [.ref dat, .ref dab, .ref dar, .ref dal, .ref dah, .int dk, .int dn])), (dat, aJ g 8 dT), (dab, aJ g 8 dB), (dar, aJ g 8 dR), (xs, .inr (0, [.ref xat, .ref xab, .ref xar, .ref xal, .ref xah, .int xk, .int xn])), (xat, aJ g 8 xT), (xab, aJ g 8 xB), (xar, aJ g 8 xR)] H → va_D A [(ds, .inr (0, [.ref dat, .ref dab, .ref dar, .ref dal, .ref dah, .int dk, .int dn])), (dat, aJ g 8 dT), (dab, aJ g 8 dB), (dar, aJ g 8 dR), (xs, .inr (0, [.ref xat, .ref xab, .ref xar, .ref xal, .ref xah, .int xk, .int xn])), (xat, aJ g 8 xT), (xab, aJ g 8 xB), (xar, aJ g 8 xR)] → va_S A s.heap H locs → lv_has ls 12 [(6, .long x6), (10, .long x10)] → W p l e rm_Sum_becomeInverse s m args below meth c H locs 0 0 Q (F0 m 75 ls [.long y, .ref ds]) := by
      intro H locs ls hP hD hS hl
      refine lv_lload hx hb d_Sum_becomeInverse_75 (lv_at hl 1 rfl) ?_
      refine lv_lload hx hb d_Sum_becomeInverse_77 (lv_at hl 0 rfl) ?_
      obtain ⟨uds, uds_1, udat, udab, udar, hc, hm⟩ := sd_mb5 hm
      refine sd_cv1 (wr := [(xs, .inr (0, [.ref xat, .ref xab, .ref xar, .ref xal, .ref xah, .int xk, .int xn])), (xat, aJ g 8 xT), (xab, aJ g 8 xB), (xar, aJ g 8 xR)]) (w2 := [(xs, .inr (0, [.ref xat, .ref xab, .ref xar, .ref xal, .ref xah, .int xk, .int xn])), (xat, aJ g 8 xT), (xab, aJ g 8 xB), (xar, aJ g 8 xR), (ds, .inr (0, [.ref dat, .ref dab, .ref dar, .ref dal, .ref dah, .int uds, .int uds_1])), (dat, aJ g 8 udat), (dab, aJ g 8 udab), (dar, aJ g 8 udar)]) (sd_runV (rest := []) (As := [.long y, .long x10, .long x6]) S (ct_Sum_become l D g ds dat dab dar dal dah (H.size) y x10 x6 dk dn dT dB dR F (uds, uds_1, udat, udab, udar) hc) kl_Sum_71 (by decide) (by decide) hK hP hD [0, 1, 2, 3] rfl (by decide) rfl hl d_Sum_becomeInverse_79 rfl (Nat.le_of_ble_eq_true rfl) ⟨Nat.zero_le _, Nat.zero_le _⟩ 0 rfl rfl) hP hD hS hA [0, 1, 2, 3] [4, 5, 6, 7] rfl rfl (by decide) (by decide) rfl (fun H locs hP hD hS => ?_)
      refine lv_iconst (v := (1 : Int32)) hx hb d_Sum_becomeInverse_82 (by decide) ?_
      exact sd_z1ret (u := (uds, uds_1, udat, udab, udar)) hQ hx hb hr hlk rfl hK (hP.sub [4, 5, 6, 7, 0, 1, 2, 3] rfl) (hD.sub [4, 5, 6, 7, 0, 1, 2, 3] (by decide) rfl) hS (Option.some.inj hm).symm d_Sum_becomeInverse_83
    replace hm := hv
    refine sd_lge (tgt := 70) hx hb d_Sum_becomeInverse_57 d_Sum_becomeInverse_58 (by decide) (fun hc => ?_) (fun hc => ?_)
    · have hm := sd_mt hc hm
      refine lv_lload hx hb d_Sum_becomeInverse_70 (lv_at hl 3 rfl) ?_
      refine lv_lload hx hb d_Sum_becomeInverse_72 (lv_at hl 1 rfl) ?_
      obtain ⟨h_3, hm⟩ := sd_mg hm
      refine lv_ldiv hx hb d_Sum_becomeInverse_74 (sd_nzJ h_3) ?_
      cases hm
      exact J75_2 H locs ls (hP.sub [0, 1, 2, 3, 4, 5, 6, 7] rfl) (hD.sub [0, 1, 2, 3, 4, 5, 6, 7] (by decide) rfl) hS (lv_sub hl [2, 0] rfl)
    · have hm := sd_mf hc hm
      refine lv_lload hx hb d_Sum_becomeInverse_61 (lv_at hl 3 rfl) ?_
      refine lv_lload hx hb d_Sum_becomeInverse_63 (lv_at hl 1 rfl) ?_
      obtain ⟨h_4, hm⟩ := sd_mg hm
      refine lv_ldiv hx hb d_Sum_becomeInverse_65 (sd_nzJ h_4) ?_
      refine lv_lneg hx hb d_Sum_becomeInverse_66 ?_
      refine lv_goto (tgt := 75) hx hb d_Sum_becomeInverse_67 (by decide) ?_
      cases hm
      exact J75_2 H locs ls (hP.sub [0, 1, 2, 3, 4, 5, 6, 7] rfl) (hD.sub [0, 1, 2, 3, 4, 5, 6, 7] (by decide) rfl) hS (lv_sub hl [2, 0] rfl)
  · have hm := sd_mf hc hm
    refine lv_iconst (v := (0 : Int32)) hx hb d_Sum_becomeInverse_52 (by decide) ?_
    exact sd_z1ret (u := (dk, dn, dT, dB, dR)) hQ hx hb hr hlk rfl hK (hP.sub [0, 1, 2, 3, 4, 5, 6, 7] rfl) (hD.sub [0, 1, 2, 3, 4, 5, 6, 7] (by decide) rfl) hS (Option.some.inj hm).symm d_Sum_becomeInverse_53
