/-! Teller_order, Teller_order2, Teller_haveSameWhole, Teller_sizes, Doubles_join, Doubles_ofFraction, Doubles_highest, Doubles_ofSize, Doubles_areNear, Page_length, Page_at, Page_put, Page_draftWhole, Page_draftFraction, Page_draftEnds, Page_keep -/
theorem kf_Page_13 : Cond.fieldLink R_Page 13 "SurdDesk$Page" "draft" "[B" ∈ sd_tb := (sd_in (List.mem_of_getElem? (i := 147) (by decide +kernel)) rfl)
theorem kf_Page_16 : Cond.fieldLink R_Page 16 "SurdDesk$Page" "keptLength" "I" ∈ sd_tb := (sd_in (List.mem_of_getElem? (i := 148) (by decide +kernel)) rfl)
theorem kf_Page_20 : Cond.fieldLink R_Page 20 "SurdDesk$Page" "draftLength" "I" ∈ sd_tb := (sd_in (List.mem_of_getElem? (i := 149) (by decide +kernel)) rfl)
theorem kf_Page_9 : Cond.fieldLink R_Page 9 "SurdDesk$Page" "kept" "[B" ∈ sd_tb := (sd_in (List.mem_of_getElem? (i := 146) (by decide +kernel)) rfl)
theorem kf_Teller_15 : Cond.fieldLink R_Teller 15 "SurdDesk$Sum" "low" "[I" ∈ sd_tb := (sd_in (List.mem_of_getElem? (i := 75) (by decide +kernel)) rfl)
theorem kf_Teller_9 : Cond.fieldLink R_Teller 9 "SurdDesk$Sum" "high" "[I" ∈ sd_tb := (sd_in (List.mem_of_getElem? (i := 79) (by decide +kernel)) rfl)
theorem kl_Doubles_17 : sd_LS R_Doubles 17 y_Doubles_join b_Doubles_join 10 (some .long) 4 := ⟨(sd_in (List.mem_of_getElem? (i := 481) (by decide +kernel)) rfl), (sd_in (List.mem_of_getElem? (i := 482) (by decide +kernel)) rfl), (sd_in (List.mem_of_getElem? (i := 49) (by decide +kernel)) rfl), (sd_in (List.mem_of_getElem? (i := 483) (by decide +kernel)) rfl), by decide +kernel, by decide +kernel, by decide +kernel⟩
theorem kl_Doubles_21 : sd_LS R_Doubles 21 y_Wide_bitLength b_Wide_bitLength 4 (some .int) 1 := ⟨(sd_in (List.mem_of_getElem? (i := 489) (by decide +kernel)) rfl), (sd_in (List.mem_of_getElem? (i := 490) (by decide +kernel)) rfl), (sd_in (List.mem_of_getElem? (i := 45) (by decide +kernel)) rfl), (sd_in (List.mem_of_getElem? (i := 491) (by decide +kernel)) rfl), by decide +kernel, by decide +kernel, by decide +kernel⟩
theorem kl_Doubles_27 : sd_LS R_Doubles 27 y_Doubles_highest b_Doubles_highest 2 (some .long) 2 := ⟨(sd_in (List.mem_of_getElem? (i := 493) (by decide +kernel)) rfl), (sd_in (List.mem_of_getElem? (i := 494) (by decide +kernel)) rfl), (sd_in (List.mem_of_getElem? (i := 49) (by decide +kernel)) rfl), (sd_in (List.mem_of_getElem? (i := 495) (by decide +kernel)) rfl), by decide +kernel, by decide +kernel, by decide +kernel⟩
theorem kl_Doubles_31 : sd_LS R_Doubles 31 y_Wide_bits b_Wide_bits 6 (some .long) 3 := ⟨(sd_in (List.mem_of_getElem? (i := 496) (by decide +kernel)) rfl), (sd_in (List.mem_of_getElem? (i := 497) (by decide +kernel)) rfl), (sd_in (List.mem_of_getElem? (i := 45) (by decide +kernel)) rfl), (sd_in (List.mem_of_getElem? (i := 498) (by decide +kernel)) rfl), by decide +kernel, by decide +kernel, by decide +kernel⟩
theorem kl_Doubles_7 : sd_LS R_Doubles 7 Lib.MathLoose.abs_long.x Lib.MathLoose.abs_long.code 2 (some .long) 1 := ⟨(sd_in (List.mem_of_getElem? (i := 479) (by decide +kernel)) rfl), (sd_in (List.mem_of_getElem? (i := 257) (by decide +kernel)) rfl), (sd_in (List.mem_of_getElem? (i := 42) (by decide +kernel)) rfl), (sd_in (List.mem_of_getElem? (i := 258) (by decide +kernel)) rfl), by decide +kernel, by decide +kernel, by decide +kernel⟩
theorem kl_Page_23 : sd_LS R_Page 23 Lib.MathLoose.abs_long.x Lib.MathLoose.abs_long.code 2 (some .long) 1 := ⟨(sd_in (List.mem_of_getElem? (i := 386) (by decide +kernel)) rfl), (sd_in (List.mem_of_getElem? (i := 257) (by decide +kernel)) rfl), (sd_in (List.mem_of_getElem? (i := 42) (by decide +kernel)) rfl), (sd_in (List.mem_of_getElem? (i := 258) (by decide +kernel)) rfl), by decide +kernel, by decide +kernel, by decide +kernel⟩
theorem kl_Page_29 : sd_LV R_Page 29 y_Page_draftWhole b_Page_draftWhole 9 none 3 := ⟨(sd_in (List.mem_of_getElem? (i := 387) (by decide +kernel)) rfl), (sd_in (List.mem_of_getElem? (i := 389) (by decide +kernel)) rfl), (sd_in (List.mem_of_getElem? (i := 12) (by decide +kernel)) rfl), (sd_in (List.mem_of_getElem? (i := 39) (by decide +kernel)) rfl), (sd_in (List.mem_of_getElem? (i := 390) (by decide +kernel)) rfl), by decide +kernel, by decide +kernel, by decide +kernel⟩
theorem kl_Page_37 : sd_LV R_Page 37 y_Page_put b_Page_put 2 none 1 := ⟨(sd_in (List.mem_of_getElem? (i := 391) (by decide +kernel)) rfl), (sd_in (List.mem_of_getElem? (i := 393) (by decide +kernel)) rfl), (sd_in (List.mem_of_getElem? (i := 13) (by decide +kernel)) rfl), (sd_in (List.mem_of_getElem? (i := 39) (by decide +kernel)) rfl), (sd_in (List.mem_of_getElem? (i := 394) (by decide +kernel)) rfl), by decide +kernel, by decide +kernel, by decide +kernel⟩
theorem kl_Page_41 : sd_LS R_Page 41 y_Wide_whole b_Wide_whole 4 (some .long) 1 := ⟨(sd_in (List.mem_of_getElem? (i := 415) (by decide +kernel)) rfl), (sd_in (List.mem_of_getElem? (i := 374) (by decide +kernel)) rfl), (sd_in (List.mem_of_getElem? (i := 45) (by decide +kernel)) rfl), (sd_in (List.mem_of_getElem? (i := 375) (by decide +kernel)) rfl), by decide +kernel, by decide +kernel, by decide +kernel⟩
theorem kl_Page_47 : sd_LS R_Page 47 y_Wide_nextPlace b_Wide_nextPlace 3 (some .int) 1 := ⟨(sd_in (List.mem_of_getElem? (i := 416) (by decide +kernel)) rfl), (sd_in (List.mem_of_getElem? (i := 417) (by decide +kernel)) rfl), (sd_in (List.mem_of_getElem? (i := 45) (by decide +kernel)) rfl), (sd_in (List.mem_of_getElem? (i := 418) (by decide +kernel)) rfl), by decide +kernel, by decide +kernel, by decide +kernel⟩
theorem kl_Teller_18 : sd_LS R_Teller 18 y_Wide_isBelow b_Wide_isBelow 3 (some .boolean) 2 := ⟨(sd_in (List.mem_of_getElem? (i := 359) (by decide +kernel)) rfl), (sd_in (List.mem_of_getElem? (i := 360) (by decide +kernel)) rfl), (sd_in (List.mem_of_getElem? (i := 45) (by decide +kernel)) rfl), (sd_in (List.mem_of_getElem? (i := 361) (by decide +kernel)) rfl), by decide +kernel, by decide +kernel, by decide +kernel⟩
theorem kl_Teller_24 : sd_LS R_Teller 24 y_Wide_whole b_Wide_whole 4 (some .long) 1 := ⟨(sd_in (List.mem_of_getElem? (i := 373) (by decide +kernel)) rfl), (sd_in (List.mem_of_getElem? (i := 374) (by decide +kernel)) rfl), (sd_in (List.mem_of_getElem? (i := 45) (by decide +kernel)) rfl), (sd_in (List.mem_of_getElem? (i := 375) (by decide +kernel)) rfl), by decide +kernel, by decide +kernel, by decide +kernel⟩
theorem kl_Teller_28 : sd_LS R_Teller 28 y_Wide_size b_Wide_size 2 none 2 := ⟨(sd_in (List.mem_of_getElem? (i := 404) (by decide +kernel)) rfl), (sd_in (List.mem_of_getElem? (i := 405) (by decide +kernel)) rfl), (sd_in (List.mem_of_getElem? (i := 45) (by decide +kernel)) rfl), (sd_in (List.mem_of_getElem? (i := 406) (by decide +kernel)) rfl), by decide +kernel, by decide +kernel, by decide +kernel⟩
theorem kl_Teller_32 : sd_LS R_Teller 32 y_Wide_topOf b_Wide_topOf 2 (some .int) 1 := ⟨(sd_in (List.mem_of_getElem? (i := 410) (by decide +kernel)) rfl), (sd_in (List.mem_of_getElem? (i := 338) (by decide +kernel)) rfl), (sd_in (List.mem_of_getElem? (i := 45) (by decide +kernel)) rfl), (sd_in (List.mem_of_getElem? (i := 339) (by decide +kernel)) rfl), by decide +kernel, by decide +kernel, by decide +kernel⟩
theorem km_Doubles_15 : Cond.constantLong R_Doubles 15 (2 : Int64) ∈ sd_tb := (sd_in (List.mem_of_getElem? (i := 480) (by decide +kernel)) rfl)
theorem km_Doubles_35 : Cond.constantLong R_Doubles 35 (4503599627370496 : Int64) ∈ sd_tb := (sd_in (List.mem_of_getElem? (i := 484) (by decide +kernel)) rfl)
theorem km_Doubles_37 : Cond.constantLong R_Doubles 37 (-9223372036854775808 : Int64) ∈ sd_tb := (sd_in (List.mem_of_getElem? (i := 485) (by decide +kernel)) rfl)
theorem km_Page_33 : Cond.constantLong R_Page 33 (10 : Int64) ∈ sd_tb := (sd_in (List.mem_of_getElem? (i := 395) (by decide +kernel)) rfl)
theorem km_Page_35 : Cond.constantLong R_Page 35 (48 : Int64) ∈ sd_tb := (sd_in (List.mem_of_getElem? (i := 396) (by decide +kernel)) rfl)
theorem d_Teller_order_0 : decode b_Teller_order 0 = .ok (.aload_n 0, 1) := by decide +kernel
theorem d_Teller_order_1 : decode b_Teller_order 1 = .ok (.getfield 9, 3) := by decide +kernel
theorem d_Teller_order_4 : decode b_Teller_order 4 = .ok (.aload_n 1, 1) := by decide +kernel
theorem d_Teller_order_5 : decode b_Teller_order 5 = .ok (.getfield 15, 3) := by decide +kernel
theorem d_Teller_order_8 : decode b_Teller_order 8 = .ok (.invokestatic 18, 3) := by decide +kernel
theorem d_Teller_order_11 : decode b_Teller_order 11 = .ok (.ifCond .eq 5, 3) := by decide +kernel
theorem d_Teller_order_14 : decode b_Teller_order 14 = .ok (.iconst (-1), 1) := by decide +kernel
theorem d_Teller_order_15 : decode b_Teller_order 15 = .ok (.ireturn, 1) := by decide +kernel
theorem d_Teller_order_16 : decode b_Teller_order 16 = .ok (.aload_n 1, 1) := by decide +kernel
theorem d_Teller_order_17 : decode b_Teller_order 17 = .ok (.getfield 9, 3) := by decide +kernel
theorem d_Teller_order_20 : decode b_Teller_order 20 = .ok (.aload_n 0, 1) := by decide +kernel
theorem d_Teller_order_21 : decode b_Teller_order 21 = .ok (.getfield 15, 3) := by decide +kernel
theorem d_Teller_order_24 : decode b_Teller_order 24 = .ok (.invokestatic 18, 3) := by decide +kernel
theorem d_Teller_order_27 : decode b_Teller_order 27 = .ok (.ifCond .eq 7, 3) := by decide +kernel
theorem d_Teller_order_30 : decode b_Teller_order 30 = .ok (.iconst 1, 1) := by decide +kernel
theorem d_Teller_order_31 : decode b_Teller_order 31 = .ok (.goto 5, 3) := by decide +kernel
theorem d_Teller_order_34 : decode b_Teller_order 34 = .ok (.bipush (-4), 2) := by decide +kernel
theorem d_Teller_order_36 : decode b_Teller_order 36 = .ok (.ireturn, 1) := by decide +kernel
def mf_Teller_order (F : Nat) (xk : Int32) (xn : Int32) (xL : Nat → Int32) (xH : Nat → Int32) (yk : Int32) (yn : Int32) (yL : Nat → Int32) (yH : Nat → Int32) : Option (Int32) :=
  (sd_b1 (mf_Wide_isBelow F 68 68 xH yL) fun r => (if r = 0 then (sd_b1 (mf_Wide_isBelow F 68 68 yH xL) fun r_1 => (sd_b1 (if r_1 = 0 then (some ((-4 : Int32))) else (some ((1 : Int32)))) fun y => (some (y)))) else (some ((-1 : Int32)))))
abbrev rm_Teller_order : Room := { frames := 1, cells := 0, slots := 0, locals := 22 }
set_option maxHeartbeats 4000000 in
set_option maxRecDepth 100000 in
theorem ct_Teller_order (l : Launch) (D : va_G) (g : G4) (xs : Nat) (xat : Nat) (xab : Nat) (xar : Nat) (xal : Nat) (xah : Nat) (ys : Nat) (yat : Nat) (yab : Nat) (yar : Nat) (yal : Nat) (yah : Nat) (sz : Nat) (xk : Int32) (xn : Int32) (xL : Nat → Int32) (xH : Nat → Int32) (yk : Int32) (yn : Int32) (yL : Nat → Int32) (yH : Nat → Int32) (F : Nat) (res : Int32) (hm : mf_Teller_order F xk xn xL xH yk yn yL yH = some res) : Met l y_Teller_order (.code y_Teller_order b_Teller_order 2 (some .int) :: sd_tb) rm_Teller_order (sd_PW D g [.ref xs, .ref ys] sz [(xs, .inr (0, [.ref xat, .ref xab, .ref xar, .ref xal, .ref xah, .int xk, .int xn])), (xal, aI g 68 xL), (xah, aI g 68 xH), (ys, .inr (0, [.ref yat, .ref yab, .ref yar, .ref yal, .ref yah, .int yk, .int yn])), (yal, aI g 68 yL), (yah, aI g 68 yH)]) (sd_Qi0 D g res [(xs, .inr (0, [.ref xat, .ref xab, .ref xar, .ref xal, .ref xah, .int xk, .int xn])), (xal, aI g 68 xL), (xah, aI g 68 xH), (ys, .inr (0, [.ref yat, .ref yab, .ref yar, .ref yal, .ref yah, .int yk, .int yn])), (yal, aI g 68 yL), (yah, aI g 68 yH)] (va_A [(xs, .inr (0, [.ref xat, .ref xab, .ref xar, .ref xal, .ref xah, .int xk, .int xn])), (xal, aI g 68 xL), (xah, aI g 68 xH), (ys, .inr (0, [.ref yat, .ref yab, .ref yar, .ref yal, .ref yah, .int yk, .int yn])), (yal, aI g 68 yL), (yah, aI g 68 yH)] sz)) 0 0 (va_A [(xs, .inr (0, [.ref xat, .ref xab, .ref xar, .ref xal, .ref xah, .int xk, .int xn])), (xal, aI g 68 xL), (xah, aI g 68 xH), (ys, .inr (0, [.ref yat, .ref yab, .ref yar, .ref yal, .ref yah, .int yk, .int yn])), (yal, aI g 68 yL), (yah, aI g 68 yH)] sz) := by
  refine sd_met (Qf := fun A => sd_Qi0 D g res [(xs, .inr (0, [.ref xat, .ref xab, .ref xar, .ref xal, .ref xah, .int xk, .int xn])), (xal, aI g 68 xL), (xah, aI g 68 xH), (ys, .inr (0, [.ref yat, .ref yab, .ref yar, .ref yal, .ref yah, .int yk, .int yn])), (yal, aI g 68 yL), (yah, aI g 68 yH)] A) (own := R_Teller) (by decide +kernel) rfl (Nat.le_of_ble_eq_true rfl) ?_
  intro p e s m args below meth c S hr hlk hK A hA Q hQ H locs hP hD hS ls hl
  have hx := S.1
  have hb := S.2.1
  have hml := S.2.2.1
  have hown := S.2.2.2.1
  have htt := sd_tt S
  replace hl : lv_has ls 2 [(0, .ref xs), (1, .ref ys)] := hl
  unfold mf_Teller_order at hm
  refine lv_aload_n hx hb d_Teller_order_0 rfl (lv_at hl 0 rfl) ?_
  refine va_get (D := D) (ci := 0) (v := .ref xah) (C := R_Sum) (T := F_Sum) (N := 7) hx hb htt i_Sum hown hK hP 0 rfl rfl 4 (by decide) (htt _ kf_Teller_9) (fun _ h9 => h9) rfl d_Teller_order_1 ?_
  refine lv_aload_n hx hb d_Teller_order_4 rfl (lv_at hl 1 rfl) ?_
  refine va_get (D := D) (ci := 0) (v := .ref yal) (C := R_Sum) (T := F_Sum) (N := 7) hx hb htt i_Sum hown hK hP 3 rfl rfl 3 (by decide) (htt _ kf_Teller_15) (fun _ h9 => h9) rfl d_Teller_order_5 ?_
  obtain ⟨r, hc, hm⟩ := sd_mb1 hm
  refine sd_ci0 (wr := [(xs, .inr (0, [.ref xat, .ref xab, .ref xar, .ref xal, .ref xah, .int xk, .int xn])), (xal, aI g 68 xL), (ys, .inr (0, [.ref yat, .ref yab, .ref yar, .ref yal, .ref yah, .int yk, .int yn])), (yah, aI g 68 yH)]) (w2 := [(xs, .inr (0, [.ref xat, .ref xab, .ref xar, .ref xal, .ref xah, .int xk, .int xn])), (xal, aI g 68 xL), (ys, .inr (0, [.ref yat, .ref yab, .ref yar, .ref yal, .ref yah, .int yk, .int yn])), (yah, aI g 68 yH), (xah, aI g 68 xH), (yal, aI g 68 yL)]) (sd_runS (rest := []) (As := [.ref xah, .ref yal]) S (ct_Wide_isBelow l D g xah yal 68 68 (H.size) xH yL F (r) hc) kl_Teller_18 (by decide) (by decide) hK hP hD [2, 4] rfl (by decide) rfl hl d_Teller_order_8 rfl (Nat.le_of_ble_eq_true rfl) ⟨Nat.zero_le _, Nat.zero_le _⟩) hP hD hS hA [2, 4] [0, 1, 3, 5] rfl rfl (by decide) (by decide) rfl (fun H locs hP hD hS => ?_)
  refine W.eq (g2 := F0 m 11 ls [.int r]) rfl ?_
  refine lv_if_eq (tgt := 16) hx hb d_Teller_order_11 (by decide) (fun hc => ?_) (fun hc => ?_)
  · have hm := sd_mt hc hm
    refine lv_aload_n hx hb d_Teller_order_16 rfl (lv_at hl 1 rfl) ?_
    refine va_get (D := D) (ci := 0) (v := .ref yah) (C := R_Sum) (T := F_Sum) (N := 7) hx hb htt i_Sum hown hK hP 2 rfl rfl 4 (by decide) (htt _ kf_Teller_9) (fun _ h9 => h9) rfl d_Teller_order_17 ?_
    refine lv_aload_n hx hb d_Teller_order_20 rfl (lv_at hl 0 rfl) ?_
    refine va_get (D := D) (ci := 0) (v := .ref xal) (C := R_Sum) (T := F_Sum) (N := 7) hx hb htt i_Sum hown hK hP 0 rfl rfl 3 (by decide) (htt _ kf_Teller_15) (fun _ h9 => h9) rfl d_Teller_order_21 ?_
    obtain ⟨r_1, hc, hm⟩ := sd_mb1 hm
    refine sd_ci0 (wr := [(xs, .inr (0, [.ref xat, .ref xab, .ref xar, .ref xal, .ref xah, .int xk, .int xn])), (ys, .inr (0, [.ref yat, .ref yab, .ref yar, .ref yal, .ref yah, .int yk, .int yn])), (xah, aI g 68 xH), (yal, aI g 68 yL)]) (w2 := [(xs, .inr (0, [.ref xat, .ref xab, .ref xar, .ref xal, .ref xah, .int xk, .int xn])), (ys, .inr (0, [.ref yat, .ref yab, .ref yar, .ref yal, .ref yah, .int yk, .int yn])), (xah, aI g 68 xH), (yal, aI g 68 yL), (yah, aI g 68 yH), (xal, aI g 68 xL)]) (sd_runS (rest := []) (As := [.ref yah, .ref xal]) S (ct_Wide_isBelow l D g yah xal 68 68 (H.size) yH xL F (r_1) hc) kl_Teller_18 (by decide) (by decide) hK hP hD [3, 1] rfl (by decide) rfl hl d_Teller_order_24 rfl (Nat.le_of_ble_eq_true rfl) ⟨Nat.zero_le _, Nat.zero_le _⟩) hP hD hS hA [3, 1] [0, 2, 4, 5] rfl rfl (by decide) (by decide) rfl (fun H locs hP hD hS => ?_)
    refine W.eq (g2 := F0 m 27 ls [.int r_1]) rfl ?_
    obtain ⟨y, hv, hm⟩ := sd_mb1 hm
    have J36_1 : ∀ (H : Heap) (locs : List Loc) (ls : Array Slot), va_P D classes [(xs, .inr (0, [.ref xat, .ref xab, .ref xar, .ref xal, .ref xah, .int xk, .int xn])), (ys, .inr (0, [.ref yat, .ref yab, .ref yar, .ref yal, .ref yah, .int yk, .int yn])), (xah, aI g 68 xH), (yal, aI g 68 yL), (yah, aI g 68 yH), (xal, aI g 68 xL)] H → va_D A [(xs, .inr (0, [.ref xat, .ref xab, .ref xar, .ref xal, .ref xah, .int xk, .int xn])), (ys, .inr (0, [.ref yat, .ref yab, .ref yar, .ref yal, .ref yah, .int yk, .int yn])), (xah, aI g 68 xH), (yal, aI g 68 yL), (yah, aI g 68 yH), (xal, aI g 68 xL)] → va_S A s.heap H locs → lv_has ls 2 [] → W p l e rm_Teller_order s m args below meth c H locs 0 0 Q (F0 m 36 ls [.int y]) := by
      intro H locs ls hP hD hS hl
      exact sd_i0ret hQ hx hb hr hlk hK (hP.sub [0, 5, 2, 1, 3, 4] rfl) (hD.sub [0, 5, 2, 1, 3, 4] (by decide) rfl) hS (Option.some.inj hm).symm d_Teller_order_36
    replace hm := hv
    refine lv_if_eq (tgt := 34) hx hb d_Teller_order_27 (by decide) (fun hc => ?_) (fun hc => ?_)
    · have hm := sd_mt hc hm
      refine lv_bipush (v := (-4 : Int32)) hx hb d_Teller_order_34 (by decide) ?_
      cases hm
      exact J36_1 H locs ls (hP.sub [0, 1, 2, 3, 4, 5] rfl) (hD.sub [0, 1, 2, 3, 4, 5] (by decide) rfl) hS (lv_sub hl [] rfl)
    · have hm := sd_mf hc hm
      refine lv_iconst (v := (1 : Int32)) hx hb d_Teller_order_30 (by decide) ?_
      refine lv_goto (tgt := 36) hx hb d_Teller_order_31 (by decide) ?_
      cases hm
      exact J36_1 H locs ls (hP.sub [0, 1, 2, 3, 4, 5] rfl) (hD.sub [0, 1, 2, 3, 4, 5] (by decide) rfl) hS (lv_sub hl [] rfl)
  · have hm := sd_mf hc hm
    refine lv_iconst (v := (-1 : Int32)) hx hb d_Teller_order_14 (by decide) ?_
    exact sd_i0ret hQ hx hb hr hlk hK (hP.sub [0, 1, 4, 2, 5, 3] rfl) (hD.sub [0, 1, 4, 2, 5, 3] (by decide) rfl) hS (Option.some.inj hm).symm d_Teller_order_15
abbrev rm_Teller_order2 : Room := { frames := 1, cells := 0, slots := 0, locals := 22 }
set_option maxHeartbeats 4000000 in
set_option maxRecDepth 100000 in
theorem ct_Teller_order2 (l : Launch) (D : va_G) (g : G4) (xs : Nat) (xat : Nat) (xab : Nat) (xar : Nat) (xal : Nat) (xah : Nat) (sz : Nat) (xk : Int32) (xn : Int32) (xL : Nat → Int32) (xH : Nat → Int32) (F : Nat) (res : Int32) (hm : mf_Teller_order F xk xn xL xH xk xn xL xH = some res) : Met l y_Teller_order (.code y_Teller_order b_Teller_order 2 (some .int) :: sd_tb) rm_Teller_order2 (sd_PW D g [.ref xs, .ref xs] sz [(xs, .inr (0, [.ref xat, .ref xab, .ref xar, .ref xal, .ref xah, .int xk, .int xn])), (xal, aI g 68 xL), (xah, aI g 68 xH)]) (sd_Qi0 D g res [(xs, .inr (0, [.ref xat, .ref xab, .ref xar, .ref xal, .ref xah, .int xk, .int xn])), (xal, aI g 68 xL), (xah, aI g 68 xH)] (va_A [(xs, .inr (0, [.ref xat, .ref xab, .ref xar, .ref xal, .ref xah, .int xk, .int xn])), (xal, aI g 68 xL), (xah, aI g 68 xH)] sz)) 0 0 (va_A [(xs, .inr (0, [.ref xat, .ref xab, .ref xar, .ref xal, .ref xah, .int xk, .int xn])), (xal, aI g 68 xL), (xah, aI g 68 xH)] sz) := by
  refine sd_met (Qf := fun A => sd_Qi0 D g res [(xs, .inr (0, [.ref xat, .ref xab, .ref xar, .ref xal, .ref xah, .int xk, .int xn])), (xal, aI g 68 xL), (xah, aI g 68 xH)] A) (own := R_Teller) (by decide +kernel) rfl (Nat.le_of_ble_eq_true rfl) ?_
  intro p e s m args below meth c S hr hlk hK A hA Q hQ H locs hP hD hS ls hl
  have hx := S.1
  have hb := S.2.1
  have hml := S.2.2.1
  have hown := S.2.2.2.1
  have htt := sd_tt S
  replace hl : lv_has ls 2 [(0, .ref xs), (1, .ref xs)] := hl
  unfold mf_Teller_order at hm
  refine lv_aload_n hx hb d_Teller_order_0 rfl (lv_at hl 0 rfl) ?_
  refine va_get (D := D) (ci := 0) (v := .ref xah) (C := R_Sum) (T := F_Sum) (N := 7) hx hb htt i_Sum hown hK hP 0 rfl rfl 4 (by decide) (htt _ kf_Teller_9) (fun _ h9 => h9) rfl d_Teller_order_1 ?_
  refine lv_aload_n hx hb d_Teller_order_4 rfl (lv_at hl 1 rfl) ?_
  refine va_get (D := D) (ci := 0) (v := .ref xal) (C := R_Sum) (T := F_Sum) (N := 7) hx hb htt i_Sum hown hK hP 0 rfl rfl 3 (by decide) (htt _ kf_Teller_15) (fun _ h9 => h9) rfl d_Teller_order_5 ?_
  obtain ⟨r, hc, hm⟩ := sd_mb1 hm
  refine sd_ci0 (wr := [(xs, .inr (0, [.ref xat, .ref xab, .ref xar, .ref xal, .ref xah, .int xk, .int xn]))]) (w2 := [(xs, .inr (0, [.ref xat, .ref xab, .ref xar, .ref xal, .ref xah, .int xk, .int xn])), (xah, aI g 68 xH), (xal, aI g 68 xL)]) (sd_runS (rest := []) (As := [.ref xah, .ref xal]) S (ct_Wide_isBelow l D g xah xal 68 68 (H.size) xH xL F (r) hc) kl_Teller_18 (by decide) (by decide) hK hP hD [2, 1] rfl (by decide) rfl hl d_Teller_order_8 rfl (Nat.le_of_ble_eq_true rfl) ⟨Nat.zero_le _, Nat.zero_le _⟩) hP hD hS hA [2, 1] [0] rfl rfl (by decide) (by decide) rfl (fun H locs hP hD hS => ?_)
  refine W.eq (g2 := F0 m 11 ls [.int r]) rfl ?_
  refine lv_if_eq (tgt := 16) hx hb d_Teller_order_11 (by decide) (fun hc => ?_) (fun hc => ?_)
  · have hm := sd_mt hc hm
    refine lv_aload_n hx hb d_Teller_order_16 rfl (lv_at hl 1 rfl) ?_
    refine va_get (D := D) (ci := 0) (v := .ref xah) (C := R_Sum) (T := F_Sum) (N := 7) hx hb htt i_Sum hown hK hP 0 rfl rfl 4 (by decide) (htt _ kf_Teller_9) (fun _ h9 => h9) rfl d_Teller_order_17 ?_
    refine lv_aload_n hx hb d_Teller_order_20 rfl (lv_at hl 0 rfl) ?_
    refine va_get (D := D) (ci := 0) (v := .ref xal) (C := R_Sum) (T := F_Sum) (N := 7) hx hb htt i_Sum hown hK hP 0 rfl rfl 3 (by decide) (htt _ kf_Teller_15) (fun _ h9 => h9) rfl d_Teller_order_21 ?_
    obtain ⟨r_1, hc, hm⟩ := sd_mb1 hm
    refine sd_ci0 (wr := [(xs, .inr (0, [.ref xat, .ref xab, .ref xar, .ref xal, .ref xah, .int xk, .int xn]))]) (w2 := [(xs, .inr (0, [.ref xat, .ref xab, .ref xar, .ref xal, .ref xah, .int xk, .int xn])), (xah, aI g 68 xH), (xal, aI g 68 xL)]) (sd_runS (rest := []) (As := [.ref xah, .ref xal]) S (ct_Wide_isBelow l D g xah xal 68 68 (H.size) xH xL F (r_1) hc) kl_Teller_18 (by decide) (by decide) hK hP hD [1, 2] rfl (by decide) rfl hl d_Teller_order_24 rfl (Nat.le_of_ble_eq_true rfl) ⟨Nat.zero_le _, Nat.zero_le _⟩) hP hD hS hA [1, 2] [0] rfl rfl (by decide) (by decide) rfl (fun H locs hP hD hS => ?_)
    refine W.eq (g2 := F0 m 27 ls [.int r_1]) rfl ?_
    obtain ⟨y, hv, hm⟩ := sd_mb1 hm
    have J36_1 : ∀ (H : Heap) (locs : List Loc) (ls : Array Slot), va_P D classes [(xs, .inr (0, [.ref xat, .ref xab, .ref xar, .ref xal, .ref xah, .int xk, .int xn])), (xah, aI g 68 xH), (xal, aI g 68 xL)] H → va_D A [(xs, .inr (0, [.ref xat, .ref xab, .ref xar, .ref xal, .ref xah, .int xk, .int xn])), (xah, aI g 68 xH), (xal, aI g 68 xL)] → va_S A s.heap H locs → lv_has ls 2 [] → W p l e rm_Teller_order2 s m args below meth c H locs 0 0 Q (F0 m 36 ls [.int y]) := by
      intro H locs ls hP hD hS hl
      exact sd_i0ret hQ hx hb hr hlk hK (hP.sub [0, 2, 1] rfl) (hD.sub [0, 2, 1] (by decide) rfl) hS (Option.some.inj hm).symm d_Teller_order_36
    replace hm := hv
    refine lv_if_eq (tgt := 34) hx hb d_Teller_order_27 (by decide) (fun hc => ?_) (fun hc => ?_)
    · have hm := sd_mt hc hm
      refine lv_bipush (v := (-4 : Int32)) hx hb d_Teller_order_34 (by decide) ?_
      cases hm
      exact J36_1 H locs ls (hP.sub [0, 1, 2] rfl) (hD.sub [0, 1, 2] (by decide) rfl) hS (lv_sub hl [] rfl)
    · have hm := sd_mf hc hm
      refine lv_iconst (v := (1 : Int32)) hx hb d_Teller_order_30 (by decide) ?_
      refine lv_goto (tgt := 36) hx hb d_Teller_order_31 (by decide) ?_
      cases hm
      exact J36_1 H locs ls (hP.sub [0, 1, 2] rfl) (hD.sub [0, 1, 2] (by decide) rfl) hS (lv_sub hl [] rfl)
  · have hm := sd_mf hc hm
    refine lv_iconst (v := (-1 : Int32)) hx hb d_Teller_order_14 (by decide) ?_
    exact sd_i0ret hQ hx hb hr hlk hK (hP.sub [0, 2, 1] rfl) (hD.sub [0, 2, 1] (by decide) rfl) hS (Option.some.inj hm).symm d_Teller_order_15
theorem d_Teller_haveSameWhole_0 : decode b_Teller_haveSameWhole 0 = .ok (.aload_n 0, 1) := by decide +kernel
theorem d_Teller_haveSameWhole_1 : decode b_Teller_haveSameWhole 1 = .ok (.invokestatic 24, 3) := by decide +kernel
theorem d_Teller_haveSameWhole_4 : decode b_Teller_haveSameWhole 4 = .ok (.aload_n 1, 1) := by decide +kernel
theorem d_Teller_haveSameWhole_5 : decode b_Teller_haveSameWhole 5 = .ok (.invokestatic 24, 3) := by decide +kernel
theorem d_Teller_haveSameWhole_8 : decode b_Teller_haveSameWhole 8 = .ok (.lcmp, 1) := by decide +kernel
theorem d_Teller_haveSameWhole_9 : decode b_Teller_haveSameWhole 9 = .ok (.ifCond .ne 7, 3) := by decide +kernel
theorem d_Teller_haveSameWhole_12 : decode b_Teller_haveSameWhole 12 = .ok (.iconst 1, 1) := by decide +kernel
theorem d_Teller_haveSameWhole_13 : decode b_Teller_haveSameWhole 13 = .ok (.goto 4, 3) := by decide +kernel
theorem d_Teller_haveSameWhole_16 : decode b_Teller_haveSameWhole 16 = .ok (.iconst 0, 1) := by decide +kernel
theorem d_Teller_haveSameWhole_17 : decode b_Teller_haveSameWhole 17 = .ok (.ireturn, 1) := by decide +kernel
def mf_Teller_haveSameWhole (F : Nat) (nE : Nat) (nT : Nat) (cE : Nat → Int32) (cT : Nat → Int32) : Option (Int32) :=
  (sd_b1 (mf_Wide_whole F nE cE) fun r => (sd_b1 (mf_Wide_whole F nT cT) fun r_1 => (sd_b1 (if r = r_1 then (some ((1 : Int32))) else (some ((0 : Int32)))) fun y => (sd_g (sd_b01 y) (some (y))))))
abbrev rm_Teller_haveSameWhole : Room := { frames := 1, cells := 0, slots := 0, locals := 23 }
set_option maxHeartbeats 4000000 in
set_option maxRecDepth 100000 in
theorem ct_Teller_haveSameWhole (l : Launch) (D : va_G) (g : G4) (aE : Nat) (aT : Nat) (nE : Nat) (nT : Nat) (sz : Nat) (cE : Nat → Int32) (cT : Nat → Int32) (F : Nat) (res : Int32) (hm : mf_Teller_haveSameWhole F nE nT cE cT = some res) : Met l y_Teller_haveSameWhole (.code y_Teller_haveSameWhole b_Teller_haveSameWhole 2 (some .boolean) :: sd_tb) rm_Teller_haveSameWhole (sd_PW D g [.ref aE, .ref aT] sz [(aE, aI g nE cE), (aT, aI g nT cT)]) (sd_Qi0 D g res [(aE, aI g nE cE), (aT, aI g nT cT)] (va_A [(aE, aI g nE cE), (aT, aI g nT cT)] sz)) 0 0 (va_A [(aE, aI g nE cE), (aT, aI g nT cT)] sz) := by
  refine sd_met (Qf := fun A => sd_Qi0 D g res [(aE, aI g nE cE), (aT, aI g nT cT)] A) (own := R_Teller) (by decide +kernel) rfl (Nat.le_of_ble_eq_true rfl) ?_
  intro p e s m args below meth c S hr hlk hK A hA Q hQ H locs hP hD hS ls hl
  have hx := S.1
  have hb := S.2.1
  have hml := S.2.2.1
  have hown := S.2.2.2.1
  have htt := sd_tt S
  replace hl : lv_has ls 2 [(0, .ref aE), (1, .ref aT)] := hl
  unfold mf_Teller_haveSameWhole at hm
  refine lv_aload_n hx hb d_Teller_haveSameWhole_0 rfl (lv_at hl 0 rfl) ?_
  obtain ⟨r, hc, hm⟩ := sd_mb1 hm
  refine sd_cl0 (wr := [(aT, aI g nT cT)]) (w2 := [(aT, aI g nT cT), (aE, aI g nE cE)]) (sd_runS (rest := []) (As := [.ref aE]) S (ct_Wide_whole l D g aE nE (H.size) cE F (r) hc) kl_Teller_24 (by decide) (by decide) hK hP hD [0] rfl (by decide) rfl hl d_Teller_haveSameWhole_1 rfl (Nat.le_of_ble_eq_true rfl) ⟨Nat.zero_le _, Nat.zero_le _⟩) hP hD hS hA [0] [1] rfl rfl (by decide) (by decide) rfl (fun H locs hP hD hS => ?_)
  refine W.eq (g2 := F0 m 4 ls [.long r]) rfl ?_
  refine lv_aload_n hx hb d_Teller_haveSameWhole_4 rfl (lv_at hl 1 rfl) ?_
  obtain ⟨r_1, hc, hm⟩ := sd_mb1 hm
  refine sd_cl0 (wr := [(aE, aI g nE cE)]) (w2 := [(aE, aI g nE cE), (aT, aI g nT cT)]) (sd_runS (rest := [.long r]) (As := [.ref aT]) S (ct_Wide_whole l D g aT nT (H.size) cT F (r_1) hc) kl_Teller_24 (by decide) (by decide) hK hP hD [0] rfl (by decide) rfl hl d_Teller_haveSameWhole_5 rfl (Nat.le_of_ble_eq_true rfl) ⟨Nat.zero_le _, Nat.zero_le _⟩) hP hD hS hA [0] [1] rfl rfl (by decide) (by decide) rfl (fun H locs hP hD hS => ?_)
  refine W.eq (g2 := F0 m 8 ls [.long r_1, .long r]) rfl ?_
  obtain ⟨y, hv, hm⟩ := sd_mb1 hm
  have J17_1 : ∀ (H : Heap) (locs : List Loc) (ls : Array Slot), va_P D classes [(aE, aI g nE cE), (aT, aI g nT cT)] H → va_D A [(aE, aI g nE cE), (aT, aI g nT cT)] → va_S A s.heap H locs → lv_has ls 2 [] → W p l e rm_Teller_haveSameWhole s m args below meth c H locs 0 0 Q (F0 m 17 ls [.int y]) := by
    intro H locs ls hP hD hS hl
    obtain ⟨h_2, hm⟩ := sd_mg hm
    exact sd_z0ret hQ hx hb hr hlk (sd_zb h_2) hK (hP.sub [0, 1] rfl) (hD.sub [0, 1] (by decide) rfl) hS (Option.some.inj hm).symm d_Teller_haveSameWhole_17
  replace hm := hv
  refine sd_lne (tgt := 16) hx hb d_Teller_haveSameWhole_8 d_Teller_haveSameWhole_9 (by decide) (fun hc => ?_) (fun hc => ?_)
  · have hm := sd_mf hc hm
    refine lv_iconst (v := (0 : Int32)) hx hb d_Teller_haveSameWhole_16 (by decide) ?_
    cases hm
    exact J17_1 H locs ls (hP.sub [0, 1] rfl) (hD.sub [0, 1] (by decide) rfl) hS (lv_sub hl [] rfl)
  · have hm := sd_mt hc hm
    refine lv_iconst (v := (1 : Int32)) hx hb d_Teller_haveSameWhole_12 (by decide) ?_
    refine lv_goto (tgt := 17) hx hb d_Teller_haveSameWhole_13 (by decide) ?_
    cases hm
    exact J17_1 H locs ls (hP.sub [0, 1] rfl) (hD.sub [0, 1] (by decide) rfl) hS (lv_sub hl [] rfl)
theorem d_Teller_sizes_0 : decode b_Teller_sizes 0 = .ok (.aload_n 0, 1) := by decide +kernel
theorem d_Teller_sizes_1 : decode b_Teller_sizes 1 = .ok (.aload_n 2, 1) := by decide +kernel
theorem d_Teller_sizes_2 : decode b_Teller_sizes 2 = .ok (.invokestatic 28, 3) := by decide +kernel
theorem d_Teller_sizes_5 : decode b_Teller_sizes 5 = .ok (.aload_n 1, 1) := by decide +kernel
theorem d_Teller_sizes_6 : decode b_Teller_sizes 6 = .ok (.aload_n 3, 1) := by decide +kernel
theorem d_Teller_sizes_7 : decode b_Teller_sizes 7 = .ok (.invokestatic 28, 3) := by decide +kernel
theorem d_Teller_sizes_10 : decode b_Teller_sizes 10 = .ok (.aload_n 1, 1) := by decide +kernel
theorem d_Teller_sizes_11 : decode b_Teller_sizes 11 = .ok (.bipush 67, 2) := by decide +kernel
theorem d_Teller_sizes_13 : decode b_Teller_sizes 13 = .ok (.iaload, 1) := by decide +kernel
theorem d_Teller_sizes_14 : decode b_Teller_sizes 14 = .ok (.ifCond .ge 5, 3) := by decide +kernel
theorem d_Teller_sizes_17 : decode b_Teller_sizes 17 = .ok (.iconst (-1), 1) := by decide +kernel
theorem d_Teller_sizes_18 : decode b_Teller_sizes 18 = .ok (.ireturn, 1) := by decide +kernel
theorem d_Teller_sizes_19 : decode b_Teller_sizes 19 = .ok (.aload_n 0, 1) := by decide +kernel
theorem d_Teller_sizes_20 : decode b_Teller_sizes 20 = .ok (.bipush 67, 2) := by decide +kernel
theorem d_Teller_sizes_22 : decode b_Teller_sizes 22 = .ok (.iaload, 1) := by decide +kernel
theorem d_Teller_sizes_23 : decode b_Teller_sizes 23 = .ok (.ifCond .lt 14, 3) := by decide +kernel
theorem d_Teller_sizes_26 : decode b_Teller_sizes 26 = .ok (.aload_n 0, 1) := by decide +kernel
theorem d_Teller_sizes_27 : decode b_Teller_sizes 27 = .ok (.invokestatic 32, 3) := by decide +kernel
theorem d_Teller_sizes_30 : decode b_Teller_sizes 30 = .ok (.ifCond .lt 7, 3) := by decide +kernel
theorem d_Teller_sizes_33 : decode b_Teller_sizes 33 = .ok (.iconst 1, 1) := by decide +kernel
theorem d_Teller_sizes_34 : decode b_Teller_sizes 34 = .ok (.goto 4, 3) := by decide +kernel
theorem d_Teller_sizes_37 : decode b_Teller_sizes 37 = .ok (.iconst 0, 1) := by decide +kernel
theorem d_Teller_sizes_38 : decode b_Teller_sizes 38 = .ok (.ireturn, 1) := by decide +kernel
def mf_Teller_sizes (F : Nat) (nE : Nat) (nT : Nat) (nU : Nat) (nV : Nat) (cE : Nat → Int32) (cT : Nat → Int32) (cU : Nat → Int32) (cV : Nat → Int32) : Option (Int32 × (Nat → Int32) × (Nat → Int32)) :=
  (sd_b1 (mf_Wide_size F nE nU cE cU) fun uaU => (sd_b1 (mf_Wide_size F nT nV cT cV) fun uaV => (sd_g (sd_ix (67 : Int32) nT) (if 0 ≤ (cT (67 : Int32).toNatClampNeg) then (sd_g (sd_ix (67 : Int32) nE) (sd_b1 (if (cE (67 : Int32).toNatClampNeg) < 0 then (some ((0 : Int32))) else (sd_b1 (mf_Wide_topOf F nE cE) fun r => (if r < 0 then (some ((0 : Int32))) else (some ((1 : Int32)))))) fun y => (some (y, uaU, uaV)))) else (some ((-1 : Int32), uaU, uaV))))))
abbrev rm_Teller_sizes : Room := { frames := 2, cells := 0, slots := 0, locals := 101 }
set_option maxHeartbeats 4000000 in
set_option maxRecDepth 100000 in
theorem ct_Teller_sizes (l : Launch) (D : va_G) (g : G4) (aE : Nat) (aT : Nat) (aU : Nat) (aV : Nat) (nE : Nat) (nT : Nat) (nU : Nat) (nV : Nat) (sz : Nat) (cE : Nat → Int32) (cT : Nat → Int32) (cU : Nat → Int32) (cV : Nat → Int32) (F : Nat) (res : Int32 × (Nat → Int32) × (Nat → Int32)) (hm : mf_Teller_sizes F nE nT nU nV cE cT cU cV = some res) : Met l y_Teller_sizes (.code y_Teller_sizes b_Teller_sizes 4 (some .int) :: sd_tb) rm_Teller_sizes (sd_PW D g [.ref aE, .ref aT, .ref aU, .ref aV] sz [(aE, aI g nE cE), (aT, aI g nT cT), (aU, aI g nU cU), (aV, aI g nV cV)]) (sd_Qi1 D g res (fun u : (Nat → Int32) × (Nat → Int32) => [(aE, aI g nE cE), (aT, aI g nT cT), (aU, aI g nU (u.1)), (aV, aI g nV (u.2))]) (va_A [(aE, aI g nE cE), (aT, aI g nT cT), (aU, aI g nU cU), (aV, aI g nV cV)] sz)) 0 0 (va_A [(aE, aI g nE cE), (aT, aI g nT cT), (aU, aI g nU cU), (aV, aI g nV cV)] sz) := by
  refine sd_met (Qf := fun A => sd_Qi1 D g res (fun u : (Nat → Int32) × (Nat → Int32) => [(aE, aI g nE cE), (aT, aI g nT cT), (aU, aI g nU (u.1)), (aV, aI g nV (u.2))]) A) (own := R_Teller) (by decide +kernel) rfl (Nat.le_of_ble_eq_true rfl) ?_
  intro p e s m args below meth c S hr hlk hK A hA Q hQ H locs hP hD hS ls hl
  have hx := S.1
  have hb := S.2.1
  have hml := S.2.2.1
  have hown := S.2.2.2.1
  have htt := sd_tt S
  replace hl : lv_has ls 4 [(0, .ref aE), (1, .ref aT), (2, .ref aU), (3, .ref aV)] := hl
  unfold mf_Teller_sizes at hm
  refine lv_aload_n hx hb d_Teller_sizes_0 rfl (lv_at hl 0 rfl) ?_
  refine lv_aload_n hx hb d_Teller_sizes_1 rfl (lv_at hl 2 rfl) ?_
  obtain ⟨uaU, hc, hm⟩ := sd_mb1 hm
  refine sd_cv1 (wr := [(aT, aI g nT cT), (aV, aI g nV cV)]) (w2 := [(aT, aI g nT cT), (aV, aI g nV cV), (aE, aI g nE cE), (aU, aI g nU uaU)]) (sd_runS (rest := []) (As := [.ref aE, .ref aU]) S (ct_Wide_size l D g aE aU nE nU (H.size) cE cU F (uaU) hc) kl_Teller_28 (by decide) (by decide) hK hP hD [0, 2] rfl (by decide) rfl hl d_Teller_sizes_2 rfl (Nat.le_of_ble_eq_true rfl) ⟨Nat.zero_le _, Nat.zero_le _⟩) hP hD hS hA [0, 2] [1, 3] rfl rfl (by decide) (by decide) rfl (fun H locs hP hD hS => ?_)
  refine lv_aload_n hx hb d_Teller_sizes_5 rfl (lv_at hl 1 rfl) ?_
  refine lv_aload_n hx hb d_Teller_sizes_6 rfl (lv_at hl 3 rfl) ?_
  obtain ⟨uaV, hc, hm⟩ := sd_mb1 hm
  refine sd_cv1 (wr := [(aE, aI g nE cE), (aU, aI g nU uaU)]) (w2 := [(aE, aI g nE cE), (aU, aI g nU uaU), (aT, aI g nT cT), (aV, aI g nV uaV)]) (sd_runS (rest := []) (As := [.ref aT, .ref aV]) S (ct_Wide_size l D g aT aV nT nV (H.size) cT cV F (uaV) hc) kl_Teller_28 (by decide) (by decide) hK hP hD [0, 1] rfl (by decide) rfl hl d_Teller_sizes_7 rfl (Nat.le_of_ble_eq_true rfl) ⟨Nat.zero_le _, Nat.zero_le _⟩) hP hD hS hA [0, 1] [2, 3] rfl rfl (by decide) (by decide) rfl (fun H locs hP hD hS => ?_)
  refine lv_aload_n hx hb d_Teller_sizes_10 rfl (lv_at hl 1 rfl) ?_
  refine lv_bipush (v := (67 : Int32)) hx hb d_Teller_sizes_11 (by decide) ?_
  obtain ⟨h_1, hm⟩ := sd_mg hm
  refine sd_iald hx hb hK hP 2 rfl h_1 d_Teller_sizes_13 ?_
  refine lv_if_ge (tgt := 19) hx hb d_Teller_sizes_14 (by decide) (fun hc => ?_) (fun hc => ?_)
  · have hm := sd_mt hc hm
    refine lv_aload_n hx hb d_Teller_sizes_19 rfl (lv_at hl 0 rfl) ?_
    refine lv_bipush (v := (67 : Int32)) hx hb d_Teller_sizes_20 (by decide) ?_
    obtain ⟨h_2, hm⟩ := sd_mg hm
    refine sd_iald hx hb hK hP 0 rfl h_2 d_Teller_sizes_22 ?_
    obtain ⟨y, hv, hm⟩ := sd_mb1 hm
    have J38_3 : ∀ (H : Heap) (locs : List Loc) (ls : Array Slot), va_P D classes [(aE, aI g nE cE), (aU, aI g nU uaU), (aT, aI g nT cT), (aV, aI g nV uaV)] H → va_D A [(aE, aI g nE cE), (aU, aI g nU uaU), (aT, aI g nT cT), (aV, aI g nV uaV)] → va_S A s.heap H locs → lv_has ls 4 [] → W p l e rm_Teller_sizes s m args below meth c H locs 0 0 Q (F0 m 38 ls [.int y]) := by
      intro H locs ls hP hD hS hl
      exact sd_i1ret (u := (uaU, uaV)) hQ hx hb hr hlk hK (hP.sub [0, 2, 1, 3] rfl) (hD.sub [0, 2, 1, 3] (by decide) rfl) hS (Option.some.inj hm).symm d_Teller_sizes_38
    replace hm := hv
    refine lv_if_lt (tgt := 37) hx hb d_Teller_sizes_23 (by decide) (fun hc => ?_) (fun hc => ?_)
    · have hm := sd_mt hc hm
      refine lv_iconst (v := (0 : Int32)) hx hb d_Teller_sizes_37 (by decide) ?_
      cases hm
      exact J38_3 H locs ls (hP.sub [0, 1, 2, 3] rfl) (hD.sub [0, 1, 2, 3] (by decide) rfl) hS (lv_sub hl [] rfl)
    · have hm := sd_mf hc hm
      refine lv_aload_n hx hb d_Teller_sizes_26 rfl (lv_at hl 0 rfl) ?_
      obtain ⟨r, hc, hm⟩ := sd_mb1 hm
      refine sd_ci0 (wr := [(aU, aI g nU uaU), (aT, aI g nT cT), (aV, aI g nV uaV)]) (w2 := [(aU, aI g nU uaU), (aT, aI g nT cT), (aV, aI g nV uaV), (aE, aI g nE cE)]) (sd_runS (rest := []) (As := [.ref aE]) S (ct_Wide_topOf l D g aE nE (H.size) cE F (r) hc) kl_Teller_32 (by decide) (by decide) hK hP hD [0] rfl (by decide) rfl hl d_Teller_sizes_27 rfl (Nat.le_of_ble_eq_true rfl) ⟨Nat.zero_le _, Nat.zero_le _⟩) hP hD hS hA [0] [1, 2, 3] rfl rfl (by decide) (by decide) rfl (fun H locs hP hD hS => ?_)
      refine W.eq (g2 := F0 m 30 ls [.int r]) rfl ?_
      refine lv_if_lt (tgt := 37) hx hb d_Teller_sizes_30 (by decide) (fun hc => ?_) (fun hc => ?_)
      · have hm := sd_mt hc hm
        refine lv_iconst (v := (0 : Int32)) hx hb d_Teller_sizes_37 (by decide) ?_
        cases hm
        exact J38_3 H locs ls (hP.sub [3, 0, 1, 2] rfl) (hD.sub [3, 0, 1, 2] (by decide) rfl) hS (lv_sub hl [] rfl)
      · have hm := sd_mf hc hm
        refine lv_iconst (v := (1 : Int32)) hx hb d_Teller_sizes_33 (by decide) ?_
        refine lv_goto (tgt := 38) hx hb d_Teller_sizes_34 (by decide) ?_
        cases hm
        exact J38_3 H locs ls (hP.sub [3, 0, 1, 2] rfl) (hD.sub [3, 0, 1, 2] (by decide) rfl) hS (lv_sub hl [] rfl)
  · have hm := sd_mf hc hm
    refine lv_iconst (v := (-1 : Int32)) hx hb d_Teller_sizes_17 (by decide) ?_
    exact sd_i1ret (u := (uaU, uaV)) hQ hx hb hr hlk hK (hP.sub [0, 2, 1, 3] rfl) (hD.sub [0, 2, 1, 3] (by decide) rfl) hS (Option.some.inj hm).symm d_Teller_sizes_18
theorem d_Doubles_join_0 : decode b_Doubles_join 0 = .ok (.lload_n 2, 1) := by decide +kernel
theorem d_Doubles_join_1 : decode b_Doubles_join 1 = .ok (.iconst 1, 1) := by decide +kernel
theorem d_Doubles_join_2 : decode b_Doubles_join 2 = .ok (.lshr, 1) := by decide +kernel
theorem d_Doubles_join_3 : decode b_Doubles_join 3 = .ok (.lstore 5, 2) := by decide +kernel
theorem d_Doubles_join_5 : decode b_Doubles_join 5 = .ok (.lload_n 2, 1) := by decide +kernel
theorem d_Doubles_join_6 : decode b_Doubles_join 6 = .ok (.lconst 1, 1) := by decide +kernel
theorem d_Doubles_join_7 : decode b_Doubles_join 7 = .ok (.land, 1) := by decide +kernel
theorem d_Doubles_join_8 : decode b_Doubles_join 8 = .ok (.lconst 1, 1) := by decide +kernel
theorem d_Doubles_join_9 : decode b_Doubles_join 9 = .ok (.lcmp, 1) := by decide +kernel
theorem d_Doubles_join_10 : decode b_Doubles_join 10 = .ok (.ifCond .ne 21, 3) := by decide +kernel
theorem d_Doubles_join_13 : decode b_Doubles_join 13 = .ok (.iload 4, 2) := by decide +kernel
theorem d_Doubles_join_15 : decode b_Doubles_join 15 = .ok (.ifCond .ne 12, 3) := by decide +kernel
theorem d_Doubles_join_18 : decode b_Doubles_join 18 = .ok (.lload 5, 2) := by decide +kernel
theorem d_Doubles_join_20 : decode b_Doubles_join 20 = .ok (.lconst 1, 1) := by decide +kernel
theorem d_Doubles_join_21 : decode b_Doubles_join 21 = .ok (.land, 1) := by decide +kernel
theorem d_Doubles_join_22 : decode b_Doubles_join 22 = .ok (.lconst 1, 1) := by decide +kernel
theorem d_Doubles_join_23 : decode b_Doubles_join 23 = .ok (.lcmp, 1) := by decide +kernel
theorem d_Doubles_join_24 : decode b_Doubles_join 24 = .ok (.ifCond .ne 7, 3) := by decide +kernel
theorem d_Doubles_join_27 : decode b_Doubles_join 27 = .ok (.iconst 1, 1) := by decide +kernel
theorem d_Doubles_join_28 : decode b_Doubles_join 28 = .ok (.goto 4, 3) := by decide +kernel
theorem d_Doubles_join_31 : decode b_Doubles_join 31 = .ok (.iconst 0, 1) := by decide +kernel
theorem d_Doubles_join_32 : decode b_Doubles_join 32 = .ok (.istore 7, 2) := by decide +kernel
theorem d_Doubles_join_34 : decode b_Doubles_join 34 = .ok (.iload_n 1, 1) := by decide +kernel
theorem d_Doubles_join_35 : decode b_Doubles_join 35 = .ok (.sipush 1023, 3) := by decide +kernel
theorem d_Doubles_join_38 : decode b_Doubles_join 38 = .ok (.iadd, 1) := by decide +kernel
theorem d_Doubles_join_39 : decode b_Doubles_join 39 = .ok (.i2l, 1) := by decide +kernel
theorem d_Doubles_join_40 : decode b_Doubles_join 40 = .ok (.bipush 52, 2) := by decide +kernel
theorem d_Doubles_join_42 : decode b_Doubles_join 42 = .ok (.lshl, 1) := by decide +kernel
theorem d_Doubles_join_43 : decode b_Doubles_join 43 = .ok (.lload 5, 2) := by decide +kernel
theorem d_Doubles_join_45 : decode b_Doubles_join 45 = .ok (.ladd, 1) := by decide +kernel
theorem d_Doubles_join_46 : decode b_Doubles_join 46 = .ok (.ldc2_w 35, 3) := by decide +kernel
theorem d_Doubles_join_49 : decode b_Doubles_join 49 = .ok (.lsub, 1) := by decide +kernel
theorem d_Doubles_join_50 : decode b_Doubles_join 50 = .ok (.lstore 8, 2) := by decide +kernel
theorem d_Doubles_join_52 : decode b_Doubles_join 52 = .ok (.lload 8, 2) := by decide +kernel
theorem d_Doubles_join_54 : decode b_Doubles_join 54 = .ok (.iload 7, 2) := by decide +kernel
theorem d_Doubles_join_56 : decode b_Doubles_join 56 = .ok (.ifCond .eq 7, 3) := by decide +kernel
theorem d_Doubles_join_59 : decode b_Doubles_join 59 = .ok (.lconst 1, 1) := by decide +kernel
theorem d_Doubles_join_60 : decode b_Doubles_join 60 = .ok (.goto 4, 3) := by decide +kernel
theorem d_Doubles_join_63 : decode b_Doubles_join 63 = .ok (.lconst 0, 1) := by decide +kernel
theorem d_Doubles_join_64 : decode b_Doubles_join 64 = .ok (.ladd, 1) := by decide +kernel
theorem d_Doubles_join_65 : decode b_Doubles_join 65 = .ok (.lstore 8, 2) := by decide +kernel
theorem d_Doubles_join_67 : decode b_Doubles_join 67 = .ok (.iload_n 0, 1) := by decide +kernel
theorem d_Doubles_join_68 : decode b_Doubles_join 68 = .ok (.ifCond .eq 12, 3) := by decide +kernel
theorem d_Doubles_join_71 : decode b_Doubles_join 71 = .ok (.lload 8, 2) := by decide +kernel
theorem d_Doubles_join_73 : decode b_Doubles_join 73 = .ok (.ldc2_w 37, 3) := by decide +kernel
theorem d_Doubles_join_76 : decode b_Doubles_join 76 = .ok (.lor, 1) := by decide +kernel
theorem d_Doubles_join_77 : decode b_Doubles_join 77 = .ok (.goto 5, 3) := by decide +kernel
theorem d_Doubles_join_80 : decode b_Doubles_join 80 = .ok (.lload 8, 2) := by decide +kernel
theorem d_Doubles_join_82 : decode b_Doubles_join 82 = .ok (.lreturn, 1) := by decide +kernel
def mf_Doubles_join (F : Nat) (vNeg : Int32) (vPow : Int32) (vBits : Int64) (vMore : Int32) : Option (Int64) :=
  (sd_let ((vBits >>> ((1 : Int32).toInt64 &&& 63))) fun x5 => (sd_b1 (if (vBits &&& (1 : Int64)) = (1 : Int64) then (if vMore = 0 then (if (x5 &&& (1 : Int64)) = (1 : Int64) then (some ((1 : Int32))) else (some ((0 : Int32)))) else (some ((1 : Int32)))) else (some ((0 : Int32)))) fun y => (sd_let ((((((vPow + (1023 : Int32)).toInt64) <<< ((52 : Int32).toInt64 &&& 63)) + x5) - (4503599627370496 : Int64))) fun x8 => (sd_b1 (if y = 0 then (some ((0 : Int64))) else (some ((1 : Int64)))) fun y_1 => (sd_let ((x8 + y_1)) fun x8_1 => (sd_b1 (if vNeg = 0 then (some (x8_1)) else (some ((x8_1 ||| (-9223372036854775808 : Int64))))) fun y_2 => (some (y_2))))))))
abbrev rm_Doubles_join : Room := { frames := 0, cells := 0, slots := 0, locals := 0 }
set_option maxHeartbeats 4000000 in
set_option maxRecDepth 100000 in
theorem ct_Doubles_join (l : Launch) (D : va_G) (g : G4) (sz : Nat) (vNeg : Int32) (vPow : Int32) (vBits : Int64) (vMore : Int32) (F : Nat) (res : Int64) (hm : mf_Doubles_join F vNeg vPow vBits vMore = some res) : Met l y_Doubles_join (.code y_Doubles_join b_Doubles_join 10 (some .long) :: sd_tb) rm_Doubles_join (sd_PW D g [.int vNeg, .int vPow, .long vBits, .int vMore] sz []) (sd_Ql0 D g res [] (va_A [] sz)) 0 0 (va_A [] sz) := by
  refine sd_met (Qf := fun A => sd_Ql0 D g res [] A) (own := R_Doubles) (by decide +kernel) rfl (Nat.le_of_ble_eq_true rfl) ?_
  intro p e s m args below meth c S hr hlk hK A hA Q hQ H locs hP hD hS ls hl
  have hx := S.1
  have hb := S.2.1
  have hml := S.2.2.1
  have hown := S.2.2.2.1
  have htt := sd_tt S
  replace hl : lv_has ls 10 [(0, .int vNeg), (1, .int vPow), (2, .long vBits), (4, .int vMore)] := hl
  unfold mf_Doubles_join at hm
  refine lv_lload_n hx hb d_Doubles_join_0 rfl (lv_at hl 2 rfl) ?_
  refine lv_iconst (v := (1 : Int32)) hx hb d_Doubles_join_1 (by decide) ?_
  refine lv_lshr hx hb d_Doubles_join_2 rfl ?_
  obtain ⟨x5, ex5, hm⟩ := sd_mlet hm
  refine sd_topj ex5 ?_
  refine lv_lstore (lv' := [(5, .long x5), (0, .int vNeg), (1, .int vPow), (2, .long vBits), (4, .int vMore)]) hx hb d_Doubles_join_3 hl (by decide) rfl (fun ls hl => ?_)
  refine lv_lload_n hx hb d_Doubles_join_5 rfl (lv_at hl 3 rfl) ?_
  refine lv_lconst (v := (1 : Int64)) hx hb d_Doubles_join_6 (by decide) ?_
  refine lv_land hx hb d_Doubles_join_7 ?_
  refine lv_lconst (v := (1 : Int64)) hx hb d_Doubles_join_8 (by decide) ?_
  obtain ⟨y, hv, hm⟩ := sd_mb1 hm
  have J32_1 : ∀ (H : Heap) (locs : List Loc) (ls : Array Slot), va_P D classes [] H → va_D A [] → va_S A s.heap H locs → lv_has ls 10 [(0, .int vNeg), (1, .int vPow), (5, .long x5)] → W p l e rm_Doubles_join s m args below meth c H locs 0 0 Q (F0 m 32 ls [.int y]) := by
    intro H locs ls hP hD hS hl
    refine lv_istore (lv' := [(7, .int y), (0, .int vNeg), (1, .int vPow), (5, .long x5)]) hx hb d_Doubles_join_32 hl (by decide) rfl (fun ls hl => ?_)
    refine lv_iload_n hx hb d_Doubles_join_34 rfl (lv_at hl 2 rfl) ?_
    refine lv_sipush (v := (1023 : Int32)) hx hb d_Doubles_join_35 (by decide) ?_
    refine lv_iadd hx hb d_Doubles_join_38 ?_
    refine lv_i2l hx hb d_Doubles_join_39 rfl ?_
    refine lv_bipush (v := (52 : Int32)) hx hb d_Doubles_join_40 (by decide) ?_
    refine lv_lshl hx hb d_Doubles_join_42 rfl ?_
    refine lv_lload hx hb d_Doubles_join_43 (lv_at hl 3 rfl) ?_
    refine lv_ladd hx hb d_Doubles_join_45 ?_
    refine sd_ldc2 (v := (4503599627370496 : Int64)) hx hb hown (htt _ km_Doubles_35) d_Doubles_join_46 ?_
    refine lv_lsub hx hb d_Doubles_join_49 ?_
    obtain ⟨x8, ex8, hm⟩ := sd_mlet hm
    refine sd_topj ex8 ?_
    refine lv_lstore (lv' := [(8, .long x8), (7, .int y), (0, .int vNeg), (1, .int vPow), (5, .long x5)]) hx hb d_Doubles_join_50 hl (by decide) rfl (fun ls hl => ?_)
    refine lv_lload hx hb d_Doubles_join_52 (lv_at hl 0 rfl) ?_
    refine lv_iload hx hb d_Doubles_join_54 (lv_at hl 1 rfl) ?_
    obtain ⟨y_1, hv, hm⟩ := sd_mb1 hm
    have J64_2 : ∀ (H : Heap) (locs : List Loc) (ls : Array Slot), va_P D classes [] H → va_D A [] → va_S A s.heap H locs → lv_has ls 10 [(0, .int vNeg)] → W p l e rm_Doubles_join s m args below meth c H locs 0 0 Q (F0 m 64 ls [.long y_1, .long x8]) := by
      intro H locs ls hP hD hS hl
      refine lv_ladd hx hb d_Doubles_join_64 ?_
      obtain ⟨x8_1, ex8_1, hm⟩ := sd_mlet hm
      refine sd_topj ex8_1 ?_
      refine lv_lstore (lv' := [(8, .long x8_1), (0, .int vNeg)]) hx hb d_Doubles_join_65 hl (by decide) rfl (fun ls hl => ?_)
      refine lv_iload_n hx hb d_Doubles_join_67 rfl (lv_at hl 1 rfl) ?_
      obtain ⟨y_2, hv, hm⟩ := sd_mb1 hm
      have J82_3 : ∀ (H : Heap) (locs : List Loc) (ls : Array Slot), va_P D classes [] H → va_D A [] → va_S A s.heap H locs → lv_has ls 10 [] → W p l e rm_Doubles_join s m args below meth c H locs 0 0 Q (F0 m 82 ls [.long y_2]) := by
        intro H locs ls hP hD hS hl
        exact sd_l0ret hQ hx hb hr hlk hK (hP.sub [] rfl) (hD.sub [] (by decide) rfl) hS (Option.some.inj hm).symm d_Doubles_join_82
      replace hm := hv
      refine lv_if_eq (tgt := 80) hx hb d_Doubles_join_68 (by decide) (fun hc => ?_) (fun hc => ?_)
      · have hm := sd_mt hc hm
        refine lv_lload hx hb d_Doubles_join_80 (lv_at hl 0 rfl) ?_
        cases hm
        exact J82_3 H locs ls (hP.sub [] rfl) (hD.sub [] (by decide) rfl) hS (lv_sub hl [] rfl)
      · have hm := sd_mf hc hm
        refine lv_lload hx hb d_Doubles_join_71 (lv_at hl 0 rfl) ?_
        refine sd_ldc2 (v := (-9223372036854775808 : Int64)) hx hb hown (htt _ km_Doubles_37) d_Doubles_join_73 ?_
        refine lv_lor hx hb d_Doubles_join_76 ?_
        refine lv_goto (tgt := 82) hx hb d_Doubles_join_77 (by decide) ?_
        cases hm
        exact J82_3 H locs ls (hP.sub [] rfl) (hD.sub [] (by decide) rfl) hS (lv_sub hl [] rfl)
    replace hm := hv
    refine lv_if_eq (tgt := 63) hx hb d_Doubles_join_56 (by decide) (fun hc => ?_) (fun hc => ?_)
    · have hm := sd_mt hc hm
      refine lv_lconst (v := (0 : Int64)) hx hb d_Doubles_join_63 (by decide) ?_
      cases hm
      exact J64_2 H locs ls (hP.sub [] rfl) (hD.sub [] (by decide) rfl) hS (lv_sub hl [2] rfl)
    · have hm := sd_mf hc hm
      refine lv_lconst (v := (1 : Int64)) hx hb d_Doubles_join_59 (by decide) ?_
      refine lv_goto (tgt := 64) hx hb d_Doubles_join_60 (by decide) ?_
      cases hm
      exact J64_2 H locs ls (hP.sub [] rfl) (hD.sub [] (by decide) rfl) hS (lv_sub hl [2] rfl)
  replace hm := hv
  refine sd_lne (tgt := 31) hx hb d_Doubles_join_9 d_Doubles_join_10 (by decide) (fun hc => ?_) (fun hc => ?_)
  · have hm := sd_mf hc hm
    refine lv_iconst (v := (0 : Int32)) hx hb d_Doubles_join_31 (by decide) ?_
    cases hm
    exact J32_1 H locs ls (hP.sub [] rfl) (hD.sub [] (by decide) rfl) hS (lv_sub hl [1, 2, 0] rfl)
  · have hm := sd_mt hc hm
    refine lv_iload hx hb d_Doubles_join_13 (lv_at hl 4 rfl) ?_
    refine lv_if_ne (tgt := 27) hx hb d_Doubles_join_15 (by decide) (fun hc => ?_) (fun hc => ?_)
    · have hm := sd_mf hc hm
      refine lv_iconst (v := (1 : Int32)) hx hb d_Doubles_join_27 (by decide) ?_
      refine lv_goto (tgt := 32) hx hb d_Doubles_join_28 (by decide) ?_
      cases hm
      exact J32_1 H locs ls (hP.sub [] rfl) (hD.sub [] (by decide) rfl) hS (lv_sub hl [1, 2, 0] rfl)
    · have hm := sd_mt hc hm
      refine lv_lload hx hb d_Doubles_join_18 (lv_at hl 0 rfl) ?_
      refine lv_lconst (v := (1 : Int64)) hx hb d_Doubles_join_20 (by decide) ?_
      refine lv_land hx hb d_Doubles_join_21 ?_
      refine lv_lconst (v := (1 : Int64)) hx hb d_Doubles_join_22 (by decide) ?_
      refine sd_lne (tgt := 31) hx hb d_Doubles_join_23 d_Doubles_join_24 (by decide) (fun hc => ?_) (fun hc => ?_)
      · have hm := sd_mf hc hm
        refine lv_iconst (v := (0 : Int32)) hx hb d_Doubles_join_31 (by decide) ?_
        cases hm
        exact J32_1 H locs ls (hP.sub [] rfl) (hD.sub [] (by decide) rfl) hS (lv_sub hl [1, 2, 0] rfl)
      · have hm := sd_mt hc hm
        refine lv_iconst (v := (1 : Int32)) hx hb d_Doubles_join_27 (by decide) ?_
        refine lv_goto (tgt := 32) hx hb d_Doubles_join_28 (by decide) ?_
        cases hm
        exact J32_1 H locs ls (hP.sub [] rfl) (hD.sub [] (by decide) rfl) hS (lv_sub hl [1, 2, 0] rfl)
theorem d_Doubles_ofFraction_0 : decode b_Doubles_ofFraction 0 = .ok (.lload_n 0, 1) := by decide +kernel
theorem d_Doubles_ofFraction_1 : decode b_Doubles_ofFraction 1 = .ok (.lconst 0, 1) := by decide +kernel
theorem d_Doubles_ofFraction_2 : decode b_Doubles_ofFraction 2 = .ok (.lcmp, 1) := by decide +kernel
theorem d_Doubles_ofFraction_3 : decode b_Doubles_ofFraction 3 = .ok (.ifCond .ne 5, 3) := by decide +kernel
theorem d_Doubles_ofFraction_6 : decode b_Doubles_ofFraction 6 = .ok (.lconst 0, 1) := by decide +kernel
theorem d_Doubles_ofFraction_7 : decode b_Doubles_ofFraction 7 = .ok (.lreturn, 1) := by decide +kernel
theorem d_Doubles_ofFraction_8 : decode b_Doubles_ofFraction 8 = .ok (.lload_n 0, 1) := by decide +kernel
theorem d_Doubles_ofFraction_9 : decode b_Doubles_ofFraction 9 = .ok (.invokestatic 7, 3) := by decide +kernel
theorem d_Doubles_ofFraction_12 : decode b_Doubles_ofFraction 12 = .ok (.lstore 4, 2) := by decide +kernel
theorem d_Doubles_ofFraction_14 : decode b_Doubles_ofFraction 14 = .ok (.lload_n 2, 1) := by decide +kernel
theorem d_Doubles_ofFraction_15 : decode b_Doubles_ofFraction 15 = .ok (.lstore 6, 2) := by decide +kernel
theorem d_Doubles_ofFraction_17 : decode b_Doubles_ofFraction 17 = .ok (.iconst 0, 1) := by decide +kernel
theorem d_Doubles_ofFraction_18 : decode b_Doubles_ofFraction 18 = .ok (.istore 8, 2) := by decide +kernel
theorem d_Doubles_ofFraction_20 : decode b_Doubles_ofFraction 20 = .ok (.iconst 0, 1) := by decide +kernel
theorem d_Doubles_ofFraction_21 : decode b_Doubles_ofFraction 21 = .ok (.istore 9, 2) := by decide +kernel
theorem d_Doubles_ofFraction_23 : decode b_Doubles_ofFraction 23 = .ok (.iload 9, 2) := by decide +kernel
theorem d_Doubles_ofFraction_25 : decode b_Doubles_ofFraction 25 = .ok (.bipush 32, 2) := by decide +kernel
theorem d_Doubles_ofFraction_27 : decode b_Doubles_ofFraction 27 = .ok (.if_icmp .ge 28, 3) := by decide +kernel
theorem d_Doubles_ofFraction_30 : decode b_Doubles_ofFraction 30 = .ok (.lload 4, 2) := by decide +kernel
theorem d_Doubles_ofFraction_32 : decode b_Doubles_ofFraction 32 = .ok (.lload 6, 2) := by decide +kernel
theorem d_Doubles_ofFraction_34 : decode b_Doubles_ofFraction 34 = .ok (.lcmp, 1) := by decide +kernel
theorem d_Doubles_ofFraction_35 : decode b_Doubles_ofFraction 35 = .ok (.ifCond .ge 20, 3) := by decide +kernel
theorem d_Doubles_ofFraction_38 : decode b_Doubles_ofFraction 38 = .ok (.lload 4, 2) := by decide +kernel
theorem d_Doubles_ofFraction_40 : decode b_Doubles_ofFraction 40 = .ok (.ldc2_w 15, 3) := by decide +kernel
theorem d_Doubles_ofFraction_43 : decode b_Doubles_ofFraction 43 = .ok (.lmul, 1) := by decide +kernel
theorem d_Doubles_ofFraction_44 : decode b_Doubles_ofFraction 44 = .ok (.lstore 4, 2) := by decide +kernel
theorem d_Doubles_ofFraction_46 : decode b_Doubles_ofFraction 46 = .ok (.iinc 8 (-1), 3) := by decide +kernel
theorem d_Doubles_ofFraction_49 : decode b_Doubles_ofFraction 49 = .ok (.iinc 9 1, 3) := by decide +kernel
theorem d_Doubles_ofFraction_52 : decode b_Doubles_ofFraction 52 = .ok (.goto (-29), 3) := by decide +kernel
theorem d_Doubles_ofFraction_55 : decode b_Doubles_ofFraction 55 = .ok (.iconst 0, 1) := by decide +kernel
theorem d_Doubles_ofFraction_56 : decode b_Doubles_ofFraction 56 = .ok (.istore 9, 2) := by decide +kernel
theorem d_Doubles_ofFraction_58 : decode b_Doubles_ofFraction 58 = .ok (.iload 9, 2) := by decide +kernel
theorem d_Doubles_ofFraction_60 : decode b_Doubles_ofFraction 60 = .ok (.bipush 32, 2) := by decide +kernel
theorem d_Doubles_ofFraction_62 : decode b_Doubles_ofFraction 62 = .ok (.if_icmp .ge 32, 3) := by decide +kernel
theorem d_Doubles_ofFraction_65 : decode b_Doubles_ofFraction 65 = .ok (.lload 4, 2) := by decide +kernel
theorem d_Doubles_ofFraction_67 : decode b_Doubles_ofFraction 67 = .ok (.ldc2_w 15, 3) := by decide +kernel
theorem d_Doubles_ofFraction_70 : decode b_Doubles_ofFraction 70 = .ok (.lload 6, 2) := by decide +kernel
theorem d_Doubles_ofFraction_72 : decode b_Doubles_ofFraction 72 = .ok (.lmul, 1) := by decide +kernel
theorem d_Doubles_ofFraction_73 : decode b_Doubles_ofFraction 73 = .ok (.lcmp, 1) := by decide +kernel
theorem d_Doubles_ofFraction_74 : decode b_Doubles_ofFraction 74 = .ok (.ifCond .lt 20, 3) := by decide +kernel
theorem d_Doubles_ofFraction_77 : decode b_Doubles_ofFraction 77 = .ok (.lload 6, 2) := by decide +kernel
theorem d_Doubles_ofFraction_79 : decode b_Doubles_ofFraction 79 = .ok (.ldc2_w 15, 3) := by decide +kernel
theorem d_Doubles_ofFraction_82 : decode b_Doubles_ofFraction 82 = .ok (.lmul, 1) := by decide +kernel
theorem d_Doubles_ofFraction_83 : decode b_Doubles_ofFraction 83 = .ok (.lstore 6, 2) := by decide +kernel
theorem d_Doubles_ofFraction_85 : decode b_Doubles_ofFraction 85 = .ok (.iinc 8 1, 3) := by decide +kernel
theorem d_Doubles_ofFraction_88 : decode b_Doubles_ofFraction 88 = .ok (.iinc 9 1, 3) := by decide +kernel
theorem d_Doubles_ofFraction_91 : decode b_Doubles_ofFraction 91 = .ok (.goto (-33), 3) := by decide +kernel
theorem d_Doubles_ofFraction_94 : decode b_Doubles_ofFraction 94 = .ok (.lconst 0, 1) := by decide +kernel
theorem d_Doubles_ofFraction_95 : decode b_Doubles_ofFraction 95 = .ok (.lstore 9, 2) := by decide +kernel
theorem d_Doubles_ofFraction_97 : decode b_Doubles_ofFraction 97 = .ok (.iconst 0, 1) := by decide +kernel
theorem d_Doubles_ofFraction_98 : decode b_Doubles_ofFraction 98 = .ok (.istore 11, 2) := by decide +kernel
theorem d_Doubles_ofFraction_100 : decode b_Doubles_ofFraction 100 = .ok (.iload 11, 2) := by decide +kernel
theorem d_Doubles_ofFraction_102 : decode b_Doubles_ofFraction 102 = .ok (.bipush 54, 2) := by decide +kernel
theorem d_Doubles_ofFraction_104 : decode b_Doubles_ofFraction 104 = .ok (.if_icmp .ge 65, 3) := by decide +kernel
theorem d_Doubles_ofFraction_107 : decode b_Doubles_ofFraction 107 = .ok (.lload 4, 2) := by decide +kernel
theorem d_Doubles_ofFraction_109 : decode b_Doubles_ofFraction 109 = .ok (.lload 6, 2) := by decide +kernel
theorem d_Doubles_ofFraction_111 : decode b_Doubles_ofFraction 111 = .ok (.lcmp, 1) := by decide +kernel
theorem d_Doubles_ofFraction_112 : decode b_Doubles_ofFraction 112 = .ok (.ifCond .lt 7, 3) := by decide +kernel
theorem d_Doubles_ofFraction_115 : decode b_Doubles_ofFraction 115 = .ok (.iconst 1, 1) := by decide +kernel
theorem d_Doubles_ofFraction_116 : decode b_Doubles_ofFraction 116 = .ok (.goto 4, 3) := by decide +kernel
theorem d_Doubles_ofFraction_119 : decode b_Doubles_ofFraction 119 = .ok (.iconst 0, 1) := by decide +kernel
theorem d_Doubles_ofFraction_120 : decode b_Doubles_ofFraction 120 = .ok (.istore 12, 2) := by decide +kernel
theorem d_Doubles_ofFraction_122 : decode b_Doubles_ofFraction 122 = .ok (.ldc2_w 15, 3) := by decide +kernel
theorem d_Doubles_ofFraction_125 : decode b_Doubles_ofFraction 125 = .ok (.lload 9, 2) := by decide +kernel
theorem d_Doubles_ofFraction_127 : decode b_Doubles_ofFraction 127 = .ok (.lmul, 1) := by decide +kernel
theorem d_Doubles_ofFraction_128 : decode b_Doubles_ofFraction 128 = .ok (.iload 12, 2) := by decide +kernel
theorem d_Doubles_ofFraction_130 : decode b_Doubles_ofFraction 130 = .ok (.ifCond .eq 7, 3) := by decide +kernel
theorem d_Doubles_ofFraction_133 : decode b_Doubles_ofFraction 133 = .ok (.iconst 1, 1) := by decide +kernel
theorem d_Doubles_ofFraction_134 : decode b_Doubles_ofFraction 134 = .ok (.goto 4, 3) := by decide +kernel
theorem d_Doubles_ofFraction_137 : decode b_Doubles_ofFraction 137 = .ok (.iconst 0, 1) := by decide +kernel
theorem d_Doubles_ofFraction_138 : decode b_Doubles_ofFraction 138 = .ok (.i2l, 1) := by decide +kernel
theorem d_Doubles_ofFraction_139 : decode b_Doubles_ofFraction 139 = .ok (.ladd, 1) := by decide +kernel
theorem d_Doubles_ofFraction_140 : decode b_Doubles_ofFraction 140 = .ok (.lstore 9, 2) := by decide +kernel
theorem d_Doubles_ofFraction_142 : decode b_Doubles_ofFraction 142 = .ok (.ldc2_w 15, 3) := by decide +kernel
theorem d_Doubles_ofFraction_145 : decode b_Doubles_ofFraction 145 = .ok (.iload 12, 2) := by decide +kernel
theorem d_Doubles_ofFraction_147 : decode b_Doubles_ofFraction 147 = .ok (.ifCond .eq 11, 3) := by decide +kernel
theorem d_Doubles_ofFraction_150 : decode b_Doubles_ofFraction 150 = .ok (.lload 4, 2) := by decide +kernel
theorem d_Doubles_ofFraction_152 : decode b_Doubles_ofFraction 152 = .ok (.lload 6, 2) := by decide +kernel
theorem d_Doubles_ofFraction_154 : decode b_Doubles_ofFraction 154 = .ok (.lsub, 1) := by decide +kernel
theorem d_Doubles_ofFraction_155 : decode b_Doubles_ofFraction 155 = .ok (.goto 5, 3) := by decide +kernel
theorem d_Doubles_ofFraction_158 : decode b_Doubles_ofFraction 158 = .ok (.lload 4, 2) := by decide +kernel
theorem d_Doubles_ofFraction_160 : decode b_Doubles_ofFraction 160 = .ok (.lmul, 1) := by decide +kernel
theorem d_Doubles_ofFraction_161 : decode b_Doubles_ofFraction 161 = .ok (.lstore 4, 2) := by decide +kernel
theorem d_Doubles_ofFraction_163 : decode b_Doubles_ofFraction 163 = .ok (.iinc 11 1, 3) := by decide +kernel
theorem d_Doubles_ofFraction_166 : decode b_Doubles_ofFraction 166 = .ok (.goto (-66), 3) := by decide +kernel
theorem d_Doubles_ofFraction_169 : decode b_Doubles_ofFraction 169 = .ok (.lload_n 0, 1) := by decide +kernel
theorem d_Doubles_ofFraction_170 : decode b_Doubles_ofFraction 170 = .ok (.lconst 0, 1) := by decide +kernel
theorem d_Doubles_ofFraction_171 : decode b_Doubles_ofFraction 171 = .ok (.lcmp, 1) := by decide +kernel
theorem d_Doubles_ofFraction_172 : decode b_Doubles_ofFraction 172 = .ok (.ifCond .ge 7, 3) := by decide +kernel
theorem d_Doubles_ofFraction_175 : decode b_Doubles_ofFraction 175 = .ok (.iconst 1, 1) := by decide +kernel
theorem d_Doubles_ofFraction_176 : decode b_Doubles_ofFraction 176 = .ok (.goto 4, 3) := by decide +kernel
theorem d_Doubles_ofFraction_179 : decode b_Doubles_ofFraction 179 = .ok (.iconst 0, 1) := by decide +kernel
theorem d_Doubles_ofFraction_180 : decode b_Doubles_ofFraction 180 = .ok (.iload 8, 2) := by decide +kernel
theorem d_Doubles_ofFraction_182 : decode b_Doubles_ofFraction 182 = .ok (.lload 9, 2) := by decide +kernel
theorem d_Doubles_ofFraction_184 : decode b_Doubles_ofFraction 184 = .ok (.lload 4, 2) := by decide +kernel
theorem d_Doubles_ofFraction_186 : decode b_Doubles_ofFraction 186 = .ok (.lconst 0, 1) := by decide +kernel
theorem d_Doubles_ofFraction_187 : decode b_Doubles_ofFraction 187 = .ok (.lcmp, 1) := by decide +kernel
theorem d_Doubles_ofFraction_188 : decode b_Doubles_ofFraction 188 = .ok (.ifCond .eq 7, 3) := by decide +kernel
theorem d_Doubles_ofFraction_191 : decode b_Doubles_ofFraction 191 = .ok (.iconst 1, 1) := by decide +kernel
theorem d_Doubles_ofFraction_192 : decode b_Doubles_ofFraction 192 = .ok (.goto 4, 3) := by decide +kernel
theorem d_Doubles_ofFraction_195 : decode b_Doubles_ofFraction 195 = .ok (.iconst 0, 1) := by decide +kernel
theorem d_Doubles_ofFraction_196 : decode b_Doubles_ofFraction 196 = .ok (.invokestatic 17, 3) := by decide +kernel
theorem d_Doubles_ofFraction_199 : decode b_Doubles_ofFraction 199 = .ok (.lreturn, 1) := by decide +kernel
def mf_Doubles_ofFraction_L23 (vBot : Int64) : Nat → Int64 → Int32 → Int32 → Option (Int64 × Int32)
  | 0, _, _, _ => none
  | fu + 1, x4_1, x8, x9 => (if (32 : Int32) ≤ x9 then (some (x4_1, x8)) else (if vBot ≤ x4_1 then (some (x4_1, x8)) else (sd_let ((x4_1 * (2 : Int64))) fun x4_2 => (sd_let (x8 + (-1 : Int32)) fun x8_1 => (sd_let (x9 + (1 : Int32)) fun x9_1 => ((mf_Doubles_ofFraction_L23 vBot fu) x4_2 x8_1 x9_1))))))
def mf_Doubles_ofFraction_L58 (rx4 : Int64) : Nat → Int64 → Int32 → Int32 → Option (Int64 × Int32)
  | 0, _, _, _ => none
  | fu + 1, x6, x8_2, x9_2 => (if (32 : Int32) ≤ x9_2 then (some (x6, x8_2)) else (if rx4 < ((2 : Int64) * x6) then (some (x6, x8_2)) else (sd_let ((x6 * (2 : Int64))) fun x6_1 => (sd_let (x8_2 + (1 : Int32)) fun x8_3 => (sd_let (x9_2 + (1 : Int32)) fun x9_3 => ((mf_Doubles_ofFraction_L58 rx4 fu) x6_1 x8_3 x9_3))))))
def mf_Doubles_ofFraction_L100 (rx6 : Int64) : Nat → Int64 → Int64 → Int32 → Option (Int64 × Int64)
  | 0, _, _, _ => none
  | fu + 1, x4_3, x9_4, x11 => (if (54 : Int32) ≤ x11 then (some (x4_3, x9_4)) else (sd_b1 (if x4_3 < rx6 then (some ((0 : Int32))) else (some ((1 : Int32)))) fun y => (sd_b1 (if y = 0 then (some ((0 : Int32))) else (some ((1 : Int32)))) fun y_1 => (sd_let ((((2 : Int64) * x9_4) + (y_1.toInt64))) fun x9_5 => (sd_b1 (if y = 0 then (some (x4_3)) else (some ((x4_3 - rx6)))) fun y_2 => (sd_let (((2 : Int64) * y_2)) fun x4_4 => (sd_let (x11 + (1 : Int32)) fun x11_1 => ((mf_Doubles_ofFraction_L100 rx6 fu) x4_4 x9_5 x11_1))))))))
def mf_Doubles_ofFraction (F : Nat) (vTop : Int64) (vBot : Int64) : Option (Int64) :=
  (if vTop = (0 : Int64) then (some ((0 : Int64))) else (sd_let ((if 0 < vTop then vTop else -vTop)) fun x4 => (sd_b2 (mf_Doubles_ofFraction_L23 vBot F x4 (0 : Int32) (0 : Int32)) fun rx4 rx8 => (sd_b2 (mf_Doubles_ofFraction_L58 rx4 F vBot rx8 (0 : Int32)) fun rx6 rx8_1 => (sd_b2 (mf_Doubles_ofFraction_L100 rx6 F rx4 (0 : Int64) (0 : Int32)) fun rx4_1 rx9 => (sd_b1 (if (0 : Int64) ≤ vTop then (some ((0 : Int32))) else (some ((1 : Int32)))) fun y_3 => (sd_b1 (if rx4_1 = (0 : Int64) then (some ((0 : Int32))) else (some ((1 : Int32)))) fun y_4 => (sd_b1 (mf_Doubles_join F y_3 rx8_1 rx9 y_4) fun r => (some (r))))))))))
abbrev rm_Doubles_ofFraction : Room := { frames := 1, cells := 0, slots := 0, locals := 29 }
set_option maxHeartbeats 4000000 in
set_option maxRecDepth 100000 in
theorem ct_Doubles_ofFraction (l : Launch) (D : va_G) (g : G4) (sz : Nat) (vTop : Int64) (vBot : Int64) (F : Nat) (res : Int64) (hm : mf_Doubles_ofFraction F vTop vBot = some res) : Met l y_Doubles_ofFraction (.code y_Doubles_ofFraction b_Doubles_ofFraction 13 (some .long) :: sd_tb) rm_Doubles_ofFraction (sd_PW D g [.long vTop, .long vBot] sz []) (sd_Ql0 D g res [] (va_A [] sz)) 0 0 (va_A [] sz) := by
  refine sd_met (Qf := fun A => sd_Ql0 D g res [] A) (own := R_Doubles) (by decide +kernel) rfl (Nat.le_of_ble_eq_true rfl) ?_
  intro p e s m args below meth c S hr hlk hK A hA Q hQ H locs hP hD hS ls hl
  have hx := S.1
  have hb := S.2.1
  have hml := S.2.2.1
  have hown := S.2.2.2.1
  have htt := sd_tt S
  replace hl : lv_has ls 13 [(0, .long vTop), (2, .long vBot)] := hl
  unfold mf_Doubles_ofFraction at hm
  refine lv_lload_n hx hb d_Doubles_ofFraction_0 rfl (lv_at hl 0 rfl) ?_
  refine lv_lconst (v := (0 : Int64)) hx hb d_Doubles_ofFraction_1 (by decide) ?_
  refine sd_lne (tgt := 8) hx hb d_Doubles_ofFraction_2 d_Doubles_ofFraction_3 (by decide) (fun hc => ?_) (fun hc => ?_)
  · have hm := sd_mf hc hm
    refine lv_lload_n hx hb d_Doubles_ofFraction_8 rfl (lv_at hl 0 rfl) ?_
    refine sd_abs hx hb hml hown kl_Doubles_7 htt hl d_Doubles_ofFraction_9 (Nat.le_of_ble_eq_true rfl) (Nat.le_of_ble_eq_true rfl) ?_
    obtain ⟨x4, ex4, hm⟩ := sd_mlet hm
    refine sd_topj ex4 ?_
    refine lv_lstore (lv' := [(4, .long x4), (0, .long vTop), (2, .long vBot)]) hx hb d_Doubles_ofFraction_12 hl (by decide) rfl (fun ls hl => ?_)
    refine lv_lload_n hx hb d_Doubles_ofFraction_14 rfl (lv_at hl 2 rfl) ?_
    refine lv_lstore (lv' := [(6, .long vBot), (4, .long x4), (0, .long vTop), (2, .long vBot)]) hx hb d_Doubles_ofFraction_15 hl (by decide) rfl (fun ls hl => ?_)
    refine lv_iconst (v := (0 : Int32)) hx hb d_Doubles_ofFraction_17 (by decide) ?_
    refine lv_istore (lv' := [(8, .int (0 : Int32)), (6, .long vBot), (4, .long x4), (0, .long vTop), (2, .long vBot)]) hx hb d_Doubles_ofFraction_18 hl (by decide) rfl (fun ls hl => ?_)
    refine lv_iconst (v := (0 : Int32)) hx hb d_Doubles_ofFraction_20 (by decide) ?_
    refine lv_istore (lv' := [(9, .int (0 : Int32)), (8, .int (0 : Int32)), (6, .long vBot), (4, .long x4), (0, .long vTop), (2, .long vBot)]) hx hb d_Doubles_ofFraction_21 hl (by decide) rfl (fun ls hl => ?_)
    have L23 : ∀ (fu : Nat) (x4_1 : Int64) (x8 : Int32) (x9 : Int32) (rx4 : Int64) (rx8 : Int32), mf_Doubles_ofFraction_L23 vBot fu x4_1 x8 x9 = some (rx4, rx8) → ∀ (H : Heap) (locs : List Loc) (ls : Array Slot), va_P D classes [] H → va_D A [] → va_S A s.heap H locs → lv_has ls 13 [(0, .long vTop), (4, .long x4_1), (6, .long vBot), (8, .int x8), (9, .int x9)] → (∀ (H : Heap) (locs : List Loc) (ls : Array Slot), va_P D classes [] H → va_D A [] → va_S A s.heap H locs → lv_has ls 13 [(0, .long vTop), (4, .long rx4), (6, .long vBot), (8, .int rx8)] → W p l e rm_Doubles_ofFraction s m args below meth c H locs 0 0 Q (F0 m 55 ls [])) → W p l e rm_Doubles_ofFraction s m args below meth c H locs 0 0 Q (F0 m 23 ls []) := by
      intro fu
      induction fu with
      | zero => intro x4_1 x8 x9 rx4 rx8 hm; exact absurd (show (none : Option (Int64 × Int32)) = some (rx4, rx8) from hm) (fun h => nomatch h)
      | succ fu ih =>
        intro x4_1 x8 x9 rx4 rx8 hm H locs ls hP hD hS hl kx55
        rw [mf_Doubles_ofFraction_L23] at hm
        refine lv_iload hx hb d_Doubles_ofFraction_23 (lv_at hl 4 rfl) ?_
        refine lv_bipush (v := (32 : Int32)) hx hb d_Doubles_ofFraction_25 (by decide) ?_
        refine lv_icmp_ge (tgt := 55) hx hb d_Doubles_ofFraction_27 (by decide) (fun hc => ?_) (fun hc => ?_)
        · have hm := sd_mt hc hm
          cases hm
          exact kx55 H locs ls (hP.sub [] rfl) (hD.sub [] (by decide) rfl) hS (lv_sub hl [0, 1, 2, 3] rfl)
        · have hm := sd_mf hc hm
          refine lv_lload hx hb d_Doubles_ofFraction_30 (lv_at hl 1 rfl) ?_
          refine lv_lload hx hb d_Doubles_ofFraction_32 (lv_at hl 2 rfl) ?_
          refine sd_lge (tgt := 55) hx hb d_Doubles_ofFraction_34 d_Doubles_ofFraction_35 (by decide) (fun hc => ?_) (fun hc => ?_)
          · have hm := sd_mt hc hm
            cases hm
            exact kx55 H locs ls (hP.sub [] rfl) (hD.sub [] (by decide) rfl) hS (lv_sub hl [0, 1, 2, 3] rfl)
          · have hm := sd_mf hc hm
            refine lv_lload hx hb d_Doubles_ofFraction_38 (lv_at hl 1 rfl) ?_
            refine sd_ldc2 (v := (2 : Int64)) hx hb hown (htt _ km_Doubles_15) d_Doubles_ofFraction_40 ?_
            refine lv_lmul hx hb d_Doubles_ofFraction_43 ?_
            obtain ⟨x4_2, ex4_2, hm⟩ := sd_mlet hm
            refine sd_topj ex4_2 ?_
            refine lv_lstore (lv' := [(4, .long x4_2), (0, .long vTop), (6, .long vBot), (8, .int x8), (9, .int x9)]) hx hb d_Doubles_ofFraction_44 hl (by decide) rfl (fun ls hl => ?_)
            obtain ⟨x8_1, ex8_1, hm⟩ := sd_mlet hm
            refine lv_iinc (v := x8_1) (lv' := [(8, .int x8_1), (4, .long x4_2), (0, .long vTop), (6, .long vBot), (9, .int x9)]) hx hb d_Doubles_ofFraction_46 hl (k := 3) rfl (by rw [ex8_1]; rfl) (by decide) rfl (fun ls hl => ?_)
            obtain ⟨x9_1, ex9_1, hm⟩ := sd_mlet hm
            refine lv_iinc (v := x9_1) (lv' := [(9, .int x9_1), (8, .int x8_1), (4, .long x4_2), (0, .long vTop), (6, .long vBot)]) hx hb d_Doubles_ofFraction_49 hl (k := 4) rfl (by rw [ex9_1]; rfl) (by decide) rfl (fun ls hl => ?_)
            refine lv_goto (tgt := 23) hx hb d_Doubles_ofFraction_52 (by decide) ?_
            exact ih x4_2 x8_1 x9_1 rx4 rx8 hm H locs ls (hP.sub [] rfl) (hD.sub [] (by decide) rfl) hS (lv_sub hl [3, 2, 4, 1, 0] rfl) kx55
    obtain ⟨rx4, rx8, hc, hm⟩ := sd_mb2 hm
    refine L23 F x4 (0 : Int32) (0 : Int32) rx4 rx8 hc H locs ls (hP.sub [] rfl) (hD.sub [] (by decide) rfl) hS (lv_sub hl [4, 3, 2, 1, 0] rfl) ?_
    intro H locs ls hP hD hS hl
    refine lv_iconst (v := (0 : Int32)) hx hb d_Doubles_ofFraction_55 (by decide) ?_
    refine lv_istore (lv' := [(9, .int (0 : Int32)), (0, .long vTop), (4, .long rx4), (6, .long vBot), (8, .int rx8)]) hx hb d_Doubles_ofFraction_56 hl (by decide) rfl (fun ls hl => ?_)
    have L58 : ∀ (fu : Nat) (x6 : Int64) (x8_2 : Int32) (x9_2 : Int32) (rx6 : Int64) (rx8_1 : Int32), mf_Doubles_ofFraction_L58 rx4 fu x6 x8_2 x9_2 = some (rx6, rx8_1) → ∀ (H : Heap) (locs : List Loc) (ls : Array Slot), va_P D classes [] H → va_D A [] → va_S A s.heap H locs → lv_has ls 13 [(0, .long vTop), (4, .long rx4), (6, .long x6), (8, .int x8_2), (9, .int x9_2)] → (∀ (H : Heap) (locs : List Loc) (ls : Array Slot), va_P D classes [] H → va_D A [] → va_S A s.heap H locs → lv_has ls 13 [(0, .long vTop), (4, .long rx4), (6, .long rx6), (8, .int rx8_1)] → W p l e rm_Doubles_ofFraction s m args below meth c H locs 0 0 Q (F0 m 94 ls [])) → W p l e rm_Doubles_ofFraction s m args below meth c H locs 0 0 Q (F0 m 58 ls []) := by
      intro fu
      induction fu with
      | zero => intro x6 x8_2 x9_2 rx6 rx8_1 hm; exact absurd (show (none : Option (Int64 × Int32)) = some (rx6, rx8_1) from hm) (fun h => nomatch h)
      | succ fu ih =>
        intro x6 x8_2 x9_2 rx6 rx8_1 hm H locs ls hP hD hS hl kx94
        rw [mf_Doubles_ofFraction_L58] at hm
        refine lv_iload hx hb d_Doubles_ofFraction_58 (lv_at hl 4 rfl) ?_
        refine lv_bipush (v := (32 : Int32)) hx hb d_Doubles_ofFraction_60 (by decide) ?_
        refine lv_icmp_ge (tgt := 94) hx hb d_Doubles_ofFraction_62 (by decide) (fun hc => ?_) (fun hc => ?_)
        · have hm := sd_mt hc hm
          cases hm
          exact kx94 H locs ls (hP.sub [] rfl) (hD.sub [] (by decide) rfl) hS (lv_sub hl [0, 1, 2, 3] rfl)
        · have hm := sd_mf hc hm
          refine lv_lload hx hb d_Doubles_ofFraction_65 (lv_at hl 1 rfl) ?_
          refine sd_ldc2 (v := (2 : Int64)) hx hb hown (htt _ km_Doubles_15) d_Doubles_ofFraction_67 ?_
          refine lv_lload hx hb d_Doubles_ofFraction_70 (lv_at hl 2 rfl) ?_
          refine lv_lmul hx hb d_Doubles_ofFraction_72 ?_
          refine sd_llt (tgt := 94) hx hb d_Doubles_ofFraction_73 d_Doubles_ofFraction_74 (by decide) (fun hc => ?_) (fun hc => ?_)
          · have hm := sd_mt hc hm
            cases hm
            exact kx94 H locs ls (hP.sub [] rfl) (hD.sub [] (by decide) rfl) hS (lv_sub hl [0, 1, 2, 3] rfl)
          · have hm := sd_mf hc hm
            refine lv_lload hx hb d_Doubles_ofFraction_77 (lv_at hl 2 rfl) ?_
            refine sd_ldc2 (v := (2 : Int64)) hx hb hown (htt _ km_Doubles_15) d_Doubles_ofFraction_79 ?_
            refine lv_lmul hx hb d_Doubles_ofFraction_82 ?_
            obtain ⟨x6_1, ex6_1, hm⟩ := sd_mlet hm
            refine sd_topj ex6_1 ?_
            refine lv_lstore (lv' := [(6, .long x6_1), (0, .long vTop), (4, .long rx4), (8, .int x8_2), (9, .int x9_2)]) hx hb d_Doubles_ofFraction_83 hl (by decide) rfl (fun ls hl => ?_)
            obtain ⟨x8_3, ex8_3, hm⟩ := sd_mlet hm
            refine lv_iinc (v := x8_3) (lv' := [(8, .int x8_3), (6, .long x6_1), (0, .long vTop), (4, .long rx4), (9, .int x9_2)]) hx hb d_Doubles_ofFraction_85 hl (k := 3) rfl (by rw [ex8_3]; rfl) (by decide) rfl (fun ls hl => ?_)
            obtain ⟨x9_3, ex9_3, hm⟩ := sd_mlet hm
            refine lv_iinc (v := x9_3) (lv' := [(9, .int x9_3), (8, .int x8_3), (6, .long x6_1), (0, .long vTop), (4, .long rx4)]) hx hb d_Doubles_ofFraction_88 hl (k := 4) rfl (by rw [ex9_3]; rfl) (by decide) rfl (fun ls hl => ?_)
            refine lv_goto (tgt := 58) hx hb d_Doubles_ofFraction_91 (by decide) ?_
            exact ih x6_1 x8_3 x9_3 rx6 rx8_1 hm H locs ls (hP.sub [] rfl) (hD.sub [] (by decide) rfl) hS (lv_sub hl [3, 4, 2, 1, 0] rfl) kx94
    obtain ⟨rx6, rx8_1, hc, hm⟩ := sd_mb2 hm
    refine L58 F vBot rx8 (0 : Int32) rx6 rx8_1 hc H locs ls (hP.sub [] rfl) (hD.sub [] (by decide) rfl) hS (lv_sub hl [1, 2, 3, 4, 0] rfl) ?_
    intro H locs ls hP hD hS hl
    refine lv_lconst (v := (0 : Int64)) hx hb d_Doubles_ofFraction_94 (by decide) ?_
    refine lv_lstore (lv' := [(9, .long (0 : Int64)), (0, .long vTop), (4, .long rx4), (6, .long rx6), (8, .int rx8_1)]) hx hb d_Doubles_ofFraction_95 hl (by decide) rfl (fun ls hl => ?_)
    refine lv_iconst (v := (0 : Int32)) hx hb d_Doubles_ofFraction_97 (by decide) ?_
    refine lv_istore (lv' := [(11, .int (0 : Int32)), (9, .long (0 : Int64)), (0, .long vTop), (4, .long rx4), (6, .long rx6), (8, .int rx8_1)]) hx hb d_Doubles_ofFraction_98 hl (by decide) rfl (fun ls hl => ?_)
    have L100 : ∀ (fu : Nat) (x4_3 : Int64) (x9_4 : Int64) (x11 : Int32) (rx4_1 : Int64) (rx9 : Int64), mf_Doubles_ofFraction_L100 rx6 fu x4_3 x9_4 x11 = some (rx4_1, rx9) → ∀ (H : Heap) (locs : List Loc) (ls : Array Slot), va_P D classes [] H → va_D A [] → va_S A s.heap H locs → lv_has ls 13 [(0, .long vTop), (4, .long x4_3), (6, .long rx6), (8, .int rx8_1), (9, .long x9_4), (11, .int x11)] → (∀ (H : Heap) (locs : List Loc) (ls : Array Slot), va_P D classes [] H → va_D A [] → va_S A s.heap H locs → lv_has ls 13 [(0, .long vTop), (4, .long rx4_1), (8, .int rx8_1), (9, .long rx9)] → W p l e rm_Doubles_ofFraction s m args below meth c H locs 0 0 Q (F0 m 169 ls [])) → W p l e rm_Doubles_ofFraction s m args below meth c H locs 0 0 Q (F0 m 100 ls []) := by
      intro fu
      induction fu with
      | zero => intro x4_3 x9_4 x11 rx4_1 rx9 hm; exact absurd (show (none : Option (Int64 × Int64)) = some (rx4_1, rx9) from hm) (fun h => nomatch h)
      | succ fu ih =>
        intro x4_3 x9_4 x11 rx4_1 rx9 hm H locs ls hP hD hS hl kx169
        rw [mf_Doubles_ofFraction_L100] at hm
        refine lv_iload hx hb d_Doubles_ofFraction_100 (lv_at hl 5 rfl) ?_
        refine lv_bipush (v := (54 : Int32)) hx hb d_Doubles_ofFraction_102 (by decide) ?_
        refine lv_icmp_ge (tgt := 169) hx hb d_Doubles_ofFraction_104 (by decide) (fun hc => ?_) (fun hc => ?_)
        · have hm := sd_mt hc hm
          cases hm
          exact kx169 H locs ls (hP.sub [] rfl) (hD.sub [] (by decide) rfl) hS (lv_sub hl [0, 1, 3, 4] rfl)
        · have hm := sd_mf hc hm
          refine lv_lload hx hb d_Doubles_ofFraction_107 (lv_at hl 1 rfl) ?_
          refine lv_lload hx hb d_Doubles_ofFraction_109 (lv_at hl 2 rfl) ?_
          obtain ⟨y, hv, hm⟩ := sd_mb1 hm
          have J120_1 : ∀ (H : Heap) (locs : List Loc) (ls : Array Slot), va_P D classes [] H → va_D A [] → va_S A s.heap H locs → lv_has ls 13 [(0, .long vTop), (4, .long x4_3), (6, .long rx6), (8, .int rx8_1), (9, .long x9_4), (11, .int x11)] → W p l e rm_Doubles_ofFraction s m args below meth c H locs 0 0 Q (F0 m 120 ls [.int y]) := by
            intro H locs ls hP hD hS hl
            refine lv_istore (lv' := [(12, .int y), (0, .long vTop), (4, .long x4_3), (6, .long rx6), (8, .int rx8_1), (9, .long x9_4), (11, .int x11)]) hx hb d_Doubles_ofFraction_120 hl (by decide) rfl (fun ls hl => ?_)
            refine sd_ldc2 (v := (2 : Int64)) hx hb hown (htt _ km_Doubles_15) d_Doubles_ofFraction_122 ?_
            refine lv_lload hx hb d_Doubles_ofFraction_125 (lv_at hl 5 rfl) ?_
            refine lv_lmul hx hb d_Doubles_ofFraction_127 ?_
            refine lv_iload hx hb d_Doubles_ofFraction_128 (lv_at hl 0 rfl) ?_
            obtain ⟨y_1, hv, hm⟩ := sd_mb1 hm
            have J138_2 : ∀ (H : Heap) (locs : List Loc) (ls : Array Slot), va_P D classes [] H → va_D A [] → va_S A s.heap H locs → lv_has ls 13 [(0, .long vTop), (4, .long x4_3), (6, .long rx6), (8, .int rx8_1), (11, .int x11), (12, .int y)] → W p l e rm_Doubles_ofFraction s m args below meth c H locs 0 0 Q (F0 m 138 ls [.int y_1, .long ((2 : Int64) * x9_4)]) := by
              intro H locs ls hP hD hS hl
              refine lv_i2l hx hb d_Doubles_ofFraction_138 rfl ?_
              refine lv_ladd hx hb d_Doubles_ofFraction_139 ?_
              obtain ⟨x9_5, ex9_5, hm⟩ := sd_mlet hm
              refine sd_topj ex9_5 ?_
              refine lv_lstore (lv' := [(9, .long x9_5), (0, .long vTop), (4, .long x4_3), (6, .long rx6), (8, .int rx8_1), (11, .int x11), (12, .int y)]) hx hb d_Doubles_ofFraction_140 hl (by decide) rfl (fun ls hl => ?_)
              refine sd_ldc2 (v := (2 : Int64)) hx hb hown (htt _ km_Doubles_15) d_Doubles_ofFraction_142 ?_
              refine lv_iload hx hb d_Doubles_ofFraction_145 (lv_at hl 6 rfl) ?_
              obtain ⟨y_2, hv, hm⟩ := sd_mb1 hm
              have J160_3 : ∀ (H : Heap) (locs : List Loc) (ls : Array Slot), va_P D classes [] H → va_D A [] → va_S A s.heap H locs → lv_has ls 13 [(0, .long vTop), (6, .long rx6), (8, .int rx8_1), (9, .long x9_5), (11, .int x11)] → W p l e rm_Doubles_ofFraction s m args below meth c H locs 0 0 Q (F0 m 160 ls [.long y_2, .long (2 : Int64)]) := by
                intro H locs ls hP hD hS hl
                refine lv_lmul hx hb d_Doubles_ofFraction_160 ?_
                obtain ⟨x4_4, ex4_4, hm⟩ := sd_mlet hm
                refine sd_topj ex4_4 ?_
                refine lv_lstore (lv' := [(4, .long x4_4), (0, .long vTop), (6, .long rx6), (8, .int rx8_1), (9, .long x9_5), (11, .int x11)]) hx hb d_Doubles_ofFraction_161 hl (by decide) rfl (fun ls hl => ?_)
                obtain ⟨x11_1, ex11_1, hm⟩ := sd_mlet hm
                refine lv_iinc (v := x11_1) (lv' := [(11, .int x11_1), (4, .long x4_4), (0, .long vTop), (6, .long rx6), (8, .int rx8_1), (9, .long x9_5)]) hx hb d_Doubles_ofFraction_163 hl (k := 5) rfl (by rw [ex11_1]; rfl) (by decide) rfl (fun ls hl => ?_)
                refine lv_goto (tgt := 100) hx hb d_Doubles_ofFraction_166 (by decide) ?_
                exact ih x4_4 x9_5 x11_1 rx4_1 rx9 hm H locs ls (hP.sub [] rfl) (hD.sub [] (by decide) rfl) hS (lv_sub hl [2, 1, 3, 4, 5, 0] rfl) kx169
              replace hm := hv
              refine lv_if_eq (tgt := 158) hx hb d_Doubles_ofFraction_147 (by decide) (fun hc => ?_) (fun hc => ?_)
              · have hm := sd_mt hc hm
                refine lv_lload hx hb d_Doubles_ofFraction_158 (lv_at hl 2 rfl) ?_
                cases hm
                exact J160_3 H locs ls (hP.sub [] rfl) (hD.sub [] (by decide) rfl) hS (lv_sub hl [1, 3, 4, 0, 5] rfl)
              · have hm := sd_mf hc hm
                refine lv_lload hx hb d_Doubles_ofFraction_150 (lv_at hl 2 rfl) ?_
                refine lv_lload hx hb d_Doubles_ofFraction_152 (lv_at hl 3 rfl) ?_
                refine lv_lsub hx hb d_Doubles_ofFraction_154 ?_
                refine lv_goto (tgt := 160) hx hb d_Doubles_ofFraction_155 (by decide) ?_
                cases hm
                exact J160_3 H locs ls (hP.sub [] rfl) (hD.sub [] (by decide) rfl) hS (lv_sub hl [1, 3, 4, 0, 5] rfl)
            replace hm := hv
            refine lv_if_eq (tgt := 137) hx hb d_Doubles_ofFraction_130 (by decide) (fun hc => ?_) (fun hc => ?_)
            · have hm := sd_mt hc hm
              refine lv_iconst (v := (0 : Int32)) hx hb d_Doubles_ofFraction_137 (by decide) ?_
              cases hm
              exact J138_2 H locs ls (hP.sub [] rfl) (hD.sub [] (by decide) rfl) hS (lv_sub hl [1, 2, 3, 4, 6, 0] rfl)
            · have hm := sd_mf hc hm
              refine lv_iconst (v := (1 : Int32)) hx hb d_Doubles_ofFraction_133 (by decide) ?_
              refine lv_goto (tgt := 138) hx hb d_Doubles_ofFraction_134 (by decide) ?_
              cases hm
              exact J138_2 H locs ls (hP.sub [] rfl) (hD.sub [] (by decide) rfl) hS (lv_sub hl [1, 2, 3, 4, 6, 0] rfl)
          replace hm := hv
          refine sd_llt (tgt := 119) hx hb d_Doubles_ofFraction_111 d_Doubles_ofFraction_112 (by decide) (fun hc => ?_) (fun hc => ?_)
          · have hm := sd_mt hc hm
            refine lv_iconst (v := (0 : Int32)) hx hb d_Doubles_ofFraction_119 (by decide) ?_
            cases hm
            exact J120_1 H locs ls (hP.sub [] rfl) (hD.sub [] (by decide) rfl) hS (lv_sub hl [0, 1, 2, 3, 4, 5] rfl)
          · have hm := sd_mf hc hm
            refine lv_iconst (v := (1 : Int32)) hx hb d_Doubles_ofFraction_115 (by decide) ?_
            refine lv_goto (tgt := 120) hx hb d_Doubles_ofFraction_116 (by decide) ?_
            cases hm
            exact J120_1 H locs ls (hP.sub [] rfl) (hD.sub [] (by decide) rfl) hS (lv_sub hl [0, 1, 2, 3, 4, 5] rfl)
    obtain ⟨rx4_1, rx9, hc, hm⟩ := sd_mb2 hm
    refine L100 F rx4 (0 : Int64) (0 : Int32) rx4_1 rx9 hc H locs ls (hP.sub [] rfl) (hD.sub [] (by decide) rfl) hS (lv_sub hl [2, 3, 4, 5, 1, 0] rfl) ?_
    intro H locs ls hP hD hS hl
    refine lv_lload_n hx hb d_Doubles_ofFraction_169 rfl (lv_at hl 0 rfl) ?_
    refine lv_lconst (v := (0 : Int64)) hx hb d_Doubles_ofFraction_170 (by decide) ?_
    obtain ⟨y_3, hv, hm⟩ := sd_mb1 hm
    have J180_4 : ∀ (H : Heap) (locs : List Loc) (ls : Array Slot), va_P D classes [] H → va_D A [] → va_S A s.heap H locs → lv_has ls 13 [(4, .long rx4_1), (8, .int rx8_1), (9, .long rx9)] → W p l e rm_Doubles_ofFraction s m args below meth c H locs 0 0 Q (F0 m 180 ls [.int y_3]) := by
      intro H locs ls hP hD hS hl
      refine lv_iload hx hb d_Doubles_ofFraction_180 (lv_at hl 1 rfl) ?_
      refine lv_lload hx hb d_Doubles_ofFraction_182 (lv_at hl 2 rfl) ?_
      refine lv_lload hx hb d_Doubles_ofFraction_184 (lv_at hl 0 rfl) ?_
      refine lv_lconst (v := (0 : Int64)) hx hb d_Doubles_ofFraction_186 (by decide) ?_
      obtain ⟨y_4, hv, hm⟩ := sd_mb1 hm
      have J196_5 : ∀ (H : Heap) (locs : List Loc) (ls : Array Slot), va_P D classes [] H → va_D A [] → va_S A s.heap H locs → lv_has ls 13 [] → W p l e rm_Doubles_ofFraction s m args below meth c H locs 0 0 Q (F0 m 196 ls [.int y_4, .long rx9, .int rx8_1, .int y_3]) := by
        intro H locs ls hP hD hS hl
        obtain ⟨r, hc, hm⟩ := sd_mb1 hm
        refine sd_cl0 (wr := []) (w2 := []) (sd_runS (rest := []) (As := [.int y_3, .int rx8_1, .long rx9, .int y_4]) S (ct_Doubles_join l D g (H.size) y_3 rx8_1 rx9 y_4 F (r) hc) kl_Doubles_17 (by decide) (by decide) hK hP hD [] rfl (by decide) rfl hl d_Doubles_ofFraction_196 rfl (Nat.le_of_ble_eq_true rfl) ⟨Nat.zero_le _, Nat.zero_le _⟩) hP hD hS hA [] [] rfl rfl (by decide) (by decide) rfl (fun H locs hP hD hS => ?_)
        refine W.eq (g2 := F0 m 199 ls [.long r]) rfl ?_
        exact sd_l0ret hQ hx hb hr hlk hK (hP.sub [] rfl) (hD.sub [] (by decide) rfl) hS (Option.some.inj hm).symm d_Doubles_ofFraction_199
      replace hm := hv
      refine sd_leq (tgt := 195) hx hb d_Doubles_ofFraction_187 d_Doubles_ofFraction_188 (by decide) (fun hc => ?_) (fun hc => ?_)
      · have hm := sd_mt hc hm
        refine lv_iconst (v := (0 : Int32)) hx hb d_Doubles_ofFraction_195 (by decide) ?_
        cases hm
        exact J196_5 H locs ls (hP.sub [] rfl) (hD.sub [] (by decide) rfl) hS (lv_sub hl [] rfl)
      · have hm := sd_mf hc hm
        refine lv_iconst (v := (1 : Int32)) hx hb d_Doubles_ofFraction_191 (by decide) ?_
        refine lv_goto (tgt := 196) hx hb d_Doubles_ofFraction_192 (by decide) ?_
        cases hm
        exact J196_5 H locs ls (hP.sub [] rfl) (hD.sub [] (by decide) rfl) hS (lv_sub hl [] rfl)
    replace hm := hv
    refine sd_lge (tgt := 179) hx hb d_Doubles_ofFraction_171 d_Doubles_ofFraction_172 (by decide) (fun hc => ?_) (fun hc => ?_)
    · have hm := sd_mt hc hm
      refine lv_iconst (v := (0 : Int32)) hx hb d_Doubles_ofFraction_179 (by decide) ?_
      cases hm
      exact J180_4 H locs ls (hP.sub [] rfl) (hD.sub [] (by decide) rfl) hS (lv_sub hl [1, 2, 3] rfl)
    · have hm := sd_mf hc hm
      refine lv_iconst (v := (1 : Int32)) hx hb d_Doubles_ofFraction_175 (by decide) ?_
      refine lv_goto (tgt := 180) hx hb d_Doubles_ofFraction_176 (by decide) ?_
      cases hm
      exact J180_4 H locs ls (hP.sub [] rfl) (hD.sub [] (by decide) rfl) hS (lv_sub hl [1, 2, 3] rfl)
  · have hm := sd_mt hc hm
    refine lv_lconst (v := (0 : Int64)) hx hb d_Doubles_ofFraction_6 (by decide) ?_
    exact sd_l0ret hQ hx hb hr hlk hK (hP.sub [] rfl) (hD.sub [] (by decide) rfl) hS (Option.some.inj hm).symm d_Doubles_ofFraction_7
theorem d_Doubles_highest_0 : decode b_Doubles_highest 0 = .ok (.aload_n 0, 1) := by decide +kernel
theorem d_Doubles_highest_1 : decode b_Doubles_highest 1 = .ok (.iload_n 1, 1) := by decide +kernel
theorem d_Doubles_highest_2 : decode b_Doubles_highest 2 = .ok (.iconst 1, 1) := by decide +kernel
theorem d_Doubles_highest_3 : decode b_Doubles_highest 3 = .ok (.isub, 1) := by decide +kernel
theorem d_Doubles_highest_4 : decode b_Doubles_highest 4 = .ok (.bipush 54, 2) := by decide +kernel
theorem d_Doubles_highest_6 : decode b_Doubles_highest 6 = .ok (.invokestatic 31, 3) := by decide +kernel
theorem d_Doubles_highest_9 : decode b_Doubles_highest 9 = .ok (.lreturn, 1) := by decide +kernel
def mf_Doubles_highest (F : Nat) (nE : Nat) (vLen : Int32) (cE : Nat → Int32) : Option (Int64) :=
  (sd_b1 (mf_Wide_bits F nE (vLen - (1 : Int32)) (54 : Int32) cE) fun r => (some (r)))
abbrev rm_Doubles_highest : Room := { frames := 1, cells := 0, slots := 0, locals := 25 }
set_option maxHeartbeats 4000000 in
set_option maxRecDepth 100000 in
theorem ct_Doubles_highest (l : Launch) (D : va_G) (g : G4) (aE : Nat) (nE : Nat) (sz : Nat) (vLen : Int32) (cE : Nat → Int32) (F : Nat) (res : Int64) (hm : mf_Doubles_highest F nE vLen cE = some res) : Met l y_Doubles_highest (.code y_Doubles_highest b_Doubles_highest 2 (some .long) :: sd_tb) rm_Doubles_highest (sd_PW D g [.ref aE, .int vLen] sz [(aE, aI g nE cE)]) (sd_Ql0 D g res [(aE, aI g nE cE)] (va_A [(aE, aI g nE cE)] sz)) 0 0 (va_A [(aE, aI g nE cE)] sz) := by
  refine sd_met (Qf := fun A => sd_Ql0 D g res [(aE, aI g nE cE)] A) (own := R_Doubles) (by decide +kernel) rfl (Nat.le_of_ble_eq_true rfl) ?_
  intro p e s m args below meth c S hr hlk hK A hA Q hQ H locs hP hD hS ls hl
  have hx := S.1
  have hb := S.2.1
  have hml := S.2.2.1
  have hown := S.2.2.2.1
  have htt := sd_tt S
  replace hl : lv_has ls 2 [(0, .ref aE), (1, .int vLen)] := hl
  unfold mf_Doubles_highest at hm
  refine lv_aload_n hx hb d_Doubles_highest_0 rfl (lv_at hl 0 rfl) ?_
  refine lv_iload_n hx hb d_Doubles_highest_1 rfl (lv_at hl 1 rfl) ?_
  refine lv_iconst (v := (1 : Int32)) hx hb d_Doubles_highest_2 (by decide) ?_
  refine lv_isub hx hb d_Doubles_highest_3 ?_
  refine lv_bipush (v := (54 : Int32)) hx hb d_Doubles_highest_4 (by decide) ?_
  obtain ⟨r, hc, hm⟩ := sd_mb1 hm
  refine sd_cl0 (wr := []) (w2 := [(aE, aI g nE cE)]) (sd_runS (rest := []) (As := [.ref aE, .int (vLen - (1 : Int32)), .int (54 : Int32)]) S (ct_Wide_bits l D g aE nE (H.size) (vLen - (1 : Int32)) (54 : Int32) cE F (r) hc) kl_Doubles_31 (by decide) (by decide) hK hP hD [0] rfl (by decide) rfl hl d_Doubles_highest_6 rfl (Nat.le_of_ble_eq_true rfl) ⟨Nat.zero_le _, Nat.zero_le _⟩) hP hD hS hA [0] [] rfl rfl (by decide) (by decide) rfl (fun H locs hP hD hS => ?_)
  refine W.eq (g2 := F0 m 9 ls [.long r]) rfl ?_
  exact sd_l0ret hQ hx hb hr hlk hK (hP.sub [0] rfl) (hD.sub [0] (by decide) rfl) hS (Option.some.inj hm).symm d_Doubles_highest_9
theorem d_Doubles_ofSize_0 : decode b_Doubles_ofSize 0 = .ok (.aload_n 1, 1) := by decide +kernel
theorem d_Doubles_ofSize_1 : decode b_Doubles_ofSize 1 = .ok (.invokestatic 21, 3) := by decide +kernel
theorem d_Doubles_ofSize_4 : decode b_Doubles_ofSize 4 = .ok (.istore_n 2, 1) := by decide +kernel
theorem d_Doubles_ofSize_5 : decode b_Doubles_ofSize 5 = .ok (.iload_n 0, 1) := by decide +kernel
theorem d_Doubles_ofSize_6 : decode b_Doubles_ofSize 6 = .ok (.iload_n 2, 1) := by decide +kernel
theorem d_Doubles_ofSize_7 : decode b_Doubles_ofSize 7 = .ok (.iconst 1, 1) := by decide +kernel
theorem d_Doubles_ofSize_8 : decode b_Doubles_ofSize 8 = .ok (.isub, 1) := by decide +kernel
theorem d_Doubles_ofSize_9 : decode b_Doubles_ofSize 9 = .ok (.sipush 1024, 3) := by decide +kernel
theorem d_Doubles_ofSize_12 : decode b_Doubles_ofSize 12 = .ok (.isub, 1) := by decide +kernel
theorem d_Doubles_ofSize_13 : decode b_Doubles_ofSize 13 = .ok (.aload_n 1, 1) := by decide +kernel
theorem d_Doubles_ofSize_14 : decode b_Doubles_ofSize 14 = .ok (.iload_n 2, 1) := by decide +kernel
theorem d_Doubles_ofSize_15 : decode b_Doubles_ofSize 15 = .ok (.invokestatic 27, 3) := by decide +kernel
theorem d_Doubles_ofSize_18 : decode b_Doubles_ofSize 18 = .ok (.iconst 1, 1) := by decide +kernel
theorem d_Doubles_ofSize_19 : decode b_Doubles_ofSize 19 = .ok (.invokestatic 17, 3) := by decide +kernel
theorem d_Doubles_ofSize_22 : decode b_Doubles_ofSize 22 = .ok (.lreturn, 1) := by decide +kernel
def mf_Doubles_ofSize (F : Nat) (nE : Nat) (vNeg : Int32) (cE : Nat → Int32) : Option (Int64) :=
  (sd_b1 (mf_Wide_bitLength F nE cE) fun r => (sd_b1 (mf_Doubles_highest F nE r cE) fun r_1 => (sd_b1 (mf_Doubles_join F vNeg ((r - (1 : Int32)) - (1024 : Int32)) r_1 (1 : Int32)) fun r_2 => (some (r_2)))))
abbrev rm_Doubles_ofSize : Room := { frames := 2, cells := 0, slots := 0, locals := 46 }
set_option maxHeartbeats 4000000 in
set_option maxRecDepth 100000 in
theorem ct_Doubles_ofSize (l : Launch) (D : va_G) (g : G4) (aE : Nat) (nE : Nat) (sz : Nat) (vNeg : Int32) (cE : Nat → Int32) (F : Nat) (res : Int64) (hm : mf_Doubles_ofSize F nE vNeg cE = some res) : Met l y_Doubles_ofSize (.code y_Doubles_ofSize b_Doubles_ofSize 3 (some .long) :: sd_tb) rm_Doubles_ofSize (sd_PW D g [.int vNeg, .ref aE] sz [(aE, aI g nE cE)]) (sd_Ql0 D g res [(aE, aI g nE cE)] (va_A [(aE, aI g nE cE)] sz)) 0 0 (va_A [(aE, aI g nE cE)] sz) := by
  refine sd_met (Qf := fun A => sd_Ql0 D g res [(aE, aI g nE cE)] A) (own := R_Doubles) (by decide +kernel) rfl (Nat.le_of_ble_eq_true rfl) ?_
  intro p e s m args below meth c S hr hlk hK A hA Q hQ H locs hP hD hS ls hl
  have hx := S.1
  have hb := S.2.1
  have hml := S.2.2.1
  have hown := S.2.2.2.1
  have htt := sd_tt S
  replace hl : lv_has ls 3 [(0, .int vNeg), (1, .ref aE)] := hl
  unfold mf_Doubles_ofSize at hm
  refine lv_aload_n hx hb d_Doubles_ofSize_0 rfl (lv_at hl 1 rfl) ?_
  obtain ⟨r, hc, hm⟩ := sd_mb1 hm
  refine sd_ci0 (wr := []) (w2 := [(aE, aI g nE cE)]) (sd_runS (rest := []) (As := [.ref aE]) S (ct_Wide_bitLength l D g aE nE (H.size) cE F (r) hc) kl_Doubles_21 (by decide) (by decide) hK hP hD [0] rfl (by decide) rfl hl d_Doubles_ofSize_1 rfl (Nat.le_of_ble_eq_true rfl) ⟨Nat.zero_le _, Nat.zero_le _⟩) hP hD hS hA [0] [] rfl rfl (by decide) (by decide) rfl (fun H locs hP hD hS => ?_)
  refine W.eq (g2 := F0 m 4 ls [.int r]) rfl ?_
  refine lv_istore_n (lv' := [(2, .int r), (0, .int vNeg), (1, .ref aE)]) hx hb d_Doubles_ofSize_4 rfl hl (by decide) rfl (fun ls hl => ?_)
  refine lv_iload_n hx hb d_Doubles_ofSize_5 rfl (lv_at hl 1 rfl) ?_
  refine lv_iload_n hx hb d_Doubles_ofSize_6 rfl (lv_at hl 0 rfl) ?_
  refine lv_iconst (v := (1 : Int32)) hx hb d_Doubles_ofSize_7 (by decide) ?_
  refine lv_isub hx hb d_Doubles_ofSize_8 ?_
  refine lv_sipush (v := (1024 : Int32)) hx hb d_Doubles_ofSize_9 (by decide) ?_
  refine lv_isub hx hb d_Doubles_ofSize_12 ?_
  refine lv_aload_n hx hb d_Doubles_ofSize_13 rfl (lv_at hl 2 rfl) ?_
  refine lv_iload_n hx hb d_Doubles_ofSize_14 rfl (lv_at hl 0 rfl) ?_
  obtain ⟨r_1, hc, hm⟩ := sd_mb1 hm
  refine sd_cl0 (wr := []) (w2 := [(aE, aI g nE cE)]) (sd_runS (rest := [.int ((r - (1 : Int32)) - (1024 : Int32)), .int vNeg]) (As := [.ref aE, .int r]) S (ct_Doubles_highest l D g aE nE (H.size) r cE F (r_1) hc) kl_Doubles_27 (by decide) (by decide) hK hP hD [0] rfl (by decide) rfl hl d_Doubles_ofSize_15 rfl (Nat.le_of_ble_eq_true rfl) ⟨Nat.zero_le _, Nat.zero_le _⟩) hP hD hS hA [0] [] rfl rfl (by decide) (by decide) rfl (fun H locs hP hD hS => ?_)
  refine W.eq (g2 := F0 m 18 ls [.long r_1, .int ((r - (1 : Int32)) - (1024 : Int32)), .int vNeg]) rfl ?_
  refine lv_iconst (v := (1 : Int32)) hx hb d_Doubles_ofSize_18 (by decide) ?_
  obtain ⟨r_2, hc, hm⟩ := sd_mb1 hm
  refine sd_cl0 (wr := [(aE, aI g nE cE)]) (w2 := [(aE, aI g nE cE)]) (sd_runS (rest := []) (As := [.int vNeg, .int ((r - (1 : Int32)) - (1024 : Int32)), .long r_1, .int (1 : Int32)]) S (ct_Doubles_join l D g (H.size) vNeg ((r - (1 : Int32)) - (1024 : Int32)) r_1 (1 : Int32) F (r_2) hc) kl_Doubles_17 (by decide) (by decide) hK hP hD [] rfl (by decide) rfl hl d_Doubles_ofSize_19 rfl (Nat.le_of_ble_eq_true rfl) ⟨Nat.zero_le _, Nat.zero_le _⟩) hP hD hS hA [] [0] rfl rfl (by decide) (by decide) rfl (fun H locs hP hD hS => ?_)
  refine W.eq (g2 := F0 m 22 ls [.long r_2]) rfl ?_
  exact sd_l0ret hQ hx hb hr hlk hK (hP.sub [0] rfl) (hD.sub [0] (by decide) rfl) hS (Option.some.inj hm).symm d_Doubles_ofSize_22
theorem d_Doubles_areNear_0 : decode b_Doubles_areNear 0 = .ok (.aload_n 0, 1) := by decide +kernel
theorem d_Doubles_areNear_1 : decode b_Doubles_areNear 1 = .ok (.invokestatic 21, 3) := by decide +kernel
theorem d_Doubles_areNear_4 : decode b_Doubles_areNear 4 = .ok (.istore_n 2, 1) := by decide +kernel
theorem d_Doubles_areNear_5 : decode b_Doubles_areNear 5 = .ok (.iload_n 2, 1) := by decide +kernel
theorem d_Doubles_areNear_6 : decode b_Doubles_areNear 6 = .ok (.bipush 54, 2) := by decide +kernel
theorem d_Doubles_areNear_8 : decode b_Doubles_areNear 8 = .ok (.if_icmp .lt 29, 3) := by decide +kernel
theorem d_Doubles_areNear_11 : decode b_Doubles_areNear 11 = .ok (.iload_n 2, 1) := by decide +kernel
theorem d_Doubles_areNear_12 : decode b_Doubles_areNear 12 = .ok (.aload_n 1, 1) := by decide +kernel
theorem d_Doubles_areNear_13 : decode b_Doubles_areNear 13 = .ok (.invokestatic 21, 3) := by decide +kernel
theorem d_Doubles_areNear_16 : decode b_Doubles_areNear 16 = .ok (.if_icmp .ne 21, 3) := by decide +kernel
theorem d_Doubles_areNear_19 : decode b_Doubles_areNear 19 = .ok (.aload_n 0, 1) := by decide +kernel
theorem d_Doubles_areNear_20 : decode b_Doubles_areNear 20 = .ok (.iload_n 2, 1) := by decide +kernel
theorem d_Doubles_areNear_21 : decode b_Doubles_areNear 21 = .ok (.invokestatic 27, 3) := by decide +kernel
theorem d_Doubles_areNear_24 : decode b_Doubles_areNear 24 = .ok (.aload_n 1, 1) := by decide +kernel
theorem d_Doubles_areNear_25 : decode b_Doubles_areNear 25 = .ok (.iload_n 2, 1) := by decide +kernel
theorem d_Doubles_areNear_26 : decode b_Doubles_areNear 26 = .ok (.invokestatic 27, 3) := by decide +kernel
theorem d_Doubles_areNear_29 : decode b_Doubles_areNear 29 = .ok (.lcmp, 1) := by decide +kernel
theorem d_Doubles_areNear_30 : decode b_Doubles_areNear 30 = .ok (.ifCond .ne 7, 3) := by decide +kernel
theorem d_Doubles_areNear_33 : decode b_Doubles_areNear 33 = .ok (.iconst 1, 1) := by decide +kernel
theorem d_Doubles_areNear_34 : decode b_Doubles_areNear 34 = .ok (.goto 4, 3) := by decide +kernel
theorem d_Doubles_areNear_37 : decode b_Doubles_areNear 37 = .ok (.iconst 0, 1) := by decide +kernel
theorem d_Doubles_areNear_38 : decode b_Doubles_areNear 38 = .ok (.ireturn, 1) := by decide +kernel
def mf_Doubles_areNear (F : Nat) (nE : Nat) (nT : Nat) (cE : Nat → Int32) (cT : Nat → Int32) : Option (Int32) :=
  (sd_b1 (mf_Wide_bitLength F nE cE) fun r => (sd_b1 (if r < (54 : Int32) then (some ((0 : Int32))) else (sd_b1 (mf_Wide_bitLength F nT cT) fun r_1 => (if r = r_1 then (sd_b1 (mf_Doubles_highest F nE r cE) fun r_2 => (sd_b1 (mf_Doubles_highest F nT r cT) fun r_3 => (if r_2 = r_3 then (some ((1 : Int32))) else (some ((0 : Int32)))))) else (some ((0 : Int32)))))) fun y => (sd_g (sd_b01 y) (some (y)))))
abbrev rm_Doubles_areNear : Room := { frames := 2, cells := 0, slots := 0, locals := 46 }
set_option maxHeartbeats 4000000 in
set_option maxRecDepth 100000 in
theorem ct_Doubles_areNear (l : Launch) (D : va_G) (g : G4) (aE : Nat) (aT : Nat) (nE : Nat) (nT : Nat) (sz : Nat) (cE : Nat → Int32) (cT : Nat → Int32) (F : Nat) (res : Int32) (hm : mf_Doubles_areNear F nE nT cE cT = some res) : Met l y_Doubles_areNear (.code y_Doubles_areNear b_Doubles_areNear 3 (some .boolean) :: sd_tb) rm_Doubles_areNear (sd_PW D g [.ref aE, .ref aT] sz [(aE, aI g nE cE), (aT, aI g nT cT)]) (sd_Qi0 D g res [(aE, aI g nE cE), (aT, aI g nT cT)] (va_A [(aE, aI g nE cE), (aT, aI g nT cT)] sz)) 0 0 (va_A [(aE, aI g nE cE), (aT, aI g nT cT)] sz) := by
  refine sd_met (Qf := fun A => sd_Qi0 D g res [(aE, aI g nE cE), (aT, aI g nT cT)] A) (own := R_Doubles) (by decide +kernel) rfl (Nat.le_of_ble_eq_true rfl) ?_
  intro p e s m args below meth c S hr hlk hK A hA Q hQ H locs hP hD hS ls hl
  have hx := S.1
  have hb := S.2.1
  have hml := S.2.2.1
  have hown := S.2.2.2.1
  have htt := sd_tt S
  replace hl : lv_has ls 3 [(0, .ref aE), (1, .ref aT)] := hl
  unfold mf_Doubles_areNear at hm
  refine lv_aload_n hx hb d_Doubles_areNear_0 rfl (lv_at hl 0 rfl) ?_
  obtain ⟨r, hc, hm⟩ := sd_mb1 hm
  refine sd_ci0 (wr := [(aT, aI g nT cT)]) (w2 := [(aT, aI g nT cT), (aE, aI g nE cE)]) (sd_runS (rest := []) (As := [.ref aE]) S (ct_Wide_bitLength l D g aE nE (H.size) cE F (r) hc) kl_Doubles_21 (by decide) (by decide) hK hP hD [0] rfl (by decide) rfl hl d_Doubles_areNear_1 rfl (Nat.le_of_ble_eq_true rfl) ⟨Nat.zero_le _, Nat.zero_le _⟩) hP hD hS hA [0] [1] rfl rfl (by decide) (by decide) rfl (fun H locs hP hD hS => ?_)
  refine W.eq (g2 := F0 m 4 ls [.int r]) rfl ?_
  refine lv_istore_n (lv' := [(2, .int r), (0, .ref aE), (1, .ref aT)]) hx hb d_Doubles_areNear_4 rfl hl (by decide) rfl (fun ls hl => ?_)
  refine lv_iload_n hx hb d_Doubles_areNear_5 rfl (lv_at hl 0 rfl) ?_
  refine lv_bipush (v := (54 : Int32)) hx hb d_Doubles_areNear_6 (by decide) ?_
  obtain ⟨y, hv, hm⟩ := sd_mb1 hm
  have J38_1 : ∀ (H : Heap) (locs : List Loc) (ls : Array Slot), va_P D classes [(aT, aI g nT cT), (aE, aI g nE cE)] H → va_D A [(aT, aI g nT cT), (aE, aI g nE cE)] → va_S A s.heap H locs → lv_has ls 3 [] → W p l e rm_Doubles_areNear s m args below meth c H locs 0 0 Q (F0 m 38 ls [.int y]) := by
    intro H locs ls hP hD hS hl
    obtain ⟨h_2, hm⟩ := sd_mg hm
    exact sd_z0ret hQ hx hb hr hlk (sd_zb h_2) hK (hP.sub [1, 0] rfl) (hD.sub [1, 0] (by decide) rfl) hS (Option.some.inj hm).symm d_Doubles_areNear_38
  replace hm := hv
  refine lv_icmp_lt (tgt := 37) hx hb d_Doubles_areNear_8 (by decide) (fun hc => ?_) (fun hc => ?_)
  · have hm := sd_mt hc hm
    refine lv_iconst (v := (0 : Int32)) hx hb d_Doubles_areNear_37 (by decide) ?_
    cases hm
    exact J38_1 H locs ls (hP.sub [0, 1] rfl) (hD.sub [0, 1] (by decide) rfl) hS (lv_sub hl [] rfl)
  · have hm := sd_mf hc hm
    refine lv_iload_n hx hb d_Doubles_areNear_11 rfl (lv_at hl 0 rfl) ?_
    refine lv_aload_n hx hb d_Doubles_areNear_12 rfl (lv_at hl 2 rfl) ?_
    obtain ⟨r_1, hc, hm⟩ := sd_mb1 hm
    refine sd_ci0 (wr := [(aE, aI g nE cE)]) (w2 := [(aE, aI g nE cE), (aT, aI g nT cT)]) (sd_runS (rest := [.int r]) (As := [.ref aT]) S (ct_Wide_bitLength l D g aT nT (H.size) cT F (r_1) hc) kl_Doubles_21 (by decide) (by decide) hK hP hD [0] rfl (by decide) rfl hl d_Doubles_areNear_13 rfl (Nat.le_of_ble_eq_true rfl) ⟨Nat.zero_le _, Nat.zero_le _⟩) hP hD hS hA [0] [1] rfl rfl (by decide) (by decide) rfl (fun H locs hP hD hS => ?_)
    refine W.eq (g2 := F0 m 16 ls [.int r_1, .int r]) rfl ?_
    refine lv_icmp_ne (tgt := 37) hx hb d_Doubles_areNear_16 (by decide) (fun hc => ?_) (fun hc => ?_)
    · have hm := sd_mf hc hm
      refine lv_iconst (v := (0 : Int32)) hx hb d_Doubles_areNear_37 (by decide) ?_
      cases hm
      exact J38_1 H locs ls (hP.sub [1, 0] rfl) (hD.sub [1, 0] (by decide) rfl) hS (lv_sub hl [] rfl)
    · have hm := sd_mt hc hm
      refine lv_aload_n hx hb d_Doubles_areNear_19 rfl (lv_at hl 1 rfl) ?_
      refine lv_iload_n hx hb d_Doubles_areNear_20 rfl (lv_at hl 0 rfl) ?_
      obtain ⟨r_2, hc, hm⟩ := sd_mb1 hm
      refine sd_cl0 (wr := [(aT, aI g nT cT)]) (w2 := [(aT, aI g nT cT), (aE, aI g nE cE)]) (sd_runS (rest := []) (As := [.ref aE, .int r]) S (ct_Doubles_highest l D g aE nE (H.size) r cE F (r_2) hc) kl_Doubles_27 (by decide) (by decide) hK hP hD [0] rfl (by decide) rfl hl d_Doubles_areNear_21 rfl (Nat.le_of_ble_eq_true rfl) ⟨Nat.zero_le _, Nat.zero_le _⟩) hP hD hS hA [0] [1] rfl rfl (by decide) (by decide) rfl (fun H locs hP hD hS => ?_)
      refine W.eq (g2 := F0 m 24 ls [.long r_2]) rfl ?_
      refine lv_aload_n hx hb d_Doubles_areNear_24 rfl (lv_at hl 2 rfl) ?_
      refine lv_iload_n hx hb d_Doubles_areNear_25 rfl (lv_at hl 0 rfl) ?_
      obtain ⟨r_3, hc, hm⟩ := sd_mb1 hm
      refine sd_cl0 (wr := [(aE, aI g nE cE)]) (w2 := [(aE, aI g nE cE), (aT, aI g nT cT)]) (sd_runS (rest := [.long r_2]) (As := [.ref aT, .int r]) S (ct_Doubles_highest l D g aT nT (H.size) r cT F (r_3) hc) kl_Doubles_27 (by decide) (by decide) hK hP hD [0] rfl (by decide) rfl hl d_Doubles_areNear_26 rfl (Nat.le_of_ble_eq_true rfl) ⟨Nat.zero_le _, Nat.zero_le _⟩) hP hD hS hA [0] [1] rfl rfl (by decide) (by decide) rfl (fun H locs hP hD hS => ?_)
      refine W.eq (g2 := F0 m 29 ls [.long r_3, .long r_2]) rfl ?_
      refine sd_lne (tgt := 37) hx hb d_Doubles_areNear_29 d_Doubles_areNear_30 (by decide) (fun hc => ?_) (fun hc => ?_)
      · have hm := sd_mf hc hm
        refine lv_iconst (v := (0 : Int32)) hx hb d_Doubles_areNear_37 (by decide) ?_
        cases hm
        exact J38_1 H locs ls (hP.sub [1, 0] rfl) (hD.sub [1, 0] (by decide) rfl) hS (lv_sub hl [] rfl)
      · have hm := sd_mt hc hm
        refine lv_iconst (v := (1 : Int32)) hx hb d_Doubles_areNear_33 (by decide) ?_
        refine lv_goto (tgt := 38) hx hb d_Doubles_areNear_34 (by decide) ?_
        cases hm
        exact J38_1 H locs ls (hP.sub [1, 0] rfl) (hD.sub [1, 0] (by decide) rfl) hS (lv_sub hl [] rfl)
theorem d_Page_length_0 : decode b_Page_length 0 = .ok (.aload_n 0, 1) := by decide +kernel
theorem d_Page_length_1 : decode b_Page_length 1 = .ok (.getfield 16, 3) := by decide +kernel
theorem d_Page_length_4 : decode b_Page_length 4 = .ok (.ireturn, 1) := by decide +kernel
def mf_Page_length (F : Nat) (pkn : Int32) (pdn : Int32) : Option (Int32) :=
  (some (pkn))
abbrev rm_Page_length : Room := { frames := 0, cells := 0, slots := 0, locals := 0 }
set_option maxHeartbeats 4000000 in
set_option maxRecDepth 100000 in
theorem ct_Page_length (l : Launch) (D : va_G) (g : G4) (pg : Nat) (pk : Nat) (pd : Nat) (sz : Nat) (pkn : Int32) (pdn : Int32) (F : Nat) (res : Int32) (hm : mf_Page_length F pkn pdn = some res) : Met l y_Page_length (.code y_Page_length b_Page_length 1 (some .int) :: sd_tb) rm_Page_length (sd_PW D g [.ref pg] sz [(pg, .inr (3, [.ref pk, .ref pd, .int pkn, .int pdn]))]) (sd_Qi0 D g res [(pg, .inr (3, [.ref pk, .ref pd, .int pkn, .int pdn]))] (va_A [(pg, .inr (3, [.ref pk, .ref pd, .int pkn, .int pdn]))] sz)) 0 0 (va_A [(pg, .inr (3, [.ref pk, .ref pd, .int pkn, .int pdn]))] sz) := by
  refine sd_met (Qf := fun A => sd_Qi0 D g res [(pg, .inr (3, [.ref pk, .ref pd, .int pkn, .int pdn]))] A) (own := R_Page) (by decide +kernel) rfl (Nat.le_of_ble_eq_true rfl) ?_
  intro p e s m args below meth c S hr hlk hK A hA Q hQ H locs hP hD hS ls hl
  have hx := S.1
  have hb := S.2.1
  have hml := S.2.2.1
  have hown := S.2.2.2.1
  have htt := sd_tt S
  replace hl : lv_has ls 1 [(0, .ref pg)] := hl
  unfold mf_Page_length at hm
  refine lv_aload_n hx hb d_Page_length_0 rfl (lv_at hl 0 rfl) ?_
  refine va_get (D := D) (ci := 3) (v := .int pkn) (C := R_Page) (T := F_Page) (N := 4) hx hb htt i_Page hown hK hP 0 rfl rfl 2 (by decide) (htt _ kf_Page_16) (fun _ h9 => h9) rfl d_Page_length_1 ?_
  exact sd_i0ret hQ hx hb hr hlk hK (hP.sub [0] rfl) (hD.sub [0] (by decide) rfl) hS (Option.some.inj hm).symm d_Page_length_4
theorem d_Page_at_0 : decode b_Page_at 0 = .ok (.aload_n 0, 1) := by decide +kernel
theorem d_Page_at_1 : decode b_Page_at 1 = .ok (.getfield 9, 3) := by decide +kernel
theorem d_Page_at_4 : decode b_Page_at 4 = .ok (.iload_n 1, 1) := by decide +kernel
theorem d_Page_at_5 : decode b_Page_at 5 = .ok (.baload, 1) := by decide +kernel
theorem d_Page_at_6 : decode b_Page_at 6 = .ok (.ireturn, 1) := by decide +kernel
def mf_Page_at (F : Nat) (vK : Int32) (pkn : Int32) (pdn : Int32) (cpk : Nat → Int32) : Option (Int32) :=
  (sd_g (sd_ix vK 128) (some ((cpk vK.toNatClampNeg))))
abbrev rm_Page_at : Room := { frames := 0, cells := 0, slots := 0, locals := 0 }
set_option maxHeartbeats 4000000 in
set_option maxRecDepth 100000 in
theorem ct_Page_at (l : Launch) (D : va_G) (g : G4) (pg : Nat) (pk : Nat) (pd : Nat) (sz : Nat) (vK : Int32) (pkn : Int32) (pdn : Int32) (cpk : Nat → Int32) (F : Nat) (res : Int32) (hm : mf_Page_at F vK pkn pdn cpk = some res) : Met l y_Page_at (.code y_Page_at b_Page_at 2 (some .int) :: sd_tb) rm_Page_at (sd_PW D g [.ref pg, .int vK] sz [(pg, .inr (3, [.ref pk, .ref pd, .int pkn, .int pdn])), (pk, aB g 128 cpk)]) (sd_Qi0 D g res [(pg, .inr (3, [.ref pk, .ref pd, .int pkn, .int pdn])), (pk, aB g 128 cpk)] (va_A [(pg, .inr (3, [.ref pk, .ref pd, .int pkn, .int pdn])), (pk, aB g 128 cpk)] sz)) 0 0 (va_A [(pg, .inr (3, [.ref pk, .ref pd, .int pkn, .int pdn])), (pk, aB g 128 cpk)] sz) := by
  refine sd_met (Qf := fun A => sd_Qi0 D g res [(pg, .inr (3, [.ref pk, .ref pd, .int pkn, .int pdn])), (pk, aB g 128 cpk)] A) (own := R_Page) (by decide +kernel) rfl (Nat.le_of_ble_eq_true rfl) ?_
  intro p e s m args below meth c S hr hlk hK A hA Q hQ H locs hP hD hS ls hl
  have hx := S.1
  have hb := S.2.1
  have hml := S.2.2.1
  have hown := S.2.2.2.1
  have htt := sd_tt S
  replace hl : lv_has ls 2 [(0, .ref pg), (1, .int vK)] := hl
  unfold mf_Page_at at hm
  refine lv_aload_n hx hb d_Page_at_0 rfl (lv_at hl 0 rfl) ?_
  refine va_get (D := D) (ci := 3) (v := .ref pk) (C := R_Page) (T := F_Page) (N := 4) hx hb htt i_Page hown hK hP 0 rfl rfl 0 (by decide) (htt _ kf_Page_9) (fun _ h9 => h9) rfl d_Page_at_1 ?_
  refine lv_iload_n hx hb d_Page_at_4 rfl (lv_at hl 1 rfl) ?_
  obtain ⟨h_1, hm⟩ := sd_mg hm
  refine sd_bald hx hb hK hP 1 rfl h_1 d_Page_at_5 ?_
  exact sd_i0ret hQ hx hb hr hlk hK (hP.sub [0, 1] rfl) (hD.sub [0, 1] (by decide) rfl) hS (Option.some.inj hm).symm d_Page_at_6
theorem d_Page_put_0 : decode b_Page_put 0 = .ok (.aload_n 0, 1) := by decide +kernel
theorem d_Page_put_1 : decode b_Page_put 1 = .ok (.getfield 20, 3) := by decide +kernel
theorem d_Page_put_4 : decode b_Page_put 4 = .ok (.sipush 128, 3) := by decide +kernel
theorem d_Page_put_7 : decode b_Page_put 7 = .ok (.if_icmp .ge 24, 3) := by decide +kernel
theorem d_Page_put_10 : decode b_Page_put 10 = .ok (.aload_n 0, 1) := by decide +kernel
theorem d_Page_put_11 : decode b_Page_put 11 = .ok (.getfield 13, 3) := by decide +kernel
theorem d_Page_put_14 : decode b_Page_put 14 = .ok (.aload_n 0, 1) := by decide +kernel
theorem d_Page_put_15 : decode b_Page_put 15 = .ok (.getfield 20, 3) := by decide +kernel
theorem d_Page_put_18 : decode b_Page_put 18 = .ok (.iload_n 1, 1) := by decide +kernel
theorem d_Page_put_19 : decode b_Page_put 19 = .ok (.i2b, 1) := by decide +kernel
theorem d_Page_put_20 : decode b_Page_put 20 = .ok (.bastore, 1) := by decide +kernel
theorem d_Page_put_21 : decode b_Page_put 21 = .ok (.aload_n 0, 1) := by decide +kernel
theorem d_Page_put_22 : decode b_Page_put 22 = .ok (.dup, 1) := by decide +kernel
theorem d_Page_put_23 : decode b_Page_put 23 = .ok (.getfield 20, 3) := by decide +kernel
theorem d_Page_put_26 : decode b_Page_put 26 = .ok (.iconst 1, 1) := by decide +kernel
theorem d_Page_put_27 : decode b_Page_put 27 = .ok (.iadd, 1) := by decide +kernel
theorem d_Page_put_28 : decode b_Page_put 28 = .ok (.putfield 20, 3) := by decide +kernel
theorem d_Page_put_31 : decode b_Page_put 31 = .ok (.return_, 1) := by decide +kernel
def mf_Page_put (F : Nat) (vWhat : Int32) (pkn : Int32) (pdn : Int32) (cpd : Nat → Int32) : Option (Int32 × (Nat → Int32)) :=
  (sd_b2 (if (128 : Int32) ≤ pdn then (some (pdn, cpd)) else (sd_g (sd_ix pdn 128) (sd_let (upd cpd pdn.toNatClampNeg (vp_nar .byte (vWhat.toInt8.toInt32))) fun upd_1 => (sd_let ((pdn + (1 : Int32))) fun upgdraftLength => (some (upgdraftLength, upd_1)))))) fun upg upd => (some (upg, upd)))
abbrev rm_Page_put : Room := { frames := 0, cells := 0, slots := 0, locals := 0 }
set_option maxHeartbeats 4000000 in
set_option maxRecDepth 100000 in
theorem ct_Page_put (l : Launch) (D : va_G) (g : G4) (pg : Nat) (pk : Nat) (pd : Nat) (sz : Nat) (vWhat : Int32) (pkn : Int32) (pdn : Int32) (cpd : Nat → Int32) (F : Nat) (res : Int32 × (Nat → Int32)) (hm : mf_Page_put F vWhat pkn pdn cpd = some res) : Met l y_Page_put (.code y_Page_put b_Page_put 2 none :: sd_tb) rm_Page_put (sd_PW D g [.ref pg, .int vWhat] sz [(pg, .inr (3, [.ref pk, .ref pd, .int pkn, .int pdn])), (pd, aB g 128 cpd)]) (sd_Qv1 D g res (fun u : Int32 × (Nat → Int32) => [(pg, .inr (3, [.ref pk, .ref pd, .int pkn, .int (u.1)])), (pd, aB g 128 (u.2))]) (va_A [(pg, .inr (3, [.ref pk, .ref pd, .int pkn, .int pdn])), (pd, aB g 128 cpd)] sz)) 0 0 (va_A [(pg, .inr (3, [.ref pk, .ref pd, .int pkn, .int pdn])), (pd, aB g 128 cpd)] sz) := by
  refine sd_met (Qf := fun A => sd_Qv1 D g res (fun u : Int32 × (Nat → Int32) => [(pg, .inr (3, [.ref pk, .ref pd, .int pkn, .int (u.1)])), (pd, aB g 128 (u.2))]) A) (own := R_Page) (by decide +kernel) rfl (Nat.le_of_ble_eq_true rfl) ?_
  intro p e s m args below meth c S hr hlk hK A hA Q hQ H locs hP hD hS ls hl
  have hx := S.1
  have hb := S.2.1
  have hml := S.2.2.1
  have hown := S.2.2.2.1
  have htt := sd_tt S
  replace hl : lv_has ls 2 [(0, .ref pg), (1, .int vWhat)] := hl
  unfold mf_Page_put at hm
  refine lv_aload_n hx hb d_Page_put_0 rfl (lv_at hl 0 rfl) ?_
  refine va_get (D := D) (ci := 3) (v := .int pdn) (C := R_Page) (T := F_Page) (N := 4) hx hb htt i_Page hown hK hP 0 rfl rfl 3 (by decide) (htt _ kf_Page_20) (fun _ h9 => h9) rfl d_Page_put_1 ?_
  refine lv_sipush (v := (128 : Int32)) hx hb d_Page_put_4 (by decide) ?_
  obtain ⟨upg, upd, hv, hm⟩ := sd_mb2 hm
  have J31_1 : ∀ (H : Heap) (locs : List Loc) (ls : Array Slot), va_P D classes [(pg, .inr (3, [.ref pk, .ref pd, .int pkn, .int upg])), (pd, aB g 128 upd)] H → va_D A [(pg, .inr (3, [.ref pk, .ref pd, .int pkn, .int upg])), (pd, aB g 128 upd)] → va_S A s.heap H locs → lv_has ls 2 [] → W p l e rm_Page_put s m args below meth c H locs 0 0 Q (F0 m 31 ls []) := by
    intro H locs ls hP hD hS hl
    exact sd_v1ret (u := (upg, upd)) hQ hx hb hr hlk hK (hP.sub [0, 1] rfl) (hD.sub [0, 1] (by decide) rfl) hS (Option.some.inj hm).symm d_Page_put_31
  replace hm := hv
  refine lv_icmp_ge (tgt := 31) hx hb d_Page_put_7 (by decide) (fun hc => ?_) (fun hc => ?_)
  · have hm := sd_mt hc hm
    cases hm
    exact J31_1 H locs ls (hP.sub [0, 1] rfl) (hD.sub [0, 1] (by decide) rfl) hS (lv_sub hl [] rfl)
  · have hm := sd_mf hc hm
    refine lv_aload_n hx hb d_Page_put_10 rfl (lv_at hl 0 rfl) ?_
    refine va_get (D := D) (ci := 3) (v := .ref pd) (C := R_Page) (T := F_Page) (N := 4) hx hb htt i_Page hown hK hP 0 rfl rfl 1 (by decide) (htt _ kf_Page_13) (fun _ h9 => h9) rfl d_Page_put_11 ?_
    refine lv_aload_n hx hb d_Page_put_14 rfl (lv_at hl 0 rfl) ?_
    refine va_get (D := D) (ci := 3) (v := .int pdn) (C := R_Page) (T := F_Page) (N := 4) hx hb htt i_Page hown hK hP 0 rfl rfl 3 (by decide) (htt _ kf_Page_20) (fun _ h9 => h9) rfl d_Page_put_15 ?_
    refine lv_iload_n hx hb d_Page_put_18 rfl (lv_at hl 1 rfl) ?_
    refine lv_i2b hx hb d_Page_put_19 rfl ?_
    obtain ⟨h_2, hm⟩ := sd_mg hm
    obtain ⟨upd_1, eupd_1, hm⟩ := sd_mlet hm
    refine sd_bast (f2 := upd_1) (ws2 := [(pg, .inr (3, [.ref pk, .ref pd, .int pkn, .int pdn])), (pd, aB g 128 upd_1)]) hx hb hK hP hD hS 1 rfl h_2 eupd_1 rfl d_Page_put_20 (fun H locs hP hD hS => ?_)
    refine lv_aload_n hx hb d_Page_put_21 rfl (lv_at hl 0 rfl) ?_
    refine lv_dup hx hb d_Page_put_22 rfl ?_
    refine va_get (D := D) (ci := 3) (v := .int pdn) (C := R_Page) (T := F_Page) (N := 4) hx hb htt i_Page hown hK hP 0 rfl rfl 3 (by decide) (htt _ kf_Page_20) (fun _ h9 => h9) rfl d_Page_put_23 ?_
    refine lv_iconst (v := (1 : Int32)) hx hb d_Page_put_26 (by decide) ?_
    refine lv_iadd hx hb d_Page_put_27 ?_
    obtain ⟨upgdraftLength, eupgdraftLength, hm⟩ := sd_mlet hm
    refine sd_topi eupgdraftLength ?_
    refine sd_put (ci := 3) (v := .int upgdraftLength) (ty := .int) (C := R_Page) (T := F_Page) (N := 4) (ws2 := [(pg, .inr (3, [.ref pk, .ref pd, .int pkn, .int upgdraftLength])), (pd, aB g 128 upd_1)]) hx hb htt i_Page t_Page t_Page_ok n_Page hown hK hP hD hS 0 rfl rfl 3 (by decide) kf_Page_20 (fun _ h9 => h9) rfl (by decide +kernel) rfl rfl (Nat.le_of_ble_eq_true rfl) rfl d_Page_put_28 (fun H locs hP hD hS => ?_)
    cases hm
    exact J31_1 H locs ls (hP.sub [0, 1] rfl) (hD.sub [0, 1] (by decide) rfl) hS (lv_sub hl [] rfl)
theorem d_Page_draftWhole_0 : decode b_Page_draftWhole 0 = .ok (.aload_n 0, 1) := by decide +kernel
theorem d_Page_draftWhole_1 : decode b_Page_draftWhole 1 = .ok (.iconst 0, 1) := by decide +kernel
theorem d_Page_draftWhole_2 : decode b_Page_draftWhole 2 = .ok (.putfield 20, 3) := by decide +kernel
theorem d_Page_draftWhole_5 : decode b_Page_draftWhole 5 = .ok (.iload_n 1, 1) := by decide +kernel
theorem d_Page_draftWhole_6 : decode b_Page_draftWhole 6 = .ok (.ifCond .eq 9, 3) := by decide +kernel
theorem d_Page_draftWhole_9 : decode b_Page_draftWhole 9 = .ok (.aload_n 0, 1) := by decide +kernel
theorem d_Page_draftWhole_10 : decode b_Page_draftWhole 10 = .ok (.bipush 45, 2) := by decide +kernel
theorem d_Page_draftWhole_12 : decode b_Page_draftWhole 12 = .ok (.invokevirtual 37, 3) := by decide +kernel
theorem d_Page_draftWhole_15 : decode b_Page_draftWhole 15 = .ok (.lconst 1, 1) := by decide +kernel
theorem d_Page_draftWhole_16 : decode b_Page_draftWhole 16 = .ok (.lstore 5, 2) := by decide +kernel
theorem d_Page_draftWhole_18 : decode b_Page_draftWhole 18 = .ok (.iconst 0, 1) := by decide +kernel
theorem d_Page_draftWhole_19 : decode b_Page_draftWhole 19 = .ok (.istore 7, 2) := by decide +kernel
theorem d_Page_draftWhole_21 : decode b_Page_draftWhole 21 = .ok (.iload 7, 2) := by decide +kernel
theorem d_Page_draftWhole_23 : decode b_Page_draftWhole 23 = .ok (.bipush 18, 2) := by decide +kernel
theorem d_Page_draftWhole_25 : decode b_Page_draftWhole 25 = .ok (.if_icmp .ge 28, 3) := by decide +kernel
theorem d_Page_draftWhole_28 : decode b_Page_draftWhole 28 = .ok (.lload 5, 2) := by decide +kernel
theorem d_Page_draftWhole_30 : decode b_Page_draftWhole 30 = .ok (.lload_n 2, 1) := by decide +kernel
theorem d_Page_draftWhole_31 : decode b_Page_draftWhole 31 = .ok (.ldc2_w 33, 3) := by decide +kernel
theorem d_Page_draftWhole_34 : decode b_Page_draftWhole 34 = .ok (.ldiv, 1) := by decide +kernel
theorem d_Page_draftWhole_35 : decode b_Page_draftWhole 35 = .ok (.lcmp, 1) := by decide +kernel
theorem d_Page_draftWhole_36 : decode b_Page_draftWhole 36 = .ok (.ifCond .gt 17, 3) := by decide +kernel
theorem d_Page_draftWhole_39 : decode b_Page_draftWhole 39 = .ok (.lload 5, 2) := by decide +kernel
theorem d_Page_draftWhole_41 : decode b_Page_draftWhole 41 = .ok (.ldc2_w 33, 3) := by decide +kernel
theorem d_Page_draftWhole_44 : decode b_Page_draftWhole 44 = .ok (.lmul, 1) := by decide +kernel
theorem d_Page_draftWhole_45 : decode b_Page_draftWhole 45 = .ok (.lstore 5, 2) := by decide +kernel
theorem d_Page_draftWhole_47 : decode b_Page_draftWhole 47 = .ok (.iinc 7 1, 3) := by decide +kernel
theorem d_Page_draftWhole_50 : decode b_Page_draftWhole 50 = .ok (.goto (-29), 3) := by decide +kernel
theorem d_Page_draftWhole_53 : decode b_Page_draftWhole 53 = .ok (.lload 5, 2) := by decide +kernel
theorem d_Page_draftWhole_55 : decode b_Page_draftWhole 55 = .ok (.lstore 7, 2) := by decide +kernel
theorem d_Page_draftWhole_57 : decode b_Page_draftWhole 57 = .ok (.lload 7, 2) := by decide +kernel
theorem d_Page_draftWhole_59 : decode b_Page_draftWhole 59 = .ok (.lconst 0, 1) := by decide +kernel
theorem d_Page_draftWhole_60 : decode b_Page_draftWhole 60 = .ok (.lcmp, 1) := by decide +kernel
theorem d_Page_draftWhole_61 : decode b_Page_draftWhole 61 = .ok (.ifCond .le 32, 3) := by decide +kernel
theorem d_Page_draftWhole_64 : decode b_Page_draftWhole 64 = .ok (.aload_n 0, 1) := by decide +kernel
theorem d_Page_draftWhole_65 : decode b_Page_draftWhole 65 = .ok (.ldc2_w 35, 3) := by decide +kernel
theorem d_Page_draftWhole_68 : decode b_Page_draftWhole 68 = .ok (.lload_n 2, 1) := by decide +kernel
theorem d_Page_draftWhole_69 : decode b_Page_draftWhole 69 = .ok (.lload 7, 2) := by decide +kernel
theorem d_Page_draftWhole_71 : decode b_Page_draftWhole 71 = .ok (.ldiv, 1) := by decide +kernel
theorem d_Page_draftWhole_72 : decode b_Page_draftWhole 72 = .ok (.ldc2_w 33, 3) := by decide +kernel
theorem d_Page_draftWhole_75 : decode b_Page_draftWhole 75 = .ok (.lrem, 1) := by decide +kernel
theorem d_Page_draftWhole_76 : decode b_Page_draftWhole 76 = .ok (.ladd, 1) := by decide +kernel
theorem d_Page_draftWhole_77 : decode b_Page_draftWhole 77 = .ok (.l2i, 1) := by decide +kernel
theorem d_Page_draftWhole_78 : decode b_Page_draftWhole 78 = .ok (.i2c, 1) := by decide +kernel
theorem d_Page_draftWhole_79 : decode b_Page_draftWhole 79 = .ok (.invokevirtual 37, 3) := by decide +kernel
theorem d_Page_draftWhole_82 : decode b_Page_draftWhole 82 = .ok (.lload 7, 2) := by decide +kernel
theorem d_Page_draftWhole_84 : decode b_Page_draftWhole 84 = .ok (.ldc2_w 33, 3) := by decide +kernel
theorem d_Page_draftWhole_87 : decode b_Page_draftWhole 87 = .ok (.ldiv, 1) := by decide +kernel
theorem d_Page_draftWhole_88 : decode b_Page_draftWhole 88 = .ok (.lstore 7, 2) := by decide +kernel
theorem d_Page_draftWhole_90 : decode b_Page_draftWhole 90 = .ok (.goto (-33), 3) := by decide +kernel
theorem d_Page_draftWhole_93 : decode b_Page_draftWhole 93 = .ok (.iload 4, 2) := by decide +kernel
theorem d_Page_draftWhole_95 : decode b_Page_draftWhole 95 = .ok (.ifCond .le 9, 3) := by decide +kernel
theorem d_Page_draftWhole_98 : decode b_Page_draftWhole 98 = .ok (.aload_n 0, 1) := by decide +kernel
theorem d_Page_draftWhole_99 : decode b_Page_draftWhole 99 = .ok (.bipush 46, 2) := by decide +kernel
theorem d_Page_draftWhole_101 : decode b_Page_draftWhole 101 = .ok (.invokevirtual 37, 3) := by decide +kernel
theorem d_Page_draftWhole_104 : decode b_Page_draftWhole 104 = .ok (.return_, 1) := by decide +kernel
def mf_Page_draftWhole_L21 (vWhole : Int64) : Nat → Int64 → Int32 → Option (Int64)
  | 0, _, _ => none
  | fu + 1, x5, x7 => (if (18 : Int32) ≤ x7 then (some (x5)) else (if (vWhole / (10 : Int64)) < x5 then (some (x5)) else (sd_let ((x5 * (10 : Int64))) fun x5_1 => (sd_let (x7 + (1 : Int32)) fun x7_1 => ((mf_Page_draftWhole_L21 vWhole fu) x5_1 x7_1)))))
def mf_Page_draftWhole_L57 (F : Nat) (vWhole : Int64) (pkn : Int32) : Nat → Int64 → Int32 → (Nat → Int32) → Option (Int32 × (Nat → Int32))
  | 0, _, _, _ => none
  | fu + 1, x7_2, upg_2, upd_2 => (if x7_2 ≤ (0 : Int64) then (some (upg_2, upd_2)) else (sd_g (sd_zJ x7_2) (sd_b2 (mf_Page_put F (((((48 : Int64) + ((vWhole / x7_2) - (vWhole / x7_2) / (10 : Int64) * (10 : Int64))).toInt32).toUInt32 % 65536).toInt32) pkn upg_2 upd_2) fun upg_3 upd_3 => (sd_let ((x7_2 / (10 : Int64))) fun x7_3 => ((mf_Page_draftWhole_L57 F vWhole pkn fu) x7_3 upg_3 upd_3)))))
def mf_Page_draftWhole (F : Nat) (vNeg : Int32) (vWhole : Int64) (vPlaces : Int32) (pkn : Int32) (pdn : Int32) (cpd : Nat → Int32) : Option (Int32 × (Nat → Int32)) :=
  (sd_b2 (if vNeg = 0 then (some ((0 : Int32), cpd)) else (sd_b2 (mf_Page_put F (45 : Int32) pkn (0 : Int32) cpd) fun upg_1 upd_1 => (some (upg_1, upd_1)))) fun upg upd => (sd_b1 (mf_Page_draftWhole_L21 vWhole F (1 : Int64) (0 : Int32)) fun rx5 => (sd_b2 (mf_Page_draftWhole_L57 F vWhole pkn F rx5 upg upd) fun rupg rupd => (sd_b2 (if vPlaces ≤ 0 then (some (rupg, rupd)) else (sd_b2 (mf_Page_put F (46 : Int32) pkn rupg rupd) fun upg_5 upd_5 => (some (upg_5, upd_5)))) fun upg_4 upd_4 => (some (upg_4, upd_4))))))
abbrev rm_Page_draftWhole : Room := { frames := 1, cells := 0, slots := 0, locals := 21 }
set_option maxHeartbeats 4000000 in
set_option maxRecDepth 100000 in
theorem ct_Page_draftWhole (l : Launch) (D : va_G) (g : G4) (pg : Nat) (pk : Nat) (pd : Nat) (sz : Nat) (vNeg : Int32) (vWhole : Int64) (vPlaces : Int32) (pkn : Int32) (pdn : Int32) (cpd : Nat → Int32) (F : Nat) (res : Int32 × (Nat → Int32)) (hm : mf_Page_draftWhole F vNeg vWhole vPlaces pkn pdn cpd = some res) : Met l y_Page_draftWhole (.code y_Page_draftWhole b_Page_draftWhole 9 none :: sd_tb) rm_Page_draftWhole (sd_PW D g [.ref pg, .int vNeg, .long vWhole, .int vPlaces] sz [(pg, .inr (3, [.ref pk, .ref pd, .int pkn, .int pdn])), (pd, aB g 128 cpd)]) (sd_Qv1 D g res (fun u : Int32 × (Nat → Int32) => [(pg, .inr (3, [.ref pk, .ref pd, .int pkn, .int (u.1)])), (pd, aB g 128 (u.2))]) (va_A [(pg, .inr (3, [.ref pk, .ref pd, .int pkn, .int pdn])), (pd, aB g 128 cpd)] sz)) 0 0 (va_A [(pg, .inr (3, [.ref pk, .ref pd, .int pkn, .int pdn])), (pd, aB g 128 cpd)] sz) := by
  refine sd_met (Qf := fun A => sd_Qv1 D g res (fun u : Int32 × (Nat → Int32) => [(pg, .inr (3, [.ref pk, .ref pd, .int pkn, .int (u.1)])), (pd, aB g 128 (u.2))]) A) (own := R_Page) (by decide +kernel) rfl (Nat.le_of_ble_eq_true rfl) ?_
  intro p e s m args below meth c S hr hlk hK A hA Q hQ H locs hP hD hS ls hl
  have hx := S.1
  have hb := S.2.1
  have hml := S.2.2.1
  have hown := S.2.2.2.1
  have htt := sd_tt S
  replace hl : lv_has ls 9 [(0, .ref pg), (1, .int vNeg), (2, .long vWhole), (4, .int vPlaces)] := hl
  unfold mf_Page_draftWhole at hm
  refine lv_aload_n hx hb d_Page_draftWhole_0 rfl (lv_at hl 0 rfl) ?_
  refine lv_iconst (v := (0 : Int32)) hx hb d_Page_draftWhole_1 (by decide) ?_
  refine sd_put (ci := 3) (v := .int (0 : Int32)) (ty := .int) (C := R_Page) (T := F_Page) (N := 4) (ws2 := [(pg, .inr (3, [.ref pk, .ref pd, .int pkn, .int (0 : Int32)])), (pd, aB g 128 cpd)]) hx hb htt i_Page t_Page t_Page_ok n_Page hown hK hP hD hS 0 rfl rfl 3 (by decide) kf_Page_20 (fun _ h9 => h9) rfl (by decide +kernel) rfl rfl (Nat.le_of_ble_eq_true rfl) rfl d_Page_draftWhole_2 (fun H locs hP hD hS => ?_)
  refine lv_iload_n hx hb d_Page_draftWhole_5 rfl (lv_at hl 1 rfl) ?_
  obtain ⟨upg, upd, hv, hm⟩ := sd_mb2 hm
  have J15_1 : ∀ (H : Heap) (locs : List Loc) (ls : Array Slot), va_P D classes [(pg, .inr (3, [.ref pk, .ref pd, .int pkn, .int upg])), (pd, aB g 128 upd)] H → va_D A [(pg, .inr (3, [.ref pk, .ref pd, .int pkn, .int upg])), (pd, aB g 128 upd)] → va_S A s.heap H locs → lv_has ls 9 [(0, .ref pg), (2, .long vWhole), (4, .int vPlaces)] → W p l e rm_Page_draftWhole s m args below meth c H locs 0 0 Q (F0 m 15 ls []) := by
    intro H locs ls hP hD hS hl
    refine lv_lconst (v := (1 : Int64)) hx hb d_Page_draftWhole_15 (by decide) ?_
    refine lv_lstore (lv' := [(5, .long (1 : Int64)), (0, .ref pg), (2, .long vWhole), (4, .int vPlaces)]) hx hb d_Page_draftWhole_16 hl (by decide) rfl (fun ls hl => ?_)
    refine lv_iconst (v := (0 : Int32)) hx hb d_Page_draftWhole_18 (by decide) ?_
    refine lv_istore (lv' := [(7, .int (0 : Int32)), (5, .long (1 : Int64)), (0, .ref pg), (2, .long vWhole), (4, .int vPlaces)]) hx hb d_Page_draftWhole_19 hl (by decide) rfl (fun ls hl => ?_)
    have L21 : ∀ (fu : Nat) (x5 : Int64) (x7 : Int32) (rx5 : Int64), mf_Page_draftWhole_L21 vWhole fu x5 x7 = some (rx5) → ∀ (H : Heap) (locs : List Loc) (ls : Array Slot), va_P D classes [(pg, .inr (3, [.ref pk, .ref pd, .int pkn, .int upg])), (pd, aB g 128 upd)] H → va_D A [(pg, .inr (3, [.ref pk, .ref pd, .int pkn, .int upg])), (pd, aB g 128 upd)] → va_S A s.heap H locs → lv_has ls 9 [(0, .ref pg), (2, .long vWhole), (4, .int vPlaces), (5, .long x5), (7, .int x7)] → (∀ (H : Heap) (locs : List Loc) (ls : Array Slot), va_P D classes [(pg, .inr (3, [.ref pk, .ref pd, .int pkn, .int upg])), (pd, aB g 128 upd)] H → va_D A [(pg, .inr (3, [.ref pk, .ref pd, .int pkn, .int upg])), (pd, aB g 128 upd)] → va_S A s.heap H locs → lv_has ls 9 [(0, .ref pg), (2, .long vWhole), (4, .int vPlaces), (5, .long rx5)] → W p l e rm_Page_draftWhole s m args below meth c H locs 0 0 Q (F0 m 53 ls [])) → W p l e rm_Page_draftWhole s m args below meth c H locs 0 0 Q (F0 m 21 ls []) := by
      intro fu
      induction fu with
      | zero => intro x5 x7 rx5 hm; exact absurd (show (none : Option (Int64)) = some (rx5) from hm) (fun h => nomatch h)
      | succ fu ih =>
        intro x5 x7 rx5 hm H locs ls hP hD hS hl kx53
        rw [mf_Page_draftWhole_L21] at hm
        refine lv_iload hx hb d_Page_draftWhole_21 (lv_at hl 4 rfl) ?_
        refine lv_bipush (v := (18 : Int32)) hx hb d_Page_draftWhole_23 (by decide) ?_
        refine lv_icmp_ge (tgt := 53) hx hb d_Page_draftWhole_25 (by decide) (fun hc => ?_) (fun hc => ?_)
        · have hm := sd_mt hc hm
          cases hm
          exact kx53 H locs ls (hP.sub [0, 1] rfl) (hD.sub [0, 1] (by decide) rfl) hS (lv_sub hl [0, 1, 2, 3] rfl)
        · have hm := sd_mf hc hm
          refine lv_lload hx hb d_Page_draftWhole_28 (lv_at hl 3 rfl) ?_
          refine lv_lload_n hx hb d_Page_draftWhole_30 rfl (lv_at hl 1 rfl) ?_
          refine sd_ldc2 (v := (10 : Int64)) hx hb hown (htt _ km_Page_33) d_Page_draftWhole_31 ?_
          refine lv_ldiv hx hb d_Page_draftWhole_34 (by decide) ?_
          refine sd_lgt (tgt := 53) hx hb d_Page_draftWhole_35 d_Page_draftWhole_36 (by decide) (fun hc => ?_) (fun hc => ?_)
          · have hm := sd_mt hc hm
            cases hm
            exact kx53 H locs ls (hP.sub [0, 1] rfl) (hD.sub [0, 1] (by decide) rfl) hS (lv_sub hl [0, 1, 2, 3] rfl)
          · have hm := sd_mf hc hm
            refine lv_lload hx hb d_Page_draftWhole_39 (lv_at hl 3 rfl) ?_
            refine sd_ldc2 (v := (10 : Int64)) hx hb hown (htt _ km_Page_33) d_Page_draftWhole_41 ?_
            refine lv_lmul hx hb d_Page_draftWhole_44 ?_
            obtain ⟨x5_1, ex5_1, hm⟩ := sd_mlet hm
            refine sd_topj ex5_1 ?_
            refine lv_lstore (lv' := [(5, .long x5_1), (0, .ref pg), (2, .long vWhole), (4, .int vPlaces), (7, .int x7)]) hx hb d_Page_draftWhole_45 hl (by decide) rfl (fun ls hl => ?_)
            obtain ⟨x7_1, ex7_1, hm⟩ := sd_mlet hm
            refine lv_iinc (v := x7_1) (lv' := [(7, .int x7_1), (5, .long x5_1), (0, .ref pg), (2, .long vWhole), (4, .int vPlaces)]) hx hb d_Page_draftWhole_47 hl (k := 4) rfl (by rw [ex7_1]; rfl) (by decide) rfl (fun ls hl => ?_)
            refine lv_goto (tgt := 21) hx hb d_Page_draftWhole_50 (by decide) ?_
            exact ih x5_1 x7_1 rx5 hm H locs ls (hP.sub [0, 1] rfl) (hD.sub [0, 1] (by decide) rfl) hS (lv_sub hl [2, 3, 4, 1, 0] rfl) kx53
    obtain ⟨rx5, hc, hm⟩ := sd_mb1 hm
    refine L21 F (1 : Int64) (0 : Int32) rx5 hc H locs ls (hP.sub [0, 1] rfl) (hD.sub [0, 1] (by decide) rfl) hS (lv_sub hl [2, 3, 4, 1, 0] rfl) ?_
    intro H locs ls hP hD hS hl
    refine lv_lload hx hb d_Page_draftWhole_53 (lv_at hl 3 rfl) ?_
    refine lv_lstore (lv' := [(7, .long rx5), (0, .ref pg), (2, .long vWhole), (4, .int vPlaces), (5, .long rx5)]) hx hb d_Page_draftWhole_55 hl (by decide) rfl (fun ls hl => ?_)
    have L57 : ∀ (fu : Nat) (x7_2 : Int64) (upg_2 : Int32) (upd_2 : Nat → Int32) (rupg : Int32) (rupd : Nat → Int32), mf_Page_draftWhole_L57 F vWhole pkn fu x7_2 upg_2 upd_2 = some (rupg, rupd) → ∀ (H : Heap) (locs : List Loc) (ls : Array Slot), va_P D classes [(pg, .inr (3, [.ref pk, .ref pd, .int pkn, .int upg_2])), (pd, aB g 128 upd_2)] H → va_D A [(pg, .inr (3, [.ref pk, .ref pd, .int pkn, .int upg_2])), (pd, aB g 128 upd_2)] → va_S A s.heap H locs → lv_has ls 9 [(0, .ref pg), (2, .long vWhole), (4, .int vPlaces), (7, .long x7_2)] → (∀ (H : Heap) (locs : List Loc) (ls : Array Slot), va_P D classes [(pg, .inr (3, [.ref pk, .ref pd, .int pkn, .int rupg])), (pd, aB g 128 rupd)] H → va_D A [(pg, .inr (3, [.ref pk, .ref pd, .int pkn, .int rupg])), (pd, aB g 128 rupd)] → va_S A s.heap H locs → lv_has ls 9 [(0, .ref pg), (4, .int vPlaces)] → W p l e rm_Page_draftWhole s m args below meth c H locs 0 0 Q (F0 m 93 ls [])) → W p l e rm_Page_draftWhole s m args below meth c H locs 0 0 Q (F0 m 57 ls []) := by
      intro fu
      induction fu with
      | zero => intro x7_2 upg_2 upd_2 rupg rupd hm; exact absurd (show (none : Option (Int32 × (Nat → Int32))) = some (rupg, rupd) from hm) (fun h => nomatch h)
      | succ fu ih =>
        intro x7_2 upg_2 upd_2 rupg rupd hm H locs ls hP hD hS hl kx93
        rw [mf_Page_draftWhole_L57] at hm
        refine lv_lload hx hb d_Page_draftWhole_57 (lv_at hl 3 rfl) ?_
        refine lv_lconst (v := (0 : Int64)) hx hb d_Page_draftWhole_59 (by decide) ?_
        refine sd_lle (tgt := 93) hx hb d_Page_draftWhole_60 d_Page_draftWhole_61 (by decide) (fun hc => ?_) (fun hc => ?_)
        · have hm := sd_mt hc hm
          cases hm
          exact kx93 H locs ls (hP.sub [0, 1] rfl) (hD.sub [0, 1] (by decide) rfl) hS (lv_sub hl [0, 2] rfl)
        · have hm := sd_mf hc hm
          refine lv_aload_n hx hb d_Page_draftWhole_64 rfl (lv_at hl 0 rfl) ?_
          refine sd_ldc2 (v := (48 : Int64)) hx hb hown (htt _ km_Page_35) d_Page_draftWhole_65 ?_
          refine lv_lload_n hx hb d_Page_draftWhole_68 rfl (lv_at hl 1 rfl) ?_
          refine lv_lload hx hb d_Page_draftWhole_69 (lv_at hl 3 rfl) ?_
          obtain ⟨h_2, hm⟩ := sd_mg hm
          refine lv_ldiv hx hb d_Page_draftWhole_71 (sd_nzJ h_2) ?_
          refine sd_ldc2 (v := (10 : Int64)) hx hb hown (htt _ km_Page_33) d_Page_draftWhole_72 ?_
          refine lv_lrem hx hb d_Page_draftWhole_75 (by decide) ?_
          refine lv_ladd hx hb d_Page_draftWhole_76 ?_
          refine lv_l2i hx hb d_Page_draftWhole_77 rfl ?_
          refine lv_i2c hx hb d_Page_draftWhole_78 rfl ?_
          obtain ⟨upg_3, upd_3, hc, hm⟩ := sd_mb2 hm
          refine sd_cv1 (wr := []) (w2 := [(pg, .inr (3, [.ref pk, .ref pd, .int pkn, .int upg_3])), (pd, aB g 128 upd_3)]) (sd_runV (rest := []) (As := [.int (((((48 : Int64) + ((vWhole / x7_2) - (vWhole / x7_2) / (10 : Int64) * (10 : Int64))).toInt32).toUInt32 % 65536).toInt32)]) S (ct_Page_put l D g pg pk pd (H.size) (((((48 : Int64) + ((vWhole / x7_2) - (vWhole / x7_2) / (10 : Int64) * (10 : Int64))).toInt32).toUInt32 % 65536).toInt32) pkn upg_2 upd_2 F (upg_3, upd_3) hc) kl_Page_37 (by decide) (by decide) hK hP hD [0, 1] rfl (by decide) rfl hl d_Page_draftWhole_79 rfl (Nat.le_of_ble_eq_true rfl) ⟨Nat.zero_le _, Nat.zero_le _⟩ 0 rfl rfl) hP hD hS hA [0, 1] [] rfl rfl (by decide) (by decide) rfl (fun H locs hP hD hS => ?_)
          refine lv_lload hx hb d_Page_draftWhole_82 (lv_at hl 3 rfl) ?_
          refine sd_ldc2 (v := (10 : Int64)) hx hb hown (htt _ km_Page_33) d_Page_draftWhole_84 ?_
          refine lv_ldiv hx hb d_Page_draftWhole_87 (by decide) ?_
          obtain ⟨x7_3, ex7_3, hm⟩ := sd_mlet hm
          refine sd_topj ex7_3 ?_
          refine lv_lstore (lv' := [(7, .long x7_3), (0, .ref pg), (2, .long vWhole), (4, .int vPlaces)]) hx hb d_Page_draftWhole_88 hl (by decide) rfl (fun ls hl => ?_)
          refine lv_goto (tgt := 57) hx hb d_Page_draftWhole_90 (by decide) ?_
          exact ih x7_3 upg_3 upd_3 rupg rupd hm H locs ls (hP.sub [0, 1] rfl) (hD.sub [0, 1] (by decide) rfl) hS (lv_sub hl [1, 2, 3, 0] rfl) kx93
    obtain ⟨rupg, rupd, hc, hm⟩ := sd_mb2 hm
    refine L57 F rx5 upg upd rupg rupd hc H locs ls (hP.sub [0, 1] rfl) (hD.sub [0, 1] (by decide) rfl) hS (lv_sub hl [1, 2, 3, 0] rfl) ?_
    intro H locs ls hP hD hS hl
    refine lv_iload hx hb d_Page_draftWhole_93 (lv_at hl 1 rfl) ?_
    obtain ⟨upg_4, upd_4, hv, hm⟩ := sd_mb2 hm
    have J104_3 : ∀ (H : Heap) (locs : List Loc) (ls : Array Slot), va_P D classes [(pg, .inr (3, [.ref pk, .ref pd, .int pkn, .int upg_4])), (pd, aB g 128 upd_4)] H → va_D A [(pg, .inr (3, [.ref pk, .ref pd, .int pkn, .int upg_4])), (pd, aB g 128 upd_4)] → va_S A s.heap H locs → lv_has ls 9 [] → W p l e rm_Page_draftWhole s m args below meth c H locs 0 0 Q (F0 m 104 ls []) := by
      intro H locs ls hP hD hS hl
      exact sd_v1ret (u := (upg_4, upd_4)) hQ hx hb hr hlk hK (hP.sub [0, 1] rfl) (hD.sub [0, 1] (by decide) rfl) hS (Option.some.inj hm).symm d_Page_draftWhole_104
    replace hm := hv
    refine lv_if_le (tgt := 104) hx hb d_Page_draftWhole_95 (by decide) (fun hc => ?_) (fun hc => ?_)
    · have hm := sd_mt hc hm
      cases hm
      exact J104_3 H locs ls (hP.sub [0, 1] rfl) (hD.sub [0, 1] (by decide) rfl) hS (lv_sub hl [] rfl)
    · have hm := sd_mf hc hm
      refine lv_aload_n hx hb d_Page_draftWhole_98 rfl (lv_at hl 0 rfl) ?_
      refine lv_bipush (v := (46 : Int32)) hx hb d_Page_draftWhole_99 (by decide) ?_
      obtain ⟨upg_5, upd_5, hc, hm⟩ := sd_mb2 hm
      refine sd_cv1 (wr := []) (w2 := [(pg, .inr (3, [.ref pk, .ref pd, .int pkn, .int upg_5])), (pd, aB g 128 upd_5)]) (sd_runV (rest := []) (As := [.int (46 : Int32)]) S (ct_Page_put l D g pg pk pd (H.size) (46 : Int32) pkn rupg rupd F (upg_5, upd_5) hc) kl_Page_37 (by decide) (by decide) hK hP hD [0, 1] rfl (by decide) rfl hl d_Page_draftWhole_101 rfl (Nat.le_of_ble_eq_true rfl) ⟨Nat.zero_le _, Nat.zero_le _⟩ 0 rfl rfl) hP hD hS hA [0, 1] [] rfl rfl (by decide) (by decide) rfl (fun H locs hP hD hS => ?_)
      cases hm
      exact J104_3 H locs ls (hP.sub [0, 1] rfl) (hD.sub [0, 1] (by decide) rfl) hS (lv_sub hl [] rfl)
  replace hm := hv
  refine lv_if_eq (tgt := 15) hx hb d_Page_draftWhole_6 (by decide) (fun hc => ?_) (fun hc => ?_)
  · have hm := sd_mt hc hm
    cases hm
    exact J15_1 H locs ls (hP.sub [0, 1] rfl) (hD.sub [0, 1] (by decide) rfl) hS (lv_sub hl [0, 2, 3] rfl)
  · have hm := sd_mf hc hm
    refine lv_aload_n hx hb d_Page_draftWhole_9 rfl (lv_at hl 0 rfl) ?_
    refine lv_bipush (v := (45 : Int32)) hx hb d_Page_draftWhole_10 (by decide) ?_
    obtain ⟨upg_1, upd_1, hc, hm⟩ := sd_mb2 hm
    refine sd_cv1 (wr := []) (w2 := [(pg, .inr (3, [.ref pk, .ref pd, .int pkn, .int upg_1])), (pd, aB g 128 upd_1)]) (sd_runV (rest := []) (As := [.int (45 : Int32)]) S (ct_Page_put l D g pg pk pd (H.size) (45 : Int32) pkn (0 : Int32) cpd F (upg_1, upd_1) hc) kl_Page_37 (by decide) (by decide) hK hP hD [0, 1] rfl (by decide) rfl hl d_Page_draftWhole_12 rfl (Nat.le_of_ble_eq_true rfl) ⟨Nat.zero_le _, Nat.zero_le _⟩ 0 rfl rfl) hP hD hS hA [0, 1] [] rfl rfl (by decide) (by decide) rfl (fun H locs hP hD hS => ?_)
    cases hm
    exact J15_1 H locs ls (hP.sub [0, 1] rfl) (hD.sub [0, 1] (by decide) rfl) hS (lv_sub hl [0, 2, 3] rfl)
theorem d_Page_draftFraction_0 : decode b_Page_draftFraction 0 = .ok (.lload_n 1, 1) := by decide +kernel
theorem d_Page_draftFraction_1 : decode b_Page_draftFraction 1 = .ok (.invokestatic 23, 3) := by decide +kernel
theorem d_Page_draftFraction_4 : decode b_Page_draftFraction 4 = .ok (.lstore 6, 2) := by decide +kernel
theorem d_Page_draftFraction_6 : decode b_Page_draftFraction 6 = .ok (.aload_n 0, 1) := by decide +kernel
theorem d_Page_draftFraction_7 : decode b_Page_draftFraction 7 = .ok (.lload_n 1, 1) := by decide +kernel
theorem d_Page_draftFraction_8 : decode b_Page_draftFraction 8 = .ok (.lconst 0, 1) := by decide +kernel
theorem d_Page_draftFraction_9 : decode b_Page_draftFraction 9 = .ok (.lcmp, 1) := by decide +kernel
theorem d_Page_draftFraction_10 : decode b_Page_draftFraction 10 = .ok (.ifCond .ge 7, 3) := by decide +kernel
theorem d_Page_draftFraction_13 : decode b_Page_draftFraction 13 = .ok (.iconst 1, 1) := by decide +kernel
theorem d_Page_draftFraction_14 : decode b_Page_draftFraction 14 = .ok (.goto 4, 3) := by decide +kernel
theorem d_Page_draftFraction_17 : decode b_Page_draftFraction 17 = .ok (.iconst 0, 1) := by decide +kernel
theorem d_Page_draftFraction_18 : decode b_Page_draftFraction 18 = .ok (.lload 6, 2) := by decide +kernel
theorem d_Page_draftFraction_20 : decode b_Page_draftFraction 20 = .ok (.lload_n 3, 1) := by decide +kernel
theorem d_Page_draftFraction_21 : decode b_Page_draftFraction 21 = .ok (.ldiv, 1) := by decide +kernel
theorem d_Page_draftFraction_22 : decode b_Page_draftFraction 22 = .ok (.iload 5, 2) := by decide +kernel
theorem d_Page_draftFraction_24 : decode b_Page_draftFraction 24 = .ok (.invokevirtual 29, 3) := by decide +kernel
theorem d_Page_draftFraction_27 : decode b_Page_draftFraction 27 = .ok (.lload 6, 2) := by decide +kernel
theorem d_Page_draftFraction_29 : decode b_Page_draftFraction 29 = .ok (.lload_n 3, 1) := by decide +kernel
theorem d_Page_draftFraction_30 : decode b_Page_draftFraction 30 = .ok (.lrem, 1) := by decide +kernel
theorem d_Page_draftFraction_31 : decode b_Page_draftFraction 31 = .ok (.lstore 8, 2) := by decide +kernel
theorem d_Page_draftFraction_33 : decode b_Page_draftFraction 33 = .ok (.iconst 0, 1) := by decide +kernel
theorem d_Page_draftFraction_34 : decode b_Page_draftFraction 34 = .ok (.istore 10, 2) := by decide +kernel
theorem d_Page_draftFraction_36 : decode b_Page_draftFraction 36 = .ok (.iload 10, 2) := by decide +kernel
theorem d_Page_draftFraction_38 : decode b_Page_draftFraction 38 = .ok (.iload 5, 2) := by decide +kernel
theorem d_Page_draftFraction_40 : decode b_Page_draftFraction 40 = .ok (.if_icmp .ge 37, 3) := by decide +kernel
theorem d_Page_draftFraction_43 : decode b_Page_draftFraction 43 = .ok (.lload 8, 2) := by decide +kernel
theorem d_Page_draftFraction_45 : decode b_Page_draftFraction 45 = .ok (.ldc2_w 33, 3) := by decide +kernel
theorem d_Page_draftFraction_48 : decode b_Page_draftFraction 48 = .ok (.lmul, 1) := by decide +kernel
theorem d_Page_draftFraction_49 : decode b_Page_draftFraction 49 = .ok (.lstore 8, 2) := by decide +kernel
theorem d_Page_draftFraction_51 : decode b_Page_draftFraction 51 = .ok (.aload_n 0, 1) := by decide +kernel
theorem d_Page_draftFraction_52 : decode b_Page_draftFraction 52 = .ok (.ldc2_w 35, 3) := by decide +kernel
theorem d_Page_draftFraction_55 : decode b_Page_draftFraction 55 = .ok (.lload 8, 2) := by decide +kernel
theorem d_Page_draftFraction_57 : decode b_Page_draftFraction 57 = .ok (.lload_n 3, 1) := by decide +kernel
theorem d_Page_draftFraction_58 : decode b_Page_draftFraction 58 = .ok (.ldiv, 1) := by decide +kernel
theorem d_Page_draftFraction_59 : decode b_Page_draftFraction 59 = .ok (.ladd, 1) := by decide +kernel
theorem d_Page_draftFraction_60 : decode b_Page_draftFraction 60 = .ok (.l2i, 1) := by decide +kernel
theorem d_Page_draftFraction_61 : decode b_Page_draftFraction 61 = .ok (.i2c, 1) := by decide +kernel
theorem d_Page_draftFraction_62 : decode b_Page_draftFraction 62 = .ok (.invokevirtual 37, 3) := by decide +kernel
theorem d_Page_draftFraction_65 : decode b_Page_draftFraction 65 = .ok (.lload 8, 2) := by decide +kernel
theorem d_Page_draftFraction_67 : decode b_Page_draftFraction 67 = .ok (.lload_n 3, 1) := by decide +kernel
theorem d_Page_draftFraction_68 : decode b_Page_draftFraction 68 = .ok (.lrem, 1) := by decide +kernel
theorem d_Page_draftFraction_69 : decode b_Page_draftFraction 69 = .ok (.lstore 8, 2) := by decide +kernel
theorem d_Page_draftFraction_71 : decode b_Page_draftFraction 71 = .ok (.iinc 10 1, 3) := by decide +kernel
theorem d_Page_draftFraction_74 : decode b_Page_draftFraction 74 = .ok (.goto (-38), 3) := by decide +kernel
theorem d_Page_draftFraction_77 : decode b_Page_draftFraction 77 = .ok (.return_, 1) := by decide +kernel
def mf_Page_draftFraction_L36 (vPlaces : Int32) (vBot : Int64) (F : Nat) (pkn : Int32) : Nat → Int64 → Int32 → Int32 → (Nat → Int32) → Option (Int32 × (Nat → Int32))
  | 0, _, _, _, _ => none
  | fu + 1, x8_1, x10, upg_1, upd_1 => (if vPlaces ≤ x10 then (some (upg_1, upd_1)) else (sd_let ((x8_1 * (10 : Int64))) fun x8_2 => (sd_g (sd_zJ vBot) (sd_b2 (mf_Page_put F (((((48 : Int64) + (x8_2 / vBot)).toInt32).toUInt32 % 65536).toInt32) pkn upg_1 upd_1) fun upg_2 upd_2 => (sd_g (sd_zJ vBot) (sd_let ((x8_2 - x8_2 / vBot * vBot)) fun x8_3 => (sd_let (x10 + (1 : Int32)) fun x10_1 => ((mf_Page_draftFraction_L36 vPlaces vBot F pkn fu) x8_3 x10_1 upg_2 upd_2))))))))
def mf_Page_draftFraction (F : Nat) (vTop : Int64) (vBot : Int64) (vPlaces : Int32) (pkn : Int32) (pdn : Int32) (cpd : Nat → Int32) : Option (Int32 × (Nat → Int32)) :=
  (sd_let ((if 0 < vTop then vTop else -vTop)) fun x6 => (sd_b1 (if (0 : Int64) ≤ vTop then (some ((0 : Int32))) else (some ((1 : Int32)))) fun y => (sd_g (sd_zJ vBot) (sd_b2 (mf_Page_draftWhole F y (x6 / vBot) vPlaces pkn pdn cpd) fun upg upd => (sd_g (sd_zJ vBot) (sd_let ((x6 - x6 / vBot * vBot)) fun x8 => (sd_b2 (mf_Page_draftFraction_L36 vPlaces vBot F pkn F x8 (0 : Int32) upg upd) fun rupg rupd => (some (rupg, rupd)))))))))
abbrev rm_Page_draftFraction : Room := { frames := 2, cells := 0, slots := 0, locals := 49 }
set_option maxHeartbeats 4000000 in
set_option maxRecDepth 100000 in
theorem ct_Page_draftFraction (l : Launch) (D : va_G) (g : G4) (pg : Nat) (pk : Nat) (pd : Nat) (sz : Nat) (vTop : Int64) (vBot : Int64) (vPlaces : Int32) (pkn : Int32) (pdn : Int32) (cpd : Nat → Int32) (F : Nat) (res : Int32 × (Nat → Int32)) (hm : mf_Page_draftFraction F vTop vBot vPlaces pkn pdn cpd = some res) : Met l y_Page_draftFraction (.code y_Page_draftFraction b_Page_draftFraction 11 none :: sd_tb) rm_Page_draftFraction (sd_PW D g [.ref pg, .long vTop, .long vBot, .int vPlaces] sz [(pg, .inr (3, [.ref pk, .ref pd, .int pkn, .int pdn])), (pd, aB g 128 cpd)]) (sd_Qv1 D g res (fun u : Int32 × (Nat → Int32) => [(pg, .inr (3, [.ref pk, .ref pd, .int pkn, .int (u.1)])), (pd, aB g 128 (u.2))]) (va_A [(pg, .inr (3, [.ref pk, .ref pd, .int pkn, .int pdn])), (pd, aB g 128 cpd)] sz)) 0 0 (va_A [(pg, .inr (3, [.ref pk, .ref pd, .int pkn, .int pdn])), (pd, aB g 128 cpd)] sz) := by
  refine sd_met (Qf := fun A => sd_Qv1 D g res (fun u : Int32 × (Nat → Int32) => [(pg, .inr (3, [.ref pk, .ref pd, .int pkn, .int (u.1)])), (pd, aB g 128 (u.2))]) A) (own := R_Page) (by decide +kernel) rfl (Nat.le_of_ble_eq_true rfl) ?_
  intro p e s m args below meth c S hr hlk hK A hA Q hQ H locs hP hD hS ls hl
  have hx := S.1
  have hb := S.2.1
  have hml := S.2.2.1
  have hown := S.2.2.2.1
  have htt := sd_tt S
  replace hl : lv_has ls 11 [(0, .ref pg), (1, .long vTop), (3, .long vBot), (5, .int vPlaces)] := hl
  unfold mf_Page_draftFraction at hm
  refine lv_lload_n hx hb d_Page_draftFraction_0 rfl (lv_at hl 1 rfl) ?_
  refine sd_abs hx hb hml hown kl_Page_23 htt hl d_Page_draftFraction_1 (Nat.le_of_ble_eq_true rfl) (Nat.le_of_ble_eq_true rfl) ?_
  obtain ⟨x6, ex6, hm⟩ := sd_mlet hm
  refine sd_topj ex6 ?_
  refine lv_lstore (lv' := [(6, .long x6), (0, .ref pg), (1, .long vTop), (3, .long vBot), (5, .int vPlaces)]) hx hb d_Page_draftFraction_4 hl (by decide) rfl (fun ls hl => ?_)
  refine lv_aload_n hx hb d_Page_draftFraction_6 rfl (lv_at hl 1 rfl) ?_
  refine lv_lload_n hx hb d_Page_draftFraction_7 rfl (lv_at hl 2 rfl) ?_
  refine lv_lconst (v := (0 : Int64)) hx hb d_Page_draftFraction_8 (by decide) ?_
  obtain ⟨y, hv, hm⟩ := sd_mb1 hm
  have J18_1 : ∀ (H : Heap) (locs : List Loc) (ls : Array Slot), va_P D classes [(pg, .inr (3, [.ref pk, .ref pd, .int pkn, .int pdn])), (pd, aB g 128 cpd)] H → va_D A [(pg, .inr (3, [.ref pk, .ref pd, .int pkn, .int pdn])), (pd, aB g 128 cpd)] → va_S A s.heap H locs → lv_has ls 11 [(0, .ref pg), (3, .long vBot), (5, .int vPlaces), (6, .long x6)] → W p l e rm_Page_draftFraction s m args below meth c H locs 0 0 Q (F0 m 18 ls [.int y, .ref pg]) := by
    intro H locs ls hP hD hS hl
    refine lv_lload hx hb d_Page_draftFraction_18 (lv_at hl 3 rfl) ?_
    refine lv_lload_n hx hb d_Page_draftFraction_20 rfl (lv_at hl 1 rfl) ?_
    obtain ⟨h_2, hm⟩ := sd_mg hm
    refine lv_ldiv hx hb d_Page_draftFraction_21 (sd_nzJ h_2) ?_
    refine lv_iload hx hb d_Page_draftFraction_22 (lv_at hl 2 rfl) ?_
    obtain ⟨upg, upd, hc, hm⟩ := sd_mb2 hm
    refine sd_cv1 (wr := []) (w2 := [(pg, .inr (3, [.ref pk, .ref pd, .int pkn, .int upg])), (pd, aB g 128 upd)]) (sd_runV (rest := []) (As := [.int y, .long (x6 / vBot), .int vPlaces]) S (ct_Page_draftWhole l D g pg pk pd (H.size) y (x6 / vBot) vPlaces pkn pdn cpd F (upg, upd) hc) kl_Page_29 (by decide) (by decide) hK hP hD [0, 1] rfl (by decide) rfl hl d_Page_draftFraction_24 rfl (Nat.le_of_ble_eq_true rfl) ⟨Nat.zero_le _, Nat.zero_le _⟩ 0 rfl rfl) hP hD hS hA [0, 1] [] rfl rfl (by decide) (by decide) rfl (fun H locs hP hD hS => ?_)
    refine lv_lload hx hb d_Page_draftFraction_27 (lv_at hl 3 rfl) ?_
    refine lv_lload_n hx hb d_Page_draftFraction_29 rfl (lv_at hl 1 rfl) ?_
    obtain ⟨h_3, hm⟩ := sd_mg hm
    refine lv_lrem hx hb d_Page_draftFraction_30 (sd_nzJ h_3) ?_
    obtain ⟨x8, ex8, hm⟩ := sd_mlet hm
    refine sd_topj ex8 ?_
    refine lv_lstore (lv' := [(8, .long x8), (0, .ref pg), (3, .long vBot), (5, .int vPlaces), (6, .long x6)]) hx hb d_Page_draftFraction_31 hl (by decide) rfl (fun ls hl => ?_)
    refine lv_iconst (v := (0 : Int32)) hx hb d_Page_draftFraction_33 (by decide) ?_
    refine lv_istore (lv' := [(10, .int (0 : Int32)), (8, .long x8), (0, .ref pg), (3, .long vBot), (5, .int vPlaces), (6, .long x6)]) hx hb d_Page_draftFraction_34 hl (by decide) rfl (fun ls hl => ?_)
    have L36 : ∀ (fu : Nat) (x8_1 : Int64) (x10 : Int32) (upg_1 : Int32) (upd_1 : Nat → Int32) (rupg : Int32) (rupd : Nat → Int32), mf_Page_draftFraction_L36 vPlaces vBot F pkn fu x8_1 x10 upg_1 upd_1 = some (rupg, rupd) → ∀ (H : Heap) (locs : List Loc) (ls : Array Slot), va_P D classes [(pg, .inr (3, [.ref pk, .ref pd, .int pkn, .int upg_1])), (pd, aB g 128 upd_1)] H → va_D A [(pg, .inr (3, [.ref pk, .ref pd, .int pkn, .int upg_1])), (pd, aB g 128 upd_1)] → va_S A s.heap H locs → lv_has ls 11 [(0, .ref pg), (3, .long vBot), (5, .int vPlaces), (8, .long x8_1), (10, .int x10)] → (∀ (H : Heap) (locs : List Loc) (ls : Array Slot), va_P D classes [(pg, .inr (3, [.ref pk, .ref pd, .int pkn, .int rupg])), (pd, aB g 128 rupd)] H → va_D A [(pg, .inr (3, [.ref pk, .ref pd, .int pkn, .int rupg])), (pd, aB g 128 rupd)] → va_S A s.heap H locs → lv_has ls 11 [] → W p l e rm_Page_draftFraction s m args below meth c H locs 0 0 Q (F0 m 77 ls [])) → W p l e rm_Page_draftFraction s m args below meth c H locs 0 0 Q (F0 m 36 ls []) := by
      intro fu
      induction fu with
      | zero => intro x8_1 x10 upg_1 upd_1 rupg rupd hm; exact absurd (show (none : Option (Int32 × (Nat → Int32))) = some (rupg, rupd) from hm) (fun h => nomatch h)
      | succ fu ih =>
        intro x8_1 x10 upg_1 upd_1 rupg rupd hm H locs ls hP hD hS hl kx77
        rw [mf_Page_draftFraction_L36] at hm
        refine lv_iload hx hb d_Page_draftFraction_36 (lv_at hl 4 rfl) ?_
        refine lv_iload hx hb d_Page_draftFraction_38 (lv_at hl 2 rfl) ?_
        refine lv_icmp_ge (tgt := 77) hx hb d_Page_draftFraction_40 (by decide) (fun hc => ?_) (fun hc => ?_)
        · have hm := sd_mt hc hm
          cases hm
          exact kx77 H locs ls (hP.sub [0, 1] rfl) (hD.sub [0, 1] (by decide) rfl) hS (lv_sub hl [] rfl)
        · have hm := sd_mf hc hm
          refine lv_lload hx hb d_Page_draftFraction_43 (lv_at hl 3 rfl) ?_
          refine sd_ldc2 (v := (10 : Int64)) hx hb hown (htt _ km_Page_33) d_Page_draftFraction_45 ?_
          refine lv_lmul hx hb d_Page_draftFraction_48 ?_
          obtain ⟨x8_2, ex8_2, hm⟩ := sd_mlet hm
          refine sd_topj ex8_2 ?_
          refine lv_lstore (lv' := [(8, .long x8_2), (0, .ref pg), (3, .long vBot), (5, .int vPlaces), (10, .int x10)]) hx hb d_Page_draftFraction_49 hl (by decide) rfl (fun ls hl => ?_)
          refine lv_aload_n hx hb d_Page_draftFraction_51 rfl (lv_at hl 1 rfl) ?_
          refine sd_ldc2 (v := (48 : Int64)) hx hb hown (htt _ km_Page_35) d_Page_draftFraction_52 ?_
          refine lv_lload hx hb d_Page_draftFraction_55 (lv_at hl 0 rfl) ?_
          refine lv_lload_n hx hb d_Page_draftFraction_57 rfl (lv_at hl 2 rfl) ?_
          obtain ⟨h_4, hm⟩ := sd_mg hm
          refine lv_ldiv hx hb d_Page_draftFraction_58 (sd_nzJ h_4) ?_
          refine lv_ladd hx hb d_Page_draftFraction_59 ?_
          refine lv_l2i hx hb d_Page_draftFraction_60 rfl ?_
          refine lv_i2c hx hb d_Page_draftFraction_61 rfl ?_
          obtain ⟨upg_2, upd_2, hc, hm⟩ := sd_mb2 hm
          refine sd_cv1 (wr := []) (w2 := [(pg, .inr (3, [.ref pk, .ref pd, .int pkn, .int upg_2])), (pd, aB g 128 upd_2)]) (sd_runV (rest := []) (As := [.int (((((48 : Int64) + (x8_2 / vBot)).toInt32).toUInt32 % 65536).toInt32)]) S (ct_Page_put l D g pg pk pd (H.size) (((((48 : Int64) + (x8_2 / vBot)).toInt32).toUInt32 % 65536).toInt32) pkn upg_1 upd_1 F (upg_2, upd_2) hc) kl_Page_37 (by decide) (by decide) hK hP hD [0, 1] rfl (by decide) rfl hl d_Page_draftFraction_62 rfl (Nat.le_of_ble_eq_true rfl) ⟨Nat.zero_le _, Nat.zero_le _⟩ 0 rfl rfl) hP hD hS hA [0, 1] [] rfl rfl (by decide) (by decide) rfl (fun H locs hP hD hS => ?_)
          refine lv_lload hx hb d_Page_draftFraction_65 (lv_at hl 0 rfl) ?_
          refine lv_lload_n hx hb d_Page_draftFraction_67 rfl (lv_at hl 2 rfl) ?_
          obtain ⟨h_5, hm⟩ := sd_mg hm
          refine lv_lrem hx hb d_Page_draftFraction_68 (sd_nzJ h_5) ?_
          obtain ⟨x8_3, ex8_3, hm⟩ := sd_mlet hm
          refine sd_topj ex8_3 ?_
          refine lv_lstore (lv' := [(8, .long x8_3), (0, .ref pg), (3, .long vBot), (5, .int vPlaces), (10, .int x10)]) hx hb d_Page_draftFraction_69 hl (by decide) rfl (fun ls hl => ?_)
          obtain ⟨x10_1, ex10_1, hm⟩ := sd_mlet hm
          refine lv_iinc (v := x10_1) (lv' := [(10, .int x10_1), (8, .long x8_3), (0, .ref pg), (3, .long vBot), (5, .int vPlaces)]) hx hb d_Page_draftFraction_71 hl (k := 4) rfl (by rw [ex10_1]; rfl) (by decide) rfl (fun ls hl => ?_)
          refine lv_goto (tgt := 36) hx hb d_Page_draftFraction_74 (by decide) ?_
          exact ih x8_3 x10_1 upg_2 upd_2 rupg rupd hm H locs ls (hP.sub [0, 1] rfl) (hD.sub [0, 1] (by decide) rfl) hS (lv_sub hl [2, 3, 4, 1, 0] rfl) kx77
    obtain ⟨rupg, rupd, hc, hm⟩ := sd_mb2 hm
    refine L36 F x8 (0 : Int32) upg upd rupg rupd hc H locs ls (hP.sub [0, 1] rfl) (hD.sub [0, 1] (by decide) rfl) hS (lv_sub hl [2, 3, 4, 1, 0] rfl) ?_
    intro H locs ls hP hD hS hl
    exact sd_v1ret (u := (rupg, rupd)) hQ hx hb hr hlk hK (hP.sub [0, 1] rfl) (hD.sub [0, 1] (by decide) rfl) hS (Option.some.inj hm).symm d_Page_draftFraction_77
  replace hm := hv
  refine sd_lge (tgt := 17) hx hb d_Page_draftFraction_9 d_Page_draftFraction_10 (by decide) (fun hc => ?_) (fun hc => ?_)
  · have hm := sd_mt hc hm
    refine lv_iconst (v := (0 : Int32)) hx hb d_Page_draftFraction_17 (by decide) ?_
    cases hm
    exact J18_1 H locs ls (hP.sub [0, 1] rfl) (hD.sub [0, 1] (by decide) rfl) hS (lv_sub hl [1, 3, 4, 0] rfl)
  · have hm := sd_mf hc hm
    refine lv_iconst (v := (1 : Int32)) hx hb d_Page_draftFraction_13 (by decide) ?_
    refine lv_goto (tgt := 18) hx hb d_Page_draftFraction_14 (by decide) ?_
    cases hm
    exact J18_1 H locs ls (hP.sub [0, 1] rfl) (hD.sub [0, 1] (by decide) rfl) hS (lv_sub hl [1, 3, 4, 0] rfl)
theorem d_Page_draftEnds_0 : decode b_Page_draftEnds 0 = .ok (.aload_n 2, 1) := by decide +kernel
theorem d_Page_draftEnds_1 : decode b_Page_draftEnds 1 = .ok (.invokestatic 41, 3) := by decide +kernel
theorem d_Page_draftEnds_4 : decode b_Page_draftEnds 4 = .ok (.lstore 5, 2) := by decide +kernel
theorem d_Page_draftEnds_6 : decode b_Page_draftEnds 6 = .ok (.lload 5, 2) := by decide +kernel
theorem d_Page_draftEnds_8 : decode b_Page_draftEnds 8 = .ok (.aload_n 3, 1) := by decide +kernel
theorem d_Page_draftEnds_9 : decode b_Page_draftEnds 9 = .ok (.invokestatic 41, 3) := by decide +kernel
theorem d_Page_draftEnds_12 : decode b_Page_draftEnds 12 = .ok (.lcmp, 1) := by decide +kernel
theorem d_Page_draftEnds_13 : decode b_Page_draftEnds 13 = .ok (.ifCond .eq 5, 3) := by decide +kernel
theorem d_Page_draftEnds_16 : decode b_Page_draftEnds 16 = .ok (.iconst 0, 1) := by decide +kernel
theorem d_Page_draftEnds_17 : decode b_Page_draftEnds 17 = .ok (.ireturn, 1) := by decide +kernel
theorem d_Page_draftEnds_18 : decode b_Page_draftEnds 18 = .ok (.aload_n 0, 1) := by decide +kernel
theorem d_Page_draftEnds_19 : decode b_Page_draftEnds 19 = .ok (.iload_n 1, 1) := by decide +kernel
theorem d_Page_draftEnds_20 : decode b_Page_draftEnds 20 = .ok (.lload 5, 2) := by decide +kernel
theorem d_Page_draftEnds_22 : decode b_Page_draftEnds 22 = .ok (.iload 4, 2) := by decide +kernel
theorem d_Page_draftEnds_24 : decode b_Page_draftEnds 24 = .ok (.invokevirtual 29, 3) := by decide +kernel
theorem d_Page_draftEnds_27 : decode b_Page_draftEnds 27 = .ok (.iconst 0, 1) := by decide +kernel
theorem d_Page_draftEnds_28 : decode b_Page_draftEnds 28 = .ok (.istore 7, 2) := by decide +kernel
theorem d_Page_draftEnds_30 : decode b_Page_draftEnds 30 = .ok (.iload 7, 2) := by decide +kernel
theorem d_Page_draftEnds_32 : decode b_Page_draftEnds 32 = .ok (.iload 4, 2) := by decide +kernel
theorem d_Page_draftEnds_34 : decode b_Page_draftEnds 34 = .ok (.if_icmp .ge 36, 3) := by decide +kernel
theorem d_Page_draftEnds_37 : decode b_Page_draftEnds 37 = .ok (.aload_n 2, 1) := by decide +kernel
theorem d_Page_draftEnds_38 : decode b_Page_draftEnds 38 = .ok (.invokestatic 47, 3) := by decide +kernel
theorem d_Page_draftEnds_41 : decode b_Page_draftEnds 41 = .ok (.istore 8, 2) := by decide +kernel
theorem d_Page_draftEnds_43 : decode b_Page_draftEnds 43 = .ok (.iload 8, 2) := by decide +kernel
theorem d_Page_draftEnds_45 : decode b_Page_draftEnds 45 = .ok (.aload_n 3, 1) := by decide +kernel
theorem d_Page_draftEnds_46 : decode b_Page_draftEnds 46 = .ok (.invokestatic 47, 3) := by decide +kernel
theorem d_Page_draftEnds_49 : decode b_Page_draftEnds 49 = .ok (.if_icmp .eq 5, 3) := by decide +kernel
theorem d_Page_draftEnds_52 : decode b_Page_draftEnds 52 = .ok (.iconst 0, 1) := by decide +kernel
theorem d_Page_draftEnds_53 : decode b_Page_draftEnds 53 = .ok (.ireturn, 1) := by decide +kernel
theorem d_Page_draftEnds_54 : decode b_Page_draftEnds 54 = .ok (.aload_n 0, 1) := by decide +kernel
theorem d_Page_draftEnds_55 : decode b_Page_draftEnds 55 = .ok (.bipush 48, 2) := by decide +kernel
theorem d_Page_draftEnds_57 : decode b_Page_draftEnds 57 = .ok (.iload 8, 2) := by decide +kernel
theorem d_Page_draftEnds_59 : decode b_Page_draftEnds 59 = .ok (.iadd, 1) := by decide +kernel
theorem d_Page_draftEnds_60 : decode b_Page_draftEnds 60 = .ok (.i2c, 1) := by decide +kernel
theorem d_Page_draftEnds_61 : decode b_Page_draftEnds 61 = .ok (.invokevirtual 37, 3) := by decide +kernel
theorem d_Page_draftEnds_64 : decode b_Page_draftEnds 64 = .ok (.iinc 7 1, 3) := by decide +kernel
theorem d_Page_draftEnds_67 : decode b_Page_draftEnds 67 = .ok (.goto (-37), 3) := by decide +kernel
theorem d_Page_draftEnds_70 : decode b_Page_draftEnds 70 = .ok (.iconst 1, 1) := by decide +kernel
theorem d_Page_draftEnds_71 : decode b_Page_draftEnds 71 = .ok (.ireturn, 1) := by decide +kernel
def mf_Page_draftEnds_L30 (vPlaces : Int32) (F : Nat) (nE : Nat) (nT : Nat) (pkn : Int32) : Nat → Int32 → (Nat → Int32) → (Nat → Int32) → Int32 → (Nat → Int32) → Option (Nat × (Nat → Int32) × (Nat → Int32) × Int32 × (Nat → Int32))
  | 0, _, _, _, _, _ => none
  | fu + 1, x7, uaE, uaT, upg_1, upd_1 => (if vPlaces ≤ x7 then (some (1, uaE, uaT, upg_1, upd_1)) else (sd_b2 (mf_Wide_nextPlace F nE uaE) fun r_2 uaE_1 => (sd_b2 (mf_Wide_nextPlace F nT uaT) fun r_3 uaT_1 => (if r_2 = r_3 then (sd_b2 (mf_Page_put F ((((48 : Int32) + r_2).toUInt32 % 65536).toInt32) pkn upg_1 upd_1) fun upg_2 upd_2 => (sd_let (x7 + (1 : Int32)) fun x7_1 => ((mf_Page_draftEnds_L30 vPlaces F nE nT pkn fu) x7_1 uaE_1 uaT_1 upg_2 upd_2))) else (some (0, uaE_1, uaT_1, upg_1, upd_1))))))
def mf_Page_draftEnds (F : Nat) (nE : Nat) (nT : Nat) (vNeg : Int32) (vPlaces : Int32) (pkn : Int32) (pdn : Int32) (cpd : Nat → Int32) (cE : Nat → Int32) (cT : Nat → Int32) : Option (Int32 × Int32 × (Nat → Int32) × (Nat → Int32) × (Nat → Int32)) :=
  (sd_b1 (mf_Wide_whole F nE cE) fun r => (sd_b1 (mf_Wide_whole F nT cT) fun r_1 => (if r = r_1 then (sd_b2 (mf_Page_draftWhole F vNeg r vPlaces pkn pdn cpd) fun upg upd => (sd_b5 (mf_Page_draftEnds_L30 vPlaces F nE nT pkn F (0 : Int32) cE cT upg upd) fun tg ruaE ruaT rupg rupd => (if tg = 0 then (some ((0 : Int32), rupg, rupd, ruaE, ruaT)) else (some ((1 : Int32), rupg, rupd, ruaE, ruaT))))) else (some ((0 : Int32), pdn, cpd, cE, cT)))))
abbrev rm_Page_draftEnds : Room := { frames := 2, cells := 0, slots := 0, locals := 49 }
set_option maxHeartbeats 4000000 in
set_option maxRecDepth 100000 in
theorem ct_Page_draftEnds (l : Launch) (D : va_G) (g : G4) (pg : Nat) (pk : Nat) (pd : Nat) (aE : Nat) (aT : Nat) (nE : Nat) (nT : Nat) (sz : Nat) (vNeg : Int32) (vPlaces : Int32) (pkn : Int32) (pdn : Int32) (cpd : Nat → Int32) (cE : Nat → Int32) (cT : Nat → Int32) (F : Nat) (res : Int32 × Int32 × (Nat → Int32) × (Nat → Int32) × (Nat → Int32)) (hm : mf_Page_draftEnds F nE nT vNeg vPlaces pkn pdn cpd cE cT = some res) : Met l y_Page_draftEnds (.code y_Page_draftEnds b_Page_draftEnds 9 (some .boolean) :: sd_tb) rm_Page_draftEnds (sd_PW D g [.ref pg, .int vNeg, .ref aE, .ref aT, .int vPlaces] sz [(pg, .inr (3, [.ref pk, .ref pd, .int pkn, .int pdn])), (pd, aB g 128 cpd), (aE, aI g nE cE), (aT, aI g nT cT)]) (sd_Qi1 D g res (fun u : Int32 × (Nat → Int32) × (Nat → Int32) × (Nat → Int32) => [(pg, .inr (3, [.ref pk, .ref pd, .int pkn, .int (u.1)])), (pd, aB g 128 (u.2.1)), (aE, aI g nE (u.2.2.1)), (aT, aI g nT (u.2.2.2))]) (va_A [(pg, .inr (3, [.ref pk, .ref pd, .int pkn, .int pdn])), (pd, aB g 128 cpd), (aE, aI g nE cE), (aT, aI g nT cT)] sz)) 0 0 (va_A [(pg, .inr (3, [.ref pk, .ref pd, .int pkn, .int pdn])), (pd, aB g 128 cpd), (aE, aI g nE cE), (aT, aI g nT cT)] sz) := by
  refine sd_met (Qf := fun A => sd_Qi1 D g res (fun u : Int32 × (Nat → Int32) × (Nat → Int32) × (Nat → Int32) => [(pg, .inr (3, [.ref pk, .ref pd, .int pkn, .int (u.1)])), (pd, aB g 128 (u.2.1)), (aE, aI g nE (u.2.2.1)), (aT, aI g nT (u.2.2.2))]) A) (own := R_Page) (by decide +kernel) rfl (Nat.le_of_ble_eq_true rfl) ?_
  intro p e s m args below meth c S hr hlk hK A hA Q hQ H locs hP hD hS ls hl
  have hx := S.1
  have hb := S.2.1
  have hml := S.2.2.1
  have hown := S.2.2.2.1
  have htt := sd_tt S
  replace hl : lv_has ls 9 [(0, .ref pg), (1, .int vNeg), (2, .ref aE), (3, .ref aT), (4, .int vPlaces)] := hl
  unfold mf_Page_draftEnds at hm
  refine lv_aload_n hx hb d_Page_draftEnds_0 rfl (lv_at hl 2 rfl) ?_
  obtain ⟨r, hc, hm⟩ := sd_mb1 hm
  refine sd_cl0 (wr := [(pg, .inr (3, [.ref pk, .ref pd, .int pkn, .int pdn])), (pd, aB g 128 cpd), (aT, aI g nT cT)]) (w2 := [(pg, .inr (3, [.ref pk, .ref pd, .int pkn, .int pdn])), (pd, aB g 128 cpd), (aT, aI g nT cT), (aE, aI g nE cE)]) (sd_runS (rest := []) (As := [.ref aE]) S (ct_Wide_whole l D g aE nE (H.size) cE F (r) hc) kl_Page_41 (by decide) (by decide) hK hP hD [2] rfl (by decide) rfl hl d_Page_draftEnds_1 rfl (Nat.le_of_ble_eq_true rfl) ⟨Nat.zero_le _, Nat.zero_le _⟩) hP hD hS hA [2] [0, 1, 3] rfl rfl (by decide) (by decide) rfl (fun H locs hP hD hS => ?_)
  refine W.eq (g2 := F0 m 4 ls [.long r]) rfl ?_
  refine lv_lstore (lv' := [(5, .long r), (0, .ref pg), (1, .int vNeg), (2, .ref aE), (3, .ref aT), (4, .int vPlaces)]) hx hb d_Page_draftEnds_4 hl (by decide) rfl (fun ls hl => ?_)
  refine lv_lload hx hb d_Page_draftEnds_6 (lv_at hl 0 rfl) ?_
  refine lv_aload_n hx hb d_Page_draftEnds_8 rfl (lv_at hl 4 rfl) ?_
  obtain ⟨r_1, hc, hm⟩ := sd_mb1 hm
  refine sd_cl0 (wr := [(pg, .inr (3, [.ref pk, .ref pd, .int pkn, .int pdn])), (pd, aB g 128 cpd), (aE, aI g nE cE)]) (w2 := [(pg, .inr (3, [.ref pk, .ref pd, .int pkn, .int pdn])), (pd, aB g 128 cpd), (aE, aI g nE cE), (aT, aI g nT cT)]) (sd_runS (rest := [.long r]) (As := [.ref aT]) S (ct_Wide_whole l D g aT nT (H.size) cT F (r_1) hc) kl_Page_41 (by decide) (by decide) hK hP hD [2] rfl (by decide) rfl hl d_Page_draftEnds_9 rfl (Nat.le_of_ble_eq_true rfl) ⟨Nat.zero_le _, Nat.zero_le _⟩) hP hD hS hA [2] [0, 1, 3] rfl rfl (by decide) (by decide) rfl (fun H locs hP hD hS => ?_)
  refine W.eq (g2 := F0 m 12 ls [.long r_1, .long r]) rfl ?_
  refine sd_leq (tgt := 18) hx hb d_Page_draftEnds_12 d_Page_draftEnds_13 (by decide) (fun hc => ?_) (fun hc => ?_)
  · have hm := sd_mt hc hm
    refine lv_aload_n hx hb d_Page_draftEnds_18 rfl (lv_at hl 1 rfl) ?_
    refine lv_iload_n hx hb d_Page_draftEnds_19 rfl (lv_at hl 2 rfl) ?_
    refine lv_lload hx hb d_Page_draftEnds_20 (lv_at hl 0 rfl) ?_
    refine lv_iload hx hb d_Page_draftEnds_22 (lv_at hl 5 rfl) ?_
    obtain ⟨upg, upd, hc, hm⟩ := sd_mb2 hm
    refine sd_cv1 (wr := [(aE, aI g nE cE), (aT, aI g nT cT)]) (w2 := [(aE, aI g nE cE), (aT, aI g nT cT), (pg, .inr (3, [.ref pk, .ref pd, .int pkn, .int upg])), (pd, aB g 128 upd)]) (sd_runV (rest := []) (As := [.int vNeg, .long r, .int vPlaces]) S (ct_Page_draftWhole l D g pg pk pd (H.size) vNeg r vPlaces pkn pdn cpd F (upg, upd) hc) kl_Page_29 (by decide) (by decide) hK hP hD [0, 1] rfl (by decide) rfl hl d_Page_draftEnds_24 rfl (Nat.le_of_ble_eq_true rfl) ⟨Nat.zero_le _, Nat.zero_le _⟩ 0 rfl rfl) hP hD hS hA [0, 1] [2, 3] rfl rfl (by decide) (by decide) rfl (fun H locs hP hD hS => ?_)
    refine lv_iconst (v := (0 : Int32)) hx hb d_Page_draftEnds_27 (by decide) ?_
    refine lv_istore (lv' := [(7, .int (0 : Int32)), (5, .long r), (0, .ref pg), (1, .int vNeg), (2, .ref aE), (3, .ref aT), (4, .int vPlaces)]) hx hb d_Page_draftEnds_28 hl (by decide) rfl (fun ls hl => ?_)
    have L30 : ∀ (fu : Nat) (x7 : Int32) (uaE : Nat → Int32) (uaT : Nat → Int32) (upg_1 : Int32) (upd_1 : Nat → Int32) (tg : Nat) (ruaE : Nat → Int32) (ruaT : Nat → Int32) (rupg : Int32) (rupd : Nat → Int32), mf_Page_draftEnds_L30 vPlaces F nE nT pkn fu x7 uaE uaT upg_1 upd_1 = some (tg, ruaE, ruaT, rupg, rupd) → ∀ (H : Heap) (locs : List Loc) (ls : Array Slot), va_P D classes [(aE, aI g nE uaE), (aT, aI g nT uaT), (pg, .inr (3, [.ref pk, .ref pd, .int pkn, .int upg_1])), (pd, aB g 128 upd_1)] H → va_D A [(aE, aI g nE uaE), (aT, aI g nT uaT), (pg, .inr (3, [.ref pk, .ref pd, .int pkn, .int upg_1])), (pd, aB g 128 upd_1)] → va_S A s.heap H locs → lv_has ls 9 [(0, .ref pg), (2, .ref aE), (3, .ref aT), (4, .int vPlaces), (7, .int x7)] → (tg = 0 → ∀ (H : Heap) (locs : List Loc) (ls : Array Slot), va_P D classes [(aE, aI g nE ruaE), (aT, aI g nT ruaT), (pg, .inr (3, [.ref pk, .ref pd, .int pkn, .int rupg])), (pd, aB g 128 rupd)] H → va_D A [(aE, aI g nE ruaE), (aT, aI g nT ruaT), (pg, .inr (3, [.ref pk, .ref pd, .int pkn, .int rupg])), (pd, aB g 128 rupd)] → va_S A s.heap H locs → lv_has ls 9 [] → W p l e rm_Page_draftEnds s m args below meth c H locs 0 0 Q (F0 m 52 ls [])) → (tg = 1 → ∀ (H : Heap) (locs : List Loc) (ls : Array Slot), va_P D classes [(aE, aI g nE ruaE), (aT, aI g nT ruaT), (pg, .inr (3, [.ref pk, .ref pd, .int pkn, .int rupg])), (pd, aB g 128 rupd)] H → va_D A [(aE, aI g nE ruaE), (aT, aI g nT ruaT), (pg, .inr (3, [.ref pk, .ref pd, .int pkn, .int rupg])), (pd, aB g 128 rupd)] → va_S A s.heap H locs → lv_has ls 9 [] → W p l e rm_Page_draftEnds s m args below meth c H locs 0 0 Q (F0 m 70 ls [])) → W p l e rm_Page_draftEnds s m args below meth c H locs 0 0 Q (F0 m 30 ls []) := by
      intro fu
      induction fu with
      | zero => intro x7 uaE uaT upg_1 upd_1 tg ruaE ruaT rupg rupd hm; exact absurd (show (none : Option (Nat × (Nat → Int32) × (Nat → Int32) × Int32 × (Nat → Int32))) = some (tg, ruaE, ruaT, rupg, rupd) from hm) (fun h => nomatch h)
      | succ fu ih =>
        intro x7 uaE uaT upg_1 upd_1 tg ruaE ruaT rupg rupd hm H locs ls hP hD hS hl kx52 kx70
        rw [mf_Page_draftEnds_L30] at hm
        refine lv_iload hx hb d_Page_draftEnds_30 (lv_at hl 4 rfl) ?_
        refine lv_iload hx hb d_Page_draftEnds_32 (lv_at hl 3 rfl) ?_
        refine lv_icmp_ge (tgt := 70) hx hb d_Page_draftEnds_34 (by decide) (fun hc => ?_) (fun hc => ?_)
        · have hm := sd_mt hc hm
          cases hm
          exact kx70 rfl H locs ls (hP.sub [0, 1, 2, 3] rfl) (hD.sub [0, 1, 2, 3] (by decide) rfl) hS (lv_sub hl [] rfl)
        · have hm := sd_mf hc hm
          refine lv_aload_n hx hb d_Page_draftEnds_37 rfl (lv_at hl 1 rfl) ?_
          obtain ⟨r_2, uaE_1, hc, hm⟩ := sd_mb2 hm
          refine sd_ci1 (wr := [(aT, aI g nT uaT), (pg, .inr (3, [.ref pk, .ref pd, .int pkn, .int upg_1])), (pd, aB g 128 upd_1)]) (w2 := [(aT, aI g nT uaT), (pg, .inr (3, [.ref pk, .ref pd, .int pkn, .int upg_1])), (pd, aB g 128 upd_1), (aE, aI g nE uaE_1)]) (sd_runS (rest := []) (As := [.ref aE]) S (ct_Wide_nextPlace l D g aE nE (H.size) uaE F (r_2, uaE_1) hc) kl_Page_47 (by decide) (by decide) hK hP hD [0] rfl (by decide) rfl hl d_Page_draftEnds_38 rfl (Nat.le_of_ble_eq_true rfl) ⟨Nat.zero_le _, Nat.zero_le _⟩) hP hD hS hA [0] [1, 2, 3] rfl rfl (by decide) (by decide) rfl (fun H locs hP hD hS => ?_)
          refine W.eq (g2 := F0 m 41 ls [.int r_2]) rfl ?_
          refine lv_istore (lv' := [(8, .int r_2), (0, .ref pg), (2, .ref aE), (3, .ref aT), (4, .int vPlaces), (7, .int x7)]) hx hb d_Page_draftEnds_41 hl (by decide) rfl (fun ls hl => ?_)
          refine lv_iload hx hb d_Page_draftEnds_43 (lv_at hl 0 rfl) ?_
          refine lv_aload_n hx hb d_Page_draftEnds_45 rfl (lv_at hl 3 rfl) ?_
          obtain ⟨r_3, uaT_1, hc, hm⟩ := sd_mb2 hm
          refine sd_ci1 (wr := [(pg, .inr (3, [.ref pk, .ref pd, .int pkn, .int upg_1])), (pd, aB g 128 upd_1), (aE, aI g nE uaE_1)]) (w2 := [(pg, .inr (3, [.ref pk, .ref pd, .int pkn, .int upg_1])), (pd, aB g 128 upd_1), (aE, aI g nE uaE_1), (aT, aI g nT uaT_1)]) (sd_runS (rest := [.int r_2]) (As := [.ref aT]) S (ct_Wide_nextPlace l D g aT nT (H.size) uaT F (r_3, uaT_1) hc) kl_Page_47 (by decide) (by decide) hK hP hD [0] rfl (by decide) rfl hl d_Page_draftEnds_46 rfl (Nat.le_of_ble_eq_true rfl) ⟨Nat.zero_le _, Nat.zero_le _⟩) hP hD hS hA [0] [1, 2, 3] rfl rfl (by decide) (by decide) rfl (fun H locs hP hD hS => ?_)
          refine W.eq (g2 := F0 m 49 ls [.int r_3, .int r_2]) rfl ?_
          refine lv_icmp_eq (tgt := 54) hx hb d_Page_draftEnds_49 (by decide) (fun hc => ?_) (fun hc => ?_)
          · have hm := sd_mt hc hm
            refine lv_aload_n hx hb d_Page_draftEnds_54 rfl (lv_at hl 1 rfl) ?_
            refine lv_bipush (v := (48 : Int32)) hx hb d_Page_draftEnds_55 (by decide) ?_
            refine lv_iload hx hb d_Page_draftEnds_57 (lv_at hl 0 rfl) ?_
            refine lv_iadd hx hb d_Page_draftEnds_59 ?_
            refine lv_i2c hx hb d_Page_draftEnds_60 rfl ?_
            obtain ⟨upg_2, upd_2, hc, hm⟩ := sd_mb2 hm
            refine sd_cv1 (wr := [(aE, aI g nE uaE_1), (aT, aI g nT uaT_1)]) (w2 := [(aE, aI g nE uaE_1), (aT, aI g nT uaT_1), (pg, .inr (3, [.ref pk, .ref pd, .int pkn, .int upg_2])), (pd, aB g 128 upd_2)]) (sd_runV (rest := []) (As := [.int ((((48 : Int32) + r_2).toUInt32 % 65536).toInt32)]) S (ct_Page_put l D g pg pk pd (H.size) ((((48 : Int32) + r_2).toUInt32 % 65536).toInt32) pkn upg_1 upd_1 F (upg_2, upd_2) hc) kl_Page_37 (by decide) (by decide) hK hP hD [0, 1] rfl (by decide) rfl hl d_Page_draftEnds_61 rfl (Nat.le_of_ble_eq_true rfl) ⟨Nat.zero_le _, Nat.zero_le _⟩ 0 rfl rfl) hP hD hS hA [0, 1] [2, 3] rfl rfl (by decide) (by decide) rfl (fun H locs hP hD hS => ?_)
            obtain ⟨x7_1, ex7_1, hm⟩ := sd_mlet hm
            refine lv_iinc (v := x7_1) (lv' := [(7, .int x7_1), (8, .int r_2), (0, .ref pg), (2, .ref aE), (3, .ref aT), (4, .int vPlaces)]) hx hb d_Page_draftEnds_64 hl (k := 5) rfl (by rw [ex7_1]; rfl) (by decide) rfl (fun ls hl => ?_)
            refine lv_goto (tgt := 30) hx hb d_Page_draftEnds_67 (by decide) ?_
            exact ih x7_1 uaE_1 uaT_1 upg_2 upd_2 tg ruaE ruaT rupg rupd hm H locs ls (hP.sub [0, 1, 2, 3] rfl) (hD.sub [0, 1, 2, 3] (by decide) rfl) hS (lv_sub hl [2, 3, 4, 5, 0] rfl) kx52 kx70
          · have hm := sd_mf hc hm
            cases hm
            exact kx52 rfl H locs ls (hP.sub [2, 3, 0, 1] rfl) (hD.sub [2, 3, 0, 1] (by decide) rfl) hS (lv_sub hl [] rfl)
    obtain ⟨tg, ruaE, ruaT, rupg, rupd, hc, hm⟩ := sd_mb5 hm
    refine L30 F (0 : Int32) cE cT upg upd tg ruaE ruaT rupg rupd hc H locs ls (hP.sub [0, 1, 2, 3] rfl) (hD.sub [0, 1, 2, 3] (by decide) rfl) hS (lv_sub hl [2, 4, 5, 6, 0] rfl) ?_ ?_
    · intro ht H locs ls hP hD hS hl
      have hm := sd_mt ht hm
      refine lv_iconst (v := (0 : Int32)) hx hb d_Page_draftEnds_52 (by decide) ?_
      exact sd_z1ret (u := (rupg, rupd, ruaE, ruaT)) hQ hx hb hr hlk rfl hK (hP.sub [2, 3, 0, 1] rfl) (hD.sub [2, 3, 0, 1] (by decide) rfl) hS (Option.some.inj hm).symm d_Page_draftEnds_53
    · intro ht H locs ls hP hD hS hl
      have hm := sd_mf (by rw [ht]; decide) hm
      refine lv_iconst (v := (1 : Int32)) hx hb d_Page_draftEnds_70 (by decide) ?_
      exact sd_z1ret (u := (rupg, rupd, ruaE, ruaT)) hQ hx hb hr hlk rfl hK (hP.sub [2, 3, 0, 1] rfl) (hD.sub [2, 3, 0, 1] (by decide) rfl) hS (Option.some.inj hm).symm d_Page_draftEnds_71
  · have hm := sd_mf hc hm
    refine lv_iconst (v := (0 : Int32)) hx hb d_Page_draftEnds_16 (by decide) ?_
    exact sd_z1ret (u := (pdn, cpd, cE, cT)) hQ hx hb hr hlk rfl hK (hP.sub [0, 1, 2, 3] rfl) (hD.sub [0, 1, 2, 3] (by decide) rfl) hS (Option.some.inj hm).symm d_Page_draftEnds_17
theorem d_Page_keep_0 : decode b_Page_keep 0 = .ok (.aload_n 0, 1) := by decide +kernel
theorem d_Page_keep_1 : decode b_Page_keep 1 = .ok (.getfield 9, 3) := by decide +kernel
theorem d_Page_keep_4 : decode b_Page_keep 4 = .ok (.astore_n 1, 1) := by decide +kernel
theorem d_Page_keep_5 : decode b_Page_keep 5 = .ok (.aload_n 0, 1) := by decide +kernel
theorem d_Page_keep_6 : decode b_Page_keep 6 = .ok (.aload_n 0, 1) := by decide +kernel
theorem d_Page_keep_7 : decode b_Page_keep 7 = .ok (.getfield 13, 3) := by decide +kernel
theorem d_Page_keep_10 : decode b_Page_keep 10 = .ok (.putfield 9, 3) := by decide +kernel
theorem d_Page_keep_13 : decode b_Page_keep 13 = .ok (.aload_n 0, 1) := by decide +kernel
theorem d_Page_keep_14 : decode b_Page_keep 14 = .ok (.aload_n 0, 1) := by decide +kernel
theorem d_Page_keep_15 : decode b_Page_keep 15 = .ok (.getfield 20, 3) := by decide +kernel
theorem d_Page_keep_18 : decode b_Page_keep 18 = .ok (.putfield 16, 3) := by decide +kernel
theorem d_Page_keep_21 : decode b_Page_keep 21 = .ok (.aload_n 0, 1) := by decide +kernel
theorem d_Page_keep_22 : decode b_Page_keep 22 = .ok (.aload_n 1, 1) := by decide +kernel
theorem d_Page_keep_23 : decode b_Page_keep 23 = .ok (.putfield 13, 3) := by decide +kernel
theorem d_Page_keep_26 : decode b_Page_keep 26 = .ok (.aload_n 0, 1) := by decide +kernel
theorem d_Page_keep_27 : decode b_Page_keep 27 = .ok (.getfield 16, 3) := by decide +kernel
theorem d_Page_keep_30 : decode b_Page_keep 30 = .ok (.ireturn, 1) := by decide +kernel
def mf_Page_keep (F : Nat) (pkn : Int32) (pdn : Int32) (pk : Nat) (pd : Nat) : Option (Int32 × Nat × Nat × Int32) :=
  (some (pdn, pd, pk, pdn))
abbrev rm_Page_keep : Room := { frames := 0, cells := 0, slots := 0, locals := 0 }
set_option maxHeartbeats 4000000 in
set_option maxRecDepth 100000 in
theorem ct_Page_keep (l : Launch) (D : va_G) (g : G4) (pg : Nat) (pk : Nat) (pd : Nat) (sz : Nat) (pkn : Int32) (pdn : Int32) (F : Nat) (res : Int32 × Nat × Nat × Int32) (hm : mf_Page_keep F pkn pdn pk pd = some res) : Met l y_Page_keep (.code y_Page_keep b_Page_keep 2 (some .int) :: sd_tb) rm_Page_keep (sd_PW D g [.ref pg] sz [(pg, .inr (3, [.ref pk, .ref pd, .int pkn, .int pdn]))]) (sd_Qi1 D g res (fun u : Nat × Nat × Int32 => [(pg, .inr (3, [.ref (u.1), .ref (u.2.1), .int (u.2.2), .int pdn]))]) (va_A [(pg, .inr (3, [.ref pk, .ref pd, .int pkn, .int pdn]))] sz)) 0 0 (va_A [(pg, .inr (3, [.ref pk, .ref pd, .int pkn, .int pdn]))] sz) := by
  refine sd_met (Qf := fun A => sd_Qi1 D g res (fun u : Nat × Nat × Int32 => [(pg, .inr (3, [.ref (u.1), .ref (u.2.1), .int (u.2.2), .int pdn]))]) A) (own := R_Page) (by decide +kernel) rfl (Nat.le_of_ble_eq_true rfl) ?_
  intro p e s m args below meth c S hr hlk hK A hA Q hQ H locs hP hD hS ls hl
  have hx := S.1
  have hb := S.2.1
  have hml := S.2.2.1
  have hown := S.2.2.2.1
  have htt := sd_tt S
  replace hl : lv_has ls 2 [(0, .ref pg)] := hl
  unfold mf_Page_keep at hm
  refine lv_aload_n hx hb d_Page_keep_0 rfl (lv_at hl 0 rfl) ?_
  refine va_get (D := D) (ci := 3) (v := .ref pk) (C := R_Page) (T := F_Page) (N := 4) hx hb htt i_Page hown hK hP 0 rfl rfl 0 (by decide) (htt _ kf_Page_9) (fun _ h9 => h9) rfl d_Page_keep_1 ?_
  refine lv_astore_n (lv' := [(1, .ref pk), (0, .ref pg)]) hx hb d_Page_keep_4 rfl hl (by decide) rfl (fun ls hl => ?_)
  refine lv_aload_n hx hb d_Page_keep_5 rfl (lv_at hl 1 rfl) ?_
  refine lv_aload_n hx hb d_Page_keep_6 rfl (lv_at hl 1 rfl) ?_
  refine va_get (D := D) (ci := 3) (v := .ref pd) (C := R_Page) (T := F_Page) (N := 4) hx hb htt i_Page hown hK hP 0 rfl rfl 1 (by decide) (htt _ kf_Page_13) (fun _ h9 => h9) rfl d_Page_keep_7 ?_
  refine sd_put (ci := 3) (v := .ref pd) (ty := (t_Page 0)) (C := R_Page) (T := F_Page) (N := 4) (ws2 := [(pg, .inr (3, [.ref pd, .ref pd, .int pkn, .int pdn]))]) hx hb htt i_Page t_Page t_Page_ok n_Page hown hK hP hD hS 0 rfl rfl 0 (by decide) kf_Page_9 (fun _ h9 => h9) rfl (by decide +kernel) rfl rfl (Nat.le_of_ble_eq_true rfl) rfl d_Page_keep_10 (fun H locs hP hD hS => ?_)
  refine lv_aload_n hx hb d_Page_keep_13 rfl (lv_at hl 1 rfl) ?_
  refine lv_aload_n hx hb d_Page_keep_14 rfl (lv_at hl 1 rfl) ?_
  refine va_get (D := D) (ci := 3) (v := .int pdn) (C := R_Page) (T := F_Page) (N := 4) hx hb htt i_Page hown hK hP 0 rfl rfl 3 (by decide) (htt _ kf_Page_20) (fun _ h9 => h9) rfl d_Page_keep_15 ?_
  refine sd_put (ci := 3) (v := .int pdn) (ty := .int) (C := R_Page) (T := F_Page) (N := 4) (ws2 := [(pg, .inr (3, [.ref pd, .ref pd, .int pdn, .int pdn]))]) hx hb htt i_Page t_Page t_Page_ok n_Page hown hK hP hD hS 0 rfl rfl 2 (by decide) kf_Page_16 (fun _ h9 => h9) rfl (by decide +kernel) rfl rfl (Nat.le_of_ble_eq_true rfl) rfl d_Page_keep_18 (fun H locs hP hD hS => ?_)
  refine lv_aload_n hx hb d_Page_keep_21 rfl (lv_at hl 1 rfl) ?_
  refine lv_aload_n hx hb d_Page_keep_22 rfl (lv_at hl 0 rfl) ?_
  refine sd_put (ci := 3) (v := .ref pk) (ty := (t_Page 1)) (C := R_Page) (T := F_Page) (N := 4) (ws2 := [(pg, .inr (3, [.ref pd, .ref pk, .int pdn, .int pdn]))]) hx hb htt i_Page t_Page t_Page_ok n_Page hown hK hP hD hS 0 rfl rfl 1 (by decide) kf_Page_13 (fun _ h9 => h9) rfl (by decide +kernel) rfl rfl (Nat.le_of_ble_eq_true rfl) rfl d_Page_keep_23 (fun H locs hP hD hS => ?_)
  refine lv_aload_n hx hb d_Page_keep_26 rfl (lv_at hl 1 rfl) ?_
  refine va_get (D := D) (ci := 3) (v := .int pdn) (C := R_Page) (T := F_Page) (N := 4) hx hb htt i_Page hown hK hP 0 rfl rfl 2 (by decide) (htt _ kf_Page_16) (fun _ h9 => h9) rfl d_Page_keep_27 ?_
  exact sd_i1ret (u := (pd, pk, pdn)) hQ hx hb hr hlk hK (hP.sub [0] rfl) (hD.sub [0] (by decide) rfl) hS (Option.some.inj hm).symm d_Page_keep_30
