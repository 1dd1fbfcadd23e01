/-! Chain_begin, Chain_takeAsOften, Chain_goOn, Chain_agreesWith, Chain_told, Desk_partialOfEnds, Desk_partial, Desk_compare2, Desk_between2 -/
theorem kf_Chain_15 : Cond.fieldLink R_Chain 15 "SurdDesk$Chain" "lower" "[I" ∈ sd_tb := (sd_in (List.mem_of_getElem? (i := 131) (by decide +kernel)) rfl)
theorem kf_Chain_18 : Cond.fieldLink R_Chain 18 "SurdDesk$Chain" "quotient" "[I" ∈ sd_tb := (sd_in (List.mem_of_getElem? (i := 132) (by decide +kernel)) rfl)
theorem kf_Chain_9 : Cond.fieldLink R_Chain 9 "SurdDesk$Chain" "upper" "[I" ∈ sd_tb := (sd_in (List.mem_of_getElem? (i := 130) (by decide +kernel)) rfl)
theorem kf_Desk_30 : Cond.fieldLink R_Desk 30 "SurdDesk" "lowChain" "LSurdDesk$Chain;" ∈ sd_tb := (sd_in (List.mem_of_getElem? (i := 163) (by decide +kernel)) rfl)
theorem kf_Desk_34 : Cond.fieldLink R_Desk 34 "SurdDesk" "highChain" "LSurdDesk$Chain;" ∈ sd_tb := (sd_in (List.mem_of_getElem? (i := 164) (by decide +kernel)) rfl)
theorem kl_Chain_21 : sd_LS R_Chain 21 y_Arrays_fill b_Arrays_fill 4 none 2 := ⟨(sd_in (List.mem_of_getElem? (i := 450) (by decide +kernel)) rfl), (sd_in (List.mem_of_getElem? (i := 309) (by decide +kernel)) rfl), (sd_in (List.mem_of_getElem? (i := 44) (by decide +kernel)) rfl), (sd_in (List.mem_of_getElem? (i := 310) (by decide +kernel)) rfl), by decide +kernel, by decide +kernel, by decide +kernel⟩
theorem kl_Chain_27 : sd_LC R_Chain 27 := ⟨(sd_in (List.mem_of_getElem? (i := 451) (by decide +kernel)) rfl), (sd_in (List.mem_of_getElem? (i := 274) (by decide +kernel)) rfl), (sd_in (List.mem_of_getElem? (i := 273) (by decide +kernel)) rfl), (sd_in (List.mem_of_getElem? (i := 43) (by decide +kernel)) rfl)⟩
theorem kl_Chain_33 : sd_LS R_Chain 33 y_Wide_topOf b_Wide_topOf 2 (some .int) 1 := ⟨(sd_in (List.mem_of_getElem? (i := 456) (by decide +kernel)) rfl), (sd_in (List.mem_of_getElem? (i := 338) (by decide +kernel)) rfl), (sd_in (List.mem_of_getElem? (i := 45) (by decide +kernel)) rfl), (sd_in (List.mem_of_getElem? (i := 339) (by decide +kernel)) rfl), by decide +kernel, by decide +kernel, by decide +kernel⟩
theorem kl_Chain_37 : sd_LV R_Chain 37 y_Chain_takeAsOften b_Chain_takeAsOften 4 (some .int) 2 := ⟨(sd_in (List.mem_of_getElem? (i := 457) (by decide +kernel)) rfl), (sd_in (List.mem_of_getElem? (i := 459) (by decide +kernel)) rfl), (sd_in (List.mem_of_getElem? (i := 15) (by decide +kernel)) rfl), (sd_in (List.mem_of_getElem? (i := 38) (by decide +kernel)) rfl), (sd_in (List.mem_of_getElem? (i := 460) (by decide +kernel)) rfl), by decide +kernel, by decide +kernel, by decide +kernel⟩
theorem kl_Chain_43 : sd_LS R_Chain 43 y_Wide_guess b_Wide_guess 11 (some .int) 4 := ⟨(sd_in (List.mem_of_getElem? (i := 461) (by decide +kernel)) rfl), (sd_in (List.mem_of_getElem? (i := 345) (by decide +kernel)) rfl), (sd_in (List.mem_of_getElem? (i := 45) (by decide +kernel)) rfl), (sd_in (List.mem_of_getElem? (i := 346) (by decide +kernel)) rfl), by decide +kernel, by decide +kernel, by decide +kernel⟩
theorem kl_Chain_47 : sd_LS R_Chain 47 y_Wide_take b_Wide_take 9 none 6 := ⟨(sd_in (List.mem_of_getElem? (i := 462) (by decide +kernel)) rfl), (sd_in (List.mem_of_getElem? (i := 349) (by decide +kernel)) rfl), (sd_in (List.mem_of_getElem? (i := 45) (by decide +kernel)) rfl), (sd_in (List.mem_of_getElem? (i := 350) (by decide +kernel)) rfl), by decide +kernel, by decide +kernel, by decide +kernel⟩
theorem kl_Desk_173 : sd_LS R_Desk 173 y_Desk_partialOfFraction b_Desk_partialOfFraction 14 (some .long) 3 := ⟨(sd_in (List.mem_of_getElem? (i := 436) (by decide +kernel)) rfl), (sd_in (List.mem_of_getElem? (i := 437) (by decide +kernel)) rfl), (sd_in (List.mem_of_getElem? (i := 35) (by decide +kernel)) rfl), (sd_in (List.mem_of_getElem? (i := 438) (by decide +kernel)) rfl), by decide +kernel, by decide +kernel, by decide +kernel⟩
theorem kl_Desk_177 : sd_LV R_Desk 177 y_Desk_partialOfEnds b_Desk_partialOfEnds 5 (some .long) 3 := ⟨(sd_in (List.mem_of_getElem? (i := 442) (by decide +kernel)) rfl), (sd_in (List.mem_of_getElem? (i := 444) (by decide +kernel)) rfl), (sd_in (List.mem_of_getElem? (i := 14) (by decide +kernel)) rfl), (sd_in (List.mem_of_getElem? (i := 35) (by decide +kernel)) rfl), (sd_in (List.mem_of_getElem? (i := 445) (by decide +kernel)) rfl), by decide +kernel, by decide +kernel, by decide +kernel⟩
theorem kl_Desk_218 : sd_LV R_Desk 218 y_Chain_begin b_Chain_begin 2 none 1 := ⟨(sd_in (List.mem_of_getElem? (i := 446) (by decide +kernel)) rfl), (sd_in (List.mem_of_getElem? (i := 447) (by decide +kernel)) rfl), (sd_in (List.mem_of_getElem? (i := 448) (by decide +kernel)) rfl), (sd_in (List.mem_of_getElem? (i := 38) (by decide +kernel)) rfl), (sd_in (List.mem_of_getElem? (i := 449) (by decide +kernel)) rfl), by decide +kernel, by decide +kernel, by decide +kernel⟩
theorem kl_Desk_222 : sd_LV R_Desk 222 y_Chain_goOn b_Chain_goOn 3 (some .boolean) 0 := ⟨(sd_in (List.mem_of_getElem? (i := 452) (by decide +kernel)) rfl), (sd_in (List.mem_of_getElem? (i := 453) (by decide +kernel)) rfl), (sd_in (List.mem_of_getElem? (i := 454) (by decide +kernel)) rfl), (sd_in (List.mem_of_getElem? (i := 38) (by decide +kernel)) rfl), (sd_in (List.mem_of_getElem? (i := 455) (by decide +kernel)) rfl), by decide +kernel, by decide +kernel, by decide +kernel⟩
theorem kl_Desk_225 : sd_LV R_Desk 225 y_Chain_agreesWith b_Chain_agreesWith 3 (some .boolean) 1 := ⟨(sd_in (List.mem_of_getElem? (i := 463) (by decide +kernel)) rfl), (sd_in (List.mem_of_getElem? (i := 464) (by decide +kernel)) rfl), (sd_in (List.mem_of_getElem? (i := 465) (by decide +kernel)) rfl), (sd_in (List.mem_of_getElem? (i := 38) (by decide +kernel)) rfl), (sd_in (List.mem_of_getElem? (i := 466) (by decide +kernel)) rfl), by decide +kernel, by decide +kernel, by decide +kernel⟩
theorem kl_Desk_229 : sd_LV R_Desk 229 y_Chain_told b_Chain_told 4 (some .long) 0 := ⟨(sd_in (List.mem_of_getElem? (i := 467) (by decide +kernel)) rfl), (sd_in (List.mem_of_getElem? (i := 468) (by decide +kernel)) rfl), (sd_in (List.mem_of_getElem? (i := 469) (by decide +kernel)) rfl), (sd_in (List.mem_of_getElem? (i := 38) (by decide +kernel)) rfl), (sd_in (List.mem_of_getElem? (i := 470) (by decide +kernel)) rfl), by decide +kernel, by decide +kernel, by decide +kernel⟩
theorem km_Chain_41 : Cond.constantLong R_Chain 41 (4611686018427387903 : Int64) ∈ sd_tb := (sd_in (List.mem_of_getElem? (i := 471) (by decide +kernel)) rfl)
theorem km_Desk_171 : Cond.constantLong R_Desk 171 (4611686018427387905 : Int64) ∈ sd_tb := (sd_in (List.mem_of_getElem? (i := 435) (by decide +kernel)) rfl)
theorem d_Chain_begin_0 : decode b_Chain_begin 0 = .ok (.aload_n 0, 1) := by decide +kernel
theorem d_Chain_begin_1 : decode b_Chain_begin 1 = .ok (.getfield 9, 3) := by decide +kernel
theorem d_Chain_begin_4 : decode b_Chain_begin 4 = .ok (.iconst 0, 1) := by decide +kernel
theorem d_Chain_begin_5 : decode b_Chain_begin 5 = .ok (.invokestatic 21, 3) := by decide +kernel
theorem d_Chain_begin_8 : decode b_Chain_begin 8 = .ok (.aload_n 0, 1) := by decide +kernel
theorem d_Chain_begin_9 : decode b_Chain_begin 9 = .ok (.getfield 9, 3) := by decide +kernel
theorem d_Chain_begin_12 : decode b_Chain_begin 12 = .ok (.bipush 64, 2) := by decide +kernel
theorem d_Chain_begin_14 : decode b_Chain_begin 14 = .ok (.iconst 1, 1) := by decide +kernel
theorem d_Chain_begin_15 : decode b_Chain_begin 15 = .ok (.iastore, 1) := by decide +kernel
theorem d_Chain_begin_16 : decode b_Chain_begin 16 = .ok (.aload_n 0, 1) := by decide +kernel
theorem d_Chain_begin_17 : decode b_Chain_begin 17 = .ok (.getfield 15, 3) := by decide +kernel
theorem d_Chain_begin_20 : decode b_Chain_begin 20 = .ok (.iconst 0, 1) := by decide +kernel
theorem d_Chain_begin_21 : decode b_Chain_begin 21 = .ok (.invokestatic 21, 3) := by decide +kernel
theorem d_Chain_begin_24 : decode b_Chain_begin 24 = .ok (.aload_n 1, 1) := by decide +kernel
theorem d_Chain_begin_25 : decode b_Chain_begin 25 = .ok (.iconst 0, 1) := by decide +kernel
theorem d_Chain_begin_26 : decode b_Chain_begin 26 = .ok (.aload_n 0, 1) := by decide +kernel
theorem d_Chain_begin_27 : decode b_Chain_begin 27 = .ok (.getfield 15, 3) := by decide +kernel
theorem d_Chain_begin_30 : decode b_Chain_begin 30 = .ok (.iconst 0, 1) := by decide +kernel
theorem d_Chain_begin_31 : decode b_Chain_begin 31 = .ok (.bipush 64, 2) := by decide +kernel
theorem d_Chain_begin_33 : decode b_Chain_begin 33 = .ok (.invokestatic 27, 3) := by decide +kernel
theorem d_Chain_begin_36 : decode b_Chain_begin 36 = .ok (.return_, 1) := by decide +kernel
def mf_Chain_begin (F : Nat) (cku : Nat → Int32) (ckl : Nat → Int32) (cE : Nat → Int32) : Option ((Nat → Int32) × (Nat → Int32)) :=
  (sd_b1 (mf_Arrays_fill F 66 (0 : Int32) cku) fun uku => (sd_let (upd uku (64 : Int32).toNatClampNeg (1 : Int32)) fun uku_1 => (sd_b1 (mf_Arrays_fill F 66 (0 : Int32) ckl) fun ukl => (sd_g (sd_cp (0 : Int32) (0 : Int32) (64 : Int32) 68 66) (sd_let (va_cpy cE ukl (0 : Int32).toNatClampNeg (0 : Int32).toNatClampNeg (64 : Int32).toNatClampNeg) fun ukl_1 => (some (uku_1, ukl_1)))))))
abbrev rm_Chain_begin : Room := { frames := 1, cells := 0, slots := 0, locals := 80 }
set_option maxHeartbeats 4000000 in
set_option maxRecDepth 100000 in
theorem ct_Chain_begin (l : Launch) (D : va_G) (g : G4) (kc : Nat) (ku : Nat) (kl : Nat) (kq : Nat) (aE : Nat) (sz : Nat) (cku : Nat → Int32) (ckl : Nat → Int32) (cE : Nat → Int32) (F : Nat) (res : (Nat → Int32) × (Nat → Int32)) (hm : mf_Chain_begin F cku ckl cE = some res) : Met l y_Chain_begin (.code y_Chain_begin b_Chain_begin 2 none :: sd_tb) rm_Chain_begin (sd_PW D g [.ref kc, .ref aE] sz [(kc, .inr (2, [.ref ku, .ref kl, .ref kq])), (ku, aI g 66 cku), (kl, aI g 66 ckl), (aE, aI g 68 cE)]) (sd_Qv1 D g res (fun (u : (Nat → Int32) × (Nat → Int32)) => [(kc, .inr (2, [.ref ku, .ref kl, .ref kq])), (ku, aI g 66 (u.1)), (kl, aI g 66 (u.2)), (aE, aI g 68 cE)]) (va_A [(kc, .inr (2, [.ref ku, .ref kl, .ref kq])), (ku, aI g 66 cku), (kl, aI g 66 ckl), (aE, aI g 68 cE)] sz)) 0 0 (va_A [(kc, .inr (2, [.ref ku, .ref kl, .ref kq])), (ku, aI g 66 cku), (kl, aI g 66 ckl), (aE, aI g 68 cE)] sz) := by
  refine sd_met (Qf := fun A => sd_Qv1 D g res (fun (u : (Nat → Int32) × (Nat → Int32)) => [(kc, .inr (2, [.ref ku, .ref kl, .ref kq])), (ku, aI g 66 (u.1)), (kl, aI g 66 (u.2)), (aE, aI g 68 cE)]) A) (own := R_Chain) (by decide +kernel) rfl (Nat.le_of_ble_eq_true rfl) ?_
  intro p e s m args below meth c S hr hlk hK A hA Q hQ H locs hP hD hS ls hl
  have hx := S.1
  have hb := S.2.1
  have hml := S.2.2.1
  have hown := S.2.2.2.1
  have htt := sd_tt S
  replace hl : lv_has ls 2 [(0, .ref kc), (1, .ref aE)] := hl
  unfold mf_Chain_begin at hm
  refine lv_aload_n hx hb d_Chain_begin_0 rfl (lv_at hl 0 rfl) ?_
  refine va_get (D := D) (ci := 2) (v := .ref ku) (C := R_Chain) (T := F_Chain) (N := 3) hx hb htt i_Chain hown hK hP 0 rfl rfl 0 (by decide) (htt _ kf_Chain_9) (fun _ h9 => h9) rfl d_Chain_begin_1 ?_
  refine lv_iconst (v := (0 : Int32)) hx hb d_Chain_begin_4 (by decide) ?_
  obtain ⟨uku, hc, hm⟩ := sd_mb1 hm
  refine sd_cv1 (wr := [(kc, .inr (2, [.ref ku, .ref kl, .ref kq])), (kl, aI g 66 ckl), (aE, aI g 68 cE)]) (w2 := [(kc, .inr (2, [.ref ku, .ref kl, .ref kq])), (kl, aI g 66 ckl), (aE, aI g 68 cE), (ku, aI g 66 uku)]) (sd_runS (rest := []) (As := [.ref ku, .int (0 : Int32)]) S (ct_Arrays_fill l D g ku 66 (H.size) (0 : Int32) cku F (uku) hc) kl_Chain_21 (by decide) (by decide) hK hP hD [1] rfl (by decide) rfl hl d_Chain_begin_5 rfl (Nat.le_of_ble_eq_true rfl) ⟨Nat.zero_le _, Nat.zero_le _⟩) hP hD hS hA [1] [0, 2, 3] rfl rfl (by decide) (by decide) rfl (fun H locs hP hD hS => ?_)
  refine lv_aload_n hx hb d_Chain_begin_8 rfl (lv_at hl 0 rfl) ?_
  refine va_get (D := D) (ci := 2) (v := .ref ku) (C := R_Chain) (T := F_Chain) (N := 3) hx hb htt i_Chain hown hK hP 0 rfl rfl 0 (by decide) (htt _ kf_Chain_9) (fun _ h9 => h9) rfl d_Chain_begin_9 ?_
  refine lv_bipush (v := (64 : Int32)) hx hb d_Chain_begin_12 (by decide) ?_
  refine lv_iconst (v := (1 : Int32)) hx hb d_Chain_begin_14 (by decide) ?_
  obtain ⟨uku_1, euku_1, hm⟩ := sd_mlet hm
  refine sd_iast (f2 := uku_1) (ws2 := [(kc, .inr (2, [.ref ku, .ref kl, .ref kq])), (kl, aI g 66 ckl), (aE, aI g 68 cE), (ku, aI g 66 uku_1)]) hx hb hK hP hD hS 3 rfl (by decide) euku_1 rfl d_Chain_begin_15 (fun H locs hP hD hS => ?_)
  refine lv_aload_n hx hb d_Chain_begin_16 rfl (lv_at hl 0 rfl) ?_
  refine va_get (D := D) (ci := 2) (v := .ref kl) (C := R_Chain) (T := F_Chain) (N := 3) hx hb htt i_Chain hown hK hP 0 rfl rfl 1 (by decide) (htt _ kf_Chain_15) (fun _ h9 => h9) rfl d_Chain_begin_17 ?_
  refine lv_iconst (v := (0 : Int32)) hx hb d_Chain_begin_20 (by decide) ?_
  obtain ⟨ukl, hc, hm⟩ := sd_mb1 hm
  refine sd_cv1 (wr := [(kc, .inr (2, [.ref ku, .ref kl, .ref kq])), (aE, aI g 68 cE), (ku, aI g 66 uku_1)]) (w2 := [(kc, .inr (2, [.ref ku, .ref kl, .ref kq])), (aE, aI g 68 cE), (ku, aI g 66 uku_1), (kl, aI g 66 ukl)]) (sd_runS (rest := []) (As := [.ref kl, .int (0 : Int32)]) S (ct_Arrays_fill l D g kl 66 (H.size) (0 : Int32) ckl F (ukl) hc) kl_Chain_21 (by decide) (by decide) hK hP hD [1] rfl (by decide) rfl hl d_Chain_begin_21 rfl (Nat.le_of_ble_eq_true rfl) ⟨Nat.zero_le _, Nat.zero_le _⟩) hP hD hS hA [1] [0, 2, 3] rfl rfl (by decide) (by decide) rfl (fun H locs hP hD hS => ?_)
  refine lv_aload_n hx hb d_Chain_begin_24 rfl (lv_at hl 1 rfl) ?_
  refine lv_iconst (v := (0 : Int32)) hx hb d_Chain_begin_25 (by decide) ?_
  refine lv_aload_n hx hb d_Chain_begin_26 rfl (lv_at hl 0 rfl) ?_
  refine va_get (D := D) (ci := 2) (v := .ref kl) (C := R_Chain) (T := F_Chain) (N := 3) hx hb htt i_Chain hown hK hP 0 rfl rfl 1 (by decide) (htt _ kf_Chain_15) (fun _ h9 => h9) rfl d_Chain_begin_27 ?_
  refine lv_iconst (v := (0 : Int32)) hx hb d_Chain_begin_30 (by decide) ?_
  refine lv_bipush (v := (64 : Int32)) hx hb d_Chain_begin_31 (by decide) ?_
  obtain ⟨h_1, hm⟩ := sd_mg hm
  obtain ⟨ukl_1, eukl_1, hm⟩ := sd_mlet hm
  refine sd_copyI (f2 := ukl_1) (ws2 := [(kc, .inr (2, [.ref ku, .ref kl, .ref kq])), (aE, aI g 68 cE), (ku, aI g 66 uku_1), (kl, aI g 66 ukl_1)]) hx hb hml hown kl_Chain_27 htt hl hK hP hD hS 1 3 rfl rfl h_1 eukl_1 rfl d_Chain_begin_33 (Nat.le_of_ble_eq_true rfl) (Nat.le_of_ble_eq_true rfl) (fun H locs hP hD hS => ?_)
  exact sd_v1ret (u := (uku_1, ukl_1)) hQ hx hb hr hlk hK (hP.sub [0, 2, 3, 1] rfl) (hD.sub [0, 2, 3, 1] (by decide) rfl) hS (Option.some.inj hm).symm d_Chain_begin_36
theorem d_Chain_takeAsOften_0 : decode b_Chain_takeAsOften 0 = .ok (.aload_n 0, 1) := by decide +kernel
theorem d_Chain_takeAsOften_1 : decode b_Chain_takeAsOften 1 = .ok (.getfield 9, 3) := by decide +kernel
theorem d_Chain_takeAsOften_4 : decode b_Chain_takeAsOften 4 = .ok (.iload_n 1, 1) := by decide +kernel
theorem d_Chain_takeAsOften_5 : decode b_Chain_takeAsOften 5 = .ok (.aload_n 0, 1) := by decide +kernel
theorem d_Chain_takeAsOften_6 : decode b_Chain_takeAsOften 6 = .ok (.getfield 15, 3) := by decide +kernel
theorem d_Chain_takeAsOften_9 : decode b_Chain_takeAsOften 9 = .ok (.iload_n 2, 1) := by decide +kernel
theorem d_Chain_takeAsOften_10 : decode b_Chain_takeAsOften 10 = .ok (.invokestatic 43, 3) := by decide +kernel
theorem d_Chain_takeAsOften_13 : decode b_Chain_takeAsOften 13 = .ok (.istore_n 3, 1) := by decide +kernel
theorem d_Chain_takeAsOften_14 : decode b_Chain_takeAsOften 14 = .ok (.aload_n 0, 1) := by decide +kernel
theorem d_Chain_takeAsOften_15 : decode b_Chain_takeAsOften 15 = .ok (.getfield 9, 3) := by decide +kernel
theorem d_Chain_takeAsOften_18 : decode b_Chain_takeAsOften 18 = .ok (.iload_n 1, 1) := by decide +kernel
theorem d_Chain_takeAsOften_19 : decode b_Chain_takeAsOften 19 = .ok (.aload_n 0, 1) := by decide +kernel
theorem d_Chain_takeAsOften_20 : decode b_Chain_takeAsOften 20 = .ok (.getfield 15, 3) := by decide +kernel
theorem d_Chain_takeAsOften_23 : decode b_Chain_takeAsOften 23 = .ok (.iconst 0, 1) := by decide +kernel
theorem d_Chain_takeAsOften_24 : decode b_Chain_takeAsOften 24 = .ok (.iload_n 2, 1) := by decide +kernel
theorem d_Chain_takeAsOften_25 : decode b_Chain_takeAsOften 25 = .ok (.iload_n 3, 1) := by decide +kernel
theorem d_Chain_takeAsOften_26 : decode b_Chain_takeAsOften 26 = .ok (.invokestatic 47, 3) := by decide +kernel
theorem d_Chain_takeAsOften_29 : decode b_Chain_takeAsOften 29 = .ok (.aload_n 0, 1) := by decide +kernel
theorem d_Chain_takeAsOften_30 : decode b_Chain_takeAsOften 30 = .ok (.getfield 9, 3) := by decide +kernel
theorem d_Chain_takeAsOften_33 : decode b_Chain_takeAsOften 33 = .ok (.iload_n 2, 1) := by decide +kernel
theorem d_Chain_takeAsOften_34 : decode b_Chain_takeAsOften 34 = .ok (.iload_n 1, 1) := by decide +kernel
theorem d_Chain_takeAsOften_35 : decode b_Chain_takeAsOften 35 = .ok (.iadd, 1) := by decide +kernel
theorem d_Chain_takeAsOften_36 : decode b_Chain_takeAsOften 36 = .ok (.iconst 1, 1) := by decide +kernel
theorem d_Chain_takeAsOften_37 : decode b_Chain_takeAsOften 37 = .ok (.iadd, 1) := by decide +kernel
theorem d_Chain_takeAsOften_38 : decode b_Chain_takeAsOften 38 = .ok (.iaload, 1) := by decide +kernel
theorem d_Chain_takeAsOften_39 : decode b_Chain_takeAsOften 39 = .ok (.ifCond .ge 21, 3) := by decide +kernel
theorem d_Chain_takeAsOften_42 : decode b_Chain_takeAsOften 42 = .ok (.aload_n 0, 1) := by decide +kernel
theorem d_Chain_takeAsOften_43 : decode b_Chain_takeAsOften 43 = .ok (.getfield 9, 3) := by decide +kernel
theorem d_Chain_takeAsOften_46 : decode b_Chain_takeAsOften 46 = .ok (.iload_n 1, 1) := by decide +kernel
theorem d_Chain_takeAsOften_47 : decode b_Chain_takeAsOften 47 = .ok (.aload_n 0, 1) := by decide +kernel
theorem d_Chain_takeAsOften_48 : decode b_Chain_takeAsOften 48 = .ok (.getfield 15, 3) := by decide +kernel
theorem d_Chain_takeAsOften_51 : decode b_Chain_takeAsOften 51 = .ok (.iconst 0, 1) := by decide +kernel
theorem d_Chain_takeAsOften_52 : decode b_Chain_takeAsOften 52 = .ok (.iload_n 2, 1) := by decide +kernel
theorem d_Chain_takeAsOften_53 : decode b_Chain_takeAsOften 53 = .ok (.iconst (-1), 1) := by decide +kernel
theorem d_Chain_takeAsOften_54 : decode b_Chain_takeAsOften 54 = .ok (.invokestatic 47, 3) := by decide +kernel
theorem d_Chain_takeAsOften_57 : decode b_Chain_takeAsOften 57 = .ok (.iinc 3 (-1), 3) := by decide +kernel
theorem d_Chain_takeAsOften_60 : decode b_Chain_takeAsOften 60 = .ok (.iload_n 3, 1) := by decide +kernel
theorem d_Chain_takeAsOften_61 : decode b_Chain_takeAsOften 61 = .ok (.ireturn, 1) := by decide +kernel
def mf_Chain_takeAsOften (F : Nat) (vK : Int32) (vTop : Int32) (cku : Nat → Int32) (ckl : Nat → Int32) : Option (Int32 × (Nat → Int32)) :=
  (sd_b1 (mf_Wide_guess F 66 66 vK vTop cku ckl) fun r => (sd_b1 (mf_Wide_take F 66 66 vK (0 : Int32) vTop r cku ckl) fun uku => (sd_g (sd_ix ((vTop + vK) + (1 : Int32)) 66) (sd_b2 (if 0 ≤ (uku ((vTop + vK) + (1 : Int32)).toNatClampNeg) then (some (r, uku)) else (sd_b1 (mf_Wide_take F 66 66 vK (0 : Int32) vTop (-1 : Int32) uku ckl) fun uku_2 => (sd_let (r + (-1 : Int32)) fun x3_1 => (some (x3_1, uku_2))))) fun x3 uku_1 => (some (x3, uku_1))))))
abbrev rm_Chain_takeAsOften : Room := { frames := 1, cells := 0, slots := 0, locals := 30 }
set_option maxHeartbeats 4000000 in
set_option maxRecDepth 100000 in
theorem ct_Chain_takeAsOften (l : Launch) (D : va_G) (g : G4) (kc : Nat) (ku : Nat) (kl : Nat) (kq : Nat) (sz : Nat) (vK : Int32) (vTop : Int32) (cku : Nat → Int32) (ckl : Nat → Int32) (F : Nat) (res : Int32 × (Nat → Int32)) (hm : mf_Chain_takeAsOften F vK vTop cku ckl = some res) : Met l y_Chain_takeAsOften (.code y_Chain_takeAsOften b_Chain_takeAsOften 4 (some .int) :: sd_tb) rm_Chain_takeAsOften (sd_PW D g [.ref kc, .int vK, .int vTop] sz [(kc, .inr (2, [.ref ku, .ref kl, .ref kq])), (ku, aI g 66 cku), (kl, aI g 66 ckl)]) (sd_Qi1 D g res (fun (u : (Nat → Int32)) => [(kc, .inr (2, [.ref ku, .ref kl, .ref kq])), (ku, aI g 66 u), (kl, aI g 66 ckl)]) (va_A [(kc, .inr (2, [.ref ku, .ref kl, .ref kq])), (ku, aI g 66 cku), (kl, aI g 66 ckl)] sz)) 0 0 (va_A [(kc, .inr (2, [.ref ku, .ref kl, .ref kq])), (ku, aI g 66 cku), (kl, aI g 66 ckl)] sz) := by
  refine sd_met (Qf := fun A => sd_Qi1 D g res (fun (u : (Nat → Int32)) => [(kc, .inr (2, [.ref ku, .ref kl, .ref kq])), (ku, aI g 66 u), (kl, aI g 66 ckl)]) A) (own := R_Chain) (by decide +kernel) rfl (Nat.le_of_ble_eq_true rfl) ?_
  intro p e s m args below meth c S hr hlk hK A hA Q hQ H locs hP hD hS ls hl
  have hx := S.1
  have hb := S.2.1
  have hml := S.2.2.1
  have hown := S.2.2.2.1
  have htt := sd_tt S
  replace hl : lv_has ls 4 [(0, .ref kc), (1, .int vK), (2, .int vTop)] := hl
  unfold mf_Chain_takeAsOften at hm
  refine lv_aload_n hx hb d_Chain_takeAsOften_0 rfl (lv_at hl 0 rfl) ?_
  refine va_get (D := D) (ci := 2) (v := .ref ku) (C := R_Chain) (T := F_Chain) (N := 3) hx hb htt i_Chain hown hK hP 0 rfl rfl 0 (by decide) (htt _ kf_Chain_9) (fun _ h9 => h9) rfl d_Chain_takeAsOften_1 ?_
  refine lv_iload_n hx hb d_Chain_takeAsOften_4 rfl (lv_at hl 1 rfl) ?_
  refine lv_aload_n hx hb d_Chain_takeAsOften_5 rfl (lv_at hl 0 rfl) ?_
  refine va_get (D := D) (ci := 2) (v := .ref kl) (C := R_Chain) (T := F_Chain) (N := 3) hx hb htt i_Chain hown hK hP 0 rfl rfl 1 (by decide) (htt _ kf_Chain_15) (fun _ h9 => h9) rfl d_Chain_takeAsOften_6 ?_
  refine lv_iload_n hx hb d_Chain_takeAsOften_9 rfl (lv_at hl 2 rfl) ?_
  obtain ⟨r, hc, hm⟩ := sd_mb1 hm
  refine sd_ci0 (wr := [(kc, .inr (2, [.ref ku, .ref kl, .ref kq]))]) (w2 := [(kc, .inr (2, [.ref ku, .ref kl, .ref kq])), (ku, aI g 66 cku), (kl, aI g 66 ckl)]) (sd_runS (rest := []) (As := [.ref ku, .int vK, .ref kl, .int vTop]) S (ct_Wide_guess l D g ku kl 66 66 (H.size) vK vTop cku ckl F (r) hc) kl_Chain_43 (by decide) (by decide) hK hP hD [1, 2] rfl (by decide) rfl hl d_Chain_takeAsOften_10 rfl (Nat.le_of_ble_eq_true rfl) ⟨Nat.zero_le _, Nat.zero_le _⟩) hP hD hS hA [1, 2] [0] rfl rfl (by decide) (by decide) rfl (fun H locs hP hD hS => ?_)
  refine W.eq (g2 := F0 m 13 ls [.int r]) rfl ?_
  refine lv_istore_n (lv' := [(3, .int r), (0, .ref kc), (1, .int vK), (2, .int vTop)]) hx hb d_Chain_takeAsOften_13 rfl hl (by decide) rfl (fun ls hl => ?_)
  refine lv_aload_n hx hb d_Chain_takeAsOften_14 rfl (lv_at hl 1 rfl) ?_
  refine va_get (D := D) (ci := 2) (v := .ref ku) (C := R_Chain) (T := F_Chain) (N := 3) hx hb htt i_Chain hown hK hP 0 rfl rfl 0 (by decide) (htt _ kf_Chain_9) (fun _ h9 => h9) rfl d_Chain_takeAsOften_15 ?_
  refine lv_iload_n hx hb d_Chain_takeAsOften_18 rfl (lv_at hl 2 rfl) ?_
  refine lv_aload_n hx hb d_Chain_takeAsOften_19 rfl (lv_at hl 1 rfl) ?_
  refine va_get (D := D) (ci := 2) (v := .ref kl) (C := R_Chain) (T := F_Chain) (N := 3) hx hb htt i_Chain hown hK hP 0 rfl rfl 1 (by decide) (htt _ kf_Chain_15) (fun _ h9 => h9) rfl d_Chain_takeAsOften_20 ?_
  refine lv_iconst (v := (0 : Int32)) hx hb d_Chain_takeAsOften_23 (by decide) ?_
  refine lv_iload_n hx hb d_Chain_takeAsOften_24 rfl (lv_at hl 3 rfl) ?_
  refine lv_iload_n hx hb d_Chain_takeAsOften_25 rfl (lv_at hl 0 rfl) ?_
  obtain ⟨uku, hc, hm⟩ := sd_mb1 hm
  refine sd_cv1 (wr := [(kc, .inr (2, [.ref ku, .ref kl, .ref kq]))]) (w2 := [(kc, .inr (2, [.ref ku, .ref kl, .ref kq])), (ku, aI g 66 uku), (kl, aI g 66 ckl)]) (sd_runS (rest := []) (As := [.ref ku, .int vK, .ref kl, .int (0 : Int32), .int vTop, .int r]) S (ct_Wide_take l D g ku kl 66 66 (H.size) vK (0 : Int32) vTop r cku ckl F (uku) hc) kl_Chain_47 (by decide) (by decide) hK hP hD [1, 2] rfl (by decide) rfl hl d_Chain_takeAsOften_26 rfl (Nat.le_of_ble_eq_true rfl) ⟨Nat.zero_le _, Nat.zero_le _⟩) hP hD hS hA [1, 2] [0] rfl rfl (by decide) (by decide) rfl (fun H locs hP hD hS => ?_)
  refine lv_aload_n hx hb d_Chain_takeAsOften_29 rfl (lv_at hl 1 rfl) ?_
  refine va_get (D := D) (ci := 2) (v := .ref ku) (C := R_Chain) (T := F_Chain) (N := 3) hx hb htt i_Chain hown hK hP 0 rfl rfl 0 (by decide) (htt _ kf_Chain_9) (fun _ h9 => h9) rfl d_Chain_takeAsOften_30 ?_
  refine lv_iload_n hx hb d_Chain_takeAsOften_33 rfl (lv_at hl 3 rfl) ?_
  refine lv_iload_n hx hb d_Chain_takeAsOften_34 rfl (lv_at hl 2 rfl) ?_
  refine lv_iadd hx hb d_Chain_takeAsOften_35 ?_
  refine lv_iconst (v := (1 : Int32)) hx hb d_Chain_takeAsOften_36 (by decide) ?_
  refine lv_iadd hx hb d_Chain_takeAsOften_37 ?_
  obtain ⟨h_1, hm⟩ := sd_mg hm
  refine sd_iald hx hb hK hP 1 rfl h_1 d_Chain_takeAsOften_38 ?_
  obtain ⟨x3, uku_1, hv, hm⟩ := sd_mb2 hm
  have J60_2 : ∀ (H : Heap) (locs : List Loc) (ls : Array Slot), va_P D classes [(kc, .inr (2, [.ref ku, .ref kl, .ref kq])), (ku, aI g 66 uku_1), (kl, aI g 66 ckl)] H → va_D A [(kc, .inr (2, [.ref ku, .ref kl, .ref kq])), (ku, aI g 66 uku_1), (kl, aI g 66 ckl)] → va_S A s.heap H locs → lv_has ls 4 [(3, .int x3)] → W p l e rm_Chain_takeAsOften s m args below meth c H locs 0 0 Q (F0 m 60 ls []) := by
    intro H locs ls hP hD hS hl
    refine lv_iload_n hx hb d_Chain_takeAsOften_60 rfl (lv_at hl 0 rfl) ?_
    exact sd_i1ret (u := (uku_1)) hQ hx hb hr hlk hK (hP.sub [0, 1, 2] rfl) (hD.sub [0, 1, 2] (by decide) rfl) hS (Option.some.inj hm).symm d_Chain_takeAsOften_61
  replace hm := hv
  refine lv_if_ge (tgt := 60) hx hb d_Chain_takeAsOften_39 (by decide) (fun hc => ?_) (fun hc => ?_)
  · have hm := sd_mt hc hm
    cases hm
    exact J60_2 H locs ls (hP.sub [0, 1, 2] rfl) (hD.sub [0, 1, 2] (by decide) rfl) hS (lv_sub hl [0] rfl)
  · have hm := sd_mf hc hm
    refine lv_aload_n hx hb d_Chain_takeAsOften_42 rfl (lv_at hl 1 rfl) ?_
    refine va_get (D := D) (ci := 2) (v := .ref ku) (C := R_Chain) (T := F_Chain) (N := 3) hx hb htt i_Chain hown hK hP 0 rfl rfl 0 (by decide) (htt _ kf_Chain_9) (fun _ h9 => h9) rfl d_Chain_takeAsOften_43 ?_
    refine lv_iload_n hx hb d_Chain_takeAsOften_46 rfl (lv_at hl 2 rfl) ?_
    refine lv_aload_n hx hb d_Chain_takeAsOften_47 rfl (lv_at hl 1 rfl) ?_
    refine va_get (D := D) (ci := 2) (v := .ref kl) (C := R_Chain) (T := F_Chain) (N := 3) hx hb htt i_Chain hown hK hP 0 rfl rfl 1 (by decide) (htt _ kf_Chain_15) (fun _ h9 => h9) rfl d_Chain_takeAsOften_48 ?_
    refine lv_iconst (v := (0 : Int32)) hx hb d_Chain_takeAsOften_51 (by decide) ?_
    refine lv_iload_n hx hb d_Chain_takeAsOften_52 rfl (lv_at hl 3 rfl) ?_
    refine lv_iconst (v := (-1 : Int32)) hx hb d_Chain_takeAsOften_53 (by decide) ?_
    obtain ⟨uku_2, hc, hm⟩ := sd_mb1 hm
    refine sd_cv1 (wr := [(kc, .inr (2, [.ref ku, .ref kl, .ref kq]))]) (w2 := [(kc, .inr (2, [.ref ku, .ref kl, .ref kq])), (ku, aI g 66 uku_2), (kl, aI g 66 ckl)]) (sd_runS (rest := []) (As := [.ref ku, .int vK, .ref kl, .int (0 : Int32), .int vTop, .int (-1 : Int32)]) S (ct_Wide_take l D g ku kl 66 66 (H.size) vK (0 : Int32) vTop (-1 : Int32) uku ckl F (uku_2) hc) kl_Chain_47 (by decide) (by decide) hK hP hD [1, 2] rfl (by decide) rfl hl d_Chain_takeAsOften_54 rfl (Nat.le_of_ble_eq_true rfl) ⟨Nat.zero_le _, Nat.zero_le _⟩) hP hD hS hA [1, 2] [0] rfl rfl (by decide) (by decide) rfl (fun H locs hP hD hS => ?_)
    obtain ⟨x3_1, ex3_1, hm⟩ := sd_mlet hm
    refine lv_iinc (v := x3_1) (lv' := [(3, .int x3_1), (0, .ref kc), (1, .int vK), (2, .int vTop)]) hx hb d_Chain_takeAsOften_57 hl (k := 0) rfl (by rw [ex3_1]; rfl) (by decide) rfl (fun ls hl => ?_)
    cases hm
    exact J60_2 H locs ls (hP.sub [0, 1, 2] rfl) (hD.sub [0, 1, 2] (by decide) rfl) hS (lv_sub hl [0] rfl)
theorem d_Chain_goOn_0 : decode b_Chain_goOn 0 = .ok (.aload_n 0, 1) := by decide +kernel
theorem d_Chain_goOn_1 : decode b_Chain_goOn 1 = .ok (.getfield 15, 3) := by decide +kernel
theorem d_Chain_goOn_4 : decode b_Chain_goOn 4 = .ok (.invokestatic 33, 3) := by decide +kernel
theorem d_Chain_goOn_7 : decode b_Chain_goOn 7 = .ok (.istore_n 1, 1) := by decide +kernel
theorem d_Chain_goOn_8 : decode b_Chain_goOn 8 = .ok (.iload_n 1, 1) := by decide +kernel
theorem d_Chain_goOn_9 : decode b_Chain_goOn 9 = .ok (.ifCond .ge 5, 3) := by decide +kernel
theorem d_Chain_goOn_12 : decode b_Chain_goOn 12 = .ok (.iconst 0, 1) := by decide +kernel
theorem d_Chain_goOn_13 : decode b_Chain_goOn 13 = .ok (.ireturn, 1) := by decide +kernel
theorem d_Chain_goOn_14 : decode b_Chain_goOn 14 = .ok (.aload_n 0, 1) := by decide +kernel
theorem d_Chain_goOn_15 : decode b_Chain_goOn 15 = .ok (.getfield 18, 3) := by decide +kernel
theorem d_Chain_goOn_18 : decode b_Chain_goOn 18 = .ok (.iconst 0, 1) := by decide +kernel
theorem d_Chain_goOn_19 : decode b_Chain_goOn 19 = .ok (.invokestatic 21, 3) := by decide +kernel
theorem d_Chain_goOn_22 : decode b_Chain_goOn 22 = .ok (.aload_n 0, 1) := by decide +kernel
theorem d_Chain_goOn_23 : decode b_Chain_goOn 23 = .ok (.getfield 9, 3) := by decide +kernel
theorem d_Chain_goOn_26 : decode b_Chain_goOn 26 = .ok (.invokestatic 33, 3) := by decide +kernel
theorem d_Chain_goOn_29 : decode b_Chain_goOn 29 = .ok (.iload_n 1, 1) := by decide +kernel
theorem d_Chain_goOn_30 : decode b_Chain_goOn 30 = .ok (.isub, 1) := by decide +kernel
theorem d_Chain_goOn_31 : decode b_Chain_goOn 31 = .ok (.istore_n 2, 1) := by decide +kernel
theorem d_Chain_goOn_32 : decode b_Chain_goOn 32 = .ok (.iload_n 2, 1) := by decide +kernel
theorem d_Chain_goOn_33 : decode b_Chain_goOn 33 = .ok (.ifCond .lt 21, 3) := by decide +kernel
theorem d_Chain_goOn_36 : decode b_Chain_goOn 36 = .ok (.aload_n 0, 1) := by decide +kernel
theorem d_Chain_goOn_37 : decode b_Chain_goOn 37 = .ok (.getfield 18, 3) := by decide +kernel
theorem d_Chain_goOn_40 : decode b_Chain_goOn 40 = .ok (.iload_n 2, 1) := by decide +kernel
theorem d_Chain_goOn_41 : decode b_Chain_goOn 41 = .ok (.aload_n 0, 1) := by decide +kernel
theorem d_Chain_goOn_42 : decode b_Chain_goOn 42 = .ok (.iload_n 2, 1) := by decide +kernel
theorem d_Chain_goOn_43 : decode b_Chain_goOn 43 = .ok (.iload_n 1, 1) := by decide +kernel
theorem d_Chain_goOn_44 : decode b_Chain_goOn 44 = .ok (.invokevirtual 37, 3) := by decide +kernel
theorem d_Chain_goOn_47 : decode b_Chain_goOn 47 = .ok (.iastore, 1) := by decide +kernel
theorem d_Chain_goOn_48 : decode b_Chain_goOn 48 = .ok (.iinc 2 (-1), 3) := by decide +kernel
theorem d_Chain_goOn_51 : decode b_Chain_goOn 51 = .ok (.goto (-19), 3) := by decide +kernel
theorem d_Chain_goOn_54 : decode b_Chain_goOn 54 = .ok (.aload_n 0, 1) := by decide +kernel
theorem d_Chain_goOn_55 : decode b_Chain_goOn 55 = .ok (.getfield 9, 3) := by decide +kernel
theorem d_Chain_goOn_58 : decode b_Chain_goOn 58 = .ok (.astore_n 2, 1) := by decide +kernel
theorem d_Chain_goOn_59 : decode b_Chain_goOn 59 = .ok (.aload_n 0, 1) := by decide +kernel
theorem d_Chain_goOn_60 : decode b_Chain_goOn 60 = .ok (.aload_n 0, 1) := by decide +kernel
theorem d_Chain_goOn_61 : decode b_Chain_goOn 61 = .ok (.getfield 15, 3) := by decide +kernel
theorem d_Chain_goOn_64 : decode b_Chain_goOn 64 = .ok (.putfield 9, 3) := by decide +kernel
theorem d_Chain_goOn_67 : decode b_Chain_goOn 67 = .ok (.aload_n 0, 1) := by decide +kernel
theorem d_Chain_goOn_68 : decode b_Chain_goOn 68 = .ok (.aload_n 2, 1) := by decide +kernel
theorem d_Chain_goOn_69 : decode b_Chain_goOn 69 = .ok (.putfield 15, 3) := by decide +kernel
theorem d_Chain_goOn_72 : decode b_Chain_goOn 72 = .ok (.iconst 1, 1) := by decide +kernel
theorem d_Chain_goOn_73 : decode b_Chain_goOn 73 = .ok (.ireturn, 1) := by decide +kernel
def mf_Chain_goOn_L32 (F : Nat) (r : Int32) (ckl : Nat → Int32) : Nat → Int32 → (Nat → Int32) → (Nat → Int32) → Option ((Nat → Int32) × (Nat → Int32))
  | 0, _, _, _ => none
  | fu + 1, x2_1, ukq_1, uku => (if x2_1 < 0 then (some (ukq_1, uku)) else (sd_b2 (mf_Chain_takeAsOften F x2_1 r uku ckl) fun r_2 uku_1 => (sd_g (sd_ix x2_1 66) (sd_let (upd ukq_1 x2_1.toNatClampNeg r_2) fun ukq_2 => (sd_let (x2_1 + (-1 : Int32)) fun x2_2 => ((mf_Chain_goOn_L32 F r ckl fu) x2_2 ukq_2 uku_1))))))
def mf_Chain_goOn (F : Nat) (cku : Nat → Int32) (ckl : Nat → Int32) (ckq : Nat → Int32) : Option (Int32 × (Nat → Int32) × (Nat → Int32) × (Nat → Int32)) :=
  (sd_b1 (mf_Wide_topOf F 66 ckl) fun r => (if 0 ≤ r then (sd_b1 (mf_Arrays_fill F 66 (0 : Int32) ckq) fun ukq => (sd_b1 (mf_Wide_topOf F 66 cku) fun r_1 => (sd_let ((r_1 - r)) fun x2 => (sd_b2 (mf_Chain_goOn_L32 F r ckl F x2 ukq cku) fun rukq ruku => (some ((1 : Int32), ckl, ruku, rukq)))))) else (some ((0 : Int32), cku, ckl, ckq))))
abbrev rm_Chain_goOn : Room := { frames := 2, cells := 0, slots := 0, locals := 53 }
set_option maxHeartbeats 4000000 in
set_option maxRecDepth 100000 in
theorem ct_Chain_goOn (l : Launch) (D : va_G) (g : G4) (kc : Nat) (ku : Nat) (kl : Nat) (kq : Nat) (sz : Nat) (cku : Nat → Int32) (ckl : Nat → Int32) (ckq : Nat → Int32) (F : Nat) (res : Int32 × (Nat → Int32) × (Nat → Int32) × (Nat → Int32)) (hm : mf_Chain_goOn F cku ckl ckq = some res) : Met l y_Chain_goOn (.code y_Chain_goOn b_Chain_goOn 3 (some .boolean) :: sd_tb) rm_Chain_goOn (sd_PW D g [.ref kc] sz [(kc, .inr (2, [.ref ku, .ref kl, .ref kq])), (ku, aI g 66 cku), (kl, aI g 66 ckl), (kq, aI g 66 ckq)]) (sd_Qi1M D g res (fun (u : (Nat → Int32) × (Nat → Int32) × (Nat → Int32)) (vv : Nat × Nat) => [(kc, .inr (2, [.ref (vv.1), .ref (vv.2), .ref kq])), (vv.1, aI g 66 (u.1)), (vv.2, aI g 66 (u.2.1)), (kq, aI g 66 (u.2.2))]) (va_A [(kc, .inr (2, [.ref ku, .ref kl, .ref kq])), (ku, aI g 66 cku), (kl, aI g 66 ckl), (kq, aI g 66 ckq)] sz)) 0 0 (va_A [(kc, .inr (2, [.ref ku, .ref kl, .ref kq])), (ku, aI g 66 cku), (kl, aI g 66 ckl), (kq, aI g 66 ckq)] sz) := by
  refine sd_met (Qf := fun A => sd_Qi1M D g res (fun (u : (Nat → Int32) × (Nat → Int32) × (Nat → Int32)) (vv : Nat × Nat) => [(kc, .inr (2, [.ref (vv.1), .ref (vv.2), .ref kq])), (vv.1, aI g 66 (u.1)), (vv.2, aI g 66 (u.2.1)), (kq, aI g 66 (u.2.2))]) A) (own := R_Chain) (by decide +kernel) rfl (Nat.le_of_ble_eq_true rfl) ?_
  intro p e s m args below meth c S hr hlk hK A hA Q hQ H locs hP hD hS ls hl
  have hx := S.1
  have hb := S.2.1
  have hml := S.2.2.1
  have hown := S.2.2.2.1
  have htt := sd_tt S
  replace hl : lv_has ls 3 [(0, .ref kc)] := hl
  unfold mf_Chain_goOn at hm
  refine lv_aload_n hx hb d_Chain_goOn_0 rfl (lv_at hl 0 rfl) ?_
  refine va_get (D := D) (ci := 2) (v := .ref kl) (C := R_Chain) (T := F_Chain) (N := 3) hx hb htt i_Chain hown hK hP 0 rfl rfl 1 (by decide) (htt _ kf_Chain_15) (fun _ h9 => h9) rfl d_Chain_goOn_1 ?_
  obtain ⟨r, hc, hm⟩ := sd_mb1 hm
  refine sd_ci0 (wr := [(kc, .inr (2, [.ref ku, .ref kl, .ref kq])), (ku, aI g 66 cku), (kq, aI g 66 ckq)]) (w2 := [(kc, .inr (2, [.ref ku, .ref kl, .ref kq])), (ku, aI g 66 cku), (kq, aI g 66 ckq), (kl, aI g 66 ckl)]) (sd_runS (rest := []) (As := [.ref kl]) S (ct_Wide_topOf l D g kl 66 (H.size) ckl F (r) hc) kl_Chain_33 (by decide) (by decide) hK hP hD [2] rfl (by decide) rfl hl d_Chain_goOn_4 rfl (Nat.le_of_ble_eq_true rfl) ⟨Nat.zero_le _, Nat.zero_le _⟩) hP hD hS hA [2] [0, 1, 3] rfl rfl (by decide) (by decide) rfl (fun H locs hP hD hS => ?_)
  refine W.eq (g2 := F0 m 7 ls [.int r]) rfl ?_
  refine lv_istore_n (lv' := [(1, .int r), (0, .ref kc)]) hx hb d_Chain_goOn_7 rfl hl (by decide) rfl (fun ls hl => ?_)
  refine lv_iload_n hx hb d_Chain_goOn_8 rfl (lv_at hl 0 rfl) ?_
  refine lv_if_ge (tgt := 14) hx hb d_Chain_goOn_9 (by decide) (fun hc => ?_) (fun hc => ?_)
  · have hm := sd_mt hc hm
    refine lv_aload_n hx hb d_Chain_goOn_14 rfl (lv_at hl 1 rfl) ?_
    refine va_get (D := D) (ci := 2) (v := .ref kq) (C := R_Chain) (T := F_Chain) (N := 3) hx hb htt i_Chain hown hK hP 0 rfl rfl 2 (by decide) (htt _ kf_Chain_18) (fun _ h9 => h9) rfl d_Chain_goOn_15 ?_
    refine lv_iconst (v := (0 : Int32)) hx hb d_Chain_goOn_18 (by decide) ?_
    obtain ⟨ukq, hc, hm⟩ := sd_mb1 hm
    refine sd_cv1 (wr := [(kc, .inr (2, [.ref ku, .ref kl, .ref kq])), (ku, aI g 66 cku), (kl, aI g 66 ckl)]) (w2 := [(kc, .inr (2, [.ref ku, .ref kl, .ref kq])), (ku, aI g 66 cku), (kl, aI g 66 ckl), (kq, aI g 66 ukq)]) (sd_runS (rest := []) (As := [.ref kq, .int (0 : Int32)]) S (ct_Arrays_fill l D g kq 66 (H.size) (0 : Int32) ckq F (ukq) hc) kl_Chain_21 (by decide) (by decide) hK hP hD [2] rfl (by decide) rfl hl d_Chain_goOn_19 rfl (Nat.le_of_ble_eq_true rfl) ⟨Nat.zero_le _, Nat.zero_le _⟩) hP hD hS hA [2] [0, 1, 3] rfl rfl (by decide) (by decide) rfl (fun H locs hP hD hS => ?_)
    refine lv_aload_n hx hb d_Chain_goOn_22 rfl (lv_at hl 1 rfl) ?_
    refine va_get (D := D) (ci := 2) (v := .ref ku) (C := R_Chain) (T := F_Chain) (N := 3) hx hb htt i_Chain hown hK hP 0 rfl rfl 0 (by decide) (htt _ kf_Chain_9) (fun _ h9 => h9) rfl d_Chain_goOn_23 ?_
    obtain ⟨r_1, hc, hm⟩ := sd_mb1 hm
    refine sd_ci0 (wr := [(kc, .inr (2, [.ref ku, .ref kl, .ref kq])), (kl, aI g 66 ckl), (kq, aI g 66 ukq)]) (w2 := [(kc, .inr (2, [.ref ku, .ref kl, .ref kq])), (kl, aI g 66 ckl), (kq, aI g 66 ukq), (ku, aI g 66 cku)]) (sd_runS (rest := []) (As := [.ref ku]) S (ct_Wide_topOf l D g ku 66 (H.size) cku F (r_1) hc) kl_Chain_33 (by decide) (by decide) hK hP hD [1] rfl (by decide) rfl hl d_Chain_goOn_26 rfl (Nat.le_of_ble_eq_true rfl) ⟨Nat.zero_le _, Nat.zero_le _⟩) hP hD hS hA [1] [0, 2, 3] rfl rfl (by decide) (by decide) rfl (fun H locs hP hD hS => ?_)
    refine W.eq (g2 := F0 m 29 ls [.int r_1]) rfl ?_
    refine lv_iload_n hx hb d_Chain_goOn_29 rfl (lv_at hl 0 rfl) ?_
    refine lv_isub hx hb d_Chain_goOn_30 ?_
    obtain ⟨x2, ex2, hm⟩ := sd_mlet hm
    refine sd_topi ex2 ?_
    refine lv_istore_n (lv' := [(2, .int x2), (1, .int r), (0, .ref kc)]) hx hb d_Chain_goOn_31 rfl hl (by decide) rfl (fun ls hl => ?_)
    have L32 : ∀ (fu : Nat) (x2_1 : Int32) (ukq_1 : Nat → Int32) (uku : Nat → Int32) (rukq : Nat → Int32) (ruku : Nat → Int32), mf_Chain_goOn_L32 F r ckl fu x2_1 ukq_1 uku = some (rukq, ruku) → ∀ (H : Heap) (locs : List Loc) (ls : Array Slot), va_P D classes [(kc, .inr (2, [.ref ku, .ref kl, .ref kq])), (kl, aI g 66 ckl), (kq, aI g 66 ukq_1), (ku, aI g 66 uku)] H → va_D A [(kc, .inr (2, [.ref ku, .ref kl, .ref kq])), (kl, aI g 66 ckl), (kq, aI g 66 ukq_1), (ku, aI g 66 uku)] → va_S A s.heap H locs → lv_has ls 3 [(0, .ref kc), (1, .int r), (2, .int x2_1)] → (∀ (H : Heap) (locs : List Loc) (ls : Array Slot), va_P D classes [(kc, .inr (2, [.ref ku, .ref kl, .ref kq])), (kl, aI g 66 ckl), (kq, aI g 66 rukq), (ku, aI g 66 ruku)] H → va_D A [(kc, .inr (2, [.ref ku, .ref kl, .ref kq])), (kl, aI g 66 ckl), (kq, aI g 66 rukq), (ku, aI g 66 ruku)] → va_S A s.heap H locs → lv_has ls 3 [(0, .ref kc)] → W p l e rm_Chain_goOn s m args below meth c H locs 0 0 Q (F0 m 54 ls [])) → W p l e rm_Chain_goOn s m args below meth c H locs 0 0 Q (F0 m 32 ls []) := by
      intro fu
      induction fu with
      | zero => intro x2_1 ukq_1 uku rukq ruku hm; exact absurd (show (none : Option ((Nat → Int32) × (Nat → Int32))) = some (rukq, ruku) from hm) (fun h => nomatch h)
      | succ fu ih =>
        intro x2_1 ukq_1 uku rukq ruku hm  H locs ls hP hD hS hl kx54
        rw [mf_Chain_goOn_L32] at hm
        refine lv_iload_n hx hb d_Chain_goOn_32 rfl (lv_at hl 2 rfl) ?_
        refine lv_if_lt (tgt := 54) hx hb d_Chain_goOn_33 (by decide) (fun hc => ?_) (fun hc => ?_)
        · have hm := sd_mt hc hm
          cases hm
          exact kx54  H locs ls (hP.sub [0, 1, 2, 3] rfl) (hD.sub [0, 1, 2, 3] (by decide) rfl) hS (lv_sub hl [0] rfl)
        · have hm := sd_mf hc hm
          refine lv_aload_n hx hb d_Chain_goOn_36 rfl (lv_at hl 0 rfl) ?_
          refine va_get (D := D) (ci := 2) (v := .ref kq) (C := R_Chain) (T := F_Chain) (N := 3) hx hb htt i_Chain hown hK hP 0 rfl rfl 2 (by decide) (htt _ kf_Chain_18) (fun _ h9 => h9) rfl d_Chain_goOn_37 ?_
          refine lv_iload_n hx hb d_Chain_goOn_40 rfl (lv_at hl 2 rfl) ?_
          refine lv_aload_n hx hb d_Chain_goOn_41 rfl (lv_at hl 0 rfl) ?_
          refine lv_iload_n hx hb d_Chain_goOn_42 rfl (lv_at hl 2 rfl) ?_
          refine lv_iload_n hx hb d_Chain_goOn_43 rfl (lv_at hl 1 rfl) ?_
          obtain ⟨r_2, uku_1, hc, hm⟩ := sd_mb2 hm
          refine sd_ci1 (wr := [(kq, aI g 66 ukq_1)]) (w2 := [(kq, aI g 66 ukq_1), (kc, .inr (2, [.ref ku, .ref kl, .ref kq])), (ku, aI g 66 uku_1), (kl, aI g 66 ckl)]) (sd_runV (rest := [.int x2_1, .ref kq]) (As := [.int x2_1, .int r]) S (ct_Chain_takeAsOften l D g kc ku kl kq (H.size) x2_1 r uku ckl F (r_2, uku_1) hc) kl_Chain_37 (by decide) (by decide) hK hP hD [0, 3, 1] rfl (by decide) rfl hl d_Chain_goOn_44 rfl (Nat.le_of_ble_eq_true rfl) ⟨Nat.zero_le _, Nat.zero_le _⟩ 0 rfl rfl) hP hD hS hA [0, 3, 1] [2] rfl rfl (by decide) (by decide) rfl (fun H locs hP hD hS => ?_)
          refine W.eq (g2 := F0 m 47 ls [.int r_2, .int x2_1, .ref kq]) rfl ?_
          obtain ⟨h_1, hm⟩ := sd_mg hm
          obtain ⟨ukq_2, eukq_2, hm⟩ := sd_mlet hm
          refine sd_iast (f2 := ukq_2) (ws2 := [(kq, aI g 66 ukq_2), (kc, .inr (2, [.ref ku, .ref kl, .ref kq])), (ku, aI g 66 uku_1), (kl, aI g 66 ckl)]) hx hb hK hP hD hS 0 rfl h_1 eukq_2 rfl d_Chain_goOn_47 (fun H locs hP hD hS => ?_)
          obtain ⟨x2_2, ex2_2, hm⟩ := sd_mlet hm
          refine lv_iinc (v := x2_2) (lv' := [(2, .int x2_2), (0, .ref kc), (1, .int r)]) hx hb d_Chain_goOn_48 hl (k := 2) rfl (by rw [ex2_2]; rfl) (by decide) rfl (fun ls hl => ?_)
          refine lv_goto (tgt := 32) hx hb d_Chain_goOn_51 (by decide) ?_
          exact ih x2_2 ukq_2 uku_1 rukq ruku hm  H locs ls (hP.sub [1, 3, 0, 2] rfl) (hD.sub [1, 3, 0, 2] (by decide) rfl) hS (lv_sub hl [1, 2, 0] rfl) kx54
    obtain ⟨rukq, ruku, hc, hm⟩ := sd_mb2 hm
    refine L32 F x2 ukq cku rukq ruku hc  H locs ls (hP.sub [0, 1, 2, 3] rfl) (hD.sub [0, 1, 2, 3] (by decide) rfl) hS (lv_sub hl [2, 1, 0] rfl) ?_
    intro  H locs ls hP hD hS hl
    refine lv_aload_n hx hb d_Chain_goOn_54 rfl (lv_at hl 0 rfl) ?_
    refine va_get (D := D) (ci := 2) (v := .ref ku) (C := R_Chain) (T := F_Chain) (N := 3) hx hb htt i_Chain hown hK hP 0 rfl rfl 0 (by decide) (htt _ kf_Chain_9) (fun _ h9 => h9) rfl d_Chain_goOn_55 ?_
    refine lv_astore_n (lv' := [(2, .ref ku), (0, .ref kc)]) hx hb d_Chain_goOn_58 rfl hl (by decide) rfl (fun ls hl => ?_)
    refine lv_aload_n hx hb d_Chain_goOn_59 rfl (lv_at hl 1 rfl) ?_
    refine lv_aload_n hx hb d_Chain_goOn_60 rfl (lv_at hl 1 rfl) ?_
    refine va_get (D := D) (ci := 2) (v := .ref kl) (C := R_Chain) (T := F_Chain) (N := 3) hx hb htt i_Chain hown hK hP 0 rfl rfl 1 (by decide) (htt _ kf_Chain_15) (fun _ h9 => h9) rfl d_Chain_goOn_61 ?_
    refine sd_put (ci := 2) (v := .ref kl) (ty := (t_Chain 0)) (C := R_Chain) (T := F_Chain) (N := 3) (ws2 := [(kc, .inr (2, [.ref kl, .ref kl, .ref kq])), (kl, aI g 66 ckl), (kq, aI g 66 rukq), (ku, aI g 66 ruku)]) hx hb htt i_Chain t_Chain t_Chain_ok n_Chain hown hK hP hD hS 0 rfl rfl 0 (by decide) kf_Chain_9 (fun _ h9 => h9) rfl (by decide +kernel) rfl rfl (Nat.le_of_ble_eq_true rfl) rfl d_Chain_goOn_64 (fun H locs hP hD hS => ?_)
    refine lv_aload_n hx hb d_Chain_goOn_67 rfl (lv_at hl 1 rfl) ?_
    refine lv_aload_n hx hb d_Chain_goOn_68 rfl (lv_at hl 0 rfl) ?_
    refine sd_put (ci := 2) (v := .ref ku) (ty := (t_Chain 1)) (C := R_Chain) (T := F_Chain) (N := 3) (ws2 := [(kc, .inr (2, [.ref kl, .ref ku, .ref kq])), (kl, aI g 66 ckl), (kq, aI g 66 rukq), (ku, aI g 66 ruku)]) hx hb htt i_Chain t_Chain t_Chain_ok n_Chain hown hK hP hD hS 0 rfl rfl 1 (by decide) kf_Chain_15 (fun _ h9 => h9) rfl (by decide +kernel) rfl rfl (Nat.le_of_ble_eq_true rfl) rfl d_Chain_goOn_69 (fun H locs hP hD hS => ?_)
    refine lv_iconst (v := (1 : Int32)) hx hb d_Chain_goOn_72 (by decide) ?_
    exact sd_z1Mret (u := (ckl, ruku, rukq)) (v := (kl, ku)) hQ hx hb hr hlk rfl hK (hP.sub [0, 1, 3, 2] rfl) (hD.sub [0, 1, 3, 2] (by decide) rfl) hS (Option.some.inj hm).symm d_Chain_goOn_73
  · have hm := sd_mf hc hm
    refine lv_iconst (v := (0 : Int32)) hx hb d_Chain_goOn_12 (by decide) ?_
    exact sd_z1Mret (u := (cku, ckl, ckq)) (v := (ku, kl)) hQ hx hb hr hlk rfl hK (hP.sub [0, 1, 3, 2] rfl) (hD.sub [0, 1, 3, 2] (by decide) rfl) hS (Option.some.inj hm).symm d_Chain_goOn_13
theorem d_Chain_agreesWith_0 : decode b_Chain_agreesWith 0 = .ok (.iconst 0, 1) := by decide +kernel
theorem d_Chain_agreesWith_1 : decode b_Chain_agreesWith 1 = .ok (.istore_n 2, 1) := by decide +kernel
theorem d_Chain_agreesWith_2 : decode b_Chain_agreesWith 2 = .ok (.iload_n 2, 1) := by decide +kernel
theorem d_Chain_agreesWith_3 : decode b_Chain_agreesWith 3 = .ok (.aload_n 0, 1) := by decide +kernel
theorem d_Chain_agreesWith_4 : decode b_Chain_agreesWith 4 = .ok (.getfield 18, 3) := by decide +kernel
theorem d_Chain_agreesWith_7 : decode b_Chain_agreesWith 7 = .ok (.arraylength, 1) := by decide +kernel
theorem d_Chain_agreesWith_8 : decode b_Chain_agreesWith 8 = .ok (.if_icmp .ge 26, 3) := by decide +kernel
theorem d_Chain_agreesWith_11 : decode b_Chain_agreesWith 11 = .ok (.aload_n 0, 1) := by decide +kernel
theorem d_Chain_agreesWith_12 : decode b_Chain_agreesWith 12 = .ok (.getfield 18, 3) := by decide +kernel
theorem d_Chain_agreesWith_15 : decode b_Chain_agreesWith 15 = .ok (.iload_n 2, 1) := by decide +kernel
theorem d_Chain_agreesWith_16 : decode b_Chain_agreesWith 16 = .ok (.iaload, 1) := by decide +kernel
theorem d_Chain_agreesWith_17 : decode b_Chain_agreesWith 17 = .ok (.aload_n 1, 1) := by decide +kernel
theorem d_Chain_agreesWith_18 : decode b_Chain_agreesWith 18 = .ok (.getfield 18, 3) := by decide +kernel
theorem d_Chain_agreesWith_21 : decode b_Chain_agreesWith 21 = .ok (.iload_n 2, 1) := by decide +kernel
theorem d_Chain_agreesWith_22 : decode b_Chain_agreesWith 22 = .ok (.iaload, 1) := by decide +kernel
theorem d_Chain_agreesWith_23 : decode b_Chain_agreesWith 23 = .ok (.if_icmp .eq 5, 3) := by decide +kernel
theorem d_Chain_agreesWith_26 : decode b_Chain_agreesWith 26 = .ok (.iconst 0, 1) := by decide +kernel
theorem d_Chain_agreesWith_27 : decode b_Chain_agreesWith 27 = .ok (.ireturn, 1) := by decide +kernel
theorem d_Chain_agreesWith_28 : decode b_Chain_agreesWith 28 = .ok (.iinc 2 1, 3) := by decide +kernel
theorem d_Chain_agreesWith_31 : decode b_Chain_agreesWith 31 = .ok (.goto (-29), 3) := by decide +kernel
theorem d_Chain_agreesWith_34 : decode b_Chain_agreesWith 34 = .ok (.iconst 1, 1) := by decide +kernel
theorem d_Chain_agreesWith_35 : decode b_Chain_agreesWith 35 = .ok (.ireturn, 1) := by decide +kernel
def mf_Chain_agreesWith_L2 (ckq : Nat → Int32) (coq : Nat → Int32) : Nat → Int32 → Option (Nat)
  | 0, _ => none
  | fu + 1, x2 => (if (66 : Int32) ≤ x2 then (some (1)) else (sd_g (sd_ix x2 66) (sd_g (sd_ix x2 66) (if (ckq x2.toNatClampNeg) = (coq x2.toNatClampNeg) then (sd_let (x2 + (1 : Int32)) fun x2_1 => ((mf_Chain_agreesWith_L2 ckq coq fu) x2_1)) else (some (0))))))
def mf_Chain_agreesWith (F : Nat) (ckq : Nat → Int32) (coq : Nat → Int32) : Option (Int32) :=
  (sd_b1 (mf_Chain_agreesWith_L2 ckq coq F (0 : Int32)) fun tg => (if tg = 0 then (some ((0 : Int32))) else (some ((1 : Int32)))))
abbrev rm_Chain_agreesWith : Room := { frames := 0, cells := 0, slots := 0, locals := 0 }
set_option maxHeartbeats 4000000 in
set_option maxRecDepth 100000 in
theorem ct_Chain_agreesWith (l : Launch) (D : va_G) (g : G4) (kc : Nat) (ku : Nat) (kl : Nat) (kq : Nat) (oc : Nat) (ou : Nat) (ol : Nat) (oq : Nat) (sz : Nat) (ckq : Nat → Int32) (coq : Nat → Int32) (F : Nat) (res : Int32) (hm : mf_Chain_agreesWith F ckq coq = some res) : Met l y_Chain_agreesWith (.code y_Chain_agreesWith b_Chain_agreesWith 3 (some .boolean) :: sd_tb) rm_Chain_agreesWith (sd_PW D g [.ref kc, .ref oc] sz [(kc, .inr (2, [.ref ku, .ref kl, .ref kq])), (kq, aI g 66 ckq), (oc, .inr (2, [.ref ou, .ref ol, .ref oq])), (oq, aI g 66 coq)]) (sd_Qi0 D g res [(kc, .inr (2, [.ref ku, .ref kl, .ref kq])), (kq, aI g 66 ckq), (oc, .inr (2, [.ref ou, .ref ol, .ref oq])), (oq, aI g 66 coq)] (va_A [(kc, .inr (2, [.ref ku, .ref kl, .ref kq])), (kq, aI g 66 ckq), (oc, .inr (2, [.ref ou, .ref ol, .ref oq])), (oq, aI g 66 coq)] sz)) 0 0 (va_A [(kc, .inr (2, [.ref ku, .ref kl, .ref kq])), (kq, aI g 66 ckq), (oc, .inr (2, [.ref ou, .ref ol, .ref oq])), (oq, aI g 66 coq)] sz) := by
  refine sd_met (Qf := fun A => sd_Qi0 D g res [(kc, .inr (2, [.ref ku, .ref kl, .ref kq])), (kq, aI g 66 ckq), (oc, .inr (2, [.ref ou, .ref ol, .ref oq])), (oq, aI g 66 coq)] A) (own := R_Chain) (by decide +kernel) rfl (Nat.le_of_ble_eq_true rfl) ?_
  intro p e s m args below meth c S hr hlk hK A hA Q hQ H locs hP hD hS ls hl
  have hx := S.1
  have hb := S.2.1
  have hml := S.2.2.1
  have hown := S.2.2.2.1
  have htt := sd_tt S
  replace hl : lv_has ls 3 [(0, .ref kc), (1, .ref oc)] := hl
  unfold mf_Chain_agreesWith at hm
  refine lv_iconst (v := (0 : Int32)) hx hb d_Chain_agreesWith_0 (by decide) ?_
  refine lv_istore_n (lv' := [(2, .int (0 : Int32)), (0, .ref kc), (1, .ref oc)]) hx hb d_Chain_agreesWith_1 rfl hl (by decide) rfl (fun ls hl => ?_)
  have L2 : ∀ (fu : Nat) (x2 : Int32) (tg : Nat), mf_Chain_agreesWith_L2 ckq coq fu x2 = some (tg) → ∀ (H : Heap) (locs : List Loc) (ls : Array Slot), va_P D classes [(kc, .inr (2, [.ref ku, .ref kl, .ref kq])), (kq, aI g 66 ckq), (oc, .inr (2, [.ref ou, .ref ol, .ref oq])), (oq, aI g 66 coq)] H → va_D A [(kc, .inr (2, [.ref ku, .ref kl, .ref kq])), (kq, aI g 66 ckq), (oc, .inr (2, [.ref ou, .ref ol, .ref oq])), (oq, aI g 66 coq)] → va_S A s.heap H locs → lv_has ls 3 [(0, .ref kc), (1, .ref oc), (2, .int x2)] → (tg = 0 → ∀ (H : Heap) (locs : List Loc) (ls : Array Slot), va_P D classes [(kc, .inr (2, [.ref ku, .ref kl, .ref kq])), (kq, aI g 66 ckq), (oc, .inr (2, [.ref ou, .ref ol, .ref oq])), (oq, aI g 66 coq)] H → va_D A [(kc, .inr (2, [.ref ku, .ref kl, .ref kq])), (kq, aI g 66 ckq), (oc, .inr (2, [.ref ou, .ref ol, .ref oq])), (oq, aI g 66 coq)] → va_S A s.heap H locs → lv_has ls 3 [] → W p l e rm_Chain_agreesWith s m args below meth c H locs 0 0 Q (F0 m 26 ls [])) → (tg = 1 → ∀ (H : Heap) (locs : List Loc) (ls : Array Slot), va_P D classes [(kc, .inr (2, [.ref ku, .ref kl, .ref kq])), (kq, aI g 66 ckq), (oc, .inr (2, [.ref ou, .ref ol, .ref oq])), (oq, aI g 66 coq)] H → va_D A [(kc, .inr (2, [.ref ku, .ref kl, .ref kq])), (kq, aI g 66 ckq), (oc, .inr (2, [.ref ou, .ref ol, .ref oq])), (oq, aI g 66 coq)] → va_S A s.heap H locs → lv_has ls 3 [] → W p l e rm_Chain_agreesWith s m args below meth c H locs 0 0 Q (F0 m 34 ls [])) → W p l e rm_Chain_agreesWith s m args below meth c H locs 0 0 Q (F0 m 2 ls []) := by
    intro fu
    induction fu with
    | zero => intro x2 tg hm; exact absurd (show (none : Option (Nat)) = some (tg) from hm) (fun h => nomatch h)
    | succ fu ih =>
      intro x2 tg hm  H locs ls hP hD hS hl kx26 kx34
      rw [mf_Chain_agreesWith_L2] at hm
      refine lv_iload_n hx hb d_Chain_agreesWith_2 rfl (lv_at hl 2 rfl) ?_
      refine lv_aload_n hx hb d_Chain_agreesWith_3 rfl (lv_at hl 0 rfl) ?_
      refine va_get (D := D) (ci := 2) (v := .ref kq) (C := R_Chain) (T := F_Chain) (N := 3) hx hb htt i_Chain hown hK hP 0 rfl rfl 2 (by decide) (htt _ kf_Chain_18) (fun _ h9 => h9) rfl d_Chain_agreesWith_4 ?_
      refine sd_alenI (v := (66 : Int32)) hx hb hK hP 1 rfl (by decide) d_Chain_agreesWith_7 ?_
      refine lv_icmp_ge (tgt := 34) hx hb d_Chain_agreesWith_8 (by decide) (fun hc => ?_) (fun hc => ?_)
      · have hm := sd_mt hc hm
        cases hm
        exact kx34 rfl  H locs ls (hP.sub [0, 1, 2, 3] rfl) (hD.sub [0, 1, 2, 3] (by decide) rfl) hS (lv_sub hl [] rfl)
      · have hm := sd_mf hc hm
        refine lv_aload_n hx hb d_Chain_agreesWith_11 rfl (lv_at hl 0 rfl) ?_
        refine va_get (D := D) (ci := 2) (v := .ref kq) (C := R_Chain) (T := F_Chain) (N := 3) hx hb htt i_Chain hown hK hP 0 rfl rfl 2 (by decide) (htt _ kf_Chain_18) (fun _ h9 => h9) rfl d_Chain_agreesWith_12 ?_
        refine lv_iload_n hx hb d_Chain_agreesWith_15 rfl (lv_at hl 2 rfl) ?_
        obtain ⟨h_1, hm⟩ := sd_mg hm
        refine sd_iald hx hb hK hP 1 rfl h_1 d_Chain_agreesWith_16 ?_
        refine lv_aload_n hx hb d_Chain_agreesWith_17 rfl (lv_at hl 1 rfl) ?_
        refine va_get (D := D) (ci := 2) (v := .ref oq) (C := R_Chain) (T := F_Chain) (N := 3) hx hb htt i_Chain hown hK hP 2 rfl rfl 2 (by decide) (htt _ kf_Chain_18) (fun _ h9 => h9) rfl d_Chain_agreesWith_18 ?_
        refine lv_iload_n hx hb d_Chain_agreesWith_21 rfl (lv_at hl 2 rfl) ?_
        obtain ⟨h_2, hm⟩ := sd_mg hm
        refine sd_iald hx hb hK hP 3 rfl h_2 d_Chain_agreesWith_22 ?_
        refine lv_icmp_eq (tgt := 28) hx hb d_Chain_agreesWith_23 (by decide) (fun hc => ?_) (fun hc => ?_)
        · have hm := sd_mt hc hm
          obtain ⟨x2_1, ex2_1, hm⟩ := sd_mlet hm
          refine lv_iinc (v := x2_1) (lv' := [(2, .int x2_1), (0, .ref kc), (1, .ref oc)]) hx hb d_Chain_agreesWith_28 hl (k := 2) rfl (by rw [ex2_1]; rfl) (by decide) rfl (fun ls hl => ?_)
          refine lv_goto (tgt := 2) hx hb d_Chain_agreesWith_31 (by decide) ?_
          exact ih x2_1 tg hm  H locs ls (hP.sub [0, 1, 2, 3] rfl) (hD.sub [0, 1, 2, 3] (by decide) rfl) hS (lv_sub hl [1, 2, 0] rfl) kx26 kx34
        · have hm := sd_mf hc hm
          cases hm
          exact kx26 rfl  H locs ls (hP.sub [0, 1, 2, 3] rfl) (hD.sub [0, 1, 2, 3] (by decide) rfl) hS (lv_sub hl [] rfl)
  obtain ⟨tg, hc, hm⟩ := sd_mb1 hm
  refine L2 F (0 : Int32) tg hc  H locs ls (hP.sub [0, 1, 2, 3] rfl) (hD.sub [0, 1, 2, 3] (by decide) rfl) hS (lv_sub hl [1, 2, 0] rfl) ?_ ?_
  · intro ht  H locs ls hP hD hS hl
    have hm := sd_mt ht hm
    refine lv_iconst (v := (0 : Int32)) hx hb d_Chain_agreesWith_26 (by decide) ?_
    exact sd_z0ret hQ hx hb hr hlk rfl hK (hP.sub [0, 1, 2, 3] rfl) (hD.sub [0, 1, 2, 3] (by decide) rfl) hS (Option.some.inj hm).symm d_Chain_agreesWith_27
  · intro ht  H locs ls hP hD hS hl
    have hm := sd_mf (by rw [ht]; decide) hm
    refine lv_iconst (v := (1 : Int32)) hx hb d_Chain_agreesWith_34 (by decide) ?_
    exact sd_z0ret hQ hx hb hr hlk rfl hK (hP.sub [0, 1, 2, 3] rfl) (hD.sub [0, 1, 2, 3] (by decide) rfl) hS (Option.some.inj hm).symm d_Chain_agreesWith_35
theorem d_Chain_told_0 : decode b_Chain_told 0 = .ok (.aload_n 0, 1) := by decide +kernel
theorem d_Chain_told_1 : decode b_Chain_told 1 = .ok (.getfield 18, 3) := by decide +kernel
theorem d_Chain_told_4 : decode b_Chain_told 4 = .ok (.invokestatic 33, 3) := by decide +kernel
theorem d_Chain_told_7 : decode b_Chain_told 7 = .ok (.iconst 3, 1) := by decide +kernel
theorem d_Chain_told_8 : decode b_Chain_told 8 = .ok (.if_icmp .gt 15, 3) := by decide +kernel
theorem d_Chain_told_11 : decode b_Chain_told 11 = .ok (.aload_n 0, 1) := by decide +kernel
theorem d_Chain_told_12 : decode b_Chain_told 12 = .ok (.getfield 18, 3) := by decide +kernel
theorem d_Chain_told_15 : decode b_Chain_told 15 = .ok (.iconst 3, 1) := by decide +kernel
theorem d_Chain_told_16 : decode b_Chain_told 16 = .ok (.iaload, 1) := by decide +kernel
theorem d_Chain_told_17 : decode b_Chain_told 17 = .ok (.sipush 16383, 3) := by decide +kernel
theorem d_Chain_told_20 : decode b_Chain_told 20 = .ok (.if_icmp .le 7, 3) := by decide +kernel
theorem d_Chain_told_23 : decode b_Chain_told 23 = .ok (.ldc2_w 41, 3) := by decide +kernel
theorem d_Chain_told_26 : decode b_Chain_told 26 = .ok (.lreturn, 1) := by decide +kernel
theorem d_Chain_told_27 : decode b_Chain_told 27 = .ok (.lconst 0, 1) := by decide +kernel
theorem d_Chain_told_28 : decode b_Chain_told 28 = .ok (.lstore_n 1, 1) := by decide +kernel
theorem d_Chain_told_29 : decode b_Chain_told 29 = .ok (.iconst 3, 1) := by decide +kernel
theorem d_Chain_told_30 : decode b_Chain_told 30 = .ok (.istore_n 3, 1) := by decide +kernel
theorem d_Chain_told_31 : decode b_Chain_told 31 = .ok (.iload_n 3, 1) := by decide +kernel
theorem d_Chain_told_32 : decode b_Chain_told 32 = .ok (.ifCond .lt 22, 3) := by decide +kernel
theorem d_Chain_told_35 : decode b_Chain_told 35 = .ok (.lload_n 1, 1) := by decide +kernel
theorem d_Chain_told_36 : decode b_Chain_told 36 = .ok (.bipush 16, 2) := by decide +kernel
theorem d_Chain_told_38 : decode b_Chain_told 38 = .ok (.lshl, 1) := by decide +kernel
theorem d_Chain_told_39 : decode b_Chain_told 39 = .ok (.aload_n 0, 1) := by decide +kernel
theorem d_Chain_told_40 : decode b_Chain_told 40 = .ok (.getfield 18, 3) := by decide +kernel
theorem d_Chain_told_43 : decode b_Chain_told 43 = .ok (.iload_n 3, 1) := by decide +kernel
theorem d_Chain_told_44 : decode b_Chain_told 44 = .ok (.iaload, 1) := by decide +kernel
theorem d_Chain_told_45 : decode b_Chain_told 45 = .ok (.i2l, 1) := by decide +kernel
theorem d_Chain_told_46 : decode b_Chain_told 46 = .ok (.ladd, 1) := by decide +kernel
theorem d_Chain_told_47 : decode b_Chain_told 47 = .ok (.lstore_n 1, 1) := by decide +kernel
theorem d_Chain_told_48 : decode b_Chain_told 48 = .ok (.iinc 3 (-1), 3) := by decide +kernel
theorem d_Chain_told_51 : decode b_Chain_told 51 = .ok (.goto (-20), 3) := by decide +kernel
theorem d_Chain_told_54 : decode b_Chain_told 54 = .ok (.lload_n 1, 1) := by decide +kernel
theorem d_Chain_told_55 : decode b_Chain_told 55 = .ok (.lreturn, 1) := by decide +kernel
def mf_Chain_told_L31 (ckq : Nat → Int32) : Nat → Int64 → Int32 → Option (Int64)
  | 0, _, _ => none
  | fu + 1, x1, x3 => (if x3 < 0 then (some (x1)) else (sd_g (sd_ix x3 66) (sd_let (((x1 <<< ((16 : Int32).toInt64 &&& 63)) + ((ckq x3.toNatClampNeg).toInt64))) fun x1_1 => (sd_let (x3 + (-1 : Int32)) fun x3_1 => ((mf_Chain_told_L31 ckq fu) x1_1 x3_1)))))
def mf_Chain_told (F : Nat) (ckq : Nat → Int32) : Option (Int64) :=
  (sd_b1 (mf_Wide_topOf F 66 ckq) fun r => (if (3 : Int32) < r then (some ((4611686018427387903 : Int64))) else (if (ckq (3 : Int32).toNatClampNeg) ≤ (16383 : Int32) then (sd_b1 (mf_Chain_told_L31 ckq F (0 : Int64) (3 : Int32)) fun rx1 => (some (rx1))) else (some ((4611686018427387903 : Int64))))))
abbrev rm_Chain_told : Room := { frames := 1, cells := 0, slots := 0, locals := 21 }
set_option maxHeartbeats 4000000 in
set_option maxRecDepth 100000 in
theorem ct_Chain_told (l : Launch) (D : va_G) (g : G4) (kc : Nat) (ku : Nat) (kl : Nat) (kq : Nat) (sz : Nat) (ckq : Nat → Int32) (F : Nat) (res : Int64) (hm : mf_Chain_told F ckq = some res) : Met l y_Chain_told (.code y_Chain_told b_Chain_told 4 (some .long) :: sd_tb) rm_Chain_told (sd_PW D g [.ref kc] sz [(kc, .inr (2, [.ref ku, .ref kl, .ref kq])), (kq, aI g 66 ckq)]) (sd_Ql0 D g res [(kc, .inr (2, [.ref ku, .ref kl, .ref kq])), (kq, aI g 66 ckq)] (va_A [(kc, .inr (2, [.ref ku, .ref kl, .ref kq])), (kq, aI g 66 ckq)] sz)) 0 0 (va_A [(kc, .inr (2, [.ref ku, .ref kl, .ref kq])), (kq, aI g 66 ckq)] sz) := by
  refine sd_met (Qf := fun A => sd_Ql0 D g res [(kc, .inr (2, [.ref ku, .ref kl, .ref kq])), (kq, aI g 66 ckq)] A) (own := R_Chain) (by decide +kernel) rfl (Nat.le_of_ble_eq_true rfl) ?_
  intro p e s m args below meth c S hr hlk hK A hA Q hQ H locs hP hD hS ls hl
  have hx := S.1
  have hb := S.2.1
  have hml := S.2.2.1
  have hown := S.2.2.2.1
  have htt := sd_tt S
  replace hl : lv_has ls 4 [(0, .ref kc)] := hl
  unfold mf_Chain_told at hm
  refine lv_aload_n hx hb d_Chain_told_0 rfl (lv_at hl 0 rfl) ?_
  refine va_get (D := D) (ci := 2) (v := .ref kq) (C := R_Chain) (T := F_Chain) (N := 3) hx hb htt i_Chain hown hK hP 0 rfl rfl 2 (by decide) (htt _ kf_Chain_18) (fun _ h9 => h9) rfl d_Chain_told_1 ?_
  obtain ⟨r, hc, hm⟩ := sd_mb1 hm
  refine sd_ci0 (wr := [(kc, .inr (2, [.ref ku, .ref kl, .ref kq]))]) (w2 := [(kc, .inr (2, [.ref ku, .ref kl, .ref kq])), (kq, aI g 66 ckq)]) (sd_runS (rest := []) (As := [.ref kq]) S (ct_Wide_topOf l D g kq 66 (H.size) ckq F (r) hc) kl_Chain_33 (by decide) (by decide) hK hP hD [1] rfl (by decide) rfl hl d_Chain_told_4 rfl (Nat.le_of_ble_eq_true rfl) ⟨Nat.zero_le _, Nat.zero_le _⟩) hP hD hS hA [1] [0] rfl rfl (by decide) (by decide) rfl (fun H locs hP hD hS => ?_)
  refine W.eq (g2 := F0 m 7 ls [.int r]) rfl ?_
  refine lv_iconst (v := (3 : Int32)) hx hb d_Chain_told_7 (by decide) ?_
  refine lv_icmp_gt (tgt := 23) hx hb d_Chain_told_8 (by decide) (fun hc => ?_) (fun hc => ?_)
  · have hm := sd_mt hc hm
    refine sd_ldc2 (v := (4611686018427387903 : Int64)) hx hb hown (htt _ km_Chain_41) d_Chain_told_23 ?_
    exact sd_l0ret hQ hx hb hr hlk hK (hP.sub [0, 1] rfl) (hD.sub [0, 1] (by decide) rfl) hS (Option.some.inj hm).symm d_Chain_told_26
  · have hm := sd_mf hc hm
    refine lv_aload_n hx hb d_Chain_told_11 rfl (lv_at hl 0 rfl) ?_
    refine va_get (D := D) (ci := 2) (v := .ref kq) (C := R_Chain) (T := F_Chain) (N := 3) hx hb htt i_Chain hown hK hP 0 rfl rfl 2 (by decide) (htt _ kf_Chain_18) (fun _ h9 => h9) rfl d_Chain_told_12 ?_
    refine lv_iconst (v := (3 : Int32)) hx hb d_Chain_told_15 (by decide) ?_
    refine sd_iald hx hb hK hP 1 rfl (by decide) d_Chain_told_16 ?_
    refine lv_sipush (v := (16383 : Int32)) hx hb d_Chain_told_17 (by decide) ?_
    refine lv_icmp_le (tgt := 27) hx hb d_Chain_told_20 (by decide) (fun hc => ?_) (fun hc => ?_)
    · have hm := sd_mt hc hm
      refine lv_lconst (v := (0 : Int64)) hx hb d_Chain_told_27 (by decide) ?_
      refine lv_lstore_n (lv' := [(1, .long (0 : Int64)), (0, .ref kc)]) hx hb d_Chain_told_28 rfl hl (by decide) rfl (fun ls hl => ?_)
      refine lv_iconst (v := (3 : Int32)) hx hb d_Chain_told_29 (by decide) ?_
      refine lv_istore_n (lv' := [(3, .int (3 : Int32)), (1, .long (0 : Int64)), (0, .ref kc)]) hx hb d_Chain_told_30 rfl hl (by decide) rfl (fun ls hl => ?_)
      have L31 : ∀ (fu : Nat) (x1 : Int64) (x3 : Int32) (rx1 : Int64), mf_Chain_told_L31 ckq fu x1 x3 = some (rx1) → ∀ (H : Heap) (locs : List Loc) (ls : Array Slot), va_P D classes [(kc, .inr (2, [.ref ku, .ref kl, .ref kq])), (kq, aI g 66 ckq)] H → va_D A [(kc, .inr (2, [.ref ku, .ref kl, .ref kq])), (kq, aI g 66 ckq)] → va_S A s.heap H locs → lv_has ls 4 [(0, .ref kc), (1, .long x1), (3, .int x3)] → (∀ (H : Heap) (locs : List Loc) (ls : Array Slot), va_P D classes [(kc, .inr (2, [.ref ku, .ref kl, .ref kq])), (kq, aI g 66 ckq)] H → va_D A [(kc, .inr (2, [.ref ku, .ref kl, .ref kq])), (kq, aI g 66 ckq)] → va_S A s.heap H locs → lv_has ls 4 [(1, .long rx1)] → W p l e rm_Chain_told s m args below meth c H locs 0 0 Q (F0 m 54 ls [])) → W p l e rm_Chain_told s m args below meth c H locs 0 0 Q (F0 m 31 ls []) := by
        intro fu
        induction fu with
        | zero => intro x1 x3 rx1 hm; exact absurd (show (none : Option (Int64)) = some (rx1) from hm) (fun h => nomatch h)
        | succ fu ih =>
          intro x1 x3 rx1 hm  H locs ls hP hD hS hl kx54
          rw [mf_Chain_told_L31] at hm
          refine lv_iload_n hx hb d_Chain_told_31 rfl (lv_at hl 2 rfl) ?_
          refine lv_if_lt (tgt := 54) hx hb d_Chain_told_32 (by decide) (fun hc => ?_) (fun hc => ?_)
          · have hm := sd_mt hc hm
            cases hm
            exact kx54  H locs ls (hP.sub [0, 1] rfl) (hD.sub [0, 1] (by decide) rfl) hS (lv_sub hl [1] rfl)
          · have hm := sd_mf hc hm
            refine lv_lload_n hx hb d_Chain_told_35 rfl (lv_at hl 1 rfl) ?_
            refine lv_bipush (v := (16 : Int32)) hx hb d_Chain_told_36 (by decide) ?_
            refine lv_lshl hx hb d_Chain_told_38 rfl ?_
            refine lv_aload_n hx hb d_Chain_told_39 rfl (lv_at hl 0 rfl) ?_
            refine va_get (D := D) (ci := 2) (v := .ref kq) (C := R_Chain) (T := F_Chain) (N := 3) hx hb htt i_Chain hown hK hP 0 rfl rfl 2 (by decide) (htt _ kf_Chain_18) (fun _ h9 => h9) rfl d_Chain_told_40 ?_
            refine lv_iload_n hx hb d_Chain_told_43 rfl (lv_at hl 2 rfl) ?_
            obtain ⟨h_1, hm⟩ := sd_mg hm
            refine sd_iald hx hb hK hP 1 rfl h_1 d_Chain_told_44 ?_
            refine lv_i2l hx hb d_Chain_told_45 rfl ?_
            refine lv_ladd hx hb d_Chain_told_46 ?_
            obtain ⟨x1_1, ex1_1, hm⟩ := sd_mlet hm
            refine sd_topj ex1_1 ?_
            refine lv_lstore_n (lv' := [(1, .long x1_1), (0, .ref kc), (3, .int x3)]) hx hb d_Chain_told_47 rfl hl (by decide) rfl (fun ls hl => ?_)
            obtain ⟨x3_1, ex3_1, hm⟩ := sd_mlet hm
            refine lv_iinc (v := x3_1) (lv' := [(3, .int x3_1), (1, .long x1_1), (0, .ref kc)]) hx hb d_Chain_told_48 hl (k := 2) rfl (by rw [ex3_1]; rfl) (by decide) rfl (fun ls hl => ?_)
            refine lv_goto (tgt := 31) hx hb d_Chain_told_51 (by decide) ?_
            exact ih x1_1 x3_1 rx1 hm  H locs ls (hP.sub [0, 1] rfl) (hD.sub [0, 1] (by decide) rfl) hS (lv_sub hl [2, 1, 0] rfl) kx54
      obtain ⟨rx1, hc, hm⟩ := sd_mb1 hm
      refine L31 F (0 : Int64) (3 : Int32) rx1 hc  H locs ls (hP.sub [0, 1] rfl) (hD.sub [0, 1] (by decide) rfl) hS (lv_sub hl [2, 1, 0] rfl) ?_
      intro  H locs ls hP hD hS hl
      refine lv_lload_n hx hb d_Chain_told_54 rfl (lv_at hl 0 rfl) ?_
      exact sd_l0ret hQ hx hb hr hlk hK (hP.sub [0, 1] rfl) (hD.sub [0, 1] (by decide) rfl) hS (Option.some.inj hm).symm d_Chain_told_55
    · have hm := sd_mf hc hm
      refine sd_ldc2 (v := (4611686018427387903 : Int64)) hx hb hown (htt _ km_Chain_41) d_Chain_told_23 ?_
      exact sd_l0ret hQ hx hb hr hlk hK (hP.sub [0, 1] rfl) (hD.sub [0, 1] (by decide) rfl) hS (Option.some.inj hm).symm d_Chain_told_26
theorem d_Desk_partialOfEnds_0 : decode b_Desk_partialOfEnds 0 = .ok (.aload_n 1, 1) := by decide +kernel
theorem d_Desk_partialOfEnds_1 : decode b_Desk_partialOfEnds 1 = .ok (.aload_n 2, 1) := by decide +kernel
theorem d_Desk_partialOfEnds_2 : decode b_Desk_partialOfEnds 2 = .ok (.invokestatic 140, 3) := by decide +kernel
theorem d_Desk_partialOfEnds_5 : decode b_Desk_partialOfEnds 5 = .ok (.ifCond .ne 7, 3) := by decide +kernel
theorem d_Desk_partialOfEnds_8 : decode b_Desk_partialOfEnds 8 = .ok (.ldc2_w 148, 3) := by decide +kernel
theorem d_Desk_partialOfEnds_11 : decode b_Desk_partialOfEnds 11 = .ok (.lreturn, 1) := by decide +kernel
theorem d_Desk_partialOfEnds_12 : decode b_Desk_partialOfEnds 12 = .ok (.iload_n 3, 1) := by decide +kernel
theorem d_Desk_partialOfEnds_13 : decode b_Desk_partialOfEnds 13 = .ok (.ifCond .ne 8, 3) := by decide +kernel
theorem d_Desk_partialOfEnds_16 : decode b_Desk_partialOfEnds 16 = .ok (.aload_n 1, 1) := by decide +kernel
theorem d_Desk_partialOfEnds_17 : decode b_Desk_partialOfEnds 17 = .ok (.invokestatic 144, 3) := by decide +kernel
theorem d_Desk_partialOfEnds_20 : decode b_Desk_partialOfEnds 20 = .ok (.lreturn, 1) := by decide +kernel
theorem d_Desk_partialOfEnds_21 : decode b_Desk_partialOfEnds 21 = .ok (.aload_n 0, 1) := by decide +kernel
theorem d_Desk_partialOfEnds_22 : decode b_Desk_partialOfEnds 22 = .ok (.getfield 30, 3) := by decide +kernel
theorem d_Desk_partialOfEnds_25 : decode b_Desk_partialOfEnds 25 = .ok (.aload_n 1, 1) := by decide +kernel
theorem d_Desk_partialOfEnds_26 : decode b_Desk_partialOfEnds 26 = .ok (.invokevirtual 218, 3) := by decide +kernel
theorem d_Desk_partialOfEnds_29 : decode b_Desk_partialOfEnds 29 = .ok (.aload_n 0, 1) := by decide +kernel
theorem d_Desk_partialOfEnds_30 : decode b_Desk_partialOfEnds 30 = .ok (.getfield 34, 3) := by decide +kernel
theorem d_Desk_partialOfEnds_33 : decode b_Desk_partialOfEnds 33 = .ok (.aload_n 2, 1) := by decide +kernel
theorem d_Desk_partialOfEnds_34 : decode b_Desk_partialOfEnds 34 = .ok (.invokevirtual 218, 3) := by decide +kernel
theorem d_Desk_partialOfEnds_37 : decode b_Desk_partialOfEnds 37 = .ok (.iconst 1, 1) := by decide +kernel
theorem d_Desk_partialOfEnds_38 : decode b_Desk_partialOfEnds 38 = .ok (.istore 4, 2) := by decide +kernel
theorem d_Desk_partialOfEnds_40 : decode b_Desk_partialOfEnds 40 = .ok (.iload 4, 2) := by decide +kernel
theorem d_Desk_partialOfEnds_42 : decode b_Desk_partialOfEnds 42 = .ok (.iload_n 3, 1) := by decide +kernel
theorem d_Desk_partialOfEnds_43 : decode b_Desk_partialOfEnds 43 = .ok (.if_icmp .gt 47, 3) := by decide +kernel
theorem d_Desk_partialOfEnds_46 : decode b_Desk_partialOfEnds 46 = .ok (.aload_n 0, 1) := by decide +kernel
theorem d_Desk_partialOfEnds_47 : decode b_Desk_partialOfEnds 47 = .ok (.getfield 30, 3) := by decide +kernel
theorem d_Desk_partialOfEnds_50 : decode b_Desk_partialOfEnds 50 = .ok (.invokevirtual 222, 3) := by decide +kernel
theorem d_Desk_partialOfEnds_53 : decode b_Desk_partialOfEnds 53 = .ok (.ifCond .eq 27, 3) := by decide +kernel
theorem d_Desk_partialOfEnds_56 : decode b_Desk_partialOfEnds 56 = .ok (.aload_n 0, 1) := by decide +kernel
theorem d_Desk_partialOfEnds_57 : decode b_Desk_partialOfEnds 57 = .ok (.getfield 34, 3) := by decide +kernel
theorem d_Desk_partialOfEnds_60 : decode b_Desk_partialOfEnds 60 = .ok (.invokevirtual 222, 3) := by decide +kernel
theorem d_Desk_partialOfEnds_63 : decode b_Desk_partialOfEnds 63 = .ok (.ifCond .eq 17, 3) := by decide +kernel
theorem d_Desk_partialOfEnds_66 : decode b_Desk_partialOfEnds 66 = .ok (.aload_n 0, 1) := by decide +kernel
theorem d_Desk_partialOfEnds_67 : decode b_Desk_partialOfEnds 67 = .ok (.getfield 30, 3) := by decide +kernel
theorem d_Desk_partialOfEnds_70 : decode b_Desk_partialOfEnds 70 = .ok (.aload_n 0, 1) := by decide +kernel
theorem d_Desk_partialOfEnds_71 : decode b_Desk_partialOfEnds 71 = .ok (.getfield 34, 3) := by decide +kernel
theorem d_Desk_partialOfEnds_74 : decode b_Desk_partialOfEnds 74 = .ok (.invokevirtual 225, 3) := by decide +kernel
theorem d_Desk_partialOfEnds_77 : decode b_Desk_partialOfEnds 77 = .ok (.ifCond .ne 7, 3) := by decide +kernel
theorem d_Desk_partialOfEnds_80 : decode b_Desk_partialOfEnds 80 = .ok (.ldc2_w 148, 3) := by decide +kernel
theorem d_Desk_partialOfEnds_83 : decode b_Desk_partialOfEnds 83 = .ok (.lreturn, 1) := by decide +kernel
theorem d_Desk_partialOfEnds_84 : decode b_Desk_partialOfEnds 84 = .ok (.iinc 4 1, 3) := by decide +kernel
theorem d_Desk_partialOfEnds_87 : decode b_Desk_partialOfEnds 87 = .ok (.goto (-47), 3) := by decide +kernel
theorem d_Desk_partialOfEnds_90 : decode b_Desk_partialOfEnds 90 = .ok (.aload_n 0, 1) := by decide +kernel
theorem d_Desk_partialOfEnds_91 : decode b_Desk_partialOfEnds 91 = .ok (.getfield 30, 3) := by decide +kernel
theorem d_Desk_partialOfEnds_94 : decode b_Desk_partialOfEnds 94 = .ok (.invokevirtual 229, 3) := by decide +kernel
theorem d_Desk_partialOfEnds_97 : decode b_Desk_partialOfEnds 97 = .ok (.lreturn, 1) := by decide +kernel
def mf_Desk_partialOfEnds_L40 (vN : Int32) (F : Nat) : Nat → Int32 → (Nat → Int32) → (Nat → Int32) → (Nat → Int32) → (Nat → Int32) → (Nat → Int32) → (Nat → Int32) → Option (Nat × (Nat → Int32) × (Nat → Int32) × (Nat → Int32) × (Nat → Int32) × (Nat → Int32) × (Nat → Int32))
  | 0, _, _, _, _, _, _, _ => none
  | fu + 1, x4, ukq, uoq, uku_1, ukl_1, uou_1, uol_1 => (if vN < x4 then (some (1, ukq, uoq, uku_1, ukl_1, uou_1, uol_1)) else (sd_b4 (mf_Chain_goOn F uku_1 ukl_1 ukq) fun r_1 ugh ugh1 ukq_1 => (if r_1 = 0 then (some (0, ukq_1, uoq, ugh, ugh1, uou_1, uol_1)) else (sd_b4 (mf_Chain_goOn F uou_1 uol_1 uoq) fun r_2 ugh2 ugh3 uoq_1 => (if r_2 = 0 then (some (0, ukq_1, uoq_1, ugh, ugh1, ugh2, ugh3)) else (sd_b1 (mf_Chain_agreesWith F ukq_1 uoq_1) fun r_3 => (if r_3 = 0 then (some (0, ukq_1, uoq_1, ugh, ugh1, ugh2, ugh3)) else (sd_let (x4 + (1 : Int32)) fun x4_1 => ((mf_Desk_partialOfEnds_L40 vN F fu) x4_1 ukq_1 uoq_1 ugh ugh1 ugh2 ugh3)))))))))
def mf_Desk_partialOfEnds (F : Nat) (vN : Int32) (cku : Nat → Int32) (ckl : Nat → Int32) (ckq : Nat → Int32) (cou : Nat → Int32) (col : Nat → Int32) (coq : Nat → Int32) (cE : Nat → Int32) (cT : Nat → Int32) : Option (Int64 × (Nat → Int32) × (Nat → Int32) × (Nat → Int32) × (Nat → Int32) × (Nat → Int32) × (Nat → Int32)) :=
  (sd_b1 (mf_Teller_haveSameWhole F 68 68 cE cT) fun r => (if r = 0 then (some ((4611686018427387906 : Int64), cku, ckl, ckq, cou, col, coq)) else (if vN = 0 then (sd_b1 (mf_Wide_whole F 68 cE) fun r_5 => (some (r_5, cku, ckl, ckq, cou, col, coq))) else (sd_b2 (mf_Chain_begin F cku ckl cE) fun uku ukl => (sd_b2 (mf_Chain_begin F cou col cT) fun uou uol => (sd_b7 (mf_Desk_partialOfEnds_L40 vN F F (1 : Int32) ckq coq uku ukl uou uol) fun tg rukq ruoq ruku rukl ruou ruol => (if tg = 0 then (some ((4611686018427387906 : Int64), ruku, rukl, rukq, ruou, ruol, ruoq)) else (sd_b1 (mf_Chain_told F rukq) fun r_4 => (some (r_4, ruku, rukl, rukq, ruou, ruol, ruoq))))))))))
abbrev rm_Desk_partialOfEnds : Room := { frames := 3, cells := 0, slots := 0, locals := 101 }
set_option maxHeartbeats 4000000 in
set_option maxRecDepth 100000 in
theorem ct_Desk_partialOfEnds (l : Launch) (D : va_G) (g : G4) (zd : Nat) (rg : Nat) (iv : Nat) (fe : Nat) (kc : Nat) (oc : Nat) (pg : Nat) (zl : Nat) (zh : Nat) (ds : Nat) (ku : Nat) (kl : Nat) (kq : Nat) (ou : Nat) (ol : Nat) (oq : Nat) (aE : Nat) (aT : Nat) (sz : Nat) (vN : Int32) (cku : Nat → Int32) (ckl : Nat → Int32) (ckq : Nat → Int32) (cou : Nat → Int32) (col : Nat → Int32) (coq : Nat → Int32) (cE : Nat → Int32) (cT : Nat → Int32) (F : Nat) (res : Int64 × (Nat → Int32) × (Nat → Int32) × (Nat → Int32) × (Nat → Int32) × (Nat → Int32) × (Nat → Int32)) (hm : mf_Desk_partialOfEnds F vN cku ckl ckq cou col coq cE cT = some res) : Met l y_Desk_partialOfEnds (.code y_Desk_partialOfEnds b_Desk_partialOfEnds 5 (some .long) :: sd_tb) rm_Desk_partialOfEnds (sd_PW D g [.ref zd, .ref aE, .ref aT, .int vN] sz [(zd, .inr (4, [.ref rg, .ref iv, .ref fe, .ref kc, .ref oc, .ref pg, .ref zl, .ref zh, .ref ds])), (kc, .inr (2, [.ref ku, .ref kl, .ref kq])), (ku, aI g 66 cku), (kl, aI g 66 ckl), (kq, aI g 66 ckq), (oc, .inr (2, [.ref ou, .ref ol, .ref oq])), (ou, aI g 66 cou), (ol, aI g 66 col), (oq, aI g 66 coq), (aE, aI g 68 cE), (aT, aI g 68 cT)]) (sd_Ql1M D g res (fun (u : (Nat → Int32) × (Nat → Int32) × (Nat → Int32) × (Nat → Int32) × (Nat → Int32) × (Nat → Int32)) (vv : Nat × Nat × Nat × Nat) => [(zd, .inr (4, [.ref rg, .ref iv, .ref fe, .ref kc, .ref oc, .ref pg, .ref zl, .ref zh, .ref ds])), (kc, .inr (2, [.ref (vv.1), .ref (vv.2.1), .ref kq])), (vv.1, aI g 66 (u.1)), (vv.2.1, aI g 66 (u.2.1)), (kq, aI g 66 (u.2.2.1)), (oc, .inr (2, [.ref (vv.2.2.1), .ref (vv.2.2.2), .ref oq])), (vv.2.2.1, aI g 66 (u.2.2.2.1)), (vv.2.2.2, aI g 66 (u.2.2.2.2.1)), (oq, aI g 66 (u.2.2.2.2.2)), (aE, aI g 68 cE), (aT, aI g 68 cT)]) (va_A [(zd, .inr (4, [.ref rg, .ref iv, .ref fe, .ref kc, .ref oc, .ref pg, .ref zl, .ref zh, .ref ds])), (kc, .inr (2, [.ref ku, .ref kl, .ref kq])), (ku, aI g 66 cku), (kl, aI g 66 ckl), (kq, aI g 66 ckq), (oc, .inr (2, [.ref ou, .ref ol, .ref oq])), (ou, aI g 66 cou), (ol, aI g 66 col), (oq, aI g 66 coq), (aE, aI g 68 cE), (aT, aI g 68 cT)] sz)) 0 0 (va_A [(zd, .inr (4, [.ref rg, .ref iv, .ref fe, .ref kc, .ref oc, .ref pg, .ref zl, .ref zh, .ref ds])), (kc, .inr (2, [.ref ku, .ref kl, .ref kq])), (ku, aI g 66 cku), (kl, aI g 66 ckl), (kq, aI g 66 ckq), (oc, .inr (2, [.ref ou, .ref ol, .ref oq])), (ou, aI g 66 cou), (ol, aI g 66 col), (oq, aI g 66 coq), (aE, aI g 68 cE), (aT, aI g 68 cT)] sz) := by
  refine sd_met (Qf := fun A => sd_Ql1M D g res (fun (u : (Nat → Int32) × (Nat → Int32) × (Nat → Int32) × (Nat → Int32) × (Nat → Int32) × (Nat → Int32)) (vv : Nat × Nat × Nat × Nat) => [(zd, .inr (4, [.ref rg, .ref iv, .ref fe, .ref kc, .ref oc, .ref pg, .ref zl, .ref zh, .ref ds])), (kc, .inr (2, [.ref (vv.1), .ref (vv.2.1), .ref kq])), (vv.1, aI g 66 (u.1)), (vv.2.1, aI g 66 (u.2.1)), (kq, aI g 66 (u.2.2.1)), (oc, .inr (2, [.ref (vv.2.2.1), .ref (vv.2.2.2), .ref oq])), (vv.2.2.1, aI g 66 (u.2.2.2.1)), (vv.2.2.2, aI g 66 (u.2.2.2.2.1)), (oq, aI g 66 (u.2.2.2.2.2)), (aE, aI g 68 cE), (aT, aI g 68 cT)]) A) (own := R_Desk) (by decide +kernel) rfl (Nat.le_of_ble_eq_true rfl) ?_
  intro p e s m args below meth c S hr hlk hK A hA Q hQ H locs hP hD hS ls hl
  have hx := S.1
  have hb := S.2.1
  have hml := S.2.2.1
  have hown := S.2.2.2.1
  have htt := sd_tt S
  replace hl : lv_has ls 5 [(0, .ref zd), (1, .ref aE), (2, .ref aT), (3, .int vN)] := hl
  unfold mf_Desk_partialOfEnds at hm
  refine lv_aload_n hx hb d_Desk_partialOfEnds_0 rfl (lv_at hl 1 rfl) ?_
  refine lv_aload_n hx hb d_Desk_partialOfEnds_1 rfl (lv_at hl 2 rfl) ?_
  obtain ⟨r, hc, hm⟩ := sd_mb1 hm
  refine sd_ci0 (wr := [(zd, .inr (4, [.ref rg, .ref iv, .ref fe, .ref kc, .ref oc, .ref pg, .ref zl, .ref zh, .ref ds])), (kc, .inr (2, [.ref ku, .ref kl, .ref kq])), (ku, aI g 66 cku), (kl, aI g 66 ckl), (kq, aI g 66 ckq), (oc, .inr (2, [.ref ou, .ref ol, .ref oq])), (ou, aI g 66 cou), (ol, aI g 66 col), (oq, aI g 66 coq)]) (w2 := [(zd, .inr (4, [.ref rg, .ref iv, .ref fe, .ref kc, .ref oc, .ref pg, .ref zl, .ref zh, .ref ds])), (kc, .inr (2, [.ref ku, .ref kl, .ref kq])), (ku, aI g 66 cku), (kl, aI g 66 ckl), (kq, aI g 66 ckq), (oc, .inr (2, [.ref ou, .ref ol, .ref oq])), (ou, aI g 66 cou), (ol, aI g 66 col), (oq, aI g 66 coq), (aE, aI g 68 cE), (aT, aI g 68 cT)]) (sd_runS (rest := []) (As := [.ref aE, .ref aT]) S (ct_Teller_haveSameWhole l D g aE aT 68 68 (H.size) cE cT F (r) hc) kl_Desk_140 (by decide) (by decide) hK hP hD [9, 10] rfl (by decide) rfl hl d_Desk_partialOfEnds_2 rfl (Nat.le_of_ble_eq_true rfl) ⟨Nat.zero_le _, Nat.zero_le _⟩) hP hD hS hA [9, 10] [0, 1, 2, 3, 4, 5, 6, 7, 8] rfl rfl (by decide) (by decide) rfl (fun H locs hP hD hS => ?_)
  refine W.eq (g2 := F0 m 5 ls [.int r]) rfl ?_
  refine lv_if_ne (tgt := 12) hx hb d_Desk_partialOfEnds_5 (by decide) (fun hc => ?_) (fun hc => ?_)
  · have hm := sd_mf hc hm
    refine lv_iload_n hx hb d_Desk_partialOfEnds_12 rfl (lv_at hl 3 rfl) ?_
    refine lv_if_ne (tgt := 21) hx hb d_Desk_partialOfEnds_13 (by decide) (fun hc => ?_) (fun hc => ?_)
    · have hm := sd_mf hc hm
      refine lv_aload_n hx hb d_Desk_partialOfEnds_21 rfl (lv_at hl 0 rfl) ?_
      refine va_get (D := D) (ci := 4) (v := .ref kc) (C := R_Desk) (T := F_Desk) (N := 9) hx hb htt i_Desk hown hK hP 0 rfl rfl 3 (by decide) (htt _ kf_Desk_30) (fun _ h9 => h9) rfl d_Desk_partialOfEnds_22 ?_
      refine lv_aload_n hx hb d_Desk_partialOfEnds_25 rfl (lv_at hl 1 rfl) ?_
      obtain ⟨uku, ukl, hc, hm⟩ := sd_mb2 hm
      refine sd_cv1 (wr := [(zd, .inr (4, [.ref rg, .ref iv, .ref fe, .ref kc, .ref oc, .ref pg, .ref zl, .ref zh, .ref ds])), (kq, aI g 66 ckq), (oc, .inr (2, [.ref ou, .ref ol, .ref oq])), (ou, aI g 66 cou), (ol, aI g 66 col), (oq, aI g 66 coq), (aT, aI g 68 cT)]) (w2 := [(zd, .inr (4, [.ref rg, .ref iv, .ref fe, .ref kc, .ref oc, .ref pg, .ref zl, .ref zh, .ref ds])), (kq, aI g 66 ckq), (oc, .inr (2, [.ref ou, .ref ol, .ref oq])), (ou, aI g 66 cou), (ol, aI g 66 col), (oq, aI g 66 coq), (aT, aI g 68 cT), (kc, .inr (2, [.ref ku, .ref kl, .ref kq])), (ku, aI g 66 uku), (kl, aI g 66 ukl), (aE, aI g 68 cE)]) (sd_runV (rest := []) (As := [.ref aE]) S (ct_Chain_begin l D g kc ku kl kq aE (H.size) cku ckl cE F (uku, ukl) hc) kl_Desk_218 (by decide) (by decide) hK hP hD [1, 2, 3, 9] rfl (by decide) rfl hl d_Desk_partialOfEnds_26 rfl (Nat.le_of_ble_eq_true rfl) ⟨Nat.zero_le _, Nat.zero_le _⟩ 1 rfl rfl) hP hD hS hA [1, 2, 3, 9] [0, 4, 5, 6, 7, 8, 10] rfl rfl (by decide) (by decide) rfl (fun H locs hP hD hS => ?_)
      refine lv_aload_n hx hb d_Desk_partialOfEnds_29 rfl (lv_at hl 0 rfl) ?_
      refine va_get (D := D) (ci := 4) (v := .ref oc) (C := R_Desk) (T := F_Desk) (N := 9) hx hb htt i_Desk hown hK hP 0 rfl rfl 4 (by decide) (htt _ kf_Desk_34) (fun _ h9 => h9) rfl d_Desk_partialOfEnds_30 ?_
      refine lv_aload_n hx hb d_Desk_partialOfEnds_33 rfl (lv_at hl 2 rfl) ?_
      obtain ⟨uou, uol, hc, hm⟩ := sd_mb2 hm
      refine sd_cv1 (wr := [(zd, .inr (4, [.ref rg, .ref iv, .ref fe, .ref kc, .ref oc, .ref pg, .ref zl, .ref zh, .ref ds])), (kq, aI g 66 ckq), (oq, aI g 66 coq), (kc, .inr (2, [.ref ku, .ref kl, .ref kq])), (ku, aI g 66 uku), (kl, aI g 66 ukl), (aE, aI g 68 cE)]) (w2 := [(zd, .inr (4, [.ref rg, .ref iv, .ref fe, .ref kc, .ref oc, .ref pg, .ref zl, .ref zh, .ref ds])), (kq, aI g 66 ckq), (oq, aI g 66 coq), (kc, .inr (2, [.ref ku, .ref kl, .ref kq])), (ku, aI g 66 uku), (kl, aI g 66 ukl), (aE, aI g 68 cE), (oc, .inr (2, [.ref ou, .ref ol, .ref oq])), (ou, aI g 66 uou), (ol, aI g 66 uol), (aT, aI g 68 cT)]) (sd_runV (rest := []) (As := [.ref aT]) S (ct_Chain_begin l D g oc ou ol oq aT (H.size) cou col cT F (uou, uol) hc) kl_Desk_218 (by decide) (by decide) hK hP hD [2, 3, 4, 6] rfl (by decide) rfl hl d_Desk_partialOfEnds_34 rfl (Nat.le_of_ble_eq_true rfl) ⟨Nat.zero_le _, Nat.zero_le _⟩ 2 rfl rfl) hP hD hS hA [2, 3, 4, 6] [0, 1, 5, 7, 8, 9, 10] rfl rfl (by decide) (by decide) rfl (fun H locs hP hD hS => ?_)
      refine lv_iconst (v := (1 : Int32)) hx hb d_Desk_partialOfEnds_37 (by decide) ?_
      refine lv_istore (lv' := [(4, .int (1 : Int32)), (0, .ref zd), (1, .ref aE), (2, .ref aT), (3, .int vN)]) hx hb d_Desk_partialOfEnds_38 hl (by decide) rfl (fun ls hl => ?_)
      have L40 : ∀ (fu : Nat) (x4 : Int32) (ukq : Nat → Int32) (uoq : Nat → Int32) (uku_1 : Nat → Int32) (ukl_1 : Nat → Int32) (uou_1 : Nat → Int32) (uol_1 : Nat → Int32) (tg : Nat) (rukq : Nat → Int32) (ruoq : Nat → Int32) (ruku : Nat → Int32) (rukl : Nat → Int32) (ruou : Nat → Int32) (ruol : Nat → Int32), mf_Desk_partialOfEnds_L40 vN F fu x4 ukq uoq uku_1 ukl_1 uou_1 uol_1 = some (tg, rukq, ruoq, ruku, rukl, ruou, ruol) → ∀ (gh : Nat) (gh_1 : Nat) (gh_2 : Nat) (gh_3 : Nat) (H : Heap) (locs : List Loc) (ls : Array Slot), va_P D classes [(zd, .inr (4, [.ref rg, .ref iv, .ref fe, .ref kc, .ref oc, .ref pg, .ref zl, .ref zh, .ref ds])), (kq, aI g 66 ukq), (oq, aI g 66 uoq), (kc, .inr (2, [.ref gh, .ref gh_1, .ref kq])), (gh, aI g 66 uku_1), (gh_1, aI g 66 ukl_1), (aE, aI g 68 cE), (oc, .inr (2, [.ref gh_2, .ref gh_3, .ref oq])), (gh_2, aI g 66 uou_1), (gh_3, aI g 66 uol_1), (aT, aI g 68 cT)] H → va_D A [(zd, .inr (4, [.ref rg, .ref iv, .ref fe, .ref kc, .ref oc, .ref pg, .ref zl, .ref zh, .ref ds])), (kq, aI g 66 ukq), (oq, aI g 66 uoq), (kc, .inr (2, [.ref gh, .ref gh_1, .ref kq])), (gh, aI g 66 uku_1), (gh_1, aI g 66 ukl_1), (aE, aI g 68 cE), (oc, .inr (2, [.ref gh_2, .ref gh_3, .ref oq])), (gh_2, aI g 66 uou_1), (gh_3, aI g 66 uol_1), (aT, aI g 68 cT)] → va_S A s.heap H locs → lv_has ls 5 [(0, .ref zd), (3, .int vN), (4, .int x4)] → (tg = 0 → ∀ (gh_4 : Nat) (gh_5 : Nat) (gh_6 : Nat) (gh_7 : Nat) (H : Heap) (locs : List Loc) (ls : Array Slot), va_P D classes [(zd, .inr (4, [.ref rg, .ref iv, .ref fe, .ref kc, .ref oc, .ref pg, .ref zl, .ref zh, .ref ds])), (kq, aI g 66 rukq), (oq, aI g 66 ruoq), (kc, .inr (2, [.ref gh_4, .ref gh_5, .ref kq])), (gh_4, aI g 66 ruku), (gh_5, aI g 66 rukl), (aE, aI g 68 cE), (oc, .inr (2, [.ref gh_6, .ref gh_7, .ref oq])), (gh_6, aI g 66 ruou), (gh_7, aI g 66 ruol), (aT, aI g 68 cT)] H → va_D A [(zd, .inr (4, [.ref rg, .ref iv, .ref fe, .ref kc, .ref oc, .ref pg, .ref zl, .ref zh, .ref ds])), (kq, aI g 66 rukq), (oq, aI g 66 ruoq), (kc, .inr (2, [.ref gh_4, .ref gh_5, .ref kq])), (gh_4, aI g 66 ruku), (gh_5, aI g 66 rukl), (aE, aI g 68 cE), (oc, .inr (2, [.ref gh_6, .ref gh_7, .ref oq])), (gh_6, aI g 66 ruou), (gh_7, aI g 66 ruol), (aT, aI g 68 cT)] → va_S A s.heap H locs → lv_has ls 5 [] → W p l e rm_Desk_partialOfEnds s m args below meth c H locs 0 0 Q (F0 m 80 ls [])) → (tg = 1 → ∀ (gh_8 : Nat) (gh_9 : Nat) (gh_10 : Nat) (gh_11 : Nat) (H : Heap) (locs : List Loc) (ls : Array Slot), va_P D classes [(zd, .inr (4, [.ref rg, .ref iv, .ref fe, .ref kc, .ref oc, .ref pg, .ref zl, .ref zh, .ref ds])), (kq, aI g 66 rukq), (oq, aI g 66 ruoq), (kc, .inr (2, [.ref gh_8, .ref gh_9, .ref kq])), (gh_8, aI g 66 ruku), (gh_9, aI g 66 rukl), (aE, aI g 68 cE), (oc, .inr (2, [.ref gh_10, .ref gh_11, .ref oq])), (gh_10, aI g 66 ruou), (gh_11, aI g 66 ruol), (aT, aI g 68 cT)] H → va_D A [(zd, .inr (4, [.ref rg, .ref iv, .ref fe, .ref kc, .ref oc, .ref pg, .ref zl, .ref zh, .ref ds])), (kq, aI g 66 rukq), (oq, aI g 66 ruoq), (kc, .inr (2, [.ref gh_8, .ref gh_9, .ref kq])), (gh_8, aI g 66 ruku), (gh_9, aI g 66 rukl), (aE, aI g 68 cE), (oc, .inr (2, [.ref gh_10, .ref gh_11, .ref oq])), (gh_10, aI g 66 ruou), (gh_11, aI g 66 ruol), (aT, aI g 68 cT)] → va_S A s.heap H locs → lv_has ls 5 [(0, .ref zd)] → W p l e rm_Desk_partialOfEnds s m args below meth c H locs 0 0 Q (F0 m 90 ls [])) → W p l e rm_Desk_partialOfEnds s m args below meth c H locs 0 0 Q (F0 m 40 ls []) := by
        intro fu
        induction fu with
        | zero => intro x4 ukq uoq uku_1 ukl_1 uou_1 uol_1 tg rukq ruoq ruku rukl ruou ruol hm; exact absurd (show (none : Option (Nat × (Nat → Int32) × (Nat → Int32) × (Nat → Int32) × (Nat → Int32) × (Nat → Int32) × (Nat → Int32))) = some (tg, rukq, ruoq, ruku, rukl, ruou, ruol) from hm) (fun h => nomatch h)
        | succ fu ih =>
          intro x4 ukq uoq uku_1 ukl_1 uou_1 uol_1 tg rukq ruoq ruku rukl ruou ruol hm gh gh_1 gh_2 gh_3 H locs ls hP hD hS hl kx80 kx90
          rw [mf_Desk_partialOfEnds_L40] at hm
          refine lv_iload hx hb d_Desk_partialOfEnds_40 (lv_at hl 2 rfl) ?_
          refine lv_iload_n hx hb d_Desk_partialOfEnds_42 rfl (lv_at hl 1 rfl) ?_
          refine lv_icmp_gt (tgt := 90) hx hb d_Desk_partialOfEnds_43 (by decide) (fun hc => ?_) (fun hc => ?_)
          · have hm := sd_mt hc hm
            cases hm
            exact kx90 rfl gh gh_1 gh_2 gh_3 H locs ls (hP.sub [0, 1, 2, 3, 4, 5, 6, 7, 8, 9, 10] rfl) (hD.sub [0, 1, 2, 3, 4, 5, 6, 7, 8, 9, 10] (by decide) rfl) hS (lv_sub hl [0] rfl)
          · have hm := sd_mf hc hm
            refine lv_aload_n hx hb d_Desk_partialOfEnds_46 rfl (lv_at hl 0 rfl) ?_
            refine va_get (D := D) (ci := 4) (v := .ref kc) (C := R_Desk) (T := F_Desk) (N := 9) hx hb htt i_Desk hown hK hP 0 rfl rfl 3 (by decide) (htt _ kf_Desk_30) (fun _ h9 => h9) rfl d_Desk_partialOfEnds_47 ?_
            obtain ⟨r_1, ugh, ugh1, ukq_1, hc, hm⟩ := sd_mb4 hm
            refine sd_ci1M (wr := [(zd, .inr (4, [.ref rg, .ref iv, .ref fe, .ref kc, .ref oc, .ref pg, .ref zl, .ref zh, .ref ds])), (oq, aI g 66 uoq), (aE, aI g 68 cE), (oc, .inr (2, [.ref gh_2, .ref gh_3, .ref oq])), (gh_2, aI g 66 uou_1), (gh_3, aI g 66 uol_1), (aT, aI g 68 cT)]) (w2 := fun v => [(zd, .inr (4, [.ref rg, .ref iv, .ref fe, .ref kc, .ref oc, .ref pg, .ref zl, .ref zh, .ref ds])), (oq, aI g 66 uoq), (aE, aI g 68 cE), (oc, .inr (2, [.ref gh_2, .ref gh_3, .ref oq])), (gh_2, aI g 66 uou_1), (gh_3, aI g 66 uol_1), (aT, aI g 68 cT), (kc, .inr (2, [.ref v.1, .ref v.2, .ref kq])), (v.1, aI g 66 ugh), (v.2, aI g 66 ugh1), (kq, aI g 66 ukq_1)]) (sd_runV (rest := []) (As := []) S (ct_Chain_goOn l D g kc gh gh_1 kq (H.size) uku_1 ukl_1 ukq F (r_1, ugh, ugh1, ukq_1) hc) kl_Desk_222 (by decide) (by decide) hK hP hD [3, 4, 5, 1] rfl (by decide) rfl hl d_Desk_partialOfEnds_50 rfl (Nat.le_of_ble_eq_true rfl) ⟨Nat.zero_le _, Nat.zero_le _⟩ 3 rfl rfl) hP hD hS hA [3, 4, 5, 1] [0, 2, 6, 7, 8, 9, 10] rfl rfl (by decide) (by decide) (fun _ => rfl) (fun v H locs hP hD hS => ?_)
            obtain ⟨na, na_1⟩ := v
            replace hP : va_P D classes [(zd, .inr (4, [.ref rg, .ref iv, .ref fe, .ref kc, .ref oc, .ref pg, .ref zl, .ref zh, .ref ds])), (oq, aI g 66 uoq), (aE, aI g 68 cE), (oc, .inr (2, [.ref gh_2, .ref gh_3, .ref oq])), (gh_2, aI g 66 uou_1), (gh_3, aI g 66 uol_1), (aT, aI g 68 cT), (kc, .inr (2, [.ref na, .ref na_1, .ref kq])), (na, aI g 66 ugh), (na_1, aI g 66 ugh1), (kq, aI g 66 ukq_1)] H := hP
            replace hD : va_D A [(zd, .inr (4, [.ref rg, .ref iv, .ref fe, .ref kc, .ref oc, .ref pg, .ref zl, .ref zh, .ref ds])), (oq, aI g 66 uoq), (aE, aI g 68 cE), (oc, .inr (2, [.ref gh_2, .ref gh_3, .ref oq])), (gh_2, aI g 66 uou_1), (gh_3, aI g 66 uol_1), (aT, aI g 68 cT), (kc, .inr (2, [.ref na, .ref na_1, .ref kq])), (na, aI g 66 ugh), (na_1, aI g 66 ugh1), (kq, aI g 66 ukq_1)] := hD
            refine W.eq (g2 := F0 m 53 ls [.int r_1]) rfl ?_
            refine lv_if_eq (tgt := 80) hx hb d_Desk_partialOfEnds_53 (by decide) (fun hc => ?_) (fun hc => ?_)
            · have hm := sd_mt hc hm
              cases hm
              exact kx80 rfl na na_1 gh_2 gh_3 H locs ls (hP.sub [0, 10, 1, 7, 8, 9, 2, 3, 4, 5, 6] rfl) (hD.sub [0, 10, 1, 7, 8, 9, 2, 3, 4, 5, 6] (by decide) rfl) hS (lv_sub hl [] rfl)
            · have hm := sd_mf hc hm
              refine lv_aload_n hx hb d_Desk_partialOfEnds_56 rfl (lv_at hl 0 rfl) ?_
              refine va_get (D := D) (ci := 4) (v := .ref oc) (C := R_Desk) (T := F_Desk) (N := 9) hx hb htt i_Desk hown hK hP 0 rfl rfl 4 (by decide) (htt _ kf_Desk_34) (fun _ h9 => h9) rfl d_Desk_partialOfEnds_57 ?_
              obtain ⟨r_2, ugh2, ugh3, uoq_1, hc, hm⟩ := sd_mb4 hm
              refine sd_ci1M (wr := [(zd, .inr (4, [.ref rg, .ref iv, .ref fe, .ref kc, .ref oc, .ref pg, .ref zl, .ref zh, .ref ds])), (aE, aI g 68 cE), (aT, aI g 68 cT), (kc, .inr (2, [.ref na, .ref na_1, .ref kq])), (na, aI g 66 ugh), (na_1, aI g 66 ugh1), (kq, aI g 66 ukq_1)]) (w2 := fun v => [(zd, .inr (4, [.ref rg, .ref iv, .ref fe, .ref kc, .ref oc, .ref pg, .ref zl, .ref zh, .ref ds])), (aE, aI g 68 cE), (aT, aI g 68 cT), (kc, .inr (2, [.ref na, .ref na_1, .ref kq])), (na, aI g 66 ugh), (na_1, aI g 66 ugh1), (kq, aI g 66 ukq_1), (oc, .inr (2, [.ref v.1, .ref v.2, .ref oq])), (v.1, aI g 66 ugh2), (v.2, aI g 66 ugh3), (oq, aI g 66 uoq_1)]) (sd_runV (rest := []) (As := []) S (ct_Chain_goOn l D g oc gh_2 gh_3 oq (H.size) uou_1 uol_1 uoq F (r_2, ugh2, ugh3, uoq_1) hc) kl_Desk_222 (by decide) (by decide) hK hP hD [3, 4, 5, 1] rfl (by decide) rfl hl d_Desk_partialOfEnds_60 rfl (Nat.le_of_ble_eq_true rfl) ⟨Nat.zero_le _, Nat.zero_le _⟩ 3 rfl rfl) hP hD hS hA [3, 4, 5, 1] [0, 2, 6, 7, 8, 9, 10] rfl rfl (by decide) (by decide) (fun _ => rfl) (fun v H locs hP hD hS => ?_)
              obtain ⟨na_2, na_3⟩ := v
              replace hP : va_P D classes [(zd, .inr (4, [.ref rg, .ref iv, .ref fe, .ref kc, .ref oc, .ref pg, .ref zl, .ref zh, .ref ds])), (aE, aI g 68 cE), (aT, aI g 68 cT), (kc, .inr (2, [.ref na, .ref na_1, .ref kq])), (na, aI g 66 ugh), (na_1, aI g 66 ugh1), (kq, aI g 66 ukq_1), (oc, .inr (2, [.ref na_2, .ref na_3, .ref oq])), (na_2, aI g 66 ugh2), (na_3, aI g 66 ugh3), (oq, aI g 66 uoq_1)] H := hP
              replace hD : va_D A [(zd, .inr (4, [.ref rg, .ref iv, .ref fe, .ref kc, .ref oc, .ref pg, .ref zl, .ref zh, .ref ds])), (aE, aI g 68 cE), (aT, aI g 68 cT), (kc, .inr (2, [.ref na, .ref na_1, .ref kq])), (na, aI g 66 ugh), (na_1, aI g 66 ugh1), (kq, aI g 66 ukq_1), (oc, .inr (2, [.ref na_2, .ref na_3, .ref oq])), (na_2, aI g 66 ugh2), (na_3, aI g 66 ugh3), (oq, aI g 66 uoq_1)] := hD
              refine W.eq (g2 := F0 m 63 ls [.int r_2]) rfl ?_
              refine lv_if_eq (tgt := 80) hx hb d_Desk_partialOfEnds_63 (by decide) (fun hc => ?_) (fun hc => ?_)
              · have hm := sd_mt hc hm
                cases hm
                exact kx80 rfl na na_1 na_2 na_3 H locs ls (hP.sub [0, 6, 10, 3, 4, 5, 1, 7, 8, 9, 2] rfl) (hD.sub [0, 6, 10, 3, 4, 5, 1, 7, 8, 9, 2] (by decide) rfl) hS (lv_sub hl [] rfl)
              · have hm := sd_mf hc hm
                refine lv_aload_n hx hb d_Desk_partialOfEnds_66 rfl (lv_at hl 0 rfl) ?_
                refine va_get (D := D) (ci := 4) (v := .ref kc) (C := R_Desk) (T := F_Desk) (N := 9) hx hb htt i_Desk hown hK hP 0 rfl rfl 3 (by decide) (htt _ kf_Desk_30) (fun _ h9 => h9) rfl d_Desk_partialOfEnds_67 ?_
                refine lv_aload_n hx hb d_Desk_partialOfEnds_70 rfl (lv_at hl 0 rfl) ?_
                refine va_get (D := D) (ci := 4) (v := .ref oc) (C := R_Desk) (T := F_Desk) (N := 9) hx hb htt i_Desk hown hK hP 0 rfl rfl 4 (by decide) (htt _ kf_Desk_34) (fun _ h9 => h9) rfl d_Desk_partialOfEnds_71 ?_
                obtain ⟨r_3, hc, hm⟩ := sd_mb1 hm
                refine sd_ci0 (wr := [(zd, .inr (4, [.ref rg, .ref iv, .ref fe, .ref kc, .ref oc, .ref pg, .ref zl, .ref zh, .ref ds])), (aE, aI g 68 cE), (aT, aI g 68 cT), (na, aI g 66 ugh), (na_1, aI g 66 ugh1), (na_2, aI g 66 ugh2), (na_3, aI g 66 ugh3)]) (w2 := [(zd, .inr (4, [.ref rg, .ref iv, .ref fe, .ref kc, .ref oc, .ref pg, .ref zl, .ref zh, .ref ds])), (aE, aI g 68 cE), (aT, aI g 68 cT), (na, aI g 66 ugh), (na_1, aI g 66 ugh1), (na_2, aI g 66 ugh2), (na_3, aI g 66 ugh3), (kc, .inr (2, [.ref na, .ref na_1, .ref kq])), (kq, aI g 66 ukq_1), (oc, .inr (2, [.ref na_2, .ref na_3, .ref oq])), (oq, aI g 66 uoq_1)]) (sd_runV (rest := []) (As := [.ref oc]) S (ct_Chain_agreesWith l D g kc na na_1 kq oc na_2 na_3 oq (H.size) ukq_1 uoq_1 F (r_3) hc) kl_Desk_225 (by decide) (by decide) hK hP hD [3, 6, 7, 10] rfl (by decide) rfl hl d_Desk_partialOfEnds_74 rfl (Nat.le_of_ble_eq_true rfl) ⟨Nat.zero_le _, Nat.zero_le _⟩ 3 rfl rfl) hP hD hS hA [3, 6, 7, 10] [0, 1, 2, 4, 5, 8, 9] rfl rfl (by decide) (by decide) rfl (fun H locs hP hD hS => ?_)
                refine W.eq (g2 := F0 m 77 ls [.int r_3]) rfl ?_
                refine lv_if_ne (tgt := 84) hx hb d_Desk_partialOfEnds_77 (by decide) (fun hc => ?_) (fun hc => ?_)
                · have hm := sd_mf hc hm
                  obtain ⟨x4_1, ex4_1, hm⟩ := sd_mlet hm
                  refine lv_iinc (v := x4_1) (lv' := [(4, .int x4_1), (0, .ref zd), (3, .int vN)]) hx hb d_Desk_partialOfEnds_84 hl (k := 2) rfl (by rw [ex4_1]; rfl) (by decide) rfl (fun ls hl => ?_)
                  refine lv_goto (tgt := 40) hx hb d_Desk_partialOfEnds_87 (by decide) ?_
                  exact ih x4_1 ukq_1 uoq_1 ugh ugh1 ugh2 ugh3 tg rukq ruoq ruku rukl ruou ruol hm na na_1 na_2 na_3 H locs ls (hP.sub [0, 8, 10, 7, 3, 4, 1, 9, 5, 6, 2] rfl) (hD.sub [0, 8, 10, 7, 3, 4, 1, 9, 5, 6, 2] (by decide) rfl) hS (lv_sub hl [1, 2, 0] rfl) kx80 kx90
                · have hm := sd_mt hc hm
                  cases hm
                  exact kx80 rfl na na_1 na_2 na_3 H locs ls (hP.sub [0, 8, 10, 7, 3, 4, 1, 9, 5, 6, 2] rfl) (hD.sub [0, 8, 10, 7, 3, 4, 1, 9, 5, 6, 2] (by decide) rfl) hS (lv_sub hl [] rfl)
      obtain ⟨tg, rukq, ruoq, ruku, rukl, ruou, ruol, hc, hm⟩ := sd_mb7 hm
      refine L40 F (1 : Int32) ckq coq uku ukl uou uol tg rukq ruoq ruku rukl ruou ruol hc ku kl ou ol H locs ls (hP.sub [0, 1, 2, 3, 4, 5, 6, 7, 8, 9, 10] rfl) (hD.sub [0, 1, 2, 3, 4, 5, 6, 7, 8, 9, 10] (by decide) rfl) hS (lv_sub hl [1, 4, 0] rfl) ?_ ?_
      · intro ht gh_4 gh_5 gh_6 gh_7 H locs ls hP hD hS hl
        have hm := sd_mt ht hm
        refine sd_ldc2 (v := (4611686018427387906 : Int64)) hx hb hown (htt _ km_Desk_148) d_Desk_partialOfEnds_80 ?_
        exact sd_l1Mret (u := (ruku, rukl, rukq, ruou, ruol, ruoq)) (v := (gh_4, gh_5, gh_6, gh_7)) hQ hx hb hr hlk hK (hP.sub [0, 3, 4, 5, 1, 7, 8, 9, 2, 6, 10] rfl) (hD.sub [0, 3, 4, 5, 1, 7, 8, 9, 2, 6, 10] (by decide) rfl) hS (Option.some.inj hm).symm d_Desk_partialOfEnds_83
      · intro ht gh_8 gh_9 gh_10 gh_11 H locs ls hP hD hS hl
        have hm := sd_mf (by rw [ht]; decide) hm
        refine lv_aload_n hx hb d_Desk_partialOfEnds_90 rfl (lv_at hl 0 rfl) ?_
        refine va_get (D := D) (ci := 4) (v := .ref kc) (C := R_Desk) (T := F_Desk) (N := 9) hx hb htt i_Desk hown hK hP 0 rfl rfl 3 (by decide) (htt _ kf_Desk_30) (fun _ h9 => h9) rfl d_Desk_partialOfEnds_91 ?_
        obtain ⟨r_4, hc, hm⟩ := sd_mb1 hm
        refine sd_cl0 (wr := [(zd, .inr (4, [.ref rg, .ref iv, .ref fe, .ref kc, .ref oc, .ref pg, .ref zl, .ref zh, .ref ds])), (oq, aI g 66 ruoq), (gh_8, aI g 66 ruku), (gh_9, aI g 66 rukl), (aE, aI g 68 cE), (oc, .inr (2, [.ref gh_10, .ref gh_11, .ref oq])), (gh_10, aI g 66 ruou), (gh_11, aI g 66 ruol), (aT, aI g 68 cT)]) (w2 := [(zd, .inr (4, [.ref rg, .ref iv, .ref fe, .ref kc, .ref oc, .ref pg, .ref zl, .ref zh, .ref ds])), (oq, aI g 66 ruoq), (gh_8, aI g 66 ruku), (gh_9, aI g 66 rukl), (aE, aI g 68 cE), (oc, .inr (2, [.ref gh_10, .ref gh_11, .ref oq])), (gh_10, aI g 66 ruou), (gh_11, aI g 66 ruol), (aT, aI g 68 cT), (kc, .inr (2, [.ref gh_8, .ref gh_9, .ref kq])), (kq, aI g 66 rukq)]) (sd_runV (rest := []) (As := []) S (ct_Chain_told l D g kc gh_8 gh_9 kq (H.size) rukq F (r_4) hc) kl_Desk_229 (by decide) (by decide) hK hP hD [3, 1] rfl (by decide) rfl hl d_Desk_partialOfEnds_94 rfl (Nat.le_of_ble_eq_true rfl) ⟨Nat.zero_le _, Nat.zero_le _⟩ 3 rfl rfl) hP hD hS hA [3, 1] [0, 2, 4, 5, 6, 7, 8, 9, 10] rfl rfl (by decide) (by decide) rfl (fun H locs hP hD hS => ?_)
        refine W.eq (g2 := F0 m 97 ls [.long r_4]) rfl ?_
        exact sd_l1Mret (u := (ruku, rukl, rukq, ruou, ruol, ruoq)) (v := (gh_8, gh_9, gh_10, gh_11)) hQ hx hb hr hlk hK (hP.sub [0, 9, 2, 3, 10, 5, 6, 7, 1, 4, 8] rfl) (hD.sub [0, 9, 2, 3, 10, 5, 6, 7, 1, 4, 8] (by decide) rfl) hS (Option.some.inj hm).symm d_Desk_partialOfEnds_97
    · have hm := sd_mt hc hm
      refine lv_aload_n hx hb d_Desk_partialOfEnds_16 rfl (lv_at hl 1 rfl) ?_
      obtain ⟨r_5, hc, hm⟩ := sd_mb1 hm
      refine sd_cl0 (wr := [(zd, .inr (4, [.ref rg, .ref iv, .ref fe, .ref kc, .ref oc, .ref pg, .ref zl, .ref zh, .ref ds])), (kc, .inr (2, [.ref ku, .ref kl, .ref kq])), (ku, aI g 66 cku), (kl, aI g 66 ckl), (kq, aI g 66 ckq), (oc, .inr (2, [.ref ou, .ref ol, .ref oq])), (ou, aI g 66 cou), (ol, aI g 66 col), (oq, aI g 66 coq), (aT, aI g 68 cT)]) (w2 := [(zd, .inr (4, [.ref rg, .ref iv, .ref fe, .ref kc, .ref oc, .ref pg, .ref zl, .ref zh, .ref ds])), (kc, .inr (2, [.ref ku, .ref kl, .ref kq])), (ku, aI g 66 cku), (kl, aI g 66 ckl), (kq, aI g 66 ckq), (oc, .inr (2, [.ref ou, .ref ol, .ref oq])), (ou, aI g 66 cou), (ol, aI g 66 col), (oq, aI g 66 coq), (aT, aI g 68 cT), (aE, aI g 68 cE)]) (sd_runS (rest := []) (As := [.ref aE]) S (ct_Wide_whole l D g aE 68 (H.size) cE F (r_5) hc) kl_Desk_144 (by decide) (by decide) hK hP hD [9] rfl (by decide) rfl hl d_Desk_partialOfEnds_17 rfl (Nat.le_of_ble_eq_true rfl) ⟨Nat.zero_le _, Nat.zero_le _⟩) hP hD hS hA [9] [0, 1, 2, 3, 4, 5, 6, 7, 8, 10] rfl rfl (by decide) (by decide) rfl (fun H locs hP hD hS => ?_)
      refine W.eq (g2 := F0 m 20 ls [.long r_5]) rfl ?_
      exact sd_l1Mret (u := (cku, ckl, ckq, cou, col, coq)) (v := (ku, kl, ou, ol)) hQ hx hb hr hlk hK (hP.sub [0, 1, 2, 3, 4, 5, 6, 7, 8, 10, 9] rfl) (hD.sub [0, 1, 2, 3, 4, 5, 6, 7, 8, 10, 9] (by decide) rfl) hS (Option.some.inj hm).symm d_Desk_partialOfEnds_20
  · have hm := sd_mt hc hm
    refine sd_ldc2 (v := (4611686018427387906 : Int64)) hx hb hown (htt _ km_Desk_148) d_Desk_partialOfEnds_8 ?_
    exact sd_l1Mret (u := (cku, ckl, ckq, cou, col, coq)) (v := (ku, kl, ou, ol)) hQ hx hb hr hlk hK (hP.sub [0, 1, 2, 3, 4, 5, 6, 7, 8, 9, 10] rfl) (hD.sub [0, 1, 2, 3, 4, 5, 6, 7, 8, 9, 10] (by decide) rfl) hS (Option.some.inj hm).symm d_Desk_partialOfEnds_11
theorem d_Desk_partial_0 : decode b_Desk_partial 0 = .ok (.iload_n 1, 1) := by decide +kernel
theorem d_Desk_partial_1 : decode b_Desk_partial 1 = .ok (.invokestatic 56, 3) := by decide +kernel
theorem d_Desk_partial_4 : decode b_Desk_partial 4 = .ok (.ifCond .eq 13, 3) := by decide +kernel
theorem d_Desk_partial_7 : decode b_Desk_partial 7 = .ok (.iload_n 2, 1) := by decide +kernel
theorem d_Desk_partial_8 : decode b_Desk_partial 8 = .ok (.ifCond .lt 9, 3) := by decide +kernel
theorem d_Desk_partial_11 : decode b_Desk_partial 11 = .ok (.iload_n 2, 1) := by decide +kernel
theorem d_Desk_partial_12 : decode b_Desk_partial 12 = .ok (.bipush 24, 2) := by decide +kernel
theorem d_Desk_partial_14 : decode b_Desk_partial 14 = .ok (.if_icmp .le 7, 3) := by decide +kernel
theorem d_Desk_partial_17 : decode b_Desk_partial 17 = .ok (.ldc2_w 171, 3) := by decide +kernel
theorem d_Desk_partial_20 : decode b_Desk_partial 20 = .ok (.lreturn, 1) := by decide +kernel
theorem d_Desk_partial_21 : decode b_Desk_partial 21 = .ok (.aload_n 0, 1) := by decide +kernel
theorem d_Desk_partial_22 : decode b_Desk_partial 22 = .ok (.getfield 11, 3) := by decide +kernel
theorem d_Desk_partial_25 : decode b_Desk_partial 25 = .ok (.iload_n 1, 1) := by decide +kernel
theorem d_Desk_partial_26 : decode b_Desk_partial 26 = .ok (.aaload, 1) := by decide +kernel
theorem d_Desk_partial_27 : decode b_Desk_partial 27 = .ok (.astore_n 3, 1) := by decide +kernel
theorem d_Desk_partial_28 : decode b_Desk_partial 28 = .ok (.aload_n 3, 1) := by decide +kernel
theorem d_Desk_partial_29 : decode b_Desk_partial 29 = .ok (.invokevirtual 78, 3) := by decide +kernel
theorem d_Desk_partial_32 : decode b_Desk_partial 32 = .ok (.ifCond .eq 16, 3) := by decide +kernel
theorem d_Desk_partial_35 : decode b_Desk_partial 35 = .ok (.aload_n 3, 1) := by decide +kernel
theorem d_Desk_partial_36 : decode b_Desk_partial 36 = .ok (.invokevirtual 82, 3) := by decide +kernel
theorem d_Desk_partial_39 : decode b_Desk_partial 39 = .ok (.aload_n 3, 1) := by decide +kernel
theorem d_Desk_partial_40 : decode b_Desk_partial 40 = .ok (.invokevirtual 86, 3) := by decide +kernel
theorem d_Desk_partial_43 : decode b_Desk_partial 43 = .ok (.iload_n 2, 1) := by decide +kernel
theorem d_Desk_partial_44 : decode b_Desk_partial 44 = .ok (.invokestatic 173, 3) := by decide +kernel
theorem d_Desk_partial_47 : decode b_Desk_partial 47 = .ok (.lreturn, 1) := by decide +kernel
theorem d_Desk_partial_48 : decode b_Desk_partial 48 = .ok (.aload_n 0, 1) := by decide +kernel
theorem d_Desk_partial_49 : decode b_Desk_partial 49 = .ok (.getfield 23, 3) := by decide +kernel
theorem d_Desk_partial_52 : decode b_Desk_partial 52 = .ok (.aload_n 3, 1) := by decide +kernel
theorem d_Desk_partial_53 : decode b_Desk_partial 53 = .ok (.invokevirtual 117, 3) := by decide +kernel
theorem d_Desk_partial_56 : decode b_Desk_partial 56 = .ok (.aload_n 0, 1) := by decide +kernel
theorem d_Desk_partial_57 : decode b_Desk_partial 57 = .ok (.aload_n 3, 1) := by decide +kernel
theorem d_Desk_partial_58 : decode b_Desk_partial 58 = .ok (.getfield 134, 3) := by decide +kernel
theorem d_Desk_partial_61 : decode b_Desk_partial 61 = .ok (.aload_n 3, 1) := by decide +kernel
theorem d_Desk_partial_62 : decode b_Desk_partial 62 = .ok (.getfield 137, 3) := by decide +kernel
theorem d_Desk_partial_65 : decode b_Desk_partial 65 = .ok (.iload_n 2, 1) := by decide +kernel
theorem d_Desk_partial_66 : decode b_Desk_partial 66 = .ok (.invokevirtual 177, 3) := by decide +kernel
theorem d_Desk_partial_69 : decode b_Desk_partial 69 = .ok (.lreturn, 1) := by decide +kernel
def mf_Desk_partial (F : Nat) (vI : Int32) (vN : Int32) (cRg : Nat → Option Nat) (fR : Int64) (fQ : Int64) (cfr : Nat → Int32) (cft : Nat → Int32) (cfs : Nat → Int32) (cku : Nat → Int32) (ckl : Nat → Int32) (ckq : Nat → Int32) (cou : Nat → Int32) (col : Nat → Int32) (coq : Nat → Int32) (xk : Int32) (xn : Int32) (xT : Nat → Int64) (xB : Nat → Int64) (xR : Nat → Int64) (xL : Nat → Int32) (xH : Nat → Int32) : Option (Int64 × Int64 × Int64 × (Nat → Int32) × (Nat → Int32) × (Nat → Int32) × (Nat → Int32) × (Nat → Int32) × (Nat → Int32) × (Nat → Int32) × (Nat → Int32) × (Nat → Int32) × Int32 × (Nat → Int32) × (Nat → Int32)) :=
  (sd_b1 (mf_Desk_isRegister F vI) fun r => (if r = 0 then (some ((4611686018427387905 : Int64), fR, fQ, cfr, cft, cfs, cku, ckl, ckq, cou, col, coq, xk, xL, xH)) else (if vN < 0 then (some ((4611686018427387905 : Int64), fR, fQ, cfr, cft, cfs, cku, ckl, ckq, cou, col, coq, xk, xL, xH)) else (if vN ≤ (24 : Int32) then (sd_g (sd_ix vI 8) (sd_b1 (mf_Sum_isFraction F xk xn xR) fun r_1 => (if r_1 = 0 then (sd_b8 (mf_EndsFinder_find F fR fQ cfr cft cfs xk xn xT xB xR xL xH) fun ufe ufe_1 ufr uft ufs uxs uxal uxah => (sd_b7 (mf_Desk_partialOfEnds F vN cku ckl ckq cou col coq uxal uxah) fun r_2 uku ukl ukq uou uol uoq => (some (r_2, ufe, ufe_1, ufr, uft, ufs, uku, ukl, ukq, uou, uol, uoq, uxs, uxal, uxah)))) else (sd_b1 (mf_Sum_top F xk xn xT) fun r_3 => (sd_b1 (mf_Sum_bottom F xk xn xB) fun r_4 => (sd_b1 (mf_Desk_partialOfFraction F r_3 r_4 vN) fun r_5 => (some (r_5, fR, fQ, cfr, cft, cfs, cku, ckl, ckq, cou, col, coq, xk, xL, xH)))))))) else (some ((4611686018427387905 : Int64), fR, fQ, cfr, cft, cfs, cku, ckl, ckq, cou, col, coq, xk, xL, xH))))))
abbrev rm_Desk_partial : Room := { frames := 5, cells := 0, slots := 0, locals := 139 }
set_option maxHeartbeats 4000000 in
set_option maxRecDepth 100000 in
theorem ct_Desk_partial (l : Launch) (D : va_G) (g : G4) (zd : Nat) (rg : Nat) (iv : Nat) (fe : Nat) (kc : Nat) (oc : Nat) (pg : Nat) (zl : Nat) (zh : Nat) (ds : Nat) (fr : Nat) (ft : Nat) (fs : Nat) (ku : Nat) (kl : Nat) (kq : Nat) (ou : Nat) (ol : Nat) (oq : Nat) (xs : Nat) (xat : Nat) (xab : Nat) (xar : Nat) (xal : Nat) (xah : Nat) (sz : Nat) (vI : Int32) (vN : Int32) (cRg : Nat → Option Nat) (fR : Int64) (fQ : Int64) (cfr : Nat → Int32) (cft : Nat → Int32) (cfs : Nat → Int32) (cku : Nat → Int32) (ckl : Nat → Int32) (ckq : Nat → Int32) (cou : Nat → Int32) (col : Nat → Int32) (coq : Nat → Int32) (xk : Int32) (xn : Int32) (xT : Nat → Int64) (xB : Nat → Int64) (xR : Nat → Int64) (xL : Nat → Int32) (xH : Nat → Int32) (F : Nat) (res : Int64 × Int64 × Int64 × (Nat → Int32) × (Nat → Int32) × (Nat → Int32) × (Nat → Int32) × (Nat → Int32) × (Nat → Int32) × (Nat → Int32) × (Nat → Int32) × (Nat → Int32) × Int32 × (Nat → Int32) × (Nat → Int32)) (hm : mf_Desk_partial F vI vN cRg fR fQ cfr cft cfs cku ckl ckq cou col coq xk xn xT xB xR xL xH = some res) (hI : sd_ix vI 8 = true → cRg vI.toNatClampNeg = some xs) : Met l y_Desk_partial (.code y_Desk_partial b_Desk_partial 4 (some .long) :: sd_tb) rm_Desk_partial (sd_PW D g [.ref zd, .int vI, .int vN] sz [(zd, .inr (4, [.ref rg, .ref iv, .ref fe, .ref kc, .ref oc, .ref pg, .ref zl, .ref zh, .ref ds])), (rg, aQ g 8 cRg), (fe, .inr (1, [.ref fr, .ref ft, .ref fs, .long fR, .long fQ])), (fr, aI g 132 cfr), (ft, aI g 68 cft), (fs, aI g 68 cfs), (kc, .inr (2, [.ref ku, .ref kl, .ref kq])), (ku, aI g 66 cku), (kl, aI g 66 ckl), (kq, aI g 66 ckq), (oc, .inr (2, [.ref ou, .ref ol, .ref oq])), (ou, aI g 66 cou), (ol, aI g 66 col), (oq, aI g 66 coq), (xs, .inr (0, [.ref xat, .ref xab, .ref xar, .ref xal, .ref xah, .int xk, .int xn])), (xat, aJ g 8 xT), (xab, aJ g 8 xB), (xar, aJ g 8 xR), (xal, aI g 68 xL), (xah, aI g 68 xH)]) (sd_Ql1M D g res (fun (u : Int64 × Int64 × (Nat → Int32) × (Nat → Int32) × (Nat → Int32) × (Nat → Int32) × (Nat → Int32) × (Nat → Int32) × (Nat → Int32) × (Nat → Int32) × (Nat → Int32) × Int32 × (Nat → Int32) × (Nat → Int32)) (vv : Nat × Nat × Nat × Nat) => [(zd, .inr (4, [.ref rg, .ref iv, .ref fe, .ref kc, .ref oc, .ref pg, .ref zl, .ref zh, .ref ds])), (rg, aQ g 8 cRg), (fe, .inr (1, [.ref fr, .ref ft, .ref fs, .long (u.1), .long (u.2.1)])), (fr, aI g 132 (u.2.2.1)), (ft, aI g 68 (u.2.2.2.1)), (fs, aI g 68 (u.2.2.2.2.1)), (kc, .inr (2, [.ref (vv.1), .ref (vv.2.1), .ref kq])), (vv.1, aI g 66 (u.2.2.2.2.2.1)), (vv.2.1, aI g 66 (u.2.2.2.2.2.2.1)), (kq, aI g 66 (u.2.2.2.2.2.2.2.1)), (oc, .inr (2, [.ref (vv.2.2.1), .ref (vv.2.2.2), .ref oq])), (vv.2.2.1, aI g 66 (u.2.2.2.2.2.2.2.2.1)), (vv.2.2.2, aI g 66 (u.2.2.2.2.2.2.2.2.2.1)), (oq, aI g 66 (u.2.2.2.2.2.2.2.2.2.2.1)), (xs, .inr (0, [.ref xat, .ref xab, .ref xar, .ref xal, .ref xah, .int (u.2.2.2.2.2.2.2.2.2.2.2.1), .int xn])), (xat, aJ g 8 xT), (xab, aJ g 8 xB), (xar, aJ g 8 xR), (xal, aI g 68 (u.2.2.2.2.2.2.2.2.2.2.2.2.1)), (xah, aI g 68 (u.2.2.2.2.2.2.2.2.2.2.2.2.2))]) (va_A [(zd, .inr (4, [.ref rg, .ref iv, .ref fe, .ref kc, .ref oc, .ref pg, .ref zl, .ref zh, .ref ds])), (rg, aQ g 8 cRg), (fe, .inr (1, [.ref fr, .ref ft, .ref fs, .long fR, .long fQ])), (fr, aI g 132 cfr), (ft, aI g 68 cft), (fs, aI g 68 cfs), (kc, .inr (2, [.ref ku, .ref kl, .ref kq])), (ku, aI g 66 cku), (kl, aI g 66 ckl), (kq, aI g 66 ckq), (oc, .inr (2, [.ref ou, .ref ol, .ref oq])), (ou, aI g 66 cou), (ol, aI g 66 col), (oq, aI g 66 coq), (xs, .inr (0, [.ref xat, .ref xab, .ref xar, .ref xal, .ref xah, .int xk, .int xn])), (xat, aJ g 8 xT), (xab, aJ g 8 xB), (xar, aJ g 8 xR), (xal, aI g 68 xL), (xah, aI g 68 xH)] sz)) 0 0 (va_A [(zd, .inr (4, [.ref rg, .ref iv, .ref fe, .ref kc, .ref oc, .ref pg, .ref zl, .ref zh, .ref ds])), (rg, aQ g 8 cRg), (fe, .inr (1, [.ref fr, .ref ft, .ref fs, .long fR, .long fQ])), (fr, aI g 132 cfr), (ft, aI g 68 cft), (fs, aI g 68 cfs), (kc, .inr (2, [.ref ku, .ref kl, .ref kq])), (ku, aI g 66 cku), (kl, aI g 66 ckl), (kq, aI g 66 ckq), (oc, .inr (2, [.ref ou, .ref ol, .ref oq])), (ou, aI g 66 cou), (ol, aI g 66 col), (oq, aI g 66 coq), (xs, .inr (0, [.ref xat, .ref xab, .ref xar, .ref xal, .ref xah, .int xk, .int xn])), (xat, aJ g 8 xT), (xab, aJ g 8 xB), (xar, aJ g 8 xR), (xal, aI g 68 xL), (xah, aI g 68 xH)] sz) := by
  refine sd_met (Qf := fun A => sd_Ql1M D g res (fun (u : Int64 × Int64 × (Nat → Int32) × (Nat → Int32) × (Nat → Int32) × (Nat → Int32) × (Nat → Int32) × (Nat → Int32) × (Nat → Int32) × (Nat → Int32) × (Nat → Int32) × Int32 × (Nat → Int32) × (Nat → Int32)) (vv : Nat × Nat × Nat × Nat) => [(zd, .inr (4, [.ref rg, .ref iv, .ref fe, .ref kc, .ref oc, .ref pg, .ref zl, .ref zh, .ref ds])), (rg, aQ g 8 cRg), (fe, .inr (1, [.ref fr, .ref ft, .ref fs, .long (u.1), .long (u.2.1)])), (fr, aI g 132 (u.2.2.1)), (ft, aI g 68 (u.2.2.2.1)), (fs, aI g 68 (u.2.2.2.2.1)), (kc, .inr (2, [.ref (vv.1), .ref (vv.2.1), .ref kq])), (vv.1, aI g 66 (u.2.2.2.2.2.1)), (vv.2.1, aI g 66 (u.2.2.2.2.2.2.1)), (kq, aI g 66 (u.2.2.2.2.2.2.2.1)), (oc, .inr (2, [.ref (vv.2.2.1), .ref (vv.2.2.2), .ref oq])), (vv.2.2.1, aI g 66 (u.2.2.2.2.2.2.2.2.1)), (vv.2.2.2, aI g 66 (u.2.2.2.2.2.2.2.2.2.1)), (oq, aI g 66 (u.2.2.2.2.2.2.2.2.2.2.1)), (xs, .inr (0, [.ref xat, .ref xab, .ref xar, .ref xal, .ref xah, .int (u.2.2.2.2.2.2.2.2.2.2.2.1), .int xn])), (xat, aJ g 8 xT), (xab, aJ g 8 xB), (xar, aJ g 8 xR), (xal, aI g 68 (u.2.2.2.2.2.2.2.2.2.2.2.2.1)), (xah, aI g 68 (u.2.2.2.2.2.2.2.2.2.2.2.2.2))]) A) (own := R_Desk) (by decide +kernel) rfl (Nat.le_of_ble_eq_true rfl) ?_
  intro p e s m args below meth c S hr hlk hK A hA Q hQ H locs hP hD hS ls hl
  have hx := S.1
  have hb := S.2.1
  have hml := S.2.2.1
  have hown := S.2.2.2.1
  have htt := sd_tt S
  replace hl : lv_has ls 4 [(0, .ref zd), (1, .int vI), (2, .int vN)] := hl
  unfold mf_Desk_partial at hm
  refine lv_iload_n hx hb d_Desk_partial_0 rfl (lv_at hl 1 rfl) ?_
  obtain ⟨r, hc, hm⟩ := sd_mb1 hm
  refine sd_ci0 (wr := [(zd, .inr (4, [.ref rg, .ref iv, .ref fe, .ref kc, .ref oc, .ref pg, .ref zl, .ref zh, .ref ds])), (rg, aQ g 8 cRg), (fe, .inr (1, [.ref fr, .ref ft, .ref fs, .long fR, .long fQ])), (fr, aI g 132 cfr), (ft, aI g 68 cft), (fs, aI g 68 cfs), (kc, .inr (2, [.ref ku, .ref kl, .ref kq])), (ku, aI g 66 cku), (kl, aI g 66 ckl), (kq, aI g 66 ckq), (oc, .inr (2, [.ref ou, .ref ol, .ref oq])), (ou, aI g 66 cou), (ol, aI g 66 col), (oq, aI g 66 coq), (xs, .inr (0, [.ref xat, .ref xab, .ref xar, .ref xal, .ref xah, .int xk, .int xn])), (xat, aJ g 8 xT), (xab, aJ g 8 xB), (xar, aJ g 8 xR), (xal, aI g 68 xL), (xah, aI g 68 xH)]) (w2 := [(zd, .inr (4, [.ref rg, .ref iv, .ref fe, .ref kc, .ref oc, .ref pg, .ref zl, .ref zh, .ref ds])), (rg, aQ g 8 cRg), (fe, .inr (1, [.ref fr, .ref ft, .ref fs, .long fR, .long fQ])), (fr, aI g 132 cfr), (ft, aI g 68 cft), (fs, aI g 68 cfs), (kc, .inr (2, [.ref ku, .ref kl, .ref kq])), (ku, aI g 66 cku), (kl, aI g 66 ckl), (kq, aI g 66 ckq), (oc, .inr (2, [.ref ou, .ref ol, .ref oq])), (ou, aI g 66 cou), (ol, aI g 66 col), (oq, aI g 66 coq), (xs, .inr (0, [.ref xat, .ref xab, .ref xar, .ref xal, .ref xah, .int xk, .int xn])), (xat, aJ g 8 xT), (xab, aJ g 8 xB), (xar, aJ g 8 xR), (xal, aI g 68 xL), (xah, aI g 68 xH)]) (sd_runS (rest := []) (As := [.int vI]) S (ct_Desk_isRegister l D g (H.size) vI F (r) hc) kl_Desk_56 (by decide) (by decide) hK hP hD [] rfl (by decide) rfl hl d_Desk_partial_1 rfl (Nat.le_of_ble_eq_true rfl) ⟨Nat.zero_le _, Nat.zero_le _⟩) hP hD hS hA [] [0, 1, 2, 3, 4, 5, 6, 7, 8, 9, 10, 11, 12, 13, 14, 15, 16, 17, 18, 19] rfl rfl (by decide) (by decide) rfl (fun H locs hP hD hS => ?_)
  refine W.eq (g2 := F0 m 4 ls [.int r]) rfl ?_
  refine lv_if_eq (tgt := 17) hx hb d_Desk_partial_4 (by decide) (fun hc => ?_) (fun hc => ?_)
  · have hm := sd_mt hc hm
    refine sd_ldc2 (v := (4611686018427387905 : Int64)) hx hb hown (htt _ km_Desk_171) d_Desk_partial_17 ?_
    exact sd_l1Mret (u := (fR, fQ, cfr, cft, cfs, cku, ckl, ckq, cou, col, coq, xk, xL, xH)) (v := (ku, kl, ou, ol)) hQ hx hb hr hlk hK (hP.sub [0, 1, 2, 3, 4, 5, 6, 7, 8, 9, 10, 11, 12, 13, 14, 15, 16, 17, 18, 19] rfl) (hD.sub [0, 1, 2, 3, 4, 5, 6, 7, 8, 9, 10, 11, 12, 13, 14, 15, 16, 17, 18, 19] (by decide) rfl) hS (Option.some.inj hm).symm d_Desk_partial_20
  · have hm := sd_mf hc hm
    refine lv_iload_n hx hb d_Desk_partial_7 rfl (lv_at hl 2 rfl) ?_
    refine lv_if_lt (tgt := 17) hx hb d_Desk_partial_8 (by decide) (fun hc => ?_) (fun hc => ?_)
    · have hm := sd_mt hc hm
      refine sd_ldc2 (v := (4611686018427387905 : Int64)) hx hb hown (htt _ km_Desk_171) d_Desk_partial_17 ?_
      exact sd_l1Mret (u := (fR, fQ, cfr, cft, cfs, cku, ckl, ckq, cou, col, coq, xk, xL, xH)) (v := (ku, kl, ou, ol)) hQ hx hb hr hlk hK (hP.sub [0, 1, 2, 3, 4, 5, 6, 7, 8, 9, 10, 11, 12, 13, 14, 15, 16, 17, 18, 19] rfl) (hD.sub [0, 1, 2, 3, 4, 5, 6, 7, 8, 9, 10, 11, 12, 13, 14, 15, 16, 17, 18, 19] (by decide) rfl) hS (Option.some.inj hm).symm d_Desk_partial_20
    · have hm := sd_mf hc hm
      refine lv_iload_n hx hb d_Desk_partial_11 rfl (lv_at hl 2 rfl) ?_
      refine lv_bipush (v := (24 : Int32)) hx hb d_Desk_partial_12 (by decide) ?_
      refine lv_icmp_le (tgt := 21) hx hb d_Desk_partial_14 (by decide) (fun hc => ?_) (fun hc => ?_)
      · have hm := sd_mt hc hm
        refine lv_aload_n hx hb d_Desk_partial_21 rfl (lv_at hl 0 rfl) ?_
        refine va_get (D := D) (ci := 4) (v := .ref rg) (C := R_Desk) (T := F_Desk) (N := 9) hx hb htt i_Desk hown hK hP 0 rfl rfl 0 (by decide) (htt _ kf_Desk_11) (fun _ h9 => h9) rfl d_Desk_partial_22 ?_
        refine lv_iload_n hx hb d_Desk_partial_25 rfl (lv_at hl 1 rfl) ?_
        obtain ⟨h_1, hm⟩ := sd_mg hm
        refine sd_aald hx hb hK hP 1 rfl h_1 d_Desk_partial_26 ?_
        refine sd_topq (hI h_1) ?_
        refine lv_astore_n (lv' := [(3, .ref xs), (0, .ref zd), (1, .int vI), (2, .int vN)]) hx hb d_Desk_partial_27 rfl hl (by decide) rfl (fun ls hl => ?_)
        refine lv_aload_n hx hb d_Desk_partial_28 rfl (lv_at hl 0 rfl) ?_
        obtain ⟨r_1, hc, hm⟩ := sd_mb1 hm
        refine sd_ci0 (wr := [(zd, .inr (4, [.ref rg, .ref iv, .ref fe, .ref kc, .ref oc, .ref pg, .ref zl, .ref zh, .ref ds])), (rg, aQ g 8 cRg), (fe, .inr (1, [.ref fr, .ref ft, .ref fs, .long fR, .long fQ])), (fr, aI g 132 cfr), (ft, aI g 68 cft), (fs, aI g 68 cfs), (kc, .inr (2, [.ref ku, .ref kl, .ref kq])), (ku, aI g 66 cku), (kl, aI g 66 ckl), (kq, aI g 66 ckq), (oc, .inr (2, [.ref ou, .ref ol, .ref oq])), (ou, aI g 66 cou), (ol, aI g 66 col), (oq, aI g 66 coq), (xat, aJ g 8 xT), (xab, aJ g 8 xB), (xal, aI g 68 xL), (xah, aI g 68 xH)]) (w2 := [(zd, .inr (4, [.ref rg, .ref iv, .ref fe, .ref kc, .ref oc, .ref pg, .ref zl, .ref zh, .ref ds])), (rg, aQ g 8 cRg), (fe, .inr (1, [.ref fr, .ref ft, .ref fs, .long fR, .long fQ])), (fr, aI g 132 cfr), (ft, aI g 68 cft), (fs, aI g 68 cfs), (kc, .inr (2, [.ref ku, .ref kl, .ref kq])), (ku, aI g 66 cku), (kl, aI g 66 ckl), (kq, aI g 66 ckq), (oc, .inr (2, [.ref ou, .ref ol, .ref oq])), (ou, aI g 66 cou), (ol, aI g 66 col), (oq, aI g 66 coq), (xat, aJ g 8 xT), (xab, aJ g 8 xB), (xal, aI g 68 xL), (xah, aI g 68 xH), (xs, .inr (0, [.ref xat, .ref xab, .ref xar, .ref xal, .ref xah, .int xk, .int xn])), (xar, aJ g 8 xR)]) (sd_runV (rest := []) (As := []) S (ct_Sum_isFraction l D g xs xat xab xar xal xah (H.size) xk xn xR F (r_1) hc) kl_Desk_78 (by decide) (by decide) hK hP hD [14, 17] rfl (by decide) rfl hl d_Desk_partial_29 rfl (Nat.le_of_ble_eq_true rfl) ⟨Nat.zero_le _, Nat.zero_le _⟩ 14 rfl rfl) hP hD hS hA [14, 17] [0, 1, 2, 3, 4, 5, 6, 7, 8, 9, 10, 11, 12, 13, 15, 16, 18, 19] rfl rfl (by decide) (by decide) rfl (fun H locs hP hD hS => ?_)
        refine W.eq (g2 := F0 m 32 ls [.int r_1]) rfl ?_
        refine lv_if_eq (tgt := 48) hx hb d_Desk_partial_32 (by decide) (fun hc => ?_) (fun hc => ?_)
        · have hm := sd_mt hc hm
          refine lv_aload_n hx hb d_Desk_partial_48 rfl (lv_at hl 1 rfl) ?_
          refine va_get (D := D) (ci := 4) (v := .ref fe) (C := R_Desk) (T := F_Desk) (N := 9) hx hb htt i_Desk hown hK hP 0 rfl rfl 2 (by decide) (htt _ kf_Desk_23) (fun _ h9 => h9) rfl d_Desk_partial_49 ?_
          refine lv_aload_n hx hb d_Desk_partial_52 rfl (lv_at hl 0 rfl) ?_
          obtain ⟨ufe, ufe_1, ufr, uft, ufs, uxs, uxal, uxah, hc, hm⟩ := sd_mb8 hm
          refine sd_cv1 (wr := [(zd, .inr (4, [.ref rg, .ref iv, .ref fe, .ref kc, .ref oc, .ref pg, .ref zl, .ref zh, .ref ds])), (rg, aQ g 8 cRg), (kc, .inr (2, [.ref ku, .ref kl, .ref kq])), (ku, aI g 66 cku), (kl, aI g 66 ckl), (kq, aI g 66 ckq), (oc, .inr (2, [.ref ou, .ref ol, .ref oq])), (ou, aI g 66 cou), (ol, aI g 66 col), (oq, aI g 66 coq)]) (w2 := [(zd, .inr (4, [.ref rg, .ref iv, .ref fe, .ref kc, .ref oc, .ref pg, .ref zl, .ref zh, .ref ds])), (rg, aQ g 8 cRg), (kc, .inr (2, [.ref ku, .ref kl, .ref kq])), (ku, aI g 66 cku), (kl, aI g 66 ckl), (kq, aI g 66 ckq), (oc, .inr (2, [.ref ou, .ref ol, .ref oq])), (ou, aI g 66 cou), (ol, aI g 66 col), (oq, aI g 66 coq), (fe, .inr (1, [.ref fr, .ref ft, .ref fs, .long ufe, .long ufe_1])), (fr, aI g 132 ufr), (ft, aI g 68 uft), (fs, aI g 68 ufs), (xs, .inr (0, [.ref xat, .ref xab, .ref xar, .ref xal, .ref xah, .int uxs, .int xn])), (xat, aJ g 8 xT), (xab, aJ g 8 xB), (xar, aJ g 8 xR), (xal, aI g 68 uxal), (xah, aI g 68 uxah)]) (sd_runV (rest := []) (As := [.ref xs]) S (ct_EndsFinder_find l D g fe fr ft fs xs xat xab xar xal xah (H.size) fR fQ cfr cft cfs xk xn xT xB xR xL xH F (ufe, ufe_1, ufr, uft, ufs, uxs, uxal, uxah) hc) kl_Desk_117 (by decide) (by decide) hK hP hD [2, 3, 4, 5, 18, 14, 15, 19, 16, 17] rfl (by decide) rfl hl d_Desk_partial_53 rfl (Nat.le_of_ble_eq_true rfl) ⟨Nat.zero_le _, Nat.zero_le _⟩ 2 rfl rfl) hP hD hS hA [2, 3, 4, 5, 18, 14, 15, 19, 16, 17] [0, 1, 6, 7, 8, 9, 10, 11, 12, 13] rfl rfl (by decide) (by decide) rfl (fun H locs hP hD hS => ?_)
          refine lv_aload_n hx hb d_Desk_partial_56 rfl (lv_at hl 1 rfl) ?_
          refine lv_aload_n hx hb d_Desk_partial_57 rfl (lv_at hl 0 rfl) ?_
          refine va_get (D := D) (ci := 0) (v := .ref xal) (C := R_Sum) (T := F_Sum) (N := 7) hx hb htt i_Sum hown hK hP 14 rfl rfl 3 (by decide) (htt _ kf_Desk_134) (fun _ h9 => h9) rfl d_Desk_partial_58 ?_
          refine lv_aload_n hx hb d_Desk_partial_61 rfl (lv_at hl 0 rfl) ?_
          refine va_get (D := D) (ci := 0) (v := .ref xah) (C := R_Sum) (T := F_Sum) (N := 7) hx hb htt i_Sum hown hK hP 14 rfl rfl 4 (by decide) (htt _ kf_Desk_137) (fun _ h9 => h9) rfl d_Desk_partial_62 ?_
          refine lv_iload_n hx hb d_Desk_partial_65 rfl (lv_at hl 3 rfl) ?_
          obtain ⟨r_2, uku, ukl, ukq, uou, uol, uoq, hc, hm⟩ := sd_mb7 hm
          refine sd_cl1M (wr := [(rg, aQ g 8 cRg), (fe, .inr (1, [.ref fr, .ref ft, .ref fs, .long ufe, .long ufe_1])), (fr, aI g 132 ufr), (ft, aI g 68 uft), (fs, aI g 68 ufs), (xs, .inr (0, [.ref xat, .ref xab, .ref xar, .ref xal, .ref xah, .int uxs, .int xn])), (xat, aJ g 8 xT), (xab, aJ g 8 xB), (xar, aJ g 8 xR)]) (w2 := fun v => [(rg, aQ g 8 cRg), (fe, .inr (1, [.ref fr, .ref ft, .ref fs, .long ufe, .long ufe_1])), (fr, aI g 132 ufr), (ft, aI g 68 uft), (fs, aI g 68 ufs), (xs, .inr (0, [.ref xat, .ref xab, .ref xar, .ref xal, .ref xah, .int uxs, .int xn])), (xat, aJ g 8 xT), (xab, aJ g 8 xB), (xar, aJ g 8 xR), (zd, .inr (4, [.ref rg, .ref iv, .ref fe, .ref kc, .ref oc, .ref pg, .ref zl, .ref zh, .ref ds])), (kc, .inr (2, [.ref v.1, .ref v.2.1, .ref kq])), (v.1, aI g 66 uku), (v.2.1, aI g 66 ukl), (kq, aI g 66 ukq), (oc, .inr (2, [.ref v.2.2.1, .ref v.2.2.2, .ref oq])), (v.2.2.1, aI g 66 uou), (v.2.2.2, aI g 66 uol), (oq, aI g 66 uoq), (xal, aI g 68 uxal), (xah, aI g 68 uxah)]) (sd_runV (rest := []) (As := [.ref xal, .ref xah, .int vN]) S (ct_Desk_partialOfEnds l D g zd rg iv fe kc oc pg zl zh ds ku kl kq ou ol oq xal xah (H.size) vN cku ckl ckq cou col coq uxal uxah F (r_2, uku, ukl, ukq, uou, uol, uoq) hc) kl_Desk_177 (by decide) (by decide) hK hP hD [0, 2, 3, 4, 5, 6, 7, 8, 9, 18, 19] rfl (by decide) rfl hl d_Desk_partial_66 rfl (Nat.le_of_ble_eq_true rfl) ⟨Nat.zero_le _, Nat.zero_le _⟩ 0 rfl rfl) hP hD hS hA [0, 2, 3, 4, 5, 6, 7, 8, 9, 18, 19] [1, 10, 11, 12, 13, 14, 15, 16, 17] rfl rfl (by decide) (by decide) (fun _ => rfl) (fun v H locs hP hD hS => ?_)
          obtain ⟨na, na_1, na_2, na_3⟩ := v
          replace hP : va_P D classes [(rg, aQ g 8 cRg), (fe, .inr (1, [.ref fr, .ref ft, .ref fs, .long ufe, .long ufe_1])), (fr, aI g 132 ufr), (ft, aI g 68 uft), (fs, aI g 68 ufs), (xs, .inr (0, [.ref xat, .ref xab, .ref xar, .ref xal, .ref xah, .int uxs, .int xn])), (xat, aJ g 8 xT), (xab, aJ g 8 xB), (xar, aJ g 8 xR), (zd, .inr (4, [.ref rg, .ref iv, .ref fe, .ref kc, .ref oc, .ref pg, .ref zl, .ref zh, .ref ds])), (kc, .inr (2, [.ref na, .ref na_1, .ref kq])), (na, aI g 66 uku), (na_1, aI g 66 ukl), (kq, aI g 66 ukq), (oc, .inr (2, [.ref na_2, .ref na_3, .ref oq])), (na_2, aI g 66 uou), (na_3, aI g 66 uol), (oq, aI g 66 uoq), (xal, aI g 68 uxal), (xah, aI g 68 uxah)] H := hP
          replace hD : va_D A [(rg, aQ g 8 cRg), (fe, .inr (1, [.ref fr, .ref ft, .ref fs, .long ufe, .long ufe_1])), (fr, aI g 132 ufr), (ft, aI g 68 uft), (fs, aI g 68 ufs), (xs, .inr (0, [.ref xat, .ref xab, .ref xar, .ref xal, .ref xah, .int uxs, .int xn])), (xat, aJ g 8 xT), (xab, aJ g 8 xB), (xar, aJ g 8 xR), (zd, .inr (4, [.ref rg, .ref iv, .ref fe, .ref kc, .ref oc, .ref pg, .ref zl, .ref zh, .ref ds])), (kc, .inr (2, [.ref na, .ref na_1, .ref kq])), (na, aI g 66 uku), (na_1, aI g 66 ukl), (kq, aI g 66 ukq), (oc, .inr (2, [.ref na_2, .ref na_3, .ref oq])), (na_2, aI g 66 uou), (na_3, aI g 66 uol), (oq, aI g 66 uoq), (xal, aI g 68 uxal), (xah, aI g 68 uxah)] := hD
          refine W.eq (g2 := F0 m 69 ls [.long r_2]) rfl ?_
          exact sd_l1Mret (u := (ufe, ufe_1, ufr, uft, ufs, uku, ukl, ukq, uou, uol, uoq, uxs, uxal, uxah)) (v := (na, na_1, na_2, na_3)) hQ hx hb hr hlk hK (hP.sub [9, 0, 1, 2, 3, 4, 10, 11, 12, 13, 14, 15, 16, 17, 5, 6, 7, 8, 18, 19] rfl) (hD.sub [9, 0, 1, 2, 3, 4, 10, 11, 12, 13, 14, 15, 16, 17, 5, 6, 7, 8, 18, 19] (by decide) rfl) hS (Option.some.inj hm).symm d_Desk_partial_69
        · have hm := sd_mf hc hm
          refine lv_aload_n hx hb d_Desk_partial_35 rfl (lv_at hl 0 rfl) ?_
          obtain ⟨r_3, hc, hm⟩ := sd_mb1 hm
          refine sd_cl0 (wr := [(zd, .inr (4, [.ref rg, .ref iv, .ref fe, .ref kc, .ref oc, .ref pg, .ref zl, .ref zh, .ref ds])), (rg, aQ g 8 cRg), (fe, .inr (1, [.ref fr, .ref ft, .ref fs, .long fR, .long fQ])), (fr, aI g 132 cfr), (ft, aI g 68 cft), (fs, aI g 68 cfs), (kc, .inr (2, [.ref ku, .ref kl, .ref kq])), (ku, aI g 66 cku), (kl, aI g 66 ckl), (kq, aI g 66 ckq), (oc, .inr (2, [.ref ou, .ref ol, .ref oq])), (ou, aI g 66 cou), (ol, aI g 66 col), (oq, aI g 66 coq), (xab, aJ g 8 xB), (xal, aI g 68 xL), (xah, aI g 68 xH), (xar, aJ g 8 xR)]) (w2 := [(zd, .inr (4, [.ref rg, .ref iv, .ref fe, .ref kc, .ref oc, .ref pg, .ref zl, .ref zh, .ref ds])), (rg, aQ g 8 cRg), (fe, .inr (1, [.ref fr, .ref ft, .ref fs, .long fR, .long fQ])), (fr, aI g 132 cfr), (ft, aI g 68 cft), (fs, aI g 68 cfs), (kc, .inr (2, [.ref ku, .ref kl, .ref kq])), (ku, aI g 66 cku), (kl, aI g 66 ckl), (kq, aI g 66 ckq), (oc, .inr (2, [.ref ou, .ref ol, .ref oq])), (ou, aI g 66 cou), (ol, aI g 66 col), (oq, aI g 66 coq), (xab, aJ g 8 xB), (xal, aI g 68 xL), (xah, aI g 68 xH), (xar, aJ g 8 xR), (xs, .inr (0, [.ref xat, .ref xab, .ref xar, .ref xal, .ref xah, .int xk, .int xn])), (xat, aJ g 8 xT)]) (sd_runV (rest := []) (As := []) S (ct_Sum_top l D g xs xat xab xar xal xah (H.size) xk xn xT F (r_3) hc) kl_Desk_82 (by decide) (by decide) hK hP hD [18, 14] rfl (by decide) rfl hl d_Desk_partial_36 rfl (Nat.le_of_ble_eq_true rfl) ⟨Nat.zero_le _, Nat.zero_le _⟩ 18 rfl rfl) hP hD hS hA [18, 14] [0, 1, 2, 3, 4, 5, 6, 7, 8, 9, 10, 11, 12, 13, 15, 16, 17, 19] rfl rfl (by decide) (by decide) rfl (fun H locs hP hD hS => ?_)
          refine W.eq (g2 := F0 m 39 ls [.long r_3]) rfl ?_
          refine lv_aload_n hx hb d_Desk_partial_39 rfl (lv_at hl 0 rfl) ?_
          obtain ⟨r_4, hc, hm⟩ := sd_mb1 hm
          refine sd_cl0 (wr := [(zd, .inr (4, [.ref rg, .ref iv, .ref fe, .ref kc, .ref oc, .ref pg, .ref zl, .ref zh, .ref ds])), (rg, aQ g 8 cRg), (fe, .inr (1, [.ref fr, .ref ft, .ref fs, .long fR, .long fQ])), (fr, aI g 132 cfr), (ft, aI g 68 cft), (fs, aI g 68 cfs), (kc, .inr (2, [.ref ku, .ref kl, .ref kq])), (ku, aI g 66 cku), (kl, aI g 66 ckl), (kq, aI g 66 ckq), (oc, .inr (2, [.ref ou, .ref ol, .ref oq])), (ou, aI g 66 cou), (ol, aI g 66 col), (oq, aI g 66 coq), (xal, aI g 68 xL), (xah, aI g 68 xH), (xar, aJ g 8 xR), (xat, aJ g 8 xT)]) (w2 := [(zd, .inr (4, [.ref rg, .ref iv, .ref fe, .ref kc, .ref oc, .ref pg, .ref zl, .ref zh, .ref ds])), (rg, aQ g 8 cRg), (fe, .inr (1, [.ref fr, .ref ft, .ref fs, .long fR, .long fQ])), (fr, aI g 132 cfr), (ft, aI g 68 cft), (fs, aI g 68 cfs), (kc, .inr (2, [.ref ku, .ref kl, .ref kq])), (ku, aI g 66 cku), (kl, aI g 66 ckl), (kq, aI g 66 ckq), (oc, .inr (2, [.ref ou, .ref ol, .ref oq])), (ou, aI g 66 cou), (ol, aI g 66 col), (oq, aI g 66 coq), (xal, aI g 68 xL), (xah, aI g 68 xH), (xar, aJ g 8 xR), (xat, aJ g 8 xT), (xs, .inr (0, [.ref xat, .ref xab, .ref xar, .ref xal, .ref xah, .int xk, .int xn])), (xab, aJ g 8 xB)]) (sd_runV (rest := [.long r_3]) (As := []) S (ct_Sum_bottom l D g xs xat xab xar xal xah (H.size) xk xn xB F (r_4) hc) kl_Desk_86 (by decide) (by decide) hK hP hD [18, 14] rfl (by decide) rfl hl d_Desk_partial_40 rfl (Nat.le_of_ble_eq_true rfl) ⟨Nat.zero_le _, Nat.zero_le _⟩ 18 rfl rfl) hP hD hS hA [18, 14] [0, 1, 2, 3, 4, 5, 6, 7, 8, 9, 10, 11, 12, 13, 15, 16, 17, 19] rfl rfl (by decide) (by decide) rfl (fun H locs hP hD hS => ?_)
          refine W.eq (g2 := F0 m 43 ls [.long r_4, .long r_3]) rfl ?_
          refine lv_iload_n hx hb d_Desk_partial_43 rfl (lv_at hl 3 rfl) ?_
          obtain ⟨r_5, hc, hm⟩ := sd_mb1 hm
          refine sd_cl0 (wr := [(zd, .inr (4, [.ref rg, .ref iv, .ref fe, .ref kc, .ref oc, .ref pg, .ref zl, .ref zh, .ref ds])), (rg, aQ g 8 cRg), (fe, .inr (1, [.ref fr, .ref ft, .ref fs, .long fR, .long fQ])), (fr, aI g 132 cfr), (ft, aI g 68 cft), (fs, aI g 68 cfs), (kc, .inr (2, [.ref ku, .ref kl, .ref kq])), (ku, aI g 66 cku), (kl, aI g 66 ckl), (kq, aI g 66 ckq), (oc, .inr (2, [.ref ou, .ref ol, .ref oq])), (ou, aI g 66 cou), (ol, aI g 66 col), (oq, aI g 66 coq), (xal, aI g 68 xL), (xah, aI g 68 xH), (xar, aJ g 8 xR), (xat, aJ g 8 xT), (xs, .inr (0, [.ref xat, .ref xab, .ref xar, .ref xal, .ref xah, .int xk, .int xn])), (xab, aJ g 8 xB)]) (w2 := [(zd, .inr (4, [.ref rg, .ref iv, .ref fe, .ref kc, .ref oc, .ref pg, .ref zl, .ref zh, .ref ds])), (rg, aQ g 8 cRg), (fe, .inr (1, [.ref fr, .ref ft, .ref fs, .long fR, .long fQ])), (fr, aI g 132 cfr), (ft, aI g 68 cft), (fs, aI g 68 cfs), (kc, .inr (2, [.ref ku, .ref kl, .ref kq])), (ku, aI g 66 cku), (kl, aI g 66 ckl), (kq, aI g 66 ckq), (oc, .inr (2, [.ref ou, .ref ol, .ref oq])), (ou, aI g 66 cou), (ol, aI g 66 col), (oq, aI g 66 coq), (xal, aI g 68 xL), (xah, aI g 68 xH), (xar, aJ g 8 xR), (xat, aJ g 8 xT), (xs, .inr (0, [.ref xat, .ref xab, .ref xar, .ref xal, .ref xah, .int xk, .int xn])), (xab, aJ g 8 xB)]) (sd_runS (rest := []) (As := [.long r_3, .long r_4, .int vN]) S (ct_Desk_partialOfFraction l D g (H.size) r_3 r_4 vN F (r_5) hc) kl_Desk_173 (by decide) (by decide) hK hP hD [] rfl (by decide) rfl hl d_Desk_partial_44 rfl (Nat.le_of_ble_eq_true rfl) ⟨Nat.zero_le _, Nat.zero_le _⟩) hP hD hS hA [] [0, 1, 2, 3, 4, 5, 6, 7, 8, 9, 10, 11, 12, 13, 14, 15, 16, 17, 18, 19] rfl rfl (by decide) (by decide) rfl (fun H locs hP hD hS => ?_)
          refine W.eq (g2 := F0 m 47 ls [.long r_5]) rfl ?_
          exact sd_l1Mret (u := (fR, fQ, cfr, cft, cfs, cku, ckl, ckq, cou, col, coq, xk, xL, xH)) (v := (ku, kl, ou, ol)) hQ hx hb hr hlk hK (hP.sub [0, 1, 2, 3, 4, 5, 6, 7, 8, 9, 10, 11, 12, 13, 18, 17, 19, 16, 14, 15] rfl) (hD.sub [0, 1, 2, 3, 4, 5, 6, 7, 8, 9, 10, 11, 12, 13, 18, 17, 19, 16, 14, 15] (by decide) rfl) hS (Option.some.inj hm).symm d_Desk_partial_47
      · have hm := sd_mf hc hm
        refine sd_ldc2 (v := (4611686018427387905 : Int64)) hx hb hown (htt _ km_Desk_171) d_Desk_partial_17 ?_
        exact sd_l1Mret (u := (fR, fQ, cfr, cft, cfs, cku, ckl, ckq, cou, col, coq, xk, xL, xH)) (v := (ku, kl, ou, ol)) hQ hx hb hr hlk hK (hP.sub [0, 1, 2, 3, 4, 5, 6, 7, 8, 9, 10, 11, 12, 13, 14, 15, 16, 17, 18, 19] rfl) (hD.sub [0, 1, 2, 3, 4, 5, 6, 7, 8, 9, 10, 11, 12, 13, 14, 15, 16, 17, 18, 19] (by decide) rfl) hS (Option.some.inj hm).symm d_Desk_partial_20
def mf_Desk_compare2 (F : Nat) (vI : Int32) (vJ : Int32) (cRg : Nat → Option Nat) (fR : Int64) (fQ : Int64) (cfr : Nat → Int32) (cft : Nat → Int32) (cfs : Nat → Int32) (xk : Int32) (xn : Int32) (xT : Nat → Int64) (xB : Nat → Int64) (xR : Nat → Int64) (xL : Nat → Int32) (xH : Nat → Int32) : Option (Int32 × Int64 × Int64 × (Nat → Int32) × (Nat → Int32) × (Nat → Int32) × Int32 × (Nat → Int32) × (Nat → Int32)) :=
  (sd_b1 (mf_Desk_isRegister F vI) fun r => (if r = 0 then (some ((-2 : Int32), fR, fQ, cfr, cft, cfs, xk, xL, xH)) else (sd_b1 (mf_Desk_isRegister F vJ) fun r_1 => (if r_1 = 0 then (some ((-2 : Int32), fR, fQ, cfr, cft, cfs, xk, xL, xH)) else (sd_g (sd_ix vI 8) (sd_g (sd_ix vJ 8) (sd_b1 (mf_Sum_isSameAs F xk xn xT xB xR xk xn xT xB xR) fun r_2 => (if r_2 = 0 then (sd_g (sd_ix vI 8) (sd_b8 (mf_EndsFinder_find F fR fQ cfr cft cfs xk xn xT xB xR xL xH) fun ufe ufe_1 ufr uft ufs uxs uxal uxah => (sd_g (sd_ix vJ 8) (sd_b8 (mf_EndsFinder_find F ufe ufe_1 ufr uft ufs uxs xn xT xB xR uxal uxah) fun ufe_2 ufe_3 ufr_1 uft_1 ufs_1 uxs_1 uxal_1 uxah_1 => (sd_g (sd_ix vI 8) (sd_g (sd_ix vJ 8) (sd_b1 (mf_Teller_order F uxs_1 xn uxal_1 uxah_1 uxs_1 xn uxal_1 uxah_1) fun r_3 => (some (r_3, ufe_2, ufe_3, ufr_1, uft_1, ufs_1, uxs_1, uxal_1, uxah_1))))))))) else (some ((0 : Int32), fR, fQ, cfr, cft, cfs, xk, xL, xH))))))))))
abbrev rm_Desk_compare2 : Room := { frames := 5, cells := 0, slots := 0, locals := 139 }
set_option maxHeartbeats 4000000 in
set_option maxRecDepth 100000 in
theorem ct_Desk_compare2 (l : Launch) (D : va_G) (g : G4) (zd : Nat) (rg : Nat) (iv : Nat) (fe : Nat) (c1 : Nat) (c2 : Nat) (pg : Nat) (zl : Nat) (zh : Nat) (ds : Nat) (fr : Nat) (ft : Nat) (fs : Nat) (xs : Nat) (xat : Nat) (xab : Nat) (xar : Nat) (xal : Nat) (xah : Nat) (sz : Nat) (vI : Int32) (vJ : Int32) (cRg : Nat → Option Nat) (fR : Int64) (fQ : Int64) (cfr : Nat → Int32) (cft : Nat → Int32) (cfs : Nat → Int32) (xk : Int32) (xn : Int32) (xT : Nat → Int64) (xB : Nat → Int64) (xR : Nat → Int64) (xL : Nat → Int32) (xH : Nat → Int32) (F : Nat) (res : Int32 × Int64 × Int64 × (Nat → Int32) × (Nat → Int32) × (Nat → Int32) × Int32 × (Nat → Int32) × (Nat → Int32)) (hm : mf_Desk_compare2 F vI vJ cRg fR fQ cfr cft cfs xk xn xT xB xR xL xH = some res) (hI : sd_ix vI 8 = true → cRg vI.toNatClampNeg = some xs) (hJ : sd_ix vJ 8 = true → cRg vJ.toNatClampNeg = some xs) : Met l y_Desk_compare (.code y_Desk_compare b_Desk_compare 3 (some .int) :: sd_tb) rm_Desk_compare2 (sd_PW D g [.ref zd, .int vI, .int vJ] sz [(zd, .inr (4, [.ref rg, .ref iv, .ref fe, .ref c1, .ref c2, .ref pg, .ref zl, .ref zh, .ref ds])), (rg, aQ g 8 cRg), (fe, .inr (1, [.ref fr, .ref ft, .ref fs, .long fR, .long fQ])), (fr, aI g 132 cfr), (ft, aI g 68 cft), (fs, aI g 68 cfs), (xs, .inr (0, [.ref xat, .ref xab, .ref xar, .ref xal, .ref xah, .int xk, .int xn])), (xat, aJ g 8 xT), (xab, aJ g 8 xB), (xar, aJ g 8 xR), (xal, aI g 68 xL), (xah, aI g 68 xH)]) (sd_Qi1 D g res (fun (u : Int64 × Int64 × (Nat → Int32) × (Nat → Int32) × (Nat → Int32) × Int32 × (Nat → Int32) × (Nat → Int32)) => [(zd, .inr (4, [.ref rg, .ref iv, .ref fe, .ref c1, .ref c2, .ref pg, .ref zl, .ref zh, .ref ds])), (rg, aQ g 8 cRg), (fe, .inr (1, [.ref fr, .ref ft, .ref fs, .long (u.1), .long (u.2.1)])), (fr, aI g 132 (u.2.2.1)), (ft, aI g 68 (u.2.2.2.1)), (fs, aI g 68 (u.2.2.2.2.1)), (xs, .inr (0, [.ref xat, .ref xab, .ref xar, .ref xal, .ref xah, .int (u.2.2.2.2.2.1), .int xn])), (xat, aJ g 8 xT), (xab, aJ g 8 xB), (xar, aJ g 8 xR), (xal, aI g 68 (u.2.2.2.2.2.2.1)), (xah, aI g 68 (u.2.2.2.2.2.2.2))]) (va_A [(zd, .inr (4, [.ref rg, .ref iv, .ref fe, .ref c1, .ref c2, .ref pg, .ref zl, .ref zh, .ref ds])), (rg, aQ g 8 cRg), (fe, .inr (1, [.ref fr, .ref ft, .ref fs, .long fR, .long fQ])), (fr, aI g 132 cfr), (ft, aI g 68 cft), (fs, aI g 68 cfs), (xs, .inr (0, [.ref xat, .ref xab, .ref xar, .ref xal, .ref xah, .int xk, .int xn])), (xat, aJ g 8 xT), (xab, aJ g 8 xB), (xar, aJ g 8 xR), (xal, aI g 68 xL), (xah, aI g 68 xH)] sz)) 0 0 (va_A [(zd, .inr (4, [.ref rg, .ref iv, .ref fe, .ref c1, .ref c2, .ref pg, .ref zl, .ref zh, .ref ds])), (rg, aQ g 8 cRg), (fe, .inr (1, [.ref fr, .ref ft, .ref fs, .long fR, .long fQ])), (fr, aI g 132 cfr), (ft, aI g 68 cft), (fs, aI g 68 cfs), (xs, .inr (0, [.ref xat, .ref xab, .ref xar, .ref xal, .ref xah, .int xk, .int xn])), (xat, aJ g 8 xT), (xab, aJ g 8 xB), (xar, aJ g 8 xR), (xal, aI g 68 xL), (xah, aI g 68 xH)] sz) := by
  refine sd_met (Qf := fun A => sd_Qi1 D g res (fun (u : Int64 × Int64 × (Nat → Int32) × (Nat → Int32) × (Nat → Int32) × Int32 × (Nat → Int32) × (Nat → Int32)) => [(zd, .inr (4, [.ref rg, .ref iv, .ref fe, .ref c1, .ref c2, .ref pg, .ref zl, .ref zh, .ref ds])), (rg, aQ g 8 cRg), (fe, .inr (1, [.ref fr, .ref ft, .ref fs, .long (u.1), .long (u.2.1)])), (fr, aI g 132 (u.2.2.1)), (ft, aI g 68 (u.2.2.2.1)), (fs, aI g 68 (u.2.2.2.2.1)), (xs, .inr (0, [.ref xat, .ref xab, .ref xar, .ref xal, .ref xah, .int (u.2.2.2.2.2.1), .int xn])), (xat, aJ g 8 xT), (xab, aJ g 8 xB), (xar, aJ g 8 xR), (xal, aI g 68 (u.2.2.2.2.2.2.1)), (xah, aI g 68 (u.2.2.2.2.2.2.2))]) A) (own := R_Desk) (by decide +kernel) rfl (Nat.le_of_ble_eq_true rfl) ?_
  intro p e s m args below meth c S hr hlk hK A hA Q hQ H locs hP hD hS ls hl
  have hx := S.1
  have hb := S.2.1
  have hml := S.2.2.1
  have hown := S.2.2.2.1
  have htt := sd_tt S
  replace hl : lv_has ls 3 [(0, .ref zd), (1, .int vI), (2, .int vJ)] := hl
  unfold mf_Desk_compare2 at hm
  refine lv_iload_n hx hb d_Desk_compare_0 rfl (lv_at hl 1 rfl) ?_
  obtain ⟨r, hc, hm⟩ := sd_mb1 hm
  refine sd_ci0 (wr := [(zd, .inr (4, [.ref rg, .ref iv, .ref fe, .ref c1, .ref c2, .ref pg, .ref zl, .ref zh, .ref ds])), (rg, aQ g 8 cRg), (fe, .inr (1, [.ref fr, .ref ft, .ref fs, .long fR, .long fQ])), (fr, aI g 132 cfr), (ft, aI g 68 cft), (fs, aI g 68 cfs), (xs, .inr (0, [.ref xat, .ref xab, .ref xar, .ref xal, .ref xah, .int xk, .int xn])), (xat, aJ g 8 xT), (xab, aJ g 8 xB), (xar, aJ g 8 xR), (xal, aI g 68 xL), (xah, aI g 68 xH)]) (w2 := [(zd, .inr (4, [.ref rg, .ref iv, .ref fe, .ref c1, .ref c2, .ref pg, .ref zl, .ref zh, .ref ds])), (rg, aQ g 8 cRg), (fe, .inr (1, [.ref fr, .ref ft, .ref fs, .long fR, .long fQ])), (fr, aI g 132 cfr), (ft, aI g 68 cft), (fs, aI g 68 cfs), (xs, .inr (0, [.ref xat, .ref xab, .ref xar, .ref xal, .ref xah, .int xk, .int xn])), (xat, aJ g 8 xT), (xab, aJ g 8 xB), (xar, aJ g 8 xR), (xal, aI g 68 xL), (xah, aI g 68 xH)]) (sd_runS (rest := []) (As := [.int vI]) S (ct_Desk_isRegister l D g (H.size) vI F (r) hc) kl_Desk_56 (by decide) (by decide) hK hP hD [] rfl (by decide) rfl hl d_Desk_compare_1 rfl (Nat.le_of_ble_eq_true rfl) ⟨Nat.zero_le _, Nat.zero_le _⟩) hP hD hS hA [] [0, 1, 2, 3, 4, 5, 6, 7, 8, 9, 10, 11] rfl rfl (by decide) (by decide) rfl (fun H locs hP hD hS => ?_)
  refine W.eq (g2 := F0 m 4 ls [.int r]) rfl ?_
  refine lv_if_eq (tgt := 14) hx hb d_Desk_compare_4 (by decide) (fun hc => ?_) (fun hc => ?_)
  · have hm := sd_mt hc hm
    refine lv_bipush (v := (-2 : Int32)) hx hb d_Desk_compare_14 (by decide) ?_
    exact sd_i1ret (u := (fR, fQ, cfr, cft, cfs, xk, xL, xH)) hQ hx hb hr hlk hK (hP.sub [0, 1, 2, 3, 4, 5, 6, 7, 8, 9, 10, 11] rfl) (hD.sub [0, 1, 2, 3, 4, 5, 6, 7, 8, 9, 10, 11] (by decide) rfl) hS (Option.some.inj hm).symm d_Desk_compare_16
  · have hm := sd_mf hc hm
    refine lv_iload_n hx hb d_Desk_compare_7 rfl (lv_at hl 2 rfl) ?_
    obtain ⟨r_1, hc, hm⟩ := sd_mb1 hm
    refine sd_ci0 (wr := [(zd, .inr (4, [.ref rg, .ref iv, .ref fe, .ref c1, .ref c2, .ref pg, .ref zl, .ref zh, .ref ds])), (rg, aQ g 8 cRg), (fe, .inr (1, [.ref fr, .ref ft, .ref fs, .long fR, .long fQ])), (fr, aI g 132 cfr), (ft, aI g 68 cft), (fs, aI g 68 cfs), (xs, .inr (0, [.ref xat, .ref xab, .ref xar, .ref xal, .ref xah, .int xk, .int xn])), (xat, aJ g 8 xT), (xab, aJ g 8 xB), (xar, aJ g 8 xR), (xal, aI g 68 xL), (xah, aI g 68 xH)]) (w2 := [(zd, .inr (4, [.ref rg, .ref iv, .ref fe, .ref c1, .ref c2, .ref pg, .ref zl, .ref zh, .ref ds])), (rg, aQ g 8 cRg), (fe, .inr (1, [.ref fr, .ref ft, .ref fs, .long fR, .long fQ])), (fr, aI g 132 cfr), (ft, aI g 68 cft), (fs, aI g 68 cfs), (xs, .inr (0, [.ref xat, .ref xab, .ref xar, .ref xal, .ref xah, .int xk, .int xn])), (xat, aJ g 8 xT), (xab, aJ g 8 xB), (xar, aJ g 8 xR), (xal, aI g 68 xL), (xah, aI g 68 xH)]) (sd_runS (rest := []) (As := [.int vJ]) S (ct_Desk_isRegister l D g (H.size) vJ F (r_1) hc) kl_Desk_56 (by decide) (by decide) hK hP hD [] rfl (by decide) rfl hl d_Desk_compare_8 rfl (Nat.le_of_ble_eq_true rfl) ⟨Nat.zero_le _, Nat.zero_le _⟩) hP hD hS hA [] [0, 1, 2, 3, 4, 5, 6, 7, 8, 9, 10, 11] rfl rfl (by decide) (by decide) rfl (fun H locs hP hD hS => ?_)
    refine W.eq (g2 := F0 m 11 ls [.int r_1]) rfl ?_
    refine lv_if_ne (tgt := 17) hx hb d_Desk_compare_11 (by decide) (fun hc => ?_) (fun hc => ?_)
    · have hm := sd_mf hc hm
      refine lv_aload_n hx hb d_Desk_compare_17 rfl (lv_at hl 0 rfl) ?_
      refine va_get (D := D) (ci := 4) (v := .ref rg) (C := R_Desk) (T := F_Desk) (N := 9) hx hb htt i_Desk hown hK hP 0 rfl rfl 0 (by decide) (htt _ kf_Desk_11) (fun _ h9 => h9) rfl d_Desk_compare_18 ?_
      refine lv_iload_n hx hb d_Desk_compare_21 rfl (lv_at hl 1 rfl) ?_
      obtain ⟨h_1, hm⟩ := sd_mg hm
      refine sd_aald hx hb hK hP 1 rfl h_1 d_Desk_compare_22 ?_
      refine sd_topq (hI h_1) ?_
      refine lv_aload_n hx hb d_Desk_compare_23 rfl (lv_at hl 0 rfl) ?_
      refine va_get (D := D) (ci := 4) (v := .ref rg) (C := R_Desk) (T := F_Desk) (N := 9) hx hb htt i_Desk hown hK hP 0 rfl rfl 0 (by decide) (htt _ kf_Desk_11) (fun _ h9 => h9) rfl d_Desk_compare_24 ?_
      refine lv_iload_n hx hb d_Desk_compare_27 rfl (lv_at hl 2 rfl) ?_
      obtain ⟨h_2, hm⟩ := sd_mg hm
      refine sd_aald hx hb hK hP 1 rfl h_2 d_Desk_compare_28 ?_
      refine sd_topq (hJ h_2) ?_
      obtain ⟨r_2, hc, hm⟩ := sd_mb1 hm
      refine sd_ci0 (wr := [(zd, .inr (4, [.ref rg, .ref iv, .ref fe, .ref c1, .ref c2, .ref pg, .ref zl, .ref zh, .ref ds])), (rg, aQ g 8 cRg), (fe, .inr (1, [.ref fr, .ref ft, .ref fs, .long fR, .long fQ])), (fr, aI g 132 cfr), (ft, aI g 68 cft), (fs, aI g 68 cfs), (xal, aI g 68 xL), (xah, aI g 68 xH)]) (w2 := [(zd, .inr (4, [.ref rg, .ref iv, .ref fe, .ref c1, .ref c2, .ref pg, .ref zl, .ref zh, .ref ds])), (rg, aQ g 8 cRg), (fe, .inr (1, [.ref fr, .ref ft, .ref fs, .long fR, .long fQ])), (fr, aI g 132 cfr), (ft, aI g 68 cft), (fs, aI g 68 cfs), (xal, aI g 68 xL), (xah, aI g 68 xH), (xs, .inr (0, [.ref xat, .ref xab, .ref xar, .ref xal, .ref xah, .int xk, .int xn])), (xat, aJ g 8 xT), (xab, aJ g 8 xB), (xar, aJ g 8 xR)]) (sd_runV (rest := []) (As := [.ref xs]) S (ct_Sum_isSameAs2 l D g xs xat xab xar xal xah (H.size) xk xn xT xB xR F (r_2) hc) kl_Desk_114 (by decide) (by decide) hK hP hD [6, 7, 8, 9] rfl (by decide) rfl hl d_Desk_compare_29 rfl (Nat.le_of_ble_eq_true rfl) ⟨Nat.zero_le _, Nat.zero_le _⟩ 6 rfl rfl) hP hD hS hA [6, 7, 8, 9] [0, 1, 2, 3, 4, 5, 10, 11] rfl rfl (by decide) (by decide) rfl (fun H locs hP hD hS => ?_)
      refine W.eq (g2 := F0 m 32 ls [.int r_2]) rfl ?_
      refine lv_if_eq (tgt := 37) hx hb d_Desk_compare_32 (by decide) (fun hc => ?_) (fun hc => ?_)
      · have hm := sd_mt hc hm
        refine lv_aload_n hx hb d_Desk_compare_37 rfl (lv_at hl 0 rfl) ?_
        refine va_get (D := D) (ci := 4) (v := .ref fe) (C := R_Desk) (T := F_Desk) (N := 9) hx hb htt i_Desk hown hK hP 0 rfl rfl 2 (by decide) (htt _ kf_Desk_23) (fun _ h9 => h9) rfl d_Desk_compare_38 ?_
        refine lv_aload_n hx hb d_Desk_compare_41 rfl (lv_at hl 0 rfl) ?_
        refine va_get (D := D) (ci := 4) (v := .ref rg) (C := R_Desk) (T := F_Desk) (N := 9) hx hb htt i_Desk hown hK hP 0 rfl rfl 0 (by decide) (htt _ kf_Desk_11) (fun _ h9 => h9) rfl d_Desk_compare_42 ?_
        refine lv_iload_n hx hb d_Desk_compare_45 rfl (lv_at hl 1 rfl) ?_
        obtain ⟨h_3, hm⟩ := sd_mg hm
        refine sd_aald hx hb hK hP 1 rfl h_3 d_Desk_compare_46 ?_
        refine sd_topq (hI h_3) ?_
        obtain ⟨ufe, ufe_1, ufr, uft, ufs, uxs, uxal, uxah, hc, hm⟩ := sd_mb8 hm
        refine sd_cv1 (wr := [(zd, .inr (4, [.ref rg, .ref iv, .ref fe, .ref c1, .ref c2, .ref pg, .ref zl, .ref zh, .ref ds])), (rg, aQ g 8 cRg)]) (w2 := [(zd, .inr (4, [.ref rg, .ref iv, .ref fe, .ref c1, .ref c2, .ref pg, .ref zl, .ref zh, .ref ds])), (rg, aQ g 8 cRg), (fe, .inr (1, [.ref fr, .ref ft, .ref fs, .long ufe, .long ufe_1])), (fr, aI g 132 ufr), (ft, aI g 68 uft), (fs, aI g 68 ufs), (xs, .inr (0, [.ref xat, .ref xab, .ref xar, .ref xal, .ref xah, .int uxs, .int xn])), (xat, aJ g 8 xT), (xab, aJ g 8 xB), (xar, aJ g 8 xR), (xal, aI g 68 uxal), (xah, aI g 68 uxah)]) (sd_runV (rest := []) (As := [.ref xs]) S (ct_EndsFinder_find l D g fe fr ft fs xs xat xab xar xal xah (H.size) fR fQ cfr cft cfs xk xn xT xB xR xL xH F (ufe, ufe_1, ufr, uft, ufs, uxs, uxal, uxah) hc) kl_Desk_117 (by decide) (by decide) hK hP hD [2, 3, 4, 5, 8, 9, 10, 11, 6, 7] rfl (by decide) rfl hl d_Desk_compare_47 rfl (Nat.le_of_ble_eq_true rfl) ⟨Nat.zero_le _, Nat.zero_le _⟩ 2 rfl rfl) hP hD hS hA [2, 3, 4, 5, 8, 9, 10, 11, 6, 7] [0, 1] rfl rfl (by decide) (by decide) rfl (fun H locs hP hD hS => ?_)
        refine lv_aload_n hx hb d_Desk_compare_50 rfl (lv_at hl 0 rfl) ?_
        refine va_get (D := D) (ci := 4) (v := .ref fe) (C := R_Desk) (T := F_Desk) (N := 9) hx hb htt i_Desk hown hK hP 0 rfl rfl 2 (by decide) (htt _ kf_Desk_23) (fun _ h9 => h9) rfl d_Desk_compare_51 ?_
        refine lv_aload_n hx hb d_Desk_compare_54 rfl (lv_at hl 0 rfl) ?_
        refine va_get (D := D) (ci := 4) (v := .ref rg) (C := R_Desk) (T := F_Desk) (N := 9) hx hb htt i_Desk hown hK hP 0 rfl rfl 0 (by decide) (htt _ kf_Desk_11) (fun _ h9 => h9) rfl d_Desk_compare_55 ?_
        refine lv_iload_n hx hb d_Desk_compare_58 rfl (lv_at hl 2 rfl) ?_
        obtain ⟨h_4, hm⟩ := sd_mg hm
        refine sd_aald hx hb hK hP 1 rfl h_4 d_Desk_compare_59 ?_
        refine sd_topq (hJ h_4) ?_
        obtain ⟨ufe_2, ufe_3, ufr_1, uft_1, ufs_1, uxs_1, uxal_1, uxah_1, hc, hm⟩ := sd_mb8 hm
        refine sd_cv1 (wr := [(zd, .inr (4, [.ref rg, .ref iv, .ref fe, .ref c1, .ref c2, .ref pg, .ref zl, .ref zh, .ref ds])), (rg, aQ g 8 cRg)]) (w2 := [(zd, .inr (4, [.ref rg, .ref iv, .ref fe, .ref c1, .ref c2, .ref pg, .ref zl, .ref zh, .ref ds])), (rg, aQ g 8 cRg), (fe, .inr (1, [.ref fr, .ref ft, .ref fs, .long ufe_2, .long ufe_3])), (fr, aI g 132 ufr_1), (ft, aI g 68 uft_1), (fs, aI g 68 ufs_1), (xs, .inr (0, [.ref xat, .ref xab, .ref xar, .ref xal, .ref xah, .int uxs_1, .int xn])), (xat, aJ g 8 xT), (xab, aJ g 8 xB), (xar, aJ g 8 xR), (xal, aI g 68 uxal_1), (xah, aI g 68 uxah_1)]) (sd_runV (rest := []) (As := [.ref xs]) S (ct_EndsFinder_find l D g fe fr ft fs xs xat xab xar xal xah (H.size) ufe ufe_1 ufr uft ufs uxs xn xT xB xR uxal uxah F (ufe_2, ufe_3, ufr_1, uft_1, ufs_1, uxs_1, uxal_1, uxah_1) hc) kl_Desk_117 (by decide) (by decide) hK hP hD [2, 3, 4, 5, 6, 7, 8, 9, 10, 11] rfl (by decide) rfl hl d_Desk_compare_60 rfl (Nat.le_of_ble_eq_true rfl) ⟨Nat.zero_le _, Nat.zero_le _⟩ 2 rfl rfl) hP hD hS hA [2, 3, 4, 5, 6, 7, 8, 9, 10, 11] [0, 1] rfl rfl (by decide) (by decide) rfl (fun H locs hP hD hS => ?_)
        refine lv_aload_n hx hb d_Desk_compare_63 rfl (lv_at hl 0 rfl) ?_
        refine va_get (D := D) (ci := 4) (v := .ref rg) (C := R_Desk) (T := F_Desk) (N := 9) hx hb htt i_Desk hown hK hP 0 rfl rfl 0 (by decide) (htt _ kf_Desk_11) (fun _ h9 => h9) rfl d_Desk_compare_64 ?_
        refine lv_iload_n hx hb d_Desk_compare_67 rfl (lv_at hl 1 rfl) ?_
        obtain ⟨h_5, hm⟩ := sd_mg hm
        refine sd_aald hx hb hK hP 1 rfl h_5 d_Desk_compare_68 ?_
        refine sd_topq (hI h_5) ?_
        refine lv_aload_n hx hb d_Desk_compare_69 rfl (lv_at hl 0 rfl) ?_
        refine va_get (D := D) (ci := 4) (v := .ref rg) (C := R_Desk) (T := F_Desk) (N := 9) hx hb htt i_Desk hown hK hP 0 rfl rfl 0 (by decide) (htt _ kf_Desk_11) (fun _ h9 => h9) rfl d_Desk_compare_70 ?_
        refine lv_iload_n hx hb d_Desk_compare_73 rfl (lv_at hl 2 rfl) ?_
        obtain ⟨h_6, hm⟩ := sd_mg hm
        refine sd_aald hx hb hK hP 1 rfl h_6 d_Desk_compare_74 ?_
        refine sd_topq (hJ h_6) ?_
        obtain ⟨r_3, hc, hm⟩ := sd_mb1 hm
        refine sd_ci0 (wr := [(zd, .inr (4, [.ref rg, .ref iv, .ref fe, .ref c1, .ref c2, .ref pg, .ref zl, .ref zh, .ref ds])), (rg, aQ g 8 cRg), (fe, .inr (1, [.ref fr, .ref ft, .ref fs, .long ufe_2, .long ufe_3])), (fr, aI g 132 ufr_1), (ft, aI g 68 uft_1), (fs, aI g 68 ufs_1), (xat, aJ g 8 xT), (xab, aJ g 8 xB), (xar, aJ g 8 xR)]) (w2 := [(zd, .inr (4, [.ref rg, .ref iv, .ref fe, .ref c1, .ref c2, .ref pg, .ref zl, .ref zh, .ref ds])), (rg, aQ g 8 cRg), (fe, .inr (1, [.ref fr, .ref ft, .ref fs, .long ufe_2, .long ufe_3])), (fr, aI g 132 ufr_1), (ft, aI g 68 uft_1), (fs, aI g 68 ufs_1), (xat, aJ g 8 xT), (xab, aJ g 8 xB), (xar, aJ g 8 xR), (xs, .inr (0, [.ref xat, .ref xab, .ref xar, .ref xal, .ref xah, .int uxs_1, .int xn])), (xal, aI g 68 uxal_1), (xah, aI g 68 uxah_1)]) (sd_runS (rest := []) (As := [.ref xs, .ref xs]) S (ct_Teller_order2 l D g xs xat xab xar xal xah (H.size) uxs_1 xn uxal_1 uxah_1 F (r_3) hc) kl_Desk_121 (by decide) (by decide) hK hP hD [6, 10, 11] rfl (by decide) rfl hl d_Desk_compare_75 rfl (Nat.le_of_ble_eq_true rfl) ⟨Nat.zero_le _, Nat.zero_le _⟩) hP hD hS hA [6, 10, 11] [0, 1, 2, 3, 4, 5, 7, 8, 9] rfl rfl (by decide) (by decide) rfl (fun H locs hP hD hS => ?_)
        refine W.eq (g2 := F0 m 78 ls [.int r_3]) rfl ?_
        exact sd_i1ret (u := (ufe_2, ufe_3, ufr_1, uft_1, ufs_1, uxs_1, uxal_1, uxah_1)) hQ hx hb hr hlk hK (hP.sub [0, 1, 2, 3, 4, 5, 9, 6, 7, 8, 10, 11] rfl) (hD.sub [0, 1, 2, 3, 4, 5, 9, 6, 7, 8, 10, 11] (by decide) rfl) hS (Option.some.inj hm).symm d_Desk_compare_78
      · have hm := sd_mf hc hm
        refine lv_iconst (v := (0 : Int32)) hx hb d_Desk_compare_35 (by decide) ?_
        exact sd_i1ret (u := (fR, fQ, cfr, cft, cfs, xk, xL, xH)) hQ hx hb hr hlk hK (hP.sub [0, 1, 2, 3, 4, 5, 8, 9, 10, 11, 6, 7] rfl) (hD.sub [0, 1, 2, 3, 4, 5, 8, 9, 10, 11, 6, 7] (by decide) rfl) hS (Option.some.inj hm).symm d_Desk_compare_36
    · have hm := sd_mt hc hm
      refine lv_bipush (v := (-2 : Int32)) hx hb d_Desk_compare_14 (by decide) ?_
      exact sd_i1ret (u := (fR, fQ, cfr, cft, cfs, xk, xL, xH)) hQ hx hb hr hlk hK (hP.sub [0, 1, 2, 3, 4, 5, 6, 7, 8, 9, 10, 11] rfl) (hD.sub [0, 1, 2, 3, 4, 5, 6, 7, 8, 9, 10, 11] (by decide) rfl) hS (Option.some.inj hm).symm d_Desk_compare_16
def mf_Desk_between2 (F : Nat) (vI : Int32) (vJ : Int32) (cRg : Nat → Option Nat) (fR : Int64) (fQ : Int64) (cfr : Nat → Int32) (cft : Nat → Int32) (cfs : Nat → Int32) (xk : Int32) (xn : Int32) (xT : Nat → Int64) (xB : Nat → Int64) (xR : Nat → Int64) (xL : Nat → Int32) (xH : Nat → Int32) : Option (Int64 × Int64 × Int64 × (Nat → Int32) × (Nat → Int32) × (Nat → Int32) × Int32 × (Nat → Int32) × (Nat → Int32)) :=
  (sd_b1 (mf_Desk_isRegister F vI) fun r => (if r = 0 then (some ((4611686018427387904 : Int64), fR, fQ, cfr, cft, cfs, xk, xL, xH)) else (sd_b1 (mf_Desk_isRegister F vJ) fun r_1 => (if r_1 = 0 then (some ((4611686018427387904 : Int64), fR, fQ, cfr, cft, cfs, xk, xL, xH)) else (sd_b9 (mf_Desk_floor F vI cRg fR fQ cfr cft cfs xk xn xT xB xR xL xH) fun r_2 ufe ufe_1 ufr uft ufs uxs uxal uxah => (sd_b9 (mf_Desk_floor F vJ cRg ufe ufe_1 ufr uft ufs uxs xn xT xB xR uxal uxah) fun r_3 ufe_2 ufe_3 ufr_1 uft_1 ufs_1 uxs_1 uxal_1 uxah_1 => (if r_2 = (4611686018427387906 : Int64) then (some ((4611686018427387906 : Int64), ufe_2, ufe_3, ufr_1, uft_1, ufs_1, uxs_1, uxal_1, uxah_1)) else (if r_3 = (4611686018427387906 : Int64) then (some ((4611686018427387906 : Int64), ufe_2, ufe_3, ufr_1, uft_1, ufs_1, uxs_1, uxal_1, uxah_1)) else (sd_g (sd_ix vI 8) (sd_b1 (mf_Sum_isWhole F uxs_1 xn xB xR) fun r_4 => (sd_b1 (if r_4 = 0 then (some ((1 : Int64))) else (some ((0 : Int64)))) fun y => (sd_let ((r_2 + y)) fun x3 => (sd_g (sd_ix vJ 8) (sd_b1 (mf_Sum_isWhole F uxs_1 xn xB xR) fun r_5 => (sd_b1 (if r_5 = 0 then (some ((1 : Int64))) else (some ((0 : Int64)))) fun y_1 => (sd_let ((r_3 + y_1)) fun x5 => (some ((if (x5 - x3) < (0 : Int64) then (0 : Int64) else (x5 - x3)), ufe_2, ufe_3, ufr_1, uft_1, ufs_1, uxs_1, uxal_1, uxah_1))))))))))))))))))
abbrev rm_Desk_between2 : Room := { frames := 6, cells := 0, slots := 0, locals := 161 }
set_option maxHeartbeats 4000000 in
set_option maxRecDepth 100000 in
theorem ct_Desk_between2 (l : Launch) (D : va_G) (g : G4) (zd : Nat) (rg : Nat) (iv : Nat) (fe : Nat) (c1 : Nat) (c2 : Nat) (pg : Nat) (zl : Nat) (zh : Nat) (ds : Nat) (fr : Nat) (ft : Nat) (fs : Nat) (xs : Nat) (xat : Nat) (xab : Nat) (xar : Nat) (xal : Nat) (xah : Nat) (sz : Nat) (vI : Int32) (vJ : Int32) (cRg : Nat → Option Nat) (fR : Int64) (fQ : Int64) (cfr : Nat → Int32) (cft : Nat → Int32) (cfs : Nat → Int32) (xk : Int32) (xn : Int32) (xT : Nat → Int64) (xB : Nat → Int64) (xR : Nat → Int64) (xL : Nat → Int32) (xH : Nat → Int32) (F : Nat) (res : Int64 × Int64 × Int64 × (Nat → Int32) × (Nat → Int32) × (Nat → Int32) × Int32 × (Nat → Int32) × (Nat → Int32)) (hm : mf_Desk_between2 F vI vJ cRg fR fQ cfr cft cfs xk xn xT xB xR xL xH = some res) (hI : sd_ix vI 8 = true → cRg vI.toNatClampNeg = some xs) (hJ : sd_ix vJ 8 = true → cRg vJ.toNatClampNeg = some xs) : Met l y_Desk_between (.code y_Desk_between b_Desk_between 7 (some .long) :: sd_tb) rm_Desk_between2 (sd_PW D g [.ref zd, .int vI, .int vJ] sz [(zd, .inr (4, [.ref rg, .ref iv, .ref fe, .ref c1, .ref c2, .ref pg, .ref zl, .ref zh, .ref ds])), (rg, aQ g 8 cRg), (fe, .inr (1, [.ref fr, .ref ft, .ref fs, .long fR, .long fQ])), (fr, aI g 132 cfr), (ft, aI g 68 cft), (fs, aI g 68 cfs), (xs, .inr (0, [.ref xat, .ref xab, .ref xar, .ref xal, .ref xah, .int xk, .int xn])), (xat, aJ g 8 xT), (xab, aJ g 8 xB), (xar, aJ g 8 xR), (xal, aI g 68 xL), (xah, aI g 68 xH)]) (sd_Ql1 D g res (fun (u : Int64 × Int64 × (Nat → Int32) × (Nat → Int32) × (Nat → Int32) × Int32 × (Nat → Int32) × (Nat → Int32)) => [(zd, .inr (4, [.ref rg, .ref iv, .ref fe, .ref c1, .ref c2, .ref pg, .ref zl, .ref zh, .ref ds])), (rg, aQ g 8 cRg), (fe, .inr (1, [.ref fr, .ref ft, .ref fs, .long (u.1), .long (u.2.1)])), (fr, aI g 132 (u.2.2.1)), (ft, aI g 68 (u.2.2.2.1)), (fs, aI g 68 (u.2.2.2.2.1)), (xs, .inr (0, [.ref xat, .ref xab, .ref xar, .ref xal, .ref xah, .int (u.2.2.2.2.2.1), .int xn])), (xat, aJ g 8 xT), (xab, aJ g 8 xB), (xar, aJ g 8 xR), (xal, aI g 68 (u.2.2.2.2.2.2.1)), (xah, aI g 68 (u.2.2.2.2.2.2.2))]) (va_A [(zd, .inr (4, [.ref rg, .ref iv, .ref fe, .ref c1, .ref c2, .ref pg, .ref zl, .ref zh, .ref ds])), (rg, aQ g 8 cRg), (fe, .inr (1, [.ref fr, .ref ft, .ref fs, .long fR, .long fQ])), (fr, aI g 132 cfr), (ft, aI g 68 cft), (fs, aI g 68 cfs), (xs, .inr (0, [.ref xat, .ref xab, .ref xar, .ref xal, .ref xah, .int xk, .int xn])), (xat, aJ g 8 xT), (xab, aJ g 8 xB), (xar, aJ g 8 xR), (xal, aI g 68 xL), (xah, aI g 68 xH)] sz)) 0 0 (va_A [(zd, .inr (4, [.ref rg, .ref iv, .ref fe, .ref c1, .ref c2, .ref pg, .ref zl, .ref zh, .ref ds])), (rg, aQ g 8 cRg), (fe, .inr (1, [.ref fr, .ref ft, .ref fs, .long fR, .long fQ])), (fr, aI g 132 cfr), (ft, aI g 68 cft), (fs, aI g 68 cfs), (xs, .inr (0, [.ref xat, .ref xab, .ref xar, .ref xal, .ref xah, .int xk, .int xn])), (xat, aJ g 8 xT), (xab, aJ g 8 xB), (xar, aJ g 8 xR), (xal, aI g 68 xL), (xah, aI g 68 xH)] sz) := by
  refine sd_met (Qf := fun A => sd_Ql1 D g res (fun (u : Int64 × Int64 × (Nat → Int32) × (Nat → Int32) × (Nat → Int32) × Int32 × (Nat → Int32) × (Nat → Int32)) => [(zd, .inr (4, [.ref rg, .ref iv, .ref fe, .ref c1, .ref c2, .ref pg, .ref zl, .ref zh, .ref ds])), (rg, aQ g 8 cRg), (fe, .inr (1, [.ref fr, .ref ft, .ref fs, .long (u.1), .long (u.2.1)])), (fr, aI g 132 (u.2.2.1)), (ft, aI g 68 (u.2.2.2.1)), (fs, aI g 68 (u.2.2.2.2.1)), (xs, .inr (0, [.ref xat, .ref xab, .ref xar, .ref xal, .ref xah, .int (u.2.2.2.2.2.1), .int xn])), (xat, aJ g 8 xT), (xab, aJ g 8 xB), (xar, aJ g 8 xR), (xal, aI g 68 (u.2.2.2.2.2.2.1)), (xah, aI g 68 (u.2.2.2.2.2.2.2))]) A) (own := R_Desk) (by decide +kernel) rfl (Nat.le_of_ble_eq_true rfl) ?_
  intro p e s m args below meth c S hr hlk hK A hA Q hQ H locs hP hD hS ls hl
  have hx := S.1
  have hb := S.2.1
  have hml := S.2.2.1
  have hown := S.2.2.2.1
  have htt := sd_tt S
  replace hl : lv_has ls 7 [(0, .ref zd), (1, .int vI), (2, .int vJ)] := hl
  unfold mf_Desk_between2 at hm
  refine lv_iload_n hx hb d_Desk_between_0 rfl (lv_at hl 1 rfl) ?_
  obtain ⟨r, hc, hm⟩ := sd_mb1 hm
  refine sd_ci0 (wr := [(zd, .inr (4, [.ref rg, .ref iv, .ref fe, .ref c1, .ref c2, .ref pg, .ref zl, .ref zh, .ref ds])), (rg, aQ g 8 cRg), (fe, .inr (1, [.ref fr, .ref ft, .ref fs, .long fR, .long fQ])), (fr, aI g 132 cfr), (ft, aI g 68 cft), (fs, aI g 68 cfs), (xs, .inr (0, [.ref xat, .ref xab, .ref xar, .ref xal, .ref xah, .int xk, .int xn])), (xat, aJ g 8 xT), (xab, aJ g 8 xB), (xar, aJ g 8 xR), (xal, aI g 68 xL), (xah, aI g 68 xH)]) (w2 := [(zd, .inr (4, [.ref rg, .ref iv, .ref fe, .ref c1, .ref c2, .ref pg, .ref zl, .ref zh, .ref ds])), (rg, aQ g 8 cRg), (fe, .inr (1, [.ref fr, .ref ft, .ref fs, .long fR, .long fQ])), (fr, aI g 132 cfr), (ft, aI g 68 cft), (fs, aI g 68 cfs), (xs, .inr (0, [.ref xat, .ref xab, .ref xar, .ref xal, .ref xah, .int xk, .int xn])), (xat, aJ g 8 xT), (xab, aJ g 8 xB), (xar, aJ g 8 xR), (xal, aI g 68 xL), (xah, aI g 68 xH)]) (sd_runS (rest := []) (As := [.int vI]) S (ct_Desk_isRegister l D g (H.size) vI F (r) hc) kl_Desk_56 (by decide) (by decide) hK hP hD [] rfl (by decide) rfl hl d_Desk_between_1 rfl (Nat.le_of_ble_eq_true rfl) ⟨Nat.zero_le _, Nat.zero_le _⟩) hP hD hS hA [] [0, 1, 2, 3, 4, 5, 6, 7, 8, 9, 10, 11] rfl rfl (by decide) (by decide) rfl (fun H locs hP hD hS => ?_)
  refine W.eq (g2 := F0 m 4 ls [.int r]) rfl ?_
  refine lv_if_eq (tgt := 14) hx hb d_Desk_between_4 (by decide) (fun hc => ?_) (fun hc => ?_)
  · have hm := sd_mt hc hm
    refine sd_ldc2 (v := (4611686018427387904 : Int64)) hx hb hown (htt _ km_Desk_127) d_Desk_between_14 ?_
    exact sd_l1ret (u := (fR, fQ, cfr, cft, cfs, xk, xL, xH)) hQ hx hb hr hlk hK (hP.sub [0, 1, 2, 3, 4, 5, 6, 7, 8, 9, 10, 11] rfl) (hD.sub [0, 1, 2, 3, 4, 5, 6, 7, 8, 9, 10, 11] (by decide) rfl) hS (Option.some.inj hm).symm d_Desk_between_17
  · have hm := sd_mf hc hm
    refine lv_iload_n hx hb d_Desk_between_7 rfl (lv_at hl 2 rfl) ?_
    obtain ⟨r_1, hc, hm⟩ := sd_mb1 hm
    refine sd_ci0 (wr := [(zd, .inr (4, [.ref rg, .ref iv, .ref fe, .ref c1, .ref c2, .ref pg, .ref zl, .ref zh, .ref ds])), (rg, aQ g 8 cRg), (fe, .inr (1, [.ref fr, .ref ft, .ref fs, .long fR, .long fQ])), (fr, aI g 132 cfr), (ft, aI g 68 cft), (fs, aI g 68 cfs), (xs, .inr (0, [.ref xat, .ref xab, .ref xar, .ref xal, .ref xah, .int xk, .int xn])), (xat, aJ g 8 xT), (xab, aJ g 8 xB), (xar, aJ g 8 xR), (xal, aI g 68 xL), (xah, aI g 68 xH)]) (w2 := [(zd, .inr (4, [.ref rg, .ref iv, .ref fe, .ref c1, .ref c2, .ref pg, .ref zl, .ref zh, .ref ds])), (rg, aQ g 8 cRg), (fe, .inr (1, [.ref fr, .ref ft, .ref fs, .long fR, .long fQ])), (fr, aI g 132 cfr), (ft, aI g 68 cft), (fs, aI g 68 cfs), (xs, .inr (0, [.ref xat, .ref xab, .ref xar, .ref xal, .ref xah, .int xk, .int xn])), (xat, aJ g 8 xT), (xab, aJ g 8 xB), (xar, aJ g 8 xR), (xal, aI g 68 xL), (xah, aI g 68 xH)]) (sd_runS (rest := []) (As := [.int vJ]) S (ct_Desk_isRegister l D g (H.size) vJ F (r_1) hc) kl_Desk_56 (by decide) (by decide) hK hP hD [] rfl (by decide) rfl hl d_Desk_between_8 rfl (Nat.le_of_ble_eq_true rfl) ⟨Nat.zero_le _, Nat.zero_le _⟩) hP hD hS hA [] [0, 1, 2, 3, 4, 5, 6, 7, 8, 9, 10, 11] rfl rfl (by decide) (by decide) rfl (fun H locs hP hD hS => ?_)
    refine W.eq (g2 := F0 m 11 ls [.int r_1]) rfl ?_
    refine lv_if_ne (tgt := 18) hx hb d_Desk_between_11 (by decide) (fun hc => ?_) (fun hc => ?_)
    · have hm := sd_mf hc hm
      refine lv_aload_n hx hb d_Desk_between_18 rfl (lv_at hl 0 rfl) ?_
      refine lv_iload_n hx hb d_Desk_between_19 rfl (lv_at hl 1 rfl) ?_
      obtain ⟨r_2, ufe, ufe_1, ufr, uft, ufs, uxs, uxal, uxah, hc, hm⟩ := sd_mb9 hm
      refine sd_cl1 (wr := []) (w2 := [(zd, .inr (4, [.ref rg, .ref iv, .ref fe, .ref c1, .ref c2, .ref pg, .ref zl, .ref zh, .ref ds])), (rg, aQ g 8 cRg), (fe, .inr (1, [.ref fr, .ref ft, .ref fs, .long ufe, .long ufe_1])), (fr, aI g 132 ufr), (ft, aI g 68 uft), (fs, aI g 68 ufs), (xs, .inr (0, [.ref xat, .ref xab, .ref xar, .ref xal, .ref xah, .int uxs, .int xn])), (xat, aJ g 8 xT), (xab, aJ g 8 xB), (xar, aJ g 8 xR), (xal, aI g 68 uxal), (xah, aI g 68 uxah)]) (sd_runV (rest := []) (As := [.int vI]) S (ct_Desk_floor l D g zd rg iv fe c1 c2 pg zl zh ds fr ft fs xs xat xab xar xal xah (H.size) vI cRg fR fQ cfr cft cfs xk xn xT xB xR xL xH F (r_2, ufe, ufe_1, ufr, uft, ufs, uxs, uxal, uxah) hc hI) kl_Desk_195 (by decide) (by decide) hK hP hD [0, 1, 2, 3, 4, 5, 6, 7, 8, 9, 10, 11] rfl (by decide) rfl hl d_Desk_between_20 rfl (Nat.le_of_ble_eq_true rfl) ⟨Nat.zero_le _, Nat.zero_le _⟩ 0 rfl rfl) hP hD hS hA [0, 1, 2, 3, 4, 5, 6, 7, 8, 9, 10, 11] [] rfl rfl (by decide) (by decide) rfl (fun H locs hP hD hS => ?_)
      refine W.eq (g2 := F0 m 23 ls [.long r_2]) rfl ?_
      refine lv_lstore_n (lv' := [(3, .long r_2), (0, .ref zd), (1, .int vI), (2, .int vJ)]) hx hb d_Desk_between_23 rfl hl (by decide) rfl (fun ls hl => ?_)
      refine lv_aload_n hx hb d_Desk_between_24 rfl (lv_at hl 1 rfl) ?_
      refine lv_iload_n hx hb d_Desk_between_25 rfl (lv_at hl 3 rfl) ?_
      obtain ⟨r_3, ufe_2, ufe_3, ufr_1, uft_1, ufs_1, uxs_1, uxal_1, uxah_1, hc, hm⟩ := sd_mb9 hm
      refine sd_cl1 (wr := []) (w2 := [(zd, .inr (4, [.ref rg, .ref iv, .ref fe, .ref c1, .ref c2, .ref pg, .ref zl, .ref zh, .ref ds])), (rg, aQ g 8 cRg), (fe, .inr (1, [.ref fr, .ref ft, .ref fs, .long ufe_2, .long ufe_3])), (fr, aI g 132 ufr_1), (ft, aI g 68 uft_1), (fs, aI g 68 ufs_1), (xs, .inr (0, [.ref xat, .ref xab, .ref xar, .ref xal, .ref xah, .int uxs_1, .int xn])), (xat, aJ g 8 xT), (xab, aJ g 8 xB), (xar, aJ g 8 xR), (xal, aI g 68 uxal_1), (xah, aI g 68 uxah_1)]) (sd_runV (rest := []) (As := [.int vJ]) S (ct_Desk_floor l D g zd rg iv fe c1 c2 pg zl zh ds fr ft fs xs xat xab xar xal xah (H.size) vJ cRg ufe ufe_1 ufr uft ufs uxs xn xT xB xR uxal uxah F (r_3, ufe_2, ufe_3, ufr_1, uft_1, ufs_1, uxs_1, uxal_1, uxah_1) hc hJ) kl_Desk_195 (by decide) (by decide) hK hP hD [0, 1, 2, 3, 4, 5, 6, 7, 8, 9, 10, 11] rfl (by decide) rfl hl d_Desk_between_26 rfl (Nat.le_of_ble_eq_true rfl) ⟨Nat.zero_le _, Nat.zero_le _⟩ 0 rfl rfl) hP hD hS hA [0, 1, 2, 3, 4, 5, 6, 7, 8, 9, 10, 11] [] rfl rfl (by decide) (by decide) rfl (fun H locs hP hD hS => ?_)
      refine W.eq (g2 := F0 m 29 ls [.long r_3]) rfl ?_
      refine lv_lstore (lv' := [(5, .long r_3), (3, .long r_2), (0, .ref zd), (1, .int vI), (2, .int vJ)]) hx hb d_Desk_between_29 hl (by decide) rfl (fun ls hl => ?_)
      refine lv_lload_n hx hb d_Desk_between_31 rfl (lv_at hl 1 rfl) ?_
      refine sd_ldc2 (v := (4611686018427387906 : Int64)) hx hb hown (htt _ km_Desk_148) d_Desk_between_32 ?_
      refine sd_leq (tgt := 48) hx hb d_Desk_between_35 d_Desk_between_36 (by decide) (fun hc => ?_) (fun hc => ?_)
      · have hm := sd_mt hc hm
        refine sd_ldc2 (v := (4611686018427387906 : Int64)) hx hb hown (htt _ km_Desk_148) d_Desk_between_48 ?_
        exact sd_l1ret (u := (ufe_2, ufe_3, ufr_1, uft_1, ufs_1, uxs_1, uxal_1, uxah_1)) hQ hx hb hr hlk hK (hP.sub [0, 1, 2, 3, 4, 5, 6, 7, 8, 9, 10, 11] rfl) (hD.sub [0, 1, 2, 3, 4, 5, 6, 7, 8, 9, 10, 11] (by decide) rfl) hS (Option.some.inj hm).symm d_Desk_between_51
      · have hm := sd_mf hc hm
        refine lv_lload hx hb d_Desk_between_39 (lv_at hl 0 rfl) ?_
        refine sd_ldc2 (v := (4611686018427387906 : Int64)) hx hb hown (htt _ km_Desk_148) d_Desk_between_41 ?_
        refine sd_lne (tgt := 52) hx hb d_Desk_between_44 d_Desk_between_45 (by decide) (fun hc => ?_) (fun hc => ?_)
        · have hm := sd_mf hc hm
          refine lv_lload_n hx hb d_Desk_between_52 rfl (lv_at hl 1 rfl) ?_
          refine lv_aload_n hx hb d_Desk_between_53 rfl (lv_at hl 2 rfl) ?_
          refine va_get (D := D) (ci := 4) (v := .ref rg) (C := R_Desk) (T := F_Desk) (N := 9) hx hb htt i_Desk hown hK hP 0 rfl rfl 0 (by decide) (htt _ kf_Desk_11) (fun _ h9 => h9) rfl d_Desk_between_54 ?_
          refine lv_iload_n hx hb d_Desk_between_57 rfl (lv_at hl 3 rfl) ?_
          obtain ⟨h_1, hm⟩ := sd_mg hm
          refine sd_aald hx hb hK hP 1 rfl h_1 d_Desk_between_58 ?_
          refine sd_topq (hI h_1) ?_
          obtain ⟨r_4, hc, hm⟩ := sd_mb1 hm
          refine sd_ci0 (wr := [(zd, .inr (4, [.ref rg, .ref iv, .ref fe, .ref c1, .ref c2, .ref pg, .ref zl, .ref zh, .ref ds])), (rg, aQ g 8 cRg), (fe, .inr (1, [.ref fr, .ref ft, .ref fs, .long ufe_2, .long ufe_3])), (fr, aI g 132 ufr_1), (ft, aI g 68 uft_1), (fs, aI g 68 ufs_1), (xat, aJ g 8 xT), (xal, aI g 68 uxal_1), (xah, aI g 68 uxah_1)]) (w2 := [(zd, .inr (4, [.ref rg, .ref iv, .ref fe, .ref c1, .ref c2, .ref pg, .ref zl, .ref zh, .ref ds])), (rg, aQ g 8 cRg), (fe, .inr (1, [.ref fr, .ref ft, .ref fs, .long ufe_2, .long ufe_3])), (fr, aI g 132 ufr_1), (ft, aI g 68 uft_1), (fs, aI g 68 ufs_1), (xat, aJ g 8 xT), (xal, aI g 68 uxal_1), (xah, aI g 68 uxah_1), (xs, .inr (0, [.ref xat, .ref xab, .ref xar, .ref xal, .ref xah, .int uxs_1, .int xn])), (xab, aJ g 8 xB), (xar, aJ g 8 xR)]) (sd_runV (rest := [.long r_2]) (As := []) S (ct_Sum_isWhole l D g xs xat xab xar xal xah (H.size) uxs_1 xn xB xR F (r_4) hc) kl_Desk_199 (by decide) (by decide) hK hP hD [6, 8, 9] rfl (by decide) rfl hl d_Desk_between_59 rfl (Nat.le_of_ble_eq_true rfl) ⟨Nat.zero_le _, Nat.zero_le _⟩ 6 rfl rfl) hP hD hS hA [6, 8, 9] [0, 1, 2, 3, 4, 5, 7, 10, 11] rfl rfl (by decide) (by decide) rfl (fun H locs hP hD hS => ?_)
          refine W.eq (g2 := F0 m 62 ls [.int r_4, .long r_2]) rfl ?_
          obtain ⟨y, hv, hm⟩ := sd_mb1 hm
          have J70_2 : ∀ (H : Heap) (locs : List Loc) (ls : Array Slot), va_P D classes [(zd, .inr (4, [.ref rg, .ref iv, .ref fe, .ref c1, .ref c2, .ref pg, .ref zl, .ref zh, .ref ds])), (rg, aQ g 8 cRg), (fe, .inr (1, [.ref fr, .ref ft, .ref fs, .long ufe_2, .long ufe_3])), (fr, aI g 132 ufr_1), (ft, aI g 68 uft_1), (fs, aI g 68 ufs_1), (xat, aJ g 8 xT), (xal, aI g 68 uxal_1), (xah, aI g 68 uxah_1), (xs, .inr (0, [.ref xat, .ref xab, .ref xar, .ref xal, .ref xah, .int uxs_1, .int xn])), (xab, aJ g 8 xB), (xar, aJ g 8 xR)] H → va_D A [(zd, .inr (4, [.ref rg, .ref iv, .ref fe, .ref c1, .ref c2, .ref pg, .ref zl, .ref zh, .ref ds])), (rg, aQ g 8 cRg), (fe, .inr (1, [.ref fr, .ref ft, .ref fs, .long ufe_2, .long ufe_3])), (fr, aI g 132 ufr_1), (ft, aI g 68 uft_1), (fs, aI g 68 ufs_1), (xat, aJ g 8 xT), (xal, aI g 68 uxal_1), (xah, aI g 68 uxah_1), (xs, .inr (0, [.ref xat, .ref xab, .ref xar, .ref xal, .ref xah, .int uxs_1, .int xn])), (xab, aJ g 8 xB), (xar, aJ g 8 xR)] → va_S A s.heap H locs → lv_has ls 7 [(0, .ref zd), (2, .int vJ), (5, .long r_3)] → W p l e rm_Desk_between2 s m args below meth c H locs 0 0 Q (F0 m 70 ls [.long y, .long r_2]) := by
            intro H locs ls hP hD hS hl
            refine lv_ladd hx hb d_Desk_between_70 ?_
            obtain ⟨x3, ex3, hm⟩ := sd_mlet hm
            refine sd_topj ex3 ?_
            refine lv_lstore_n (lv' := [(3, .long x3), (0, .ref zd), (2, .int vJ), (5, .long r_3)]) hx hb d_Desk_between_71 rfl hl (by decide) rfl (fun ls hl => ?_)
            refine lv_lload hx hb d_Desk_between_72 (lv_at hl 3 rfl) ?_
            refine lv_aload_n hx hb d_Desk_between_74 rfl (lv_at hl 1 rfl) ?_
            refine va_get (D := D) (ci := 4) (v := .ref rg) (C := R_Desk) (T := F_Desk) (N := 9) hx hb htt i_Desk hown hK hP 0 rfl rfl 0 (by decide) (htt _ kf_Desk_11) (fun _ h9 => h9) rfl d_Desk_between_75 ?_
            refine lv_iload_n hx hb d_Desk_between_78 rfl (lv_at hl 2 rfl) ?_
            obtain ⟨h_3, hm⟩ := sd_mg hm
            refine sd_aald hx hb hK hP 1 rfl h_3 d_Desk_between_79 ?_
            refine sd_topq (hJ h_3) ?_
            obtain ⟨r_5, hc, hm⟩ := sd_mb1 hm
            refine sd_ci0 (wr := [(zd, .inr (4, [.ref rg, .ref iv, .ref fe, .ref c1, .ref c2, .ref pg, .ref zl, .ref zh, .ref ds])), (rg, aQ g 8 cRg), (fe, .inr (1, [.ref fr, .ref ft, .ref fs, .long ufe_2, .long ufe_3])), (fr, aI g 132 ufr_1), (ft, aI g 68 uft_1), (fs, aI g 68 ufs_1), (xat, aJ g 8 xT), (xal, aI g 68 uxal_1), (xah, aI g 68 uxah_1)]) (w2 := [(zd, .inr (4, [.ref rg, .ref iv, .ref fe, .ref c1, .ref c2, .ref pg, .ref zl, .ref zh, .ref ds])), (rg, aQ g 8 cRg), (fe, .inr (1, [.ref fr, .ref ft, .ref fs, .long ufe_2, .long ufe_3])), (fr, aI g 132 ufr_1), (ft, aI g 68 uft_1), (fs, aI g 68 ufs_1), (xat, aJ g 8 xT), (xal, aI g 68 uxal_1), (xah, aI g 68 uxah_1), (xs, .inr (0, [.ref xat, .ref xab, .ref xar, .ref xal, .ref xah, .int uxs_1, .int xn])), (xab, aJ g 8 xB), (xar, aJ g 8 xR)]) (sd_runV (rest := [.long r_3]) (As := []) S (ct_Sum_isWhole l D g xs xat xab xar xal xah (H.size) uxs_1 xn xB xR F (r_5) hc) kl_Desk_199 (by decide) (by decide) hK hP hD [9, 10, 11] rfl (by decide) rfl hl d_Desk_between_80 rfl (Nat.le_of_ble_eq_true rfl) ⟨Nat.zero_le _, Nat.zero_le _⟩ 9 rfl rfl) hP hD hS hA [9, 10, 11] [0, 1, 2, 3, 4, 5, 6, 7, 8] rfl rfl (by decide) (by decide) rfl (fun H locs hP hD hS => ?_)
            refine W.eq (g2 := F0 m 83 ls [.int r_5, .long r_3]) rfl ?_
            obtain ⟨y_1, hv, hm⟩ := sd_mb1 hm
            have J91_4 : ∀ (H : Heap) (locs : List Loc) (ls : Array Slot), va_P D classes [(zd, .inr (4, [.ref rg, .ref iv, .ref fe, .ref c1, .ref c2, .ref pg, .ref zl, .ref zh, .ref ds])), (rg, aQ g 8 cRg), (fe, .inr (1, [.ref fr, .ref ft, .ref fs, .long ufe_2, .long ufe_3])), (fr, aI g 132 ufr_1), (ft, aI g 68 uft_1), (fs, aI g 68 ufs_1), (xat, aJ g 8 xT), (xal, aI g 68 uxal_1), (xah, aI g 68 uxah_1), (xs, .inr (0, [.ref xat, .ref xab, .ref xar, .ref xal, .ref xah, .int uxs_1, .int xn])), (xab, aJ g 8 xB), (xar, aJ g 8 xR)] H → va_D A [(zd, .inr (4, [.ref rg, .ref iv, .ref fe, .ref c1, .ref c2, .ref pg, .ref zl, .ref zh, .ref ds])), (rg, aQ g 8 cRg), (fe, .inr (1, [.ref fr, .ref ft, .ref fs, .long ufe_2, .long ufe_3])), (fr, aI g 132 ufr_1), (ft, aI g 68 uft_1), (fs, aI g 68 ufs_1), (xat, aJ g 8 xT), (xal, aI g 68 uxal_1), (xah, aI g 68 uxah_1), (xs, .inr (0, [.ref xat, .ref xab, .ref xar, .ref xal, .ref xah, .int uxs_1, .int xn])), (xab, aJ g 8 xB), (xar, aJ g 8 xR)] → va_S A s.heap H locs → lv_has ls 7 [(3, .long x3)] → W p l e rm_Desk_between2 s m args below meth c H locs 0 0 Q (F0 m 91 ls [.long y_1, .long r_3]) := by
              intro H locs ls hP hD hS hl
              refine lv_ladd hx hb d_Desk_between_91 ?_
              obtain ⟨x5, ex5, hm⟩ := sd_mlet hm
              refine sd_topj ex5 ?_
              refine lv_lstore (lv' := [(5, .long x5), (3, .long x3)]) hx hb d_Desk_between_92 hl (by decide) rfl (fun ls hl => ?_)
              refine lv_lconst (v := (0 : Int64)) hx hb d_Desk_between_94 (by decide) ?_
              refine lv_lload hx hb d_Desk_between_95 (lv_at hl 0 rfl) ?_
              refine lv_lload_n hx hb d_Desk_between_97 rfl (lv_at hl 1 rfl) ?_
              refine lv_lsub hx hb d_Desk_between_98 ?_
              refine sd_maxl hx hb hml hown kl_Desk_202 htt hl d_Desk_between_99 (Nat.le_of_ble_eq_true rfl) (Nat.le_of_ble_eq_true rfl) ?_
              exact sd_l1ret (u := (ufe_2, ufe_3, ufr_1, uft_1, ufs_1, uxs_1, uxal_1, uxah_1)) hQ hx hb hr hlk hK (hP.sub [0, 1, 2, 3, 4, 5, 9, 6, 10, 11, 7, 8] rfl) (hD.sub [0, 1, 2, 3, 4, 5, 9, 6, 10, 11, 7, 8] (by decide) rfl) hS (Option.some.inj hm).symm d_Desk_between_102
            replace hm := hv
            refine lv_if_eq (tgt := 90) hx hb d_Desk_between_83 (by decide) (fun hc => ?_) (fun hc => ?_)
            · have hm := sd_mt hc hm
              refine lv_lconst (v := (1 : Int64)) hx hb d_Desk_between_90 (by decide) ?_
              cases hm
              exact J91_4 H locs ls (hP.sub [0, 1, 2, 3, 4, 5, 6, 7, 8, 9, 10, 11] rfl) (hD.sub [0, 1, 2, 3, 4, 5, 6, 7, 8, 9, 10, 11] (by decide) rfl) hS (lv_sub hl [0] rfl)
            · have hm := sd_mf hc hm
              refine lv_lconst (v := (0 : Int64)) hx hb d_Desk_between_86 (by decide) ?_
              refine lv_goto (tgt := 91) hx hb d_Desk_between_87 (by decide) ?_
              cases hm
              exact J91_4 H locs ls (hP.sub [0, 1, 2, 3, 4, 5, 6, 7, 8, 9, 10, 11] rfl) (hD.sub [0, 1, 2, 3, 4, 5, 6, 7, 8, 9, 10, 11] (by decide) rfl) hS (lv_sub hl [0] rfl)
          replace hm := hv
          refine lv_if_eq (tgt := 69) hx hb d_Desk_between_62 (by decide) (fun hc => ?_) (fun hc => ?_)
          · have hm := sd_mt hc hm
            refine lv_lconst (v := (1 : Int64)) hx hb d_Desk_between_69 (by decide) ?_
            cases hm
            exact J70_2 H locs ls (hP.sub [0, 1, 2, 3, 4, 5, 6, 7, 8, 9, 10, 11] rfl) (hD.sub [0, 1, 2, 3, 4, 5, 6, 7, 8, 9, 10, 11] (by decide) rfl) hS (lv_sub hl [2, 4, 0] rfl)
          · have hm := sd_mf hc hm
            refine lv_lconst (v := (0 : Int64)) hx hb d_Desk_between_65 (by decide) ?_
            refine lv_goto (tgt := 70) hx hb d_Desk_between_66 (by decide) ?_
            cases hm
            exact J70_2 H locs ls (hP.sub [0, 1, 2, 3, 4, 5, 6, 7, 8, 9, 10, 11] rfl) (hD.sub [0, 1, 2, 3, 4, 5, 6, 7, 8, 9, 10, 11] (by decide) rfl) hS (lv_sub hl [2, 4, 0] rfl)
        · have hm := sd_mt hc hm
          refine sd_ldc2 (v := (4611686018427387906 : Int64)) hx hb hown (htt _ km_Desk_148) d_Desk_between_48 ?_
          exact sd_l1ret (u := (ufe_2, ufe_3, ufr_1, uft_1, ufs_1, uxs_1, uxal_1, uxah_1)) hQ hx hb hr hlk hK (hP.sub [0, 1, 2, 3, 4, 5, 6, 7, 8, 9, 10, 11] rfl) (hD.sub [0, 1, 2, 3, 4, 5, 6, 7, 8, 9, 10, 11] (by decide) rfl) hS (Option.some.inj hm).symm d_Desk_between_51
    · have hm := sd_mt hc hm
      refine sd_ldc2 (v := (4611686018427387904 : Int64)) hx hb hown (htt _ km_Desk_127) d_Desk_between_14 ?_
      exact sd_l1ret (u := (fR, fQ, cfr, cft, cfs, xk, xL, xH)) hQ hx hb hr hlk hK (hP.sub [0, 1, 2, 3, 4, 5, 6, 7, 8, 9, 10, 11] rfl) (hD.sub [0, 1, 2, 3, 4, 5, 6, 7, 8, 9, 10, 11] (by decide) rfl) hS (Option.some.inj hm).symm d_Desk_between_17
