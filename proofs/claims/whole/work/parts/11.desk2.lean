/-! Desk_compare, Desk_floor, Desk_write, Desk_octet, Desk_nearest, Desk_between, Desk_term, Desk_terms, Desk_same, Desk_same2 -/
theorem kf_Desk_134 : Cond.fieldLink R_Desk 134 "SurdDesk$Sum" "low" "[I" ∈ sd_tb := (sd_in (List.mem_of_getElem? (i := 77) (by decide +kernel)) rfl)
theorem kf_Desk_137 : Cond.fieldLink R_Desk 137 "SurdDesk$Sum" "high" "[I" ∈ sd_tb := (sd_in (List.mem_of_getElem? (i := 81) (by decide +kernel)) rfl)
theorem kf_Desk_205 : Cond.fieldLink R_Desk 205 "SurdDesk$Sum" "tops" "[J" ∈ sd_tb := (sd_in (List.mem_of_getElem? (i := 67) (by decide +kernel)) rfl)
theorem kf_Desk_209 : Cond.fieldLink R_Desk 209 "SurdDesk$Sum" "bottoms" "[J" ∈ sd_tb := (sd_in (List.mem_of_getElem? (i := 70) (by decide +kernel)) rfl)
theorem kf_Desk_212 : Cond.fieldLink R_Desk 212 "SurdDesk$Sum" "radicands" "[J" ∈ sd_tb := (sd_in (List.mem_of_getElem? (i := 73) (by decide +kernel)) rfl)
theorem kf_Desk_23 : Cond.fieldLink R_Desk 23 "SurdDesk" "ends" "LSurdDesk$EndsFinder;" ∈ sd_tb := (sd_in (List.mem_of_getElem? (i := 162) (by decide +kernel)) rfl)
theorem kf_Desk_40 : Cond.fieldLink R_Desk 40 "SurdDesk" "page" "LSurdDesk$Page;" ∈ sd_tb := (sd_in (List.mem_of_getElem? (i := 165) (by decide +kernel)) rfl)
theorem kf_Desk_46 : Cond.fieldLink R_Desk 46 "SurdDesk" "lowSize" "[I" ∈ sd_tb := (sd_in (List.mem_of_getElem? (i := 166) (by decide +kernel)) rfl)
theorem kf_Desk_50 : Cond.fieldLink R_Desk 50 "SurdDesk" "highSize" "[I" ∈ sd_tb := (sd_in (List.mem_of_getElem? (i := 167) (by decide +kernel)) rfl)
theorem kl_Desk_114 : sd_LV R_Desk 114 y_Sum_isSameAs b_Sum_isSameAs 3 (some .boolean) 1 := ⟨(sd_in (List.mem_of_getElem? (i := 300) (by decide +kernel)) rfl), (sd_in (List.mem_of_getElem? (i := 301) (by decide +kernel)) rfl), (sd_in (List.mem_of_getElem? (i := 302) (by decide +kernel)) rfl), (sd_in (List.mem_of_getElem? (i := 36) (by decide +kernel)) rfl), (sd_in (List.mem_of_getElem? (i := 303) (by decide +kernel)) rfl), by decide +kernel, by decide +kernel, by decide +kernel⟩
theorem kl_Desk_117 : sd_LV R_Desk 117 y_EndsFinder_find b_EndsFinder_find 5 none 1 := ⟨(sd_in (List.mem_of_getElem? (i := 304) (by decide +kernel)) rfl), (sd_in (List.mem_of_getElem? (i := 305) (by decide +kernel)) rfl), (sd_in (List.mem_of_getElem? (i := 306) (by decide +kernel)) rfl), (sd_in (List.mem_of_getElem? (i := 37) (by decide +kernel)) rfl), (sd_in (List.mem_of_getElem? (i := 307) (by decide +kernel)) rfl), by decide +kernel, by decide +kernel, by decide +kernel⟩
theorem kl_Desk_121 : sd_LS R_Desk 121 y_Teller_order b_Teller_order 2 (some .int) 2 := ⟨(sd_in (List.mem_of_getElem? (i := 356) (by decide +kernel)) rfl), (sd_in (List.mem_of_getElem? (i := 357) (by decide +kernel)) rfl), (sd_in (List.mem_of_getElem? (i := 46) (by decide +kernel)) rfl), (sd_in (List.mem_of_getElem? (i := 358) (by decide +kernel)) rfl), by decide +kernel, by decide +kernel, by decide +kernel⟩
theorem kl_Desk_140 : sd_LS R_Desk 140 y_Teller_haveSameWhole b_Teller_haveSameWhole 2 (some .boolean) 2 := ⟨(sd_in (List.mem_of_getElem? (i := 370) (by decide +kernel)) rfl), (sd_in (List.mem_of_getElem? (i := 371) (by decide +kernel)) rfl), (sd_in (List.mem_of_getElem? (i := 46) (by decide +kernel)) rfl), (sd_in (List.mem_of_getElem? (i := 372) (by decide +kernel)) rfl), by decide +kernel, by decide +kernel, by decide +kernel⟩
theorem kl_Desk_144 : sd_LS R_Desk 144 y_Wide_whole b_Wide_whole 4 (some .long) 1 := ⟨(sd_in (List.mem_of_getElem? (i := 376) (by decide +kernel)) rfl), (sd_in (List.mem_of_getElem? (i := 374) (by decide +kernel)) rfl), (sd_in (List.mem_of_getElem? (i := 45) (by decide +kernel)) rfl), (sd_in (List.mem_of_getElem? (i := 375) (by decide +kernel)) rfl), by decide +kernel, by decide +kernel, by decide +kernel⟩
theorem kl_Desk_150 : sd_LV R_Desk 150 y_Page_draftFraction b_Page_draftFraction 11 none 3 := ⟨(sd_in (List.mem_of_getElem? (i := 382) (by decide +kernel)) rfl), (sd_in (List.mem_of_getElem? (i := 383) (by decide +kernel)) rfl), (sd_in (List.mem_of_getElem? (i := 384) (by decide +kernel)) rfl), (sd_in (List.mem_of_getElem? (i := 39) (by decide +kernel)) rfl), (sd_in (List.mem_of_getElem? (i := 385) (by decide +kernel)) rfl), by decide +kernel, by decide +kernel, by decide +kernel⟩
theorem kl_Desk_154 : sd_LV R_Desk 154 y_Page_keep b_Page_keep 2 (some .int) 0 := ⟨(sd_in (List.mem_of_getElem? (i := 397) (by decide +kernel)) rfl), (sd_in (List.mem_of_getElem? (i := 398) (by decide +kernel)) rfl), (sd_in (List.mem_of_getElem? (i := 399) (by decide +kernel)) rfl), (sd_in (List.mem_of_getElem? (i := 39) (by decide +kernel)) rfl), (sd_in (List.mem_of_getElem? (i := 400) (by decide +kernel)) rfl), by decide +kernel, by decide +kernel, by decide +kernel⟩
theorem kl_Desk_157 : sd_LS R_Desk 157 y_Teller_sizes b_Teller_sizes 4 (some .int) 4 := ⟨(sd_in (List.mem_of_getElem? (i := 401) (by decide +kernel)) rfl), (sd_in (List.mem_of_getElem? (i := 402) (by decide +kernel)) rfl), (sd_in (List.mem_of_getElem? (i := 46) (by decide +kernel)) rfl), (sd_in (List.mem_of_getElem? (i := 403) (by decide +kernel)) rfl), by decide +kernel, by decide +kernel, by decide +kernel⟩
theorem kl_Desk_161 : sd_LV R_Desk 161 y_Page_draftEnds b_Page_draftEnds 9 (some .boolean) 4 := ⟨(sd_in (List.mem_of_getElem? (i := 411) (by decide +kernel)) rfl), (sd_in (List.mem_of_getElem? (i := 412) (by decide +kernel)) rfl), (sd_in (List.mem_of_getElem? (i := 413) (by decide +kernel)) rfl), (sd_in (List.mem_of_getElem? (i := 39) (by decide +kernel)) rfl), (sd_in (List.mem_of_getElem? (i := 414) (by decide +kernel)) rfl), by decide +kernel, by decide +kernel, by decide +kernel⟩
theorem kl_Desk_165 : sd_LV R_Desk 165 y_Page_length b_Page_length 1 (some .int) 0 := ⟨(sd_in (List.mem_of_getElem? (i := 423) (by decide +kernel)) rfl), (sd_in (List.mem_of_getElem? (i := 424) (by decide +kernel)) rfl), (sd_in (List.mem_of_getElem? (i := 425) (by decide +kernel)) rfl), (sd_in (List.mem_of_getElem? (i := 39) (by decide +kernel)) rfl), (sd_in (List.mem_of_getElem? (i := 426) (by decide +kernel)) rfl), by decide +kernel, by decide +kernel, by decide +kernel⟩
theorem kl_Desk_168 : sd_LV R_Desk 168 y_Page_at b_Page_at 2 (some .int) 1 := ⟨(sd_in (List.mem_of_getElem? (i := 427) (by decide +kernel)) rfl), (sd_in (List.mem_of_getElem? (i := 428) (by decide +kernel)) rfl), (sd_in (List.mem_of_getElem? (i := 429) (by decide +kernel)) rfl), (sd_in (List.mem_of_getElem? (i := 39) (by decide +kernel)) rfl), (sd_in (List.mem_of_getElem? (i := 430) (by decide +kernel)) rfl), by decide +kernel, by decide +kernel, by decide +kernel⟩
theorem kl_Desk_181 : sd_LS R_Desk 181 y_Doubles_ofFraction b_Doubles_ofFraction 13 (some .long) 2 := ⟨(sd_in (List.mem_of_getElem? (i := 476) (by decide +kernel)) rfl), (sd_in (List.mem_of_getElem? (i := 477) (by decide +kernel)) rfl), (sd_in (List.mem_of_getElem? (i := 49) (by decide +kernel)) rfl), (sd_in (List.mem_of_getElem? (i := 478) (by decide +kernel)) rfl), by decide +kernel, by decide +kernel, by decide +kernel⟩
theorem kl_Desk_186 : sd_LS R_Desk 186 y_Doubles_areNear b_Doubles_areNear 3 (some .boolean) 2 := ⟨(sd_in (List.mem_of_getElem? (i := 486) (by decide +kernel)) rfl), (sd_in (List.mem_of_getElem? (i := 487) (by decide +kernel)) rfl), (sd_in (List.mem_of_getElem? (i := 49) (by decide +kernel)) rfl), (sd_in (List.mem_of_getElem? (i := 488) (by decide +kernel)) rfl), by decide +kernel, by decide +kernel, by decide +kernel⟩
theorem kl_Desk_191 : sd_LS R_Desk 191 y_Doubles_ofSize b_Doubles_ofSize 3 (some .long) 2 := ⟨(sd_in (List.mem_of_getElem? (i := 500) (by decide +kernel)) rfl), (sd_in (List.mem_of_getElem? (i := 501) (by decide +kernel)) rfl), (sd_in (List.mem_of_getElem? (i := 49) (by decide +kernel)) rfl), (sd_in (List.mem_of_getElem? (i := 502) (by decide +kernel)) rfl), by decide +kernel, by decide +kernel, by decide +kernel⟩
theorem kl_Desk_195 : sd_LV R_Desk 195 y_Desk_floor b_Desk_floor 3 (some .long) 1 := ⟨(sd_in (List.mem_of_getElem? (i := 507) (by decide +kernel)) rfl), (sd_in (List.mem_of_getElem? (i := 363) (by decide +kernel)) rfl), (sd_in (List.mem_of_getElem? (i := 364) (by decide +kernel)) rfl), (sd_in (List.mem_of_getElem? (i := 35) (by decide +kernel)) rfl), (sd_in (List.mem_of_getElem? (i := 365) (by decide +kernel)) rfl), by decide +kernel, by decide +kernel, by decide +kernel⟩
theorem kl_Desk_199 : sd_LV R_Desk 199 y_Sum_isWhole b_Sum_isWhole 1 (some .boolean) 0 := ⟨(sd_in (List.mem_of_getElem? (i := 508) (by decide +kernel)) rfl), (sd_in (List.mem_of_getElem? (i := 509) (by decide +kernel)) rfl), (sd_in (List.mem_of_getElem? (i := 510) (by decide +kernel)) rfl), (sd_in (List.mem_of_getElem? (i := 36) (by decide +kernel)) rfl), (sd_in (List.mem_of_getElem? (i := 511) (by decide +kernel)) rfl), by decide +kernel, by decide +kernel, by decide +kernel⟩
theorem kl_Desk_202 : sd_LS R_Desk 202 Lib.MathLoose.max_long.x Lib.MathLoose.max_long.code 4 (some .long) 2 := ⟨(sd_in (List.mem_of_getElem? (i := 514) (by decide +kernel)) rfl), (sd_in (List.mem_of_getElem? (i := 515) (by decide +kernel)) rfl), (sd_in (List.mem_of_getElem? (i := 42) (by decide +kernel)) rfl), (sd_in (List.mem_of_getElem? (i := 516) (by decide +kernel)) rfl), by decide +kernel, by decide +kernel, by decide +kernel⟩
theorem km_Desk_148 : Cond.constantLong R_Desk 148 (4611686018427387906 : Int64) ∈ sd_tb := (sd_in (List.mem_of_getElem? (i := 377) (by decide +kernel)) rfl)
theorem km_Desk_189 : Cond.constantLong R_Desk 189 (9221120237041090560 : Int64) ∈ sd_tb := (sd_in (List.mem_of_getElem? (i := 499) (by decide +kernel)) rfl)
theorem d_Desk_compare_0 : decode b_Desk_compare 0 = .ok (.iload_n 1, 1) := by decide +kernel
theorem d_Desk_compare_1 : decode b_Desk_compare 1 = .ok (.invokestatic 56, 3) := by decide +kernel
theorem d_Desk_compare_4 : decode b_Desk_compare 4 = .ok (.ifCond .eq 10, 3) := by decide +kernel
theorem d_Desk_compare_7 : decode b_Desk_compare 7 = .ok (.iload_n 2, 1) := by decide +kernel
theorem d_Desk_compare_8 : decode b_Desk_compare 8 = .ok (.invokestatic 56, 3) := by decide +kernel
theorem d_Desk_compare_11 : decode b_Desk_compare 11 = .ok (.ifCond .ne 6, 3) := by decide +kernel
theorem d_Desk_compare_14 : decode b_Desk_compare 14 = .ok (.bipush (-2), 2) := by decide +kernel
theorem d_Desk_compare_16 : decode b_Desk_compare 16 = .ok (.ireturn, 1) := by decide +kernel
theorem d_Desk_compare_17 : decode b_Desk_compare 17 = .ok (.aload_n 0, 1) := by decide +kernel
theorem d_Desk_compare_18 : decode b_Desk_compare 18 = .ok (.getfield 11, 3) := by decide +kernel
theorem d_Desk_compare_21 : decode b_Desk_compare 21 = .ok (.iload_n 1, 1) := by decide +kernel
theorem d_Desk_compare_22 : decode b_Desk_compare 22 = .ok (.aaload, 1) := by decide +kernel
theorem d_Desk_compare_23 : decode b_Desk_compare 23 = .ok (.aload_n 0, 1) := by decide +kernel
theorem d_Desk_compare_24 : decode b_Desk_compare 24 = .ok (.getfield 11, 3) := by decide +kernel
theorem d_Desk_compare_27 : decode b_Desk_compare 27 = .ok (.iload_n 2, 1) := by decide +kernel
theorem d_Desk_compare_28 : decode b_Desk_compare 28 = .ok (.aaload, 1) := by decide +kernel
theorem d_Desk_compare_29 : decode b_Desk_compare 29 = .ok (.invokevirtual 114, 3) := by decide +kernel
theorem d_Desk_compare_32 : decode b_Desk_compare 32 = .ok (.ifCond .eq 5, 3) := by decide +kernel
theorem d_Desk_compare_35 : decode b_Desk_compare 35 = .ok (.iconst 0, 1) := by decide +kernel
theorem d_Desk_compare_36 : decode b_Desk_compare 36 = .ok (.ireturn, 1) := by decide +kernel
theorem d_Desk_compare_37 : decode b_Desk_compare 37 = .ok (.aload_n 0, 1) := by decide +kernel
theorem d_Desk_compare_38 : decode b_Desk_compare 38 = .ok (.getfield 23, 3) := by decide +kernel
theorem d_Desk_compare_41 : decode b_Desk_compare 41 = .ok (.aload_n 0, 1) := by decide +kernel
theorem d_Desk_compare_42 : decode b_Desk_compare 42 = .ok (.getfield 11, 3) := by decide +kernel
theorem d_Desk_compare_45 : decode b_Desk_compare 45 = .ok (.iload_n 1, 1) := by decide +kernel
theorem d_Desk_compare_46 : decode b_Desk_compare 46 = .ok (.aaload, 1) := by decide +kernel
theorem d_Desk_compare_47 : decode b_Desk_compare 47 = .ok (.invokevirtual 117, 3) := by decide +kernel
theorem d_Desk_compare_50 : decode b_Desk_compare 50 = .ok (.aload_n 0, 1) := by decide +kernel
theorem d_Desk_compare_51 : decode b_Desk_compare 51 = .ok (.getfield 23, 3) := by decide +kernel
theorem d_Desk_compare_54 : decode b_Desk_compare 54 = .ok (.aload_n 0, 1) := by decide +kernel
theorem d_Desk_compare_55 : decode b_Desk_compare 55 = .ok (.getfield 11, 3) := by decide +kernel
theorem d_Desk_compare_58 : decode b_Desk_compare 58 = .ok (.iload_n 2, 1) := by decide +kernel
theorem d_Desk_compare_59 : decode b_Desk_compare 59 = .ok (.aaload, 1) := by decide +kernel
theorem d_Desk_compare_60 : decode b_Desk_compare 60 = .ok (.invokevirtual 117, 3) := by decide +kernel
theorem d_Desk_compare_63 : decode b_Desk_compare 63 = .ok (.aload_n 0, 1) := by decide +kernel
theorem d_Desk_compare_64 : decode b_Desk_compare 64 = .ok (.getfield 11, 3) := by decide +kernel
theorem d_Desk_compare_67 : decode b_Desk_compare 67 = .ok (.iload_n 1, 1) := by decide +kernel
theorem d_Desk_compare_68 : decode b_Desk_compare 68 = .ok (.aaload, 1) := by decide +kernel
theorem d_Desk_compare_69 : decode b_Desk_compare 69 = .ok (.aload_n 0, 1) := by decide +kernel
theorem d_Desk_compare_70 : decode b_Desk_compare 70 = .ok (.getfield 11, 3) := by decide +kernel
theorem d_Desk_compare_73 : decode b_Desk_compare 73 = .ok (.iload_n 2, 1) := by decide +kernel
theorem d_Desk_compare_74 : decode b_Desk_compare 74 = .ok (.aaload, 1) := by decide +kernel
theorem d_Desk_compare_75 : decode b_Desk_compare 75 = .ok (.invokestatic 121, 3) := by decide +kernel
theorem d_Desk_compare_78 : decode b_Desk_compare 78 = .ok (.ireturn, 1) := by decide +kernel
def mf_Desk_compare (F : Nat) (vI : Int32) (vJ : Int32) (cRg : Nat → Option Nat) (fR : Int64) (fQ : Int64) (cfr : Nat → Int32) (cft : Nat → Int32) (cfs : Nat → Int32) (xk : Int32) (xn : Int32) (xT : Nat → Int64) (xB : Nat → Int64) (xR : Nat → Int64) (xL : Nat → Int32) (xH : Nat → Int32) (yk : Int32) (yn : Int32) (yT : Nat → Int64) (yB : Nat → Int64) (yR : Nat → Int64) (yL : Nat → Int32) (yH : Nat → Int32) : Option (Int32 × Int64 × Int64 × (Nat → Int32) × (Nat → Int32) × (Nat → Int32) × Int32 × (Nat → Int32) × (Nat → Int32) × Int32 × (Nat → Int32) × (Nat → Int32)) :=
  (sd_b1 (mf_Desk_isRegister F vI) fun r => (if r = 0 then (some ((-2 : Int32), fR, fQ, cfr, cft, cfs, xk, xL, xH, yk, yL, yH)) else (sd_b1 (mf_Desk_isRegister F vJ) fun r_1 => (if r_1 = 0 then (some ((-2 : Int32), fR, fQ, cfr, cft, cfs, xk, xL, xH, yk, yL, yH)) else (sd_g (sd_ix vI 8) (sd_g (sd_ix vJ 8) (sd_b1 (mf_Sum_isSameAs F xk xn xT xB xR yk yn yT yB yR) fun r_2 => (if r_2 = 0 then (sd_g (sd_ix vI 8) (sd_b8 (mf_EndsFinder_find F fR fQ cfr cft cfs xk xn xT xB xR xL xH) fun ufe ufe_1 ufr uft ufs uxs uxal uxah => (sd_g (sd_ix vJ 8) (sd_b8 (mf_EndsFinder_find F ufe ufe_1 ufr uft ufs yk yn yT yB yR yL yH) fun ufe_2 ufe_3 ufr_1 uft_1 ufs_1 uys uyal uyah => (sd_g (sd_ix vI 8) (sd_g (sd_ix vJ 8) (sd_b1 (mf_Teller_order F uxs xn uxal uxah uys yn uyal uyah) fun r_3 => (some (r_3, ufe_2, ufe_3, ufr_1, uft_1, ufs_1, uxs, uxal, uxah, uys, uyal, uyah))))))))) else (some ((0 : Int32), fR, fQ, cfr, cft, cfs, xk, xL, xH, yk, yL, yH))))))))))
abbrev rm_Desk_compare : Room := { frames := 5, cells := 0, slots := 0, locals := 139 }
set_option maxHeartbeats 4000000 in
set_option maxRecDepth 100000 in
theorem ct_Desk_compare (l : Launch) (D : va_G) (g : G4) (zd : Nat) (rg : Nat) (iv : Nat) (fe : Nat) (c1 : Nat) (c2 : Nat) (pg : Nat) (zl : Nat) (zh : Nat) (ds : Nat) (fr : Nat) (ft : Nat) (fs : Nat) (xs : Nat) (xat : Nat) (xab : Nat) (xar : Nat) (xal : Nat) (xah : Nat) (ys : Nat) (yat : Nat) (yab : Nat) (yar : Nat) (yal : Nat) (yah : Nat) (sz : Nat) (vI : Int32) (vJ : Int32) (cRg : Nat → Option Nat) (fR : Int64) (fQ : Int64) (cfr : Nat → Int32) (cft : Nat → Int32) (cfs : Nat → Int32) (xk : Int32) (xn : Int32) (xT : Nat → Int64) (xB : Nat → Int64) (xR : Nat → Int64) (xL : Nat → Int32) (xH : Nat → Int32) (yk : Int32) (yn : Int32) (yT : Nat → Int64) (yB : Nat → Int64) (yR : Nat → Int64) (yL : Nat → Int32) (yH : Nat → Int32) (F : Nat) (res : Int32 × Int64 × Int64 × (Nat → Int32) × (Nat → Int32) × (Nat → Int32) × Int32 × (Nat → Int32) × (Nat → Int32) × Int32 × (Nat → Int32) × (Nat → Int32)) (hm : mf_Desk_compare F vI vJ cRg fR fQ cfr cft cfs xk xn xT xB xR xL xH yk yn yT yB yR yL yH = some res) (hI : sd_ix vI 8 = true → cRg vI.toNatClampNeg = some xs) (hJ : sd_ix vJ 8 = true → cRg vJ.toNatClampNeg = some ys) : Met l y_Desk_compare (.code y_Desk_compare b_Desk_compare 3 (some .int) :: sd_tb) rm_Desk_compare (sd_PW D g [.ref zd, .int vI, .int vJ] sz [(zd, .inr (4, [.ref rg, .ref iv, .ref fe, .ref c1, .ref c2, .ref pg, .ref zl, .ref zh, .ref ds])), (rg, aQ g 8 cRg), (fe, .inr (1, [.ref fr, .ref ft, .ref fs, .long fR, .long fQ])), (fr, aI g 132 cfr), (ft, aI g 68 cft), (fs, aI g 68 cfs), (xs, .inr (0, [.ref xat, .ref xab, .ref xar, .ref xal, .ref xah, .int xk, .int xn])), (xat, aJ g 8 xT), (xab, aJ g 8 xB), (xar, aJ g 8 xR), (xal, aI g 68 xL), (xah, aI g 68 xH), (ys, .inr (0, [.ref yat, .ref yab, .ref yar, .ref yal, .ref yah, .int yk, .int yn])), (yat, aJ g 8 yT), (yab, aJ g 8 yB), (yar, aJ g 8 yR), (yal, aI g 68 yL), (yah, aI g 68 yH)]) (sd_Qi1 D g res (fun u : Int64 × Int64 × (Nat → Int32) × (Nat → Int32) × (Nat → Int32) × Int32 × (Nat → Int32) × (Nat → Int32) × Int32 × (Nat → Int32) × (Nat → Int32) => [(zd, .inr (4, [.ref rg, .ref iv, .ref fe, .ref c1, .ref c2, .ref pg, .ref zl, .ref zh, .ref ds])), (rg, aQ g 8 cRg), (fe, .inr (1, [.ref fr, .ref ft, .ref fs, .long (u.1), .long (u.2.1)])), (fr, aI g 132 (u.2.2.1)), (ft, aI g 68 (u.2.2.2.1)), (fs, aI g 68 (u.2.2.2.2.1)), (xs, .inr (0, [.ref xat, .ref xab, .ref xar, .ref xal, .ref xah, .int (u.2.2.2.2.2.1), .int xn])), (xat, aJ g 8 xT), (xab, aJ g 8 xB), (xar, aJ g 8 xR), (xal, aI g 68 (u.2.2.2.2.2.2.1)), (xah, aI g 68 (u.2.2.2.2.2.2.2.1)), (ys, .inr (0, [.ref yat, .ref yab, .ref yar, .ref yal, .ref yah, .int (u.2.2.2.2.2.2.2.2.1), .int yn])), (yat, aJ g 8 yT), (yab, aJ g 8 yB), (yar, aJ g 8 yR), (yal, aI g 68 (u.2.2.2.2.2.2.2.2.2.1)), (yah, aI g 68 (u.2.2.2.2.2.2.2.2.2.2))]) (va_A [(zd, .inr (4, [.ref rg, .ref iv, .ref fe, .ref c1, .ref c2, .ref pg, .ref zl, .ref zh, .ref ds])), (rg, aQ g 8 cRg), (fe, .inr (1, [.ref fr, .ref ft, .ref fs, .long fR, .long fQ])), (fr, aI g 132 cfr), (ft, aI g 68 cft), (fs, aI g 68 cfs), (xs, .inr (0, [.ref xat, .ref xab, .ref xar, .ref xal, .ref xah, .int xk, .int xn])), (xat, aJ g 8 xT), (xab, aJ g 8 xB), (xar, aJ g 8 xR), (xal, aI g 68 xL), (xah, aI g 68 xH), (ys, .inr (0, [.ref yat, .ref yab, .ref yar, .ref yal, .ref yah, .int yk, .int yn])), (yat, aJ g 8 yT), (yab, aJ g 8 yB), (yar, aJ g 8 yR), (yal, aI g 68 yL), (yah, aI g 68 yH)] sz)) 0 0 (va_A [(zd, .inr (4, [.ref rg, .ref iv, .ref fe, .ref c1, .ref c2, .ref pg, .ref zl, .ref zh, .ref ds])), (rg, aQ g 8 cRg), (fe, .inr (1, [.ref fr, .ref ft, .ref fs, .long fR, .long fQ])), (fr, aI g 132 cfr), (ft, aI g 68 cft), (fs, aI g 68 cfs), (xs, .inr (0, [.ref xat, .ref xab, .ref xar, .ref xal, .ref xah, .int xk, .int xn])), (xat, aJ g 8 xT), (xab, aJ g 8 xB), (xar, aJ g 8 xR), (xal, aI g 68 xL), (xah, aI g 68 xH), (ys, .inr (0, [.ref yat, .ref yab, .ref yar, .ref yal, .ref yah, .int yk, .int yn])), (yat, aJ g 8 yT), (yab, aJ g 8 yB), (yar, aJ g 8 yR), (yal, aI g 68 yL), (yah, aI g 68 yH)] sz) := by
  refine sd_met (Qf := fun A => sd_Qi1 D g res (fun u : Int64 × Int64 × (Nat → Int32) × (Nat → Int32) × (Nat → Int32) × Int32 × (Nat → Int32) × (Nat → Int32) × Int32 × (Nat → Int32) × (Nat → Int32) => [(zd, .inr (4, [.ref rg, .ref iv, .ref fe, .ref c1, .ref c2, .ref pg, .ref zl, .ref zh, .ref ds])), (rg, aQ g 8 cRg), (fe, .inr (1, [.ref fr, .ref ft, .ref fs, .long (u.1), .long (u.2.1)])), (fr, aI g 132 (u.2.2.1)), (ft, aI g 68 (u.2.2.2.1)), (fs, aI g 68 (u.2.2.2.2.1)), (xs, .inr (0, [.ref xat, .ref xab, .ref xar, .ref xal, .ref xah, .int (u.2.2.2.2.2.1), .int xn])), (xat, aJ g 8 xT), (xab, aJ g 8 xB), (xar, aJ g 8 xR), (xal, aI g 68 (u.2.2.2.2.2.2.1)), (xah, aI g 68 (u.2.2.2.2.2.2.2.1)), (ys, .inr (0, [.ref yat, .ref yab, .ref yar, .ref yal, .ref yah, .int (u.2.2.2.2.2.2.2.2.1), .int yn])), (yat, aJ g 8 yT), (yab, aJ g 8 yB), (yar, aJ g 8 yR), (yal, aI g 68 (u.2.2.2.2.2.2.2.2.2.1)), (yah, aI g 68 (u.2.2.2.2.2.2.2.2.2.2))]) A) (own := R_Desk) (by decide +kernel) rfl (Nat.le_of_ble_eq_true rfl) ?_
  intro p e s m args below meth c S hr hlk hK A hA Q hQ H locs hP hD hS ls hl
  have hx := S.1
  have hb := S.2.1
  have hml := S.2.2.1
  have hown := S.2.2.2.1
  have htt := sd_tt S
  replace hl : lv_has ls 3 [(0, .ref zd), (1, .int vI), (2, .int vJ)] := hl
  unfold mf_Desk_compare at hm
  refine lv_iload_n hx hb d_Desk_compare_0 rfl (lv_at hl 1 rfl) ?_
  obtain ⟨r, hc, hm⟩ := sd_mb1 hm
  refine sd_ci0 (wr := [(zd, .inr (4, [.ref rg, .ref iv, .ref fe, .ref c1, .ref c2, .ref pg, .ref zl, .ref zh, .ref ds])), (rg, aQ g 8 cRg), (fe, .inr (1, [.ref fr, .ref ft, .ref fs, .long fR, .long fQ])), (fr, aI g 132 cfr), (ft, aI g 68 cft), (fs, aI g 68 cfs), (xs, .inr (0, [.ref xat, .ref xab, .ref xar, .ref xal, .ref xah, .int xk, .int xn])), (xat, aJ g 8 xT), (xab, aJ g 8 xB), (xar, aJ g 8 xR), (xal, aI g 68 xL), (xah, aI g 68 xH), (ys, .inr (0, [.ref yat, .ref yab, .ref yar, .ref yal, .ref yah, .int yk, .int yn])), (yat, aJ g 8 yT), (yab, aJ g 8 yB), (yar, aJ g 8 yR), (yal, aI g 68 yL), (yah, aI g 68 yH)]) (w2 := [(zd, .inr (4, [.ref rg, .ref iv, .ref fe, .ref c1, .ref c2, .ref pg, .ref zl, .ref zh, .ref ds])), (rg, aQ g 8 cRg), (fe, .inr (1, [.ref fr, .ref ft, .ref fs, .long fR, .long fQ])), (fr, aI g 132 cfr), (ft, aI g 68 cft), (fs, aI g 68 cfs), (xs, .inr (0, [.ref xat, .ref xab, .ref xar, .ref xal, .ref xah, .int xk, .int xn])), (xat, aJ g 8 xT), (xab, aJ g 8 xB), (xar, aJ g 8 xR), (xal, aI g 68 xL), (xah, aI g 68 xH), (ys, .inr (0, [.ref yat, .ref yab, .ref yar, .ref yal, .ref yah, .int yk, .int yn])), (yat, aJ g 8 yT), (yab, aJ g 8 yB), (yar, aJ g 8 yR), (yal, aI g 68 yL), (yah, aI g 68 yH)]) (sd_runS (rest := []) (As := [.int vI]) S (ct_Desk_isRegister l D g (H.size) vI F (r) hc) kl_Desk_56 (by decide) (by decide) hK hP hD [] rfl (by decide) rfl hl d_Desk_compare_1 rfl (Nat.le_of_ble_eq_true rfl) ⟨Nat.zero_le _, Nat.zero_le _⟩) hP hD hS hA [] [0, 1, 2, 3, 4, 5, 6, 7, 8, 9, 10, 11, 12, 13, 14, 15, 16, 17] rfl rfl (by decide) (by decide) rfl (fun H locs hP hD hS => ?_)
  refine W.eq (g2 := F0 m 4 ls [.int r]) rfl ?_
  refine lv_if_eq (tgt := 14) hx hb d_Desk_compare_4 (by decide) (fun hc => ?_) (fun hc => ?_)
  · have hm := sd_mt hc hm
    refine lv_bipush (v := (-2 : Int32)) hx hb d_Desk_compare_14 (by decide) ?_
    exact sd_i1ret (u := (fR, fQ, cfr, cft, cfs, xk, xL, xH, yk, yL, yH)) hQ hx hb hr hlk hK (hP.sub [0, 1, 2, 3, 4, 5, 6, 7, 8, 9, 10, 11, 12, 13, 14, 15, 16, 17] rfl) (hD.sub [0, 1, 2, 3, 4, 5, 6, 7, 8, 9, 10, 11, 12, 13, 14, 15, 16, 17] (by decide) rfl) hS (Option.some.inj hm).symm d_Desk_compare_16
  · have hm := sd_mf hc hm
    refine lv_iload_n hx hb d_Desk_compare_7 rfl (lv_at hl 2 rfl) ?_
    obtain ⟨r_1, hc, hm⟩ := sd_mb1 hm
    refine sd_ci0 (wr := [(zd, .inr (4, [.ref rg, .ref iv, .ref fe, .ref c1, .ref c2, .ref pg, .ref zl, .ref zh, .ref ds])), (rg, aQ g 8 cRg), (fe, .inr (1, [.ref fr, .ref ft, .ref fs, .long fR, .long fQ])), (fr, aI g 132 cfr), (ft, aI g 68 cft), (fs, aI g 68 cfs), (xs, .inr (0, [.ref xat, .ref xab, .ref xar, .ref xal, .ref xah, .int xk, .int xn])), (xat, aJ g 8 xT), (xab, aJ g 8 xB), (xar, aJ g 8 xR), (xal, aI g 68 xL), (xah, aI g 68 xH), (ys, .inr (0, [.ref yat, .ref yab, .ref yar, .ref yal, .ref yah, .int yk, .int yn])), (yat, aJ g 8 yT), (yab, aJ g 8 yB), (yar, aJ g 8 yR), (yal, aI g 68 yL), (yah, aI g 68 yH)]) (w2 := [(zd, .inr (4, [.ref rg, .ref iv, .ref fe, .ref c1, .ref c2, .ref pg, .ref zl, .ref zh, .ref ds])), (rg, aQ g 8 cRg), (fe, .inr (1, [.ref fr, .ref ft, .ref fs, .long fR, .long fQ])), (fr, aI g 132 cfr), (ft, aI g 68 cft), (fs, aI g 68 cfs), (xs, .inr (0, [.ref xat, .ref xab, .ref xar, .ref xal, .ref xah, .int xk, .int xn])), (xat, aJ g 8 xT), (xab, aJ g 8 xB), (xar, aJ g 8 xR), (xal, aI g 68 xL), (xah, aI g 68 xH), (ys, .inr (0, [.ref yat, .ref yab, .ref yar, .ref yal, .ref yah, .int yk, .int yn])), (yat, aJ g 8 yT), (yab, aJ g 8 yB), (yar, aJ g 8 yR), (yal, aI g 68 yL), (yah, aI g 68 yH)]) (sd_runS (rest := []) (As := [.int vJ]) S (ct_Desk_isRegister l D g (H.size) vJ F (r_1) hc) kl_Desk_56 (by decide) (by decide) hK hP hD [] rfl (by decide) rfl hl d_Desk_compare_8 rfl (Nat.le_of_ble_eq_true rfl) ⟨Nat.zero_le _, Nat.zero_le _⟩) hP hD hS hA [] [0, 1, 2, 3, 4, 5, 6, 7, 8, 9, 10, 11, 12, 13, 14, 15, 16, 17] rfl rfl (by decide) (by decide) rfl (fun H locs hP hD hS => ?_)
    refine W.eq (g2 := F0 m 11 ls [.int r_1]) rfl ?_
    refine lv_if_ne (tgt := 17) hx hb d_Desk_compare_11 (by decide) (fun hc => ?_) (fun hc => ?_)
    · have hm := sd_mf hc hm
      refine lv_aload_n hx hb d_Desk_compare_17 rfl (lv_at hl 0 rfl) ?_
      refine va_get (D := D) (ci := 4) (v := .ref rg) (C := R_Desk) (T := F_Desk) (N := 9) hx hb htt i_Desk hown hK hP 0 rfl rfl 0 (by decide) (htt _ kf_Desk_11) (fun _ h9 => h9) rfl d_Desk_compare_18 ?_
      refine lv_iload_n hx hb d_Desk_compare_21 rfl (lv_at hl 1 rfl) ?_
      obtain ⟨h_1, hm⟩ := sd_mg hm
      refine sd_aald hx hb hK hP 1 rfl h_1 d_Desk_compare_22 ?_
      refine sd_topq (hI h_1) ?_
      refine lv_aload_n hx hb d_Desk_compare_23 rfl (lv_at hl 0 rfl) ?_
      refine va_get (D := D) (ci := 4) (v := .ref rg) (C := R_Desk) (T := F_Desk) (N := 9) hx hb htt i_Desk hown hK hP 0 rfl rfl 0 (by decide) (htt _ kf_Desk_11) (fun _ h9 => h9) rfl d_Desk_compare_24 ?_
      refine lv_iload_n hx hb d_Desk_compare_27 rfl (lv_at hl 2 rfl) ?_
      obtain ⟨h_2, hm⟩ := sd_mg hm
      refine sd_aald hx hb hK hP 1 rfl h_2 d_Desk_compare_28 ?_
      refine sd_topq (hJ h_2) ?_
      obtain ⟨r_2, hc, hm⟩ := sd_mb1 hm
      refine sd_ci0 (wr := [(zd, .inr (4, [.ref rg, .ref iv, .ref fe, .ref c1, .ref c2, .ref pg, .ref zl, .ref zh, .ref ds])), (rg, aQ g 8 cRg), (fe, .inr (1, [.ref fr, .ref ft, .ref fs, .long fR, .long fQ])), (fr, aI g 132 cfr), (ft, aI g 68 cft), (fs, aI g 68 cfs), (xal, aI g 68 xL), (xah, aI g 68 xH), (yal, aI g 68 yL), (yah, aI g 68 yH)]) (w2 := [(zd, .inr (4, [.ref rg, .ref iv, .ref fe, .ref c1, .ref c2, .ref pg, .ref zl, .ref zh, .ref ds])), (rg, aQ g 8 cRg), (fe, .inr (1, [.ref fr, .ref ft, .ref fs, .long fR, .long fQ])), (fr, aI g 132 cfr), (ft, aI g 68 cft), (fs, aI g 68 cfs), (xal, aI g 68 xL), (xah, aI g 68 xH), (yal, aI g 68 yL), (yah, aI g 68 yH), (xs, .inr (0, [.ref xat, .ref xab, .ref xar, .ref xal, .ref xah, .int xk, .int xn])), (xat, aJ g 8 xT), (xab, aJ g 8 xB), (xar, aJ g 8 xR), (ys, .inr (0, [.ref yat, .ref yab, .ref yar, .ref yal, .ref yah, .int yk, .int yn])), (yat, aJ g 8 yT), (yab, aJ g 8 yB), (yar, aJ g 8 yR)]) (sd_runV (rest := []) (As := [.ref ys]) S (ct_Sum_isSameAs l D g xs xat xab xar xal xah ys yat yab yar yal yah (H.size) xk xn xT xB xR yk yn yT yB yR F (r_2) hc) kl_Desk_114 (by decide) (by decide) hK hP hD [6, 7, 8, 9, 12, 13, 14, 15] rfl (by decide) rfl hl d_Desk_compare_29 rfl (Nat.le_of_ble_eq_true rfl) ⟨Nat.zero_le _, Nat.zero_le _⟩ 6 rfl rfl) hP hD hS hA [6, 7, 8, 9, 12, 13, 14, 15] [0, 1, 2, 3, 4, 5, 10, 11, 16, 17] rfl rfl (by decide) (by decide) rfl (fun H locs hP hD hS => ?_)
      refine W.eq (g2 := F0 m 32 ls [.int r_2]) rfl ?_
      refine lv_if_eq (tgt := 37) hx hb d_Desk_compare_32 (by decide) (fun hc => ?_) (fun hc => ?_)
      · have hm := sd_mt hc hm
        refine lv_aload_n hx hb d_Desk_compare_37 rfl (lv_at hl 0 rfl) ?_
        refine va_get (D := D) (ci := 4) (v := .ref fe) (C := R_Desk) (T := F_Desk) (N := 9) hx hb htt i_Desk hown hK hP 0 rfl rfl 2 (by decide) (htt _ kf_Desk_23) (fun _ h9 => h9) rfl d_Desk_compare_38 ?_
        refine lv_aload_n hx hb d_Desk_compare_41 rfl (lv_at hl 0 rfl) ?_
        refine va_get (D := D) (ci := 4) (v := .ref rg) (C := R_Desk) (T := F_Desk) (N := 9) hx hb htt i_Desk hown hK hP 0 rfl rfl 0 (by decide) (htt _ kf_Desk_11) (fun _ h9 => h9) rfl d_Desk_compare_42 ?_
        refine lv_iload_n hx hb d_Desk_compare_45 rfl (lv_at hl 1 rfl) ?_
        obtain ⟨h_3, hm⟩ := sd_mg hm
        refine sd_aald hx hb hK hP 1 rfl h_3 d_Desk_compare_46 ?_
        refine sd_topq (hI h_3) ?_
        obtain ⟨ufe, ufe_1, ufr, uft, ufs, uxs, uxal, uxah, hc, hm⟩ := sd_mb8 hm
        refine sd_cv1 (wr := [(zd, .inr (4, [.ref rg, .ref iv, .ref fe, .ref c1, .ref c2, .ref pg, .ref zl, .ref zh, .ref ds])), (rg, aQ g 8 cRg), (yal, aI g 68 yL), (yah, aI g 68 yH), (ys, .inr (0, [.ref yat, .ref yab, .ref yar, .ref yal, .ref yah, .int yk, .int yn])), (yat, aJ g 8 yT), (yab, aJ g 8 yB), (yar, aJ g 8 yR)]) (w2 := [(zd, .inr (4, [.ref rg, .ref iv, .ref fe, .ref c1, .ref c2, .ref pg, .ref zl, .ref zh, .ref ds])), (rg, aQ g 8 cRg), (yal, aI g 68 yL), (yah, aI g 68 yH), (ys, .inr (0, [.ref yat, .ref yab, .ref yar, .ref yal, .ref yah, .int yk, .int yn])), (yat, aJ g 8 yT), (yab, aJ g 8 yB), (yar, aJ g 8 yR), (fe, .inr (1, [.ref fr, .ref ft, .ref fs, .long ufe, .long ufe_1])), (fr, aI g 132 ufr), (ft, aI g 68 uft), (fs, aI g 68 ufs), (xs, .inr (0, [.ref xat, .ref xab, .ref xar, .ref xal, .ref xah, .int uxs, .int xn])), (xat, aJ g 8 xT), (xab, aJ g 8 xB), (xar, aJ g 8 xR), (xal, aI g 68 uxal), (xah, aI g 68 uxah)]) (sd_runV (rest := []) (As := [.ref xs]) S (ct_EndsFinder_find l D g fe fr ft fs xs xat xab xar xal xah (H.size) fR fQ cfr cft cfs xk xn xT xB xR xL xH F (ufe, ufe_1, ufr, uft, ufs, uxs, uxal, uxah) hc) kl_Desk_117 (by decide) (by decide) hK hP hD [2, 3, 4, 5, 10, 11, 12, 13, 6, 7] rfl (by decide) rfl hl d_Desk_compare_47 rfl (Nat.le_of_ble_eq_true rfl) ⟨Nat.zero_le _, Nat.zero_le _⟩ 2 rfl rfl) hP hD hS hA [2, 3, 4, 5, 10, 11, 12, 13, 6, 7] [0, 1, 8, 9, 14, 15, 16, 17] rfl rfl (by decide) (by decide) rfl (fun H locs hP hD hS => ?_)
        refine lv_aload_n hx hb d_Desk_compare_50 rfl (lv_at hl 0 rfl) ?_
        refine va_get (D := D) (ci := 4) (v := .ref fe) (C := R_Desk) (T := F_Desk) (N := 9) hx hb htt i_Desk hown hK hP 0 rfl rfl 2 (by decide) (htt _ kf_Desk_23) (fun _ h9 => h9) rfl d_Desk_compare_51 ?_
        refine lv_aload_n hx hb d_Desk_compare_54 rfl (lv_at hl 0 rfl) ?_
        refine va_get (D := D) (ci := 4) (v := .ref rg) (C := R_Desk) (T := F_Desk) (N := 9) hx hb htt i_Desk hown hK hP 0 rfl rfl 0 (by decide) (htt _ kf_Desk_11) (fun _ h9 => h9) rfl d_Desk_compare_55 ?_
        refine lv_iload_n hx hb d_Desk_compare_58 rfl (lv_at hl 2 rfl) ?_
        obtain ⟨h_4, hm⟩ := sd_mg hm
        refine sd_aald hx hb hK hP 1 rfl h_4 d_Desk_compare_59 ?_
        refine sd_topq (hJ h_4) ?_
        obtain ⟨ufe_2, ufe_3, ufr_1, uft_1, ufs_1, uys, uyal, uyah, hc, hm⟩ := sd_mb8 hm
        refine sd_cv1 (wr := [(zd, .inr (4, [.ref rg, .ref iv, .ref fe, .ref c1, .ref c2, .ref pg, .ref zl, .ref zh, .ref ds])), (rg, aQ g 8 cRg), (xs, .inr (0, [.ref xat, .ref xab, .ref xar, .ref xal, .ref xah, .int uxs, .int xn])), (xat, aJ g 8 xT), (xab, aJ g 8 xB), (xar, aJ g 8 xR), (xal, aI g 68 uxal), (xah, aI g 68 uxah)]) (w2 := [(zd, .inr (4, [.ref rg, .ref iv, .ref fe, .ref c1, .ref c2, .ref pg, .ref zl, .ref zh, .ref ds])), (rg, aQ g 8 cRg), (xs, .inr (0, [.ref xat, .ref xab, .ref xar, .ref xal, .ref xah, .int uxs, .int xn])), (xat, aJ g 8 xT), (xab, aJ g 8 xB), (xar, aJ g 8 xR), (xal, aI g 68 uxal), (xah, aI g 68 uxah), (fe, .inr (1, [.ref fr, .ref ft, .ref fs, .long ufe_2, .long ufe_3])), (fr, aI g 132 ufr_1), (ft, aI g 68 uft_1), (fs, aI g 68 ufs_1), (ys, .inr (0, [.ref yat, .ref yab, .ref yar, .ref yal, .ref yah, .int uys, .int yn])), (yat, aJ g 8 yT), (yab, aJ g 8 yB), (yar, aJ g 8 yR), (yal, aI g 68 uyal), (yah, aI g 68 uyah)]) (sd_runV (rest := []) (As := [.ref ys]) S (ct_EndsFinder_find l D g fe fr ft fs ys yat yab yar yal yah (H.size) ufe ufe_1 ufr uft ufs yk yn yT yB yR yL yH F (ufe_2, ufe_3, ufr_1, uft_1, ufs_1, uys, uyal, uyah) hc) kl_Desk_117 (by decide) (by decide) hK hP hD [8, 9, 10, 11, 4, 5, 6, 7, 2, 3] rfl (by decide) rfl hl d_Desk_compare_60 rfl (Nat.le_of_ble_eq_true rfl) ⟨Nat.zero_le _, Nat.zero_le _⟩ 8 rfl rfl) hP hD hS hA [8, 9, 10, 11, 4, 5, 6, 7, 2, 3] [0, 1, 12, 13, 14, 15, 16, 17] rfl rfl (by decide) (by decide) rfl (fun H locs hP hD hS => ?_)
        refine lv_aload_n hx hb d_Desk_compare_63 rfl (lv_at hl 0 rfl) ?_
        refine va_get (D := D) (ci := 4) (v := .ref rg) (C := R_Desk) (T := F_Desk) (N := 9) hx hb htt i_Desk hown hK hP 0 rfl rfl 0 (by decide) (htt _ kf_Desk_11) (fun _ h9 => h9) rfl d_Desk_compare_64 ?_
        refine lv_iload_n hx hb d_Desk_compare_67 rfl (lv_at hl 1 rfl) ?_
        obtain ⟨h_5, hm⟩ := sd_mg hm
        refine sd_aald hx hb hK hP 1 rfl h_5 d_Desk_compare_68 ?_
        refine sd_topq (hI h_5) ?_
        refine lv_aload_n hx hb d_Desk_compare_69 rfl (lv_at hl 0 rfl) ?_
        refine va_get (D := D) (ci := 4) (v := .ref rg) (C := R_Desk) (T := F_Desk) (N := 9) hx hb htt i_Desk hown hK hP 0 rfl rfl 0 (by decide) (htt _ kf_Desk_11) (fun _ h9 => h9) rfl d_Desk_compare_70 ?_
        refine lv_iload_n hx hb d_Desk_compare_73 rfl (lv_at hl 2 rfl) ?_
        obtain ⟨h_6, hm⟩ := sd_mg hm
        refine sd_aald hx hb hK hP 1 rfl h_6 d_Desk_compare_74 ?_
        refine sd_topq (hJ h_6) ?_
        obtain ⟨r_3, hc, hm⟩ := sd_mb1 hm
        refine sd_ci0 (wr := [(zd, .inr (4, [.ref rg, .ref iv, .ref fe, .ref c1, .ref c2, .ref pg, .ref zl, .ref zh, .ref ds])), (rg, aQ g 8 cRg), (xat, aJ g 8 xT), (xab, aJ g 8 xB), (xar, aJ g 8 xR), (fe, .inr (1, [.ref fr, .ref ft, .ref fs, .long ufe_2, .long ufe_3])), (fr, aI g 132 ufr_1), (ft, aI g 68 uft_1), (fs, aI g 68 ufs_1), (yat, aJ g 8 yT), (yab, aJ g 8 yB), (yar, aJ g 8 yR)]) (w2 := [(zd, .inr (4, [.ref rg, .ref iv, .ref fe, .ref c1, .ref c2, .ref pg, .ref zl, .ref zh, .ref ds])), (rg, aQ g 8 cRg), (xat, aJ g 8 xT), (xab, aJ g 8 xB), (xar, aJ g 8 xR), (fe, .inr (1, [.ref fr, .ref ft, .ref fs, .long ufe_2, .long ufe_3])), (fr, aI g 132 ufr_1), (ft, aI g 68 uft_1), (fs, aI g 68 ufs_1), (yat, aJ g 8 yT), (yab, aJ g 8 yB), (yar, aJ g 8 yR), (xs, .inr (0, [.ref xat, .ref xab, .ref xar, .ref xal, .ref xah, .int uxs, .int xn])), (xal, aI g 68 uxal), (xah, aI g 68 uxah), (ys, .inr (0, [.ref yat, .ref yab, .ref yar, .ref yal, .ref yah, .int uys, .int yn])), (yal, aI g 68 uyal), (yah, aI g 68 uyah)]) (sd_runS (rest := []) (As := [.ref xs, .ref ys]) S (ct_Teller_order l D g xs xat xab xar xal xah ys yat yab yar yal yah (H.size) uxs xn uxal uxah uys yn uyal uyah F (r_3) hc) kl_Desk_121 (by decide) (by decide) hK hP hD [2, 6, 7, 12, 16, 17] rfl (by decide) rfl hl d_Desk_compare_75 rfl (Nat.le_of_ble_eq_true rfl) ⟨Nat.zero_le _, Nat.zero_le _⟩) hP hD hS hA [2, 6, 7, 12, 16, 17] [0, 1, 3, 4, 5, 8, 9, 10, 11, 13, 14, 15] rfl rfl (by decide) (by decide) rfl (fun H locs hP hD hS => ?_)
        refine W.eq (g2 := F0 m 78 ls [.int r_3]) rfl ?_
        exact sd_i1ret (u := (ufe_2, ufe_3, ufr_1, uft_1, ufs_1, uxs, uxal, uxah, uys, uyal, uyah)) hQ hx hb hr hlk hK (hP.sub [0, 1, 5, 6, 7, 8, 12, 2, 3, 4, 13, 14, 15, 9, 10, 11, 16, 17] rfl) (hD.sub [0, 1, 5, 6, 7, 8, 12, 2, 3, 4, 13, 14, 15, 9, 10, 11, 16, 17] (by decide) rfl) hS (Option.some.inj hm).symm d_Desk_compare_78
      · have hm := sd_mf hc hm
        refine lv_iconst (v := (0 : Int32)) hx hb d_Desk_compare_35 (by decide) ?_
        exact sd_i1ret (u := (fR, fQ, cfr, cft, cfs, xk, xL, xH, yk, yL, yH)) hQ hx hb hr hlk hK (hP.sub [0, 1, 2, 3, 4, 5, 10, 11, 12, 13, 6, 7, 14, 15, 16, 17, 8, 9] rfl) (hD.sub [0, 1, 2, 3, 4, 5, 10, 11, 12, 13, 6, 7, 14, 15, 16, 17, 8, 9] (by decide) rfl) hS (Option.some.inj hm).symm d_Desk_compare_36
    · have hm := sd_mt hc hm
      refine lv_bipush (v := (-2 : Int32)) hx hb d_Desk_compare_14 (by decide) ?_
      exact sd_i1ret (u := (fR, fQ, cfr, cft, cfs, xk, xL, xH, yk, yL, yH)) hQ hx hb hr hlk hK (hP.sub [0, 1, 2, 3, 4, 5, 6, 7, 8, 9, 10, 11, 12, 13, 14, 15, 16, 17] rfl) (hD.sub [0, 1, 2, 3, 4, 5, 6, 7, 8, 9, 10, 11, 12, 13, 14, 15, 16, 17] (by decide) rfl) hS (Option.some.inj hm).symm d_Desk_compare_16
theorem d_Desk_floor_0 : decode b_Desk_floor 0 = .ok (.iload_n 1, 1) := by decide +kernel
theorem d_Desk_floor_1 : decode b_Desk_floor 1 = .ok (.invokestatic 56, 3) := by decide +kernel
theorem d_Desk_floor_4 : decode b_Desk_floor 4 = .ok (.ifCond .ne 7, 3) := by decide +kernel
theorem d_Desk_floor_7 : decode b_Desk_floor 7 = .ok (.ldc2_w 127, 3) := by decide +kernel
theorem d_Desk_floor_10 : decode b_Desk_floor 10 = .ok (.lreturn, 1) := by decide +kernel
theorem d_Desk_floor_11 : decode b_Desk_floor 11 = .ok (.aload_n 0, 1) := by decide +kernel
theorem d_Desk_floor_12 : decode b_Desk_floor 12 = .ok (.getfield 11, 3) := by decide +kernel
theorem d_Desk_floor_15 : decode b_Desk_floor 15 = .ok (.iload_n 1, 1) := by decide +kernel
theorem d_Desk_floor_16 : decode b_Desk_floor 16 = .ok (.aaload, 1) := by decide +kernel
theorem d_Desk_floor_17 : decode b_Desk_floor 17 = .ok (.astore_n 2, 1) := by decide +kernel
theorem d_Desk_floor_18 : decode b_Desk_floor 18 = .ok (.aload_n 2, 1) := by decide +kernel
theorem d_Desk_floor_19 : decode b_Desk_floor 19 = .ok (.invokevirtual 78, 3) := by decide +kernel
theorem d_Desk_floor_22 : decode b_Desk_floor 22 = .ok (.ifCond .eq 15, 3) := by decide +kernel
theorem d_Desk_floor_25 : decode b_Desk_floor 25 = .ok (.aload_n 2, 1) := by decide +kernel
theorem d_Desk_floor_26 : decode b_Desk_floor 26 = .ok (.invokevirtual 82, 3) := by decide +kernel
theorem d_Desk_floor_29 : decode b_Desk_floor 29 = .ok (.aload_n 2, 1) := by decide +kernel
theorem d_Desk_floor_30 : decode b_Desk_floor 30 = .ok (.invokevirtual 86, 3) := by decide +kernel
theorem d_Desk_floor_33 : decode b_Desk_floor 33 = .ok (.invokestatic 129, 3) := by decide +kernel
theorem d_Desk_floor_36 : decode b_Desk_floor 36 = .ok (.lreturn, 1) := by decide +kernel
theorem d_Desk_floor_37 : decode b_Desk_floor 37 = .ok (.aload_n 0, 1) := by decide +kernel
theorem d_Desk_floor_38 : decode b_Desk_floor 38 = .ok (.getfield 23, 3) := by decide +kernel
theorem d_Desk_floor_41 : decode b_Desk_floor 41 = .ok (.aload_n 2, 1) := by decide +kernel
theorem d_Desk_floor_42 : decode b_Desk_floor 42 = .ok (.invokevirtual 117, 3) := by decide +kernel
theorem d_Desk_floor_45 : decode b_Desk_floor 45 = .ok (.aload_n 2, 1) := by decide +kernel
theorem d_Desk_floor_46 : decode b_Desk_floor 46 = .ok (.getfield 134, 3) := by decide +kernel
theorem d_Desk_floor_49 : decode b_Desk_floor 49 = .ok (.aload_n 2, 1) := by decide +kernel
theorem d_Desk_floor_50 : decode b_Desk_floor 50 = .ok (.getfield 137, 3) := by decide +kernel
theorem d_Desk_floor_53 : decode b_Desk_floor 53 = .ok (.invokestatic 140, 3) := by decide +kernel
theorem d_Desk_floor_56 : decode b_Desk_floor 56 = .ok (.ifCond .eq 13, 3) := by decide +kernel
theorem d_Desk_floor_59 : decode b_Desk_floor 59 = .ok (.aload_n 2, 1) := by decide +kernel
theorem d_Desk_floor_60 : decode b_Desk_floor 60 = .ok (.getfield 134, 3) := by decide +kernel
theorem d_Desk_floor_63 : decode b_Desk_floor 63 = .ok (.invokestatic 144, 3) := by decide +kernel
theorem d_Desk_floor_66 : decode b_Desk_floor 66 = .ok (.goto 6, 3) := by decide +kernel
theorem d_Desk_floor_69 : decode b_Desk_floor 69 = .ok (.ldc2_w 148, 3) := by decide +kernel
theorem d_Desk_floor_72 : decode b_Desk_floor 72 = .ok (.lreturn, 1) := by decide +kernel
def mf_Desk_floor (F : Nat) (vI : Int32) (cRg : Nat → Option Nat) (fR : Int64) (fQ : Int64) (cfr : Nat → Int32) (cft : Nat → Int32) (cfs : Nat → Int32) (xk : Int32) (xn : Int32) (xT : Nat → Int64) (xB : Nat → Int64) (xR : Nat → Int64) (xL : Nat → Int32) (xH : Nat → Int32) : Option (Int64 × Int64 × Int64 × (Nat → Int32) × (Nat → Int32) × (Nat → Int32) × Int32 × (Nat → Int32) × (Nat → Int32)) :=
  (sd_b1 (mf_Desk_isRegister F vI) fun r => (if r = 0 then (some ((4611686018427387904 : Int64), fR, fQ, cfr, cft, cfs, xk, xL, xH)) else (sd_g (sd_ix vI 8) (sd_b1 (mf_Sum_isFraction F xk xn xR) fun r_1 => (if r_1 = 0 then (sd_b8 (mf_EndsFinder_find F fR fQ cfr cft cfs xk xn xT xB xR xL xH) fun ufe ufe_1 ufr uft ufs uxs uxal uxah => (sd_b1 (mf_Teller_haveSameWhole F 68 68 uxal uxah) fun r_2 => (sd_b1 (if r_2 = 0 then (some ((4611686018427387906 : Int64))) else (sd_b1 (mf_Wide_whole F 68 uxal) fun r_3 => (some (r_3)))) fun y => (some (y, ufe, ufe_1, ufr, uft, ufs, uxs, uxal, uxah))))) else (sd_b1 (mf_Sum_top F xk xn xT) fun r_4 => (sd_b1 (mf_Sum_bottom F xk xn xB) fun r_5 => (sd_b1 (mf_Math_floorDiv F r_4 r_5) fun r_6 => (some (r_6, fR, fQ, cfr, cft, cfs, xk, xL, xH))))))))))
abbrev rm_Desk_floor : Room := { frames := 5, cells := 0, slots := 0, locals := 139 }
set_option maxHeartbeats 4000000 in
set_option maxRecDepth 100000 in
theorem ct_Desk_floor (l : Launch) (D : va_G) (g : G4) (zd : Nat) (rg : Nat) (iv : Nat) (fe : Nat) (c1 : Nat) (c2 : Nat) (pg : Nat) (zl : Nat) (zh : Nat) (ds : Nat) (fr : Nat) (ft : Nat) (fs : Nat) (xs : Nat) (xat : Nat) (xab : Nat) (xar : Nat) (xal : Nat) (xah : Nat) (sz : Nat) (vI : Int32) (cRg : Nat → Option Nat) (fR : Int64) (fQ : Int64) (cfr : Nat → Int32) (cft : Nat → Int32) (cfs : Nat → Int32) (xk : Int32) (xn : Int32) (xT : Nat → Int64) (xB : Nat → Int64) (xR : Nat → Int64) (xL : Nat → Int32) (xH : Nat → Int32) (F : Nat) (res : Int64 × Int64 × Int64 × (Nat → Int32) × (Nat → Int32) × (Nat → Int32) × Int32 × (Nat → Int32) × (Nat → Int32)) (hm : mf_Desk_floor F vI cRg fR fQ cfr cft cfs xk xn xT xB xR xL xH = some res) (hI : sd_ix vI 8 = true → cRg vI.toNatClampNeg = some xs) : Met l y_Desk_floor (.code y_Desk_floor b_Desk_floor 3 (some .long) :: sd_tb) rm_Desk_floor (sd_PW D g [.ref zd, .int vI] sz [(zd, .inr (4, [.ref rg, .ref iv, .ref fe, .ref c1, .ref c2, .ref pg, .ref zl, .ref zh, .ref ds])), (rg, aQ g 8 cRg), (fe, .inr (1, [.ref fr, .ref ft, .ref fs, .long fR, .long fQ])), (fr, aI g 132 cfr), (ft, aI g 68 cft), (fs, aI g 68 cfs), (xs, .inr (0, [.ref xat, .ref xab, .ref xar, .ref xal, .ref xah, .int xk, .int xn])), (xat, aJ g 8 xT), (xab, aJ g 8 xB), (xar, aJ g 8 xR), (xal, aI g 68 xL), (xah, aI g 68 xH)]) (sd_Ql1 D g res (fun u : Int64 × Int64 × (Nat → Int32) × (Nat → Int32) × (Nat → Int32) × Int32 × (Nat → Int32) × (Nat → Int32) => [(zd, .inr (4, [.ref rg, .ref iv, .ref fe, .ref c1, .ref c2, .ref pg, .ref zl, .ref zh, .ref ds])), (rg, aQ g 8 cRg), (fe, .inr (1, [.ref fr, .ref ft, .ref fs, .long (u.1), .long (u.2.1)])), (fr, aI g 132 (u.2.2.1)), (ft, aI g 68 (u.2.2.2.1)), (fs, aI g 68 (u.2.2.2.2.1)), (xs, .inr (0, [.ref xat, .ref xab, .ref xar, .ref xal, .ref xah, .int (u.2.2.2.2.2.1), .int xn])), (xat, aJ g 8 xT), (xab, aJ g 8 xB), (xar, aJ g 8 xR), (xal, aI g 68 (u.2.2.2.2.2.2.1)), (xah, aI g 68 (u.2.2.2.2.2.2.2))]) (va_A [(zd, .inr (4, [.ref rg, .ref iv, .ref fe, .ref c1, .ref c2, .ref pg, .ref zl, .ref zh, .ref ds])), (rg, aQ g 8 cRg), (fe, .inr (1, [.ref fr, .ref ft, .ref fs, .long fR, .long fQ])), (fr, aI g 132 cfr), (ft, aI g 68 cft), (fs, aI g 68 cfs), (xs, .inr (0, [.ref xat, .ref xab, .ref xar, .ref xal, .ref xah, .int xk, .int xn])), (xat, aJ g 8 xT), (xab, aJ g 8 xB), (xar, aJ g 8 xR), (xal, aI g 68 xL), (xah, aI g 68 xH)] sz)) 0 0 (va_A [(zd, .inr (4, [.ref rg, .ref iv, .ref fe, .ref c1, .ref c2, .ref pg, .ref zl, .ref zh, .ref ds])), (rg, aQ g 8 cRg), (fe, .inr (1, [.ref fr, .ref ft, .ref fs, .long fR, .long fQ])), (fr, aI g 132 cfr), (ft, aI g 68 cft), (fs, aI g 68 cfs), (xs, .inr (0, [.ref xat, .ref xab, .ref xar, .ref xal, .ref xah, .int xk, .int xn])), (xat, aJ g 8 xT), (xab, aJ g 8 xB), (xar, aJ g 8 xR), (xal, aI g 68 xL), (xah, aI g 68 xH)] sz) := by
  refine sd_met (Qf := fun A => sd_Ql1 D g res (fun u : Int64 × Int64 × (Nat → Int32) × (Nat → Int32) × (Nat → Int32) × Int32 × (Nat → Int32) × (Nat → Int32) => [(zd, .inr (4, [.ref rg, .ref iv, .ref fe, .ref c1, .ref c2, .ref pg, .ref zl, .ref zh, .ref ds])), (rg, aQ g 8 cRg), (fe, .inr (1, [.ref fr, .ref ft, .ref fs, .long (u.1), .long (u.2.1)])), (fr, aI g 132 (u.2.2.1)), (ft, aI g 68 (u.2.2.2.1)), (fs, aI g 68 (u.2.2.2.2.1)), (xs, .inr (0, [.ref xat, .ref xab, .ref xar, .ref xal, .ref xah, .int (u.2.2.2.2.2.1), .int xn])), (xat, aJ g 8 xT), (xab, aJ g 8 xB), (xar, aJ g 8 xR), (xal, aI g 68 (u.2.2.2.2.2.2.1)), (xah, aI g 68 (u.2.2.2.2.2.2.2))]) A) (own := R_Desk) (by decide +kernel) rfl (Nat.le_of_ble_eq_true rfl) ?_
  intro p e s m args below meth c S hr hlk hK A hA Q hQ H locs hP hD hS ls hl
  have hx := S.1
  have hb := S.2.1
  have hml := S.2.2.1
  have hown := S.2.2.2.1
  have htt := sd_tt S
  replace hl : lv_has ls 3 [(0, .ref zd), (1, .int vI)] := hl
  unfold mf_Desk_floor at hm
  refine lv_iload_n hx hb d_Desk_floor_0 rfl (lv_at hl 1 rfl) ?_
  obtain ⟨r, hc, hm⟩ := sd_mb1 hm
  refine sd_ci0 (wr := [(zd, .inr (4, [.ref rg, .ref iv, .ref fe, .ref c1, .ref c2, .ref pg, .ref zl, .ref zh, .ref ds])), (rg, aQ g 8 cRg), (fe, .inr (1, [.ref fr, .ref ft, .ref fs, .long fR, .long fQ])), (fr, aI g 132 cfr), (ft, aI g 68 cft), (fs, aI g 68 cfs), (xs, .inr (0, [.ref xat, .ref xab, .ref xar, .ref xal, .ref xah, .int xk, .int xn])), (xat, aJ g 8 xT), (xab, aJ g 8 xB), (xar, aJ g 8 xR), (xal, aI g 68 xL), (xah, aI g 68 xH)]) (w2 := [(zd, .inr (4, [.ref rg, .ref iv, .ref fe, .ref c1, .ref c2, .ref pg, .ref zl, .ref zh, .ref ds])), (rg, aQ g 8 cRg), (fe, .inr (1, [.ref fr, .ref ft, .ref fs, .long fR, .long fQ])), (fr, aI g 132 cfr), (ft, aI g 68 cft), (fs, aI g 68 cfs), (xs, .inr (0, [.ref xat, .ref xab, .ref xar, .ref xal, .ref xah, .int xk, .int xn])), (xat, aJ g 8 xT), (xab, aJ g 8 xB), (xar, aJ g 8 xR), (xal, aI g 68 xL), (xah, aI g 68 xH)]) (sd_runS (rest := []) (As := [.int vI]) S (ct_Desk_isRegister l D g (H.size) vI F (r) hc) kl_Desk_56 (by decide) (by decide) hK hP hD [] rfl (by decide) rfl hl d_Desk_floor_1 rfl (Nat.le_of_ble_eq_true rfl) ⟨Nat.zero_le _, Nat.zero_le _⟩) hP hD hS hA [] [0, 1, 2, 3, 4, 5, 6, 7, 8, 9, 10, 11] rfl rfl (by decide) (by decide) rfl (fun H locs hP hD hS => ?_)
  refine W.eq (g2 := F0 m 4 ls [.int r]) rfl ?_
  refine lv_if_ne (tgt := 11) hx hb d_Desk_floor_4 (by decide) (fun hc => ?_) (fun hc => ?_)
  · have hm := sd_mf hc hm
    refine lv_aload_n hx hb d_Desk_floor_11 rfl (lv_at hl 0 rfl) ?_
    refine va_get (D := D) (ci := 4) (v := .ref rg) (C := R_Desk) (T := F_Desk) (N := 9) hx hb htt i_Desk hown hK hP 0 rfl rfl 0 (by decide) (htt _ kf_Desk_11) (fun _ h9 => h9) rfl d_Desk_floor_12 ?_
    refine lv_iload_n hx hb d_Desk_floor_15 rfl (lv_at hl 1 rfl) ?_
    obtain ⟨h_1, hm⟩ := sd_mg hm
    refine sd_aald hx hb hK hP 1 rfl h_1 d_Desk_floor_16 ?_
    refine sd_topq (hI h_1) ?_
    refine lv_astore_n (lv' := [(2, .ref xs), (0, .ref zd), (1, .int vI)]) hx hb d_Desk_floor_17 rfl hl (by decide) rfl (fun ls hl => ?_)
    refine lv_aload_n hx hb d_Desk_floor_18 rfl (lv_at hl 0 rfl) ?_
    obtain ⟨r_1, hc, hm⟩ := sd_mb1 hm
    refine sd_ci0 (wr := [(zd, .inr (4, [.ref rg, .ref iv, .ref fe, .ref c1, .ref c2, .ref pg, .ref zl, .ref zh, .ref ds])), (rg, aQ g 8 cRg), (fe, .inr (1, [.ref fr, .ref ft, .ref fs, .long fR, .long fQ])), (fr, aI g 132 cfr), (ft, aI g 68 cft), (fs, aI g 68 cfs), (xat, aJ g 8 xT), (xab, aJ g 8 xB), (xal, aI g 68 xL), (xah, aI g 68 xH)]) (w2 := [(zd, .inr (4, [.ref rg, .ref iv, .ref fe, .ref c1, .ref c2, .ref pg, .ref zl, .ref zh, .ref ds])), (rg, aQ g 8 cRg), (fe, .inr (1, [.ref fr, .ref ft, .ref fs, .long fR, .long fQ])), (fr, aI g 132 cfr), (ft, aI g 68 cft), (fs, aI g 68 cfs), (xat, aJ g 8 xT), (xab, aJ g 8 xB), (xal, aI g 68 xL), (xah, aI g 68 xH), (xs, .inr (0, [.ref xat, .ref xab, .ref xar, .ref xal, .ref xah, .int xk, .int xn])), (xar, aJ g 8 xR)]) (sd_runV (rest := []) (As := []) S (ct_Sum_isFraction l D g xs xat xab xar xal xah (H.size) xk xn xR F (r_1) hc) kl_Desk_78 (by decide) (by decide) hK hP hD [6, 9] rfl (by decide) rfl hl d_Desk_floor_19 rfl (Nat.le_of_ble_eq_true rfl) ⟨Nat.zero_le _, Nat.zero_le _⟩ 6 rfl rfl) hP hD hS hA [6, 9] [0, 1, 2, 3, 4, 5, 7, 8, 10, 11] rfl rfl (by decide) (by decide) rfl (fun H locs hP hD hS => ?_)
    refine W.eq (g2 := F0 m 22 ls [.int r_1]) rfl ?_
    refine lv_if_eq (tgt := 37) hx hb d_Desk_floor_22 (by decide) (fun hc => ?_) (fun hc => ?_)
    · have hm := sd_mt hc hm
      refine lv_aload_n hx hb d_Desk_floor_37 rfl (lv_at hl 1 rfl) ?_
      refine va_get (D := D) (ci := 4) (v := .ref fe) (C := R_Desk) (T := F_Desk) (N := 9) hx hb htt i_Desk hown hK hP 0 rfl rfl 2 (by decide) (htt _ kf_Desk_23) (fun _ h9 => h9) rfl d_Desk_floor_38 ?_
      refine lv_aload_n hx hb d_Desk_floor_41 rfl (lv_at hl 0 rfl) ?_
      obtain ⟨ufe, ufe_1, ufr, uft, ufs, uxs, uxal, uxah, hc, hm⟩ := sd_mb8 hm
      refine sd_cv1 (wr := [(zd, .inr (4, [.ref rg, .ref iv, .ref fe, .ref c1, .ref c2, .ref pg, .ref zl, .ref zh, .ref ds])), (rg, aQ g 8 cRg)]) (w2 := [(zd, .inr (4, [.ref rg, .ref iv, .ref fe, .ref c1, .ref c2, .ref pg, .ref zl, .ref zh, .ref ds])), (rg, aQ g 8 cRg), (fe, .inr (1, [.ref fr, .ref ft, .ref fs, .long ufe, .long ufe_1])), (fr, aI g 132 ufr), (ft, aI g 68 uft), (fs, aI g 68 ufs), (xs, .inr (0, [.ref xat, .ref xab, .ref xar, .ref xal, .ref xah, .int uxs, .int xn])), (xat, aJ g 8 xT), (xab, aJ g 8 xB), (xar, aJ g 8 xR), (xal, aI g 68 uxal), (xah, aI g 68 uxah)]) (sd_runV (rest := []) (As := [.ref xs]) S (ct_EndsFinder_find l D g fe fr ft fs xs xat xab xar xal xah (H.size) fR fQ cfr cft cfs xk xn xT xB xR xL xH F (ufe, ufe_1, ufr, uft, ufs, uxs, uxal, uxah) hc) kl_Desk_117 (by decide) (by decide) hK hP hD [2, 3, 4, 5, 10, 6, 7, 11, 8, 9] rfl (by decide) rfl hl d_Desk_floor_42 rfl (Nat.le_of_ble_eq_true rfl) ⟨Nat.zero_le _, Nat.zero_le _⟩ 2 rfl rfl) hP hD hS hA [2, 3, 4, 5, 10, 6, 7, 11, 8, 9] [0, 1] rfl rfl (by decide) (by decide) rfl (fun H locs hP hD hS => ?_)
      refine lv_aload_n hx hb d_Desk_floor_45 rfl (lv_at hl 0 rfl) ?_
      refine va_get (D := D) (ci := 0) (v := .ref xal) (C := R_Sum) (T := F_Sum) (N := 7) hx hb htt i_Sum hown hK hP 6 rfl rfl 3 (by decide) (htt _ kf_Desk_134) (fun _ h9 => h9) rfl d_Desk_floor_46 ?_
      refine lv_aload_n hx hb d_Desk_floor_49 rfl (lv_at hl 0 rfl) ?_
      refine va_get (D := D) (ci := 0) (v := .ref xah) (C := R_Sum) (T := F_Sum) (N := 7) hx hb htt i_Sum hown hK hP 6 rfl rfl 4 (by decide) (htt _ kf_Desk_137) (fun _ h9 => h9) rfl d_Desk_floor_50 ?_
      obtain ⟨r_2, hc, hm⟩ := sd_mb1 hm
      refine sd_ci0 (wr := [(zd, .inr (4, [.ref rg, .ref iv, .ref fe, .ref c1, .ref c2, .ref pg, .ref zl, .ref zh, .ref ds])), (rg, aQ g 8 cRg), (fe, .inr (1, [.ref fr, .ref ft, .ref fs, .long ufe, .long ufe_1])), (fr, aI g 132 ufr), (ft, aI g 68 uft), (fs, aI g 68 ufs), (xs, .inr (0, [.ref xat, .ref xab, .ref xar, .ref xal, .ref xah, .int uxs, .int xn])), (xat, aJ g 8 xT), (xab, aJ g 8 xB), (xar, aJ g 8 xR)]) (w2 := [(zd, .inr (4, [.ref rg, .ref iv, .ref fe, .ref c1, .ref c2, .ref pg, .ref zl, .ref zh, .ref ds])), (rg, aQ g 8 cRg), (fe, .inr (1, [.ref fr, .ref ft, .ref fs, .long ufe, .long ufe_1])), (fr, aI g 132 ufr), (ft, aI g 68 uft), (fs, aI g 68 ufs), (xs, .inr (0, [.ref xat, .ref xab, .ref xar, .ref xal, .ref xah, .int uxs, .int xn])), (xat, aJ g 8 xT), (xab, aJ g 8 xB), (xar, aJ g 8 xR), (xal, aI g 68 uxal), (xah, aI g 68 uxah)]) (sd_runS (rest := []) (As := [.ref xal, .ref xah]) S (ct_Teller_haveSameWhole l D g xal xah 68 68 (H.size) uxal uxah F (r_2) hc) kl_Desk_140 (by decide) (by decide) hK hP hD [10, 11] rfl (by decide) rfl hl d_Desk_floor_53 rfl (Nat.le_of_ble_eq_true rfl) ⟨Nat.zero_le _, Nat.zero_le _⟩) hP hD hS hA [10, 11] [0, 1, 2, 3, 4, 5, 6, 7, 8, 9] rfl rfl (by decide) (by decide) rfl (fun H locs hP hD hS => ?_)
      refine W.eq (g2 := F0 m 56 ls [.int r_2]) rfl ?_
      obtain ⟨y, hv, hm⟩ := sd_mb1 hm
      have J72_2 : ∀ (H : Heap) (locs : List Loc) (ls : Array Slot), va_P D classes [(zd, .inr (4, [.ref rg, .ref iv, .ref fe, .ref c1, .ref c2, .ref pg, .ref zl, .ref zh, .ref ds])), (rg, aQ g 8 cRg), (fe, .inr (1, [.ref fr, .ref ft, .ref fs, .long ufe, .long ufe_1])), (fr, aI g 132 ufr), (ft, aI g 68 uft), (fs, aI g 68 ufs), (xs, .inr (0, [.ref xat, .ref xab, .ref xar, .ref xal, .ref xah, .int uxs, .int xn])), (xat, aJ g 8 xT), (xab, aJ g 8 xB), (xar, aJ g 8 xR), (xal, aI g 68 uxal), (xah, aI g 68 uxah)] H → va_D A [(zd, .inr (4, [.ref rg, .ref iv, .ref fe, .ref c1, .ref c2, .ref pg, .ref zl, .ref zh, .ref ds])), (rg, aQ g 8 cRg), (fe, .inr (1, [.ref fr, .ref ft, .ref fs, .long ufe, .long ufe_1])), (fr, aI g 132 ufr), (ft, aI g 68 uft), (fs, aI g 68 ufs), (xs, .inr (0, [.ref xat, .ref xab, .ref xar, .ref xal, .ref xah, .int uxs, .int xn])), (xat, aJ g 8 xT), (xab, aJ g 8 xB), (xar, aJ g 8 xR), (xal, aI g 68 uxal), (xah, aI g 68 uxah)] → va_S A s.heap H locs → lv_has ls 3 [] → W p l e rm_Desk_floor s m args below meth c H locs 0 0 Q (F0 m 72 ls [.long y]) := by
        intro H locs ls hP hD hS hl
        exact sd_l1ret (u := (ufe, ufe_1, ufr, uft, ufs, uxs, uxal, uxah)) hQ hx hb hr hlk hK (hP.sub [0, 1, 2, 3, 4, 5, 6, 7, 8, 9, 10, 11] rfl) (hD.sub [0, 1, 2, 3, 4, 5, 6, 7, 8, 9, 10, 11] (by decide) rfl) hS (Option.some.inj hm).symm d_Desk_floor_72
      replace hm := hv
      refine lv_if_eq (tgt := 69) hx hb d_Desk_floor_56 (by decide) (fun hc => ?_) (fun hc => ?_)
      · have hm := sd_mt hc hm
        refine sd_ldc2 (v := (4611686018427387906 : Int64)) hx hb hown (htt _ km_Desk_148) d_Desk_floor_69 ?_
        cases hm
        exact J72_2 H locs ls (hP.sub [0, 1, 2, 3, 4, 5, 6, 7, 8, 9, 10, 11] rfl) (hD.sub [0, 1, 2, 3, 4, 5, 6, 7, 8, 9, 10, 11] (by decide) rfl) hS (lv_sub hl [] rfl)
      · have hm := sd_mf hc hm
        refine lv_aload_n hx hb d_Desk_floor_59 rfl (lv_at hl 0 rfl) ?_
        refine va_get (D := D) (ci := 0) (v := .ref xal) (C := R_Sum) (T := F_Sum) (N := 7) hx hb htt i_Sum hown hK hP 6 rfl rfl 3 (by decide) (htt _ kf_Desk_134) (fun _ h9 => h9) rfl d_Desk_floor_60 ?_
        obtain ⟨r_3, hc, hm⟩ := sd_mb1 hm
        refine sd_cl0 (wr := [(zd, .inr (4, [.ref rg, .ref iv, .ref fe, .ref c1, .ref c2, .ref pg, .ref zl, .ref zh, .ref ds])), (rg, aQ g 8 cRg), (fe, .inr (1, [.ref fr, .ref ft, .ref fs, .long ufe, .long ufe_1])), (fr, aI g 132 ufr), (ft, aI g 68 uft), (fs, aI g 68 ufs), (xs, .inr (0, [.ref xat, .ref xab, .ref xar, .ref xal, .ref xah, .int uxs, .int xn])), (xat, aJ g 8 xT), (xab, aJ g 8 xB), (xar, aJ g 8 xR), (xah, aI g 68 uxah)]) (w2 := [(zd, .inr (4, [.ref rg, .ref iv, .ref fe, .ref c1, .ref c2, .ref pg, .ref zl, .ref zh, .ref ds])), (rg, aQ g 8 cRg), (fe, .inr (1, [.ref fr, .ref ft, .ref fs, .long ufe, .long ufe_1])), (fr, aI g 132 ufr), (ft, aI g 68 uft), (fs, aI g 68 ufs), (xs, .inr (0, [.ref xat, .ref xab, .ref xar, .ref xal, .ref xah, .int uxs, .int xn])), (xat, aJ g 8 xT), (xab, aJ g 8 xB), (xar, aJ g 8 xR), (xah, aI g 68 uxah), (xal, aI g 68 uxal)]) (sd_runS (rest := []) (As := [.ref xal]) S (ct_Wide_whole l D g xal 68 (H.size) uxal F (r_3) hc) kl_Desk_144 (by decide) (by decide) hK hP hD [10] rfl (by decide) rfl hl d_Desk_floor_63 rfl (Nat.le_of_ble_eq_true rfl) ⟨Nat.zero_le _, Nat.zero_le _⟩) hP hD hS hA [10] [0, 1, 2, 3, 4, 5, 6, 7, 8, 9, 11] rfl rfl (by decide) (by decide) rfl (fun H locs hP hD hS => ?_)
        refine W.eq (g2 := F0 m 66 ls [.long r_3]) rfl ?_
        refine lv_goto (tgt := 72) hx hb d_Desk_floor_66 (by decide) ?_
        cases hm
        exact J72_2 H locs ls (hP.sub [0, 1, 2, 3, 4, 5, 6, 7, 8, 9, 11, 10] rfl) (hD.sub [0, 1, 2, 3, 4, 5, 6, 7, 8, 9, 11, 10] (by decide) rfl) hS (lv_sub hl [] rfl)
    · have hm := sd_mf hc hm
      refine lv_aload_n hx hb d_Desk_floor_25 rfl (lv_at hl 0 rfl) ?_
      obtain ⟨r_4, hc, hm⟩ := sd_mb1 hm
      refine sd_cl0 (wr := [(zd, .inr (4, [.ref rg, .ref iv, .ref fe, .ref c1, .ref c2, .ref pg, .ref zl, .ref zh, .ref ds])), (rg, aQ g 8 cRg), (fe, .inr (1, [.ref fr, .ref ft, .ref fs, .long fR, .long fQ])), (fr, aI g 132 cfr), (ft, aI g 68 cft), (fs, aI g 68 cfs), (xab, aJ g 8 xB), (xal, aI g 68 xL), (xah, aI g 68 xH), (xar, aJ g 8 xR)]) (w2 := [(zd, .inr (4, [.ref rg, .ref iv, .ref fe, .ref c1, .ref c2, .ref pg, .ref zl, .ref zh, .ref ds])), (rg, aQ g 8 cRg), (fe, .inr (1, [.ref fr, .ref ft, .ref fs, .long fR, .long fQ])), (fr, aI g 132 cfr), (ft, aI g 68 cft), (fs, aI g 68 cfs), (xab, aJ g 8 xB), (xal, aI g 68 xL), (xah, aI g 68 xH), (xar, aJ g 8 xR), (xs, .inr (0, [.ref xat, .ref xab, .ref xar, .ref xal, .ref xah, .int xk, .int xn])), (xat, aJ g 8 xT)]) (sd_runV (rest := []) (As := []) S (ct_Sum_top l D g xs xat xab xar xal xah (H.size) xk xn xT F (r_4) hc) kl_Desk_82 (by decide) (by decide) hK hP hD [10, 6] rfl (by decide) rfl hl d_Desk_floor_26 rfl (Nat.le_of_ble_eq_true rfl) ⟨Nat.zero_le _, Nat.zero_le _⟩ 10 rfl rfl) hP hD hS hA [10, 6] [0, 1, 2, 3, 4, 5, 7, 8, 9, 11] rfl rfl (by decide) (by decide) rfl (fun H locs hP hD hS => ?_)
      refine W.eq (g2 := F0 m 29 ls [.long r_4]) rfl ?_
      refine lv_aload_n hx hb d_Desk_floor_29 rfl (lv_at hl 0 rfl) ?_
      obtain ⟨r_5, hc, hm⟩ := sd_mb1 hm
      refine sd_cl0 (wr := [(zd, .inr (4, [.ref rg, .ref iv, .ref fe, .ref c1, .ref c2, .ref pg, .ref zl, .ref zh, .ref ds])), (rg, aQ g 8 cRg), (fe, .inr (1, [.ref fr, .ref ft, .ref fs, .long fR, .long fQ])), (fr, aI g 132 cfr), (ft, aI g 68 cft), (fs, aI g 68 cfs), (xal, aI g 68 xL), (xah, aI g 68 xH), (xar, aJ g 8 xR), (xat, aJ g 8 xT)]) (w2 := [(zd, .inr (4, [.ref rg, .ref iv, .ref fe, .ref c1, .ref c2, .ref pg, .ref zl, .ref zh, .ref ds])), (rg, aQ g 8 cRg), (fe, .inr (1, [.ref fr, .ref ft, .ref fs, .long fR, .long fQ])), (fr, aI g 132 cfr), (ft, aI g 68 cft), (fs, aI g 68 cfs), (xal, aI g 68 xL), (xah, aI g 68 xH), (xar, aJ g 8 xR), (xat, aJ g 8 xT), (xs, .inr (0, [.ref xat, .ref xab, .ref xar, .ref xal, .ref xah, .int xk, .int xn])), (xab, aJ g 8 xB)]) (sd_runV (rest := [.long r_4]) (As := []) S (ct_Sum_bottom l D g xs xat xab xar xal xah (H.size) xk xn xB F (r_5) hc) kl_Desk_86 (by decide) (by decide) hK hP hD [10, 6] rfl (by decide) rfl hl d_Desk_floor_30 rfl (Nat.le_of_ble_eq_true rfl) ⟨Nat.zero_le _, Nat.zero_le _⟩ 10 rfl rfl) hP hD hS hA [10, 6] [0, 1, 2, 3, 4, 5, 7, 8, 9, 11] rfl rfl (by decide) (by decide) rfl (fun H locs hP hD hS => ?_)
      refine W.eq (g2 := F0 m 33 ls [.long r_5, .long r_4]) rfl ?_
      obtain ⟨r_6, hc, hm⟩ := sd_mb1 hm
      refine sd_cl0 (wr := [(zd, .inr (4, [.ref rg, .ref iv, .ref fe, .ref c1, .ref c2, .ref pg, .ref zl, .ref zh, .ref ds])), (rg, aQ g 8 cRg), (fe, .inr (1, [.ref fr, .ref ft, .ref fs, .long fR, .long fQ])), (fr, aI g 132 cfr), (ft, aI g 68 cft), (fs, aI g 68 cfs), (xal, aI g 68 xL), (xah, aI g 68 xH), (xar, aJ g 8 xR), (xat, aJ g 8 xT), (xs, .inr (0, [.ref xat, .ref xab, .ref xar, .ref xal, .ref xah, .int xk, .int xn])), (xab, aJ g 8 xB)]) (w2 := [(zd, .inr (4, [.ref rg, .ref iv, .ref fe, .ref c1, .ref c2, .ref pg, .ref zl, .ref zh, .ref ds])), (rg, aQ g 8 cRg), (fe, .inr (1, [.ref fr, .ref ft, .ref fs, .long fR, .long fQ])), (fr, aI g 132 cfr), (ft, aI g 68 cft), (fs, aI g 68 cfs), (xal, aI g 68 xL), (xah, aI g 68 xH), (xar, aJ g 8 xR), (xat, aJ g 8 xT), (xs, .inr (0, [.ref xat, .ref xab, .ref xar, .ref xal, .ref xah, .int xk, .int xn])), (xab, aJ g 8 xB)]) (sd_runS (rest := []) (As := [.long r_4, .long r_5]) S (ct_Math_floorDiv l D g (H.size) r_4 r_5 F (r_6) hc) kl_Desk_129 (by decide) (by decide) hK hP hD [] rfl (by decide) rfl hl d_Desk_floor_33 rfl (Nat.le_of_ble_eq_true rfl) ⟨Nat.zero_le _, Nat.zero_le _⟩) hP hD hS hA [] [0, 1, 2, 3, 4, 5, 6, 7, 8, 9, 10, 11] rfl rfl (by decide) (by decide) rfl (fun H locs hP hD hS => ?_)
      refine W.eq (g2 := F0 m 36 ls [.long r_6]) rfl ?_
      exact sd_l1ret (u := (fR, fQ, cfr, cft, cfs, xk, xL, xH)) hQ hx hb hr hlk hK (hP.sub [0, 1, 2, 3, 4, 5, 10, 9, 11, 8, 6, 7] rfl) (hD.sub [0, 1, 2, 3, 4, 5, 10, 9, 11, 8, 6, 7] (by decide) rfl) hS (Option.some.inj hm).symm d_Desk_floor_36
  · have hm := sd_mt hc hm
    refine sd_ldc2 (v := (4611686018427387904 : Int64)) hx hb hown (htt _ km_Desk_127) d_Desk_floor_7 ?_
    exact sd_l1ret (u := (fR, fQ, cfr, cft, cfs, xk, xL, xH)) hQ hx hb hr hlk hK (hP.sub [0, 1, 2, 3, 4, 5, 6, 7, 8, 9, 10, 11] rfl) (hD.sub [0, 1, 2, 3, 4, 5, 6, 7, 8, 9, 10, 11] (by decide) rfl) hS (Option.some.inj hm).symm d_Desk_floor_10
theorem d_Desk_write_0 : decode b_Desk_write 0 = .ok (.iload_n 1, 1) := by decide +kernel
theorem d_Desk_write_1 : decode b_Desk_write 1 = .ok (.invokestatic 56, 3) := by decide +kernel
theorem d_Desk_write_4 : decode b_Desk_write 4 = .ok (.ifCond .eq 13, 3) := by decide +kernel
theorem d_Desk_write_7 : decode b_Desk_write 7 = .ok (.iload_n 2, 1) := by decide +kernel
theorem d_Desk_write_8 : decode b_Desk_write 8 = .ok (.ifCond .lt 9, 3) := by decide +kernel
theorem d_Desk_write_11 : decode b_Desk_write 11 = .ok (.iload_n 2, 1) := by decide +kernel
theorem d_Desk_write_12 : decode b_Desk_write 12 = .ok (.bipush 80, 2) := by decide +kernel
theorem d_Desk_write_14 : decode b_Desk_write 14 = .ok (.if_icmp .le 5, 3) := by decide +kernel
theorem d_Desk_write_17 : decode b_Desk_write 17 = .ok (.iconst (-1), 1) := by decide +kernel
theorem d_Desk_write_18 : decode b_Desk_write 18 = .ok (.ireturn, 1) := by decide +kernel
theorem d_Desk_write_19 : decode b_Desk_write 19 = .ok (.aload_n 0, 1) := by decide +kernel
theorem d_Desk_write_20 : decode b_Desk_write 20 = .ok (.getfield 11, 3) := by decide +kernel
theorem d_Desk_write_23 : decode b_Desk_write 23 = .ok (.iload_n 1, 1) := by decide +kernel
theorem d_Desk_write_24 : decode b_Desk_write 24 = .ok (.aaload, 1) := by decide +kernel
theorem d_Desk_write_25 : decode b_Desk_write 25 = .ok (.astore_n 3, 1) := by decide +kernel
theorem d_Desk_write_26 : decode b_Desk_write 26 = .ok (.aload_n 3, 1) := by decide +kernel
theorem d_Desk_write_27 : decode b_Desk_write 27 = .ok (.invokevirtual 78, 3) := by decide +kernel
theorem d_Desk_write_30 : decode b_Desk_write 30 = .ok (.ifCond .eq 27, 3) := by decide +kernel
theorem d_Desk_write_33 : decode b_Desk_write 33 = .ok (.aload_n 0, 1) := by decide +kernel
theorem d_Desk_write_34 : decode b_Desk_write 34 = .ok (.getfield 40, 3) := by decide +kernel
theorem d_Desk_write_37 : decode b_Desk_write 37 = .ok (.aload_n 3, 1) := by decide +kernel
theorem d_Desk_write_38 : decode b_Desk_write 38 = .ok (.invokevirtual 82, 3) := by decide +kernel
theorem d_Desk_write_41 : decode b_Desk_write 41 = .ok (.aload_n 3, 1) := by decide +kernel
theorem d_Desk_write_42 : decode b_Desk_write 42 = .ok (.invokevirtual 86, 3) := by decide +kernel
theorem d_Desk_write_45 : decode b_Desk_write 45 = .ok (.iload_n 2, 1) := by decide +kernel
theorem d_Desk_write_46 : decode b_Desk_write 46 = .ok (.invokevirtual 150, 3) := by decide +kernel
theorem d_Desk_write_49 : decode b_Desk_write 49 = .ok (.aload_n 0, 1) := by decide +kernel
theorem d_Desk_write_50 : decode b_Desk_write 50 = .ok (.getfield 40, 3) := by decide +kernel
theorem d_Desk_write_53 : decode b_Desk_write 53 = .ok (.invokevirtual 154, 3) := by decide +kernel
theorem d_Desk_write_56 : decode b_Desk_write 56 = .ok (.ireturn, 1) := by decide +kernel
theorem d_Desk_write_57 : decode b_Desk_write 57 = .ok (.aload_n 0, 1) := by decide +kernel
theorem d_Desk_write_58 : decode b_Desk_write 58 = .ok (.getfield 23, 3) := by decide +kernel
theorem d_Desk_write_61 : decode b_Desk_write 61 = .ok (.aload_n 3, 1) := by decide +kernel
theorem d_Desk_write_62 : decode b_Desk_write 62 = .ok (.invokevirtual 117, 3) := by decide +kernel
theorem d_Desk_write_65 : decode b_Desk_write 65 = .ok (.aload_n 3, 1) := by decide +kernel
theorem d_Desk_write_66 : decode b_Desk_write 66 = .ok (.getfield 134, 3) := by decide +kernel
theorem d_Desk_write_69 : decode b_Desk_write 69 = .ok (.aload_n 3, 1) := by decide +kernel
theorem d_Desk_write_70 : decode b_Desk_write 70 = .ok (.getfield 137, 3) := by decide +kernel
theorem d_Desk_write_73 : decode b_Desk_write 73 = .ok (.aload_n 0, 1) := by decide +kernel
theorem d_Desk_write_74 : decode b_Desk_write 74 = .ok (.getfield 46, 3) := by decide +kernel
theorem d_Desk_write_77 : decode b_Desk_write 77 = .ok (.aload_n 0, 1) := by decide +kernel
theorem d_Desk_write_78 : decode b_Desk_write 78 = .ok (.getfield 50, 3) := by decide +kernel
theorem d_Desk_write_81 : decode b_Desk_write 81 = .ok (.invokestatic 157, 3) := by decide +kernel
theorem d_Desk_write_84 : decode b_Desk_write 84 = .ok (.istore 4, 2) := by decide +kernel
theorem d_Desk_write_86 : decode b_Desk_write 86 = .ok (.iload 4, 2) := by decide +kernel
theorem d_Desk_write_88 : decode b_Desk_write 88 = .ok (.ifCond .eq 32, 3) := by decide +kernel
theorem d_Desk_write_91 : decode b_Desk_write 91 = .ok (.aload_n 0, 1) := by decide +kernel
theorem d_Desk_write_92 : decode b_Desk_write 92 = .ok (.getfield 40, 3) := by decide +kernel
theorem d_Desk_write_95 : decode b_Desk_write 95 = .ok (.iload 4, 2) := by decide +kernel
theorem d_Desk_write_97 : decode b_Desk_write 97 = .ok (.ifCond .ge 7, 3) := by decide +kernel
theorem d_Desk_write_100 : decode b_Desk_write 100 = .ok (.iconst 1, 1) := by decide +kernel
theorem d_Desk_write_101 : decode b_Desk_write 101 = .ok (.goto 4, 3) := by decide +kernel
theorem d_Desk_write_104 : decode b_Desk_write 104 = .ok (.iconst 0, 1) := by decide +kernel
theorem d_Desk_write_105 : decode b_Desk_write 105 = .ok (.aload_n 0, 1) := by decide +kernel
theorem d_Desk_write_106 : decode b_Desk_write 106 = .ok (.getfield 46, 3) := by decide +kernel
theorem d_Desk_write_109 : decode b_Desk_write 109 = .ok (.aload_n 0, 1) := by decide +kernel
theorem d_Desk_write_110 : decode b_Desk_write 110 = .ok (.getfield 50, 3) := by decide +kernel
theorem d_Desk_write_113 : decode b_Desk_write 113 = .ok (.iload_n 2, 1) := by decide +kernel
theorem d_Desk_write_114 : decode b_Desk_write 114 = .ok (.invokevirtual 161, 3) := by decide +kernel
theorem d_Desk_write_117 : decode b_Desk_write 117 = .ok (.ifCond .ne 6, 3) := by decide +kernel
theorem d_Desk_write_120 : decode b_Desk_write 120 = .ok (.bipush (-4), 2) := by decide +kernel
theorem d_Desk_write_122 : decode b_Desk_write 122 = .ok (.ireturn, 1) := by decide +kernel
theorem d_Desk_write_123 : decode b_Desk_write 123 = .ok (.aload_n 0, 1) := by decide +kernel
theorem d_Desk_write_124 : decode b_Desk_write 124 = .ok (.getfield 40, 3) := by decide +kernel
theorem d_Desk_write_127 : decode b_Desk_write 127 = .ok (.invokevirtual 154, 3) := by decide +kernel
theorem d_Desk_write_130 : decode b_Desk_write 130 = .ok (.ireturn, 1) := by decide +kernel
def mf_Desk_write (F : Nat) (vI : Int32) (vPlaces : Int32) (cRg : Nat → Option Nat) (fR : Int64) (fQ : Int64) (cfr : Nat → Int32) (cft : Nat → Int32) (cfs : Nat → Int32) (pkn : Int32) (pdn : Int32) (cpd : Nat → Int32) (czl : Nat → Int32) (czh : Nat → Int32) (xk : Int32) (xn : Int32) (xT : Nat → Int64) (xB : Nat → Int64) (xR : Nat → Int64) (xL : Nat → Int32) (xH : Nat → Int32) (pk : Nat) (pd : Nat) : Option (Int32 × Int64 × Int64 × (Nat → Int32) × (Nat → Int32) × (Nat → Int32) × Nat × Nat × Int32 × Int32 × (Nat → Int32) × (Nat → Int32) × (Nat → Int32) × Int32 × (Nat → Int32) × (Nat → Int32)) :=
  (sd_b1 (mf_Desk_isRegister F vI) fun r => (if r = 0 then (some ((-1 : Int32), fR, fQ, cfr, cft, cfs, pk, pd, pkn, pdn, cpd, czl, czh, xk, xL, xH)) else (if vPlaces < 0 then (some ((-1 : Int32), fR, fQ, cfr, cft, cfs, pk, pd, pkn, pdn, cpd, czl, czh, xk, xL, xH)) else (if vPlaces ≤ (80 : Int32) then (sd_g (sd_ix vI 8) (sd_b1 (mf_Sum_isFraction F xk xn xR) fun r_1 => (if r_1 = 0 then (sd_b8 (mf_EndsFinder_find F fR fQ cfr cft cfs xk xn xT xB xR xL xH) fun ufe ufe_1 ufr uft ufs uxs uxal uxah => (sd_b3 (mf_Teller_sizes F 68 68 68 68 uxal uxah czl czh) fun r_2 uzl uzh => (if r_2 = 0 then (some ((-4 : Int32), ufe, ufe_1, ufr, uft, ufs, pk, pd, pkn, pdn, cpd, uzl, uzh, uxs, uxal, uxah)) else (sd_b1 (if 0 ≤ r_2 then (some ((0 : Int32))) else (some ((1 : Int32)))) fun y => (sd_b5 (mf_Page_draftEnds F 68 68 y vPlaces pkn pdn cpd uzl uzh) fun r_3 upg upd uzl_1 uzh_1 => (if r_3 = 0 then (some ((-4 : Int32), ufe, ufe_1, ufr, uft, ufs, pk, pd, pkn, upg, upd, uzl_1, uzh_1, uxs, uxal, uxah)) else (sd_b4 (mf_Page_keep F pkn upg pk pd) fun r_4 upg_1 upg_2 upg_3 => (some (r_4, ufe, ufe_1, ufr, uft, ufs, upg_1, upg_2, upg_3, upg, upd, uzl_1, uzh_1, uxs, uxal, uxah))))))))) else (sd_b1 (mf_Sum_top F xk xn xT) fun r_5 => (sd_b1 (mf_Sum_bottom F xk xn xB) fun r_6 => (sd_b2 (mf_Page_draftFraction F r_5 r_6 vPlaces pkn pdn cpd) fun upg_4 upd_1 => (sd_b4 (mf_Page_keep F pkn upg_4 pk pd) fun r_7 upg_5 upg_6 upg_7 => (some (r_7, fR, fQ, cfr, cft, cfs, upg_5, upg_6, upg_7, upg_4, upd_1, czl, czh, xk, xL, xH))))))))) else (some ((-1 : Int32), fR, fQ, cfr, cft, cfs, pk, pd, pkn, pdn, cpd, czl, czh, xk, xL, xH))))))
abbrev rm_Desk_write : Room := { frames := 5, cells := 0, slots := 0, locals := 139 }
set_option maxHeartbeats 4000000 in
set_option maxRecDepth 100000 in
theorem ct_Desk_write (l : Launch) (D : va_G) (g : G4) (zd : Nat) (rg : Nat) (iv : Nat) (fe : Nat) (c1 : Nat) (c2 : Nat) (pg : Nat) (zl : Nat) (zh : Nat) (ds : Nat) (fr : Nat) (ft : Nat) (fs : Nat) (pk : Nat) (pd : Nat) (xs : Nat) (xat : Nat) (xab : Nat) (xar : Nat) (xal : Nat) (xah : Nat) (sz : Nat) (vI : Int32) (vPlaces : Int32) (cRg : Nat → Option Nat) (fR : Int64) (fQ : Int64) (cfr : Nat → Int32) (cft : Nat → Int32) (cfs : Nat → Int32) (pkn : Int32) (pdn : Int32) (cpd : Nat → Int32) (czl : Nat → Int32) (czh : Nat → Int32) (xk : Int32) (xn : Int32) (xT : Nat → Int64) (xB : Nat → Int64) (xR : Nat → Int64) (xL : Nat → Int32) (xH : Nat → Int32) (F : Nat) (res : Int32 × Int64 × Int64 × (Nat → Int32) × (Nat → Int32) × (Nat → Int32) × Nat × Nat × Int32 × Int32 × (Nat → Int32) × (Nat → Int32) × (Nat → Int32) × Int32 × (Nat → Int32) × (Nat → Int32)) (hm : mf_Desk_write F vI vPlaces cRg fR fQ cfr cft cfs pkn pdn cpd czl czh xk xn xT xB xR xL xH pk pd = some res) (hI : sd_ix vI 8 = true → cRg vI.toNatClampNeg = some xs) : Met l y_Desk_write (.code y_Desk_write b_Desk_write 5 (some .int) :: sd_tb) rm_Desk_write (sd_PW D g [.ref zd, .int vI, .int vPlaces] sz [(zd, .inr (4, [.ref rg, .ref iv, .ref fe, .ref c1, .ref c2, .ref pg, .ref zl, .ref zh, .ref ds])), (rg, aQ g 8 cRg), (fe, .inr (1, [.ref fr, .ref ft, .ref fs, .long fR, .long fQ])), (fr, aI g 132 cfr), (ft, aI g 68 cft), (fs, aI g 68 cfs), (pg, .inr (3, [.ref pk, .ref pd, .int pkn, .int pdn])), (pd, aB g 128 cpd), (zl, aI g 68 czl), (zh, aI g 68 czh), (xs, .inr (0, [.ref xat, .ref xab, .ref xar, .ref xal, .ref xah, .int xk, .int xn])), (xat, aJ g 8 xT), (xab, aJ g 8 xB), (xar, aJ g 8 xR), (xal, aI g 68 xL), (xah, aI g 68 xH)]) (sd_Qi1 D g res (fun u : Int64 × Int64 × (Nat → Int32) × (Nat → Int32) × (Nat → Int32) × Nat × Nat × Int32 × Int32 × (Nat → Int32) × (Nat → Int32) × (Nat → Int32) × Int32 × (Nat → Int32) × (Nat → Int32) => [(zd, .inr (4, [.ref rg, .ref iv, .ref fe, .ref c1, .ref c2, .ref pg, .ref zl, .ref zh, .ref ds])), (rg, aQ g 8 cRg), (fe, .inr (1, [.ref fr, .ref ft, .ref fs, .long (u.1), .long (u.2.1)])), (fr, aI g 132 (u.2.2.1)), (ft, aI g 68 (u.2.2.2.1)), (fs, aI g 68 (u.2.2.2.2.1)), (pg, .inr (3, [.ref (u.2.2.2.2.2.1), .ref (u.2.2.2.2.2.2.1), .int (u.2.2.2.2.2.2.2.1), .int (u.2.2.2.2.2.2.2.2.1)])), (pd, aB g 128 (u.2.2.2.2.2.2.2.2.2.1)), (zl, aI g 68 (u.2.2.2.2.2.2.2.2.2.2.1)), (zh, aI g 68 (u.2.2.2.2.2.2.2.2.2.2.2.1)), (xs, .inr (0, [.ref xat, .ref xab, .ref xar, .ref xal, .ref xah, .int (u.2.2.2.2.2.2.2.2.2.2.2.2.1), .int xn])), (xat, aJ g 8 xT), (xab, aJ g 8 xB), (xar, aJ g 8 xR), (xal, aI g 68 (u.2.2.2.2.2.2.2.2.2.2.2.2.2.1)), (xah, aI g 68 (u.2.2.2.2.2.2.2.2.2.2.2.2.2.2))]) (va_A [(zd, .inr (4, [.ref rg, .ref iv, .ref fe, .ref c1, .ref c2, .ref pg, .ref zl, .ref zh, .ref ds])), (rg, aQ g 8 cRg), (fe, .inr (1, [.ref fr, .ref ft, .ref fs, .long fR, .long fQ])), (fr, aI g 132 cfr), (ft, aI g 68 cft), (fs, aI g 68 cfs), (pg, .inr (3, [.ref pk, .ref pd, .int pkn, .int pdn])), (pd, aB g 128 cpd), (zl, aI g 68 czl), (zh, aI g 68 czh), (xs, .inr (0, [.ref xat, .ref xab, .ref xar, .ref xal, .ref xah, .int xk, .int xn])), (xat, aJ g 8 xT), (xab, aJ g 8 xB), (xar, aJ g 8 xR), (xal, aI g 68 xL), (xah, aI g 68 xH)] sz)) 0 0 (va_A [(zd, .inr (4, [.ref rg, .ref iv, .ref fe, .ref c1, .ref c2, .ref pg, .ref zl, .ref zh, .ref ds])), (rg, aQ g 8 cRg), (fe, .inr (1, [.ref fr, .ref ft, .ref fs, .long fR, .long fQ])), (fr, aI g 132 cfr), (ft, aI g 68 cft), (fs, aI g 68 cfs), (pg, .inr (3, [.ref pk, .ref pd, .int pkn, .int pdn])), (pd, aB g 128 cpd), (zl, aI g 68 czl), (zh, aI g 68 czh), (xs, .inr (0, [.ref xat, .ref xab, .ref xar, .ref xal, .ref xah, .int xk, .int xn])), (xat, aJ g 8 xT), (xab, aJ g 8 xB), (xar, aJ g 8 xR), (xal, aI g 68 xL), (xah, aI g 68 xH)] sz) := by
  refine sd_met (Qf := fun A => sd_Qi1 D g res (fun u : Int64 × Int64 × (Nat → Int32) × (Nat → Int32) × (Nat → Int32) × Nat × Nat × Int32 × Int32 × (Nat → Int32) × (Nat → Int32) × (Nat → Int32) × Int32 × (Nat → Int32) × (Nat → Int32) => [(zd, .inr (4, [.ref rg, .ref iv, .ref fe, .ref c1, .ref c2, .ref pg, .ref zl, .ref zh, .ref ds])), (rg, aQ g 8 cRg), (fe, .inr (1, [.ref fr, .ref ft, .ref fs, .long (u.1), .long (u.2.1)])), (fr, aI g 132 (u.2.2.1)), (ft, aI g 68 (u.2.2.2.1)), (fs, aI g 68 (u.2.2.2.2.1)), (pg, .inr (3, [.ref (u.2.2.2.2.2.1), .ref (u.2.2.2.2.2.2.1), .int (u.2.2.2.2.2.2.2.1), .int (u.2.2.2.2.2.2.2.2.1)])), (pd, aB g 128 (u.2.2.2.2.2.2.2.2.2.1)), (zl, aI g 68 (u.2.2.2.2.2.2.2.2.2.2.1)), (zh, aI g 68 (u.2.2.2.2.2.2.2.2.2.2.2.1)), (xs, .inr (0, [.ref xat, .ref xab, .ref xar, .ref xal, .ref xah, .int (u.2.2.2.2.2.2.2.2.2.2.2.2.1), .int xn])), (xat, aJ g 8 xT), (xab, aJ g 8 xB), (xar, aJ g 8 xR), (xal, aI g 68 (u.2.2.2.2.2.2.2.2.2.2.2.2.2.1)), (xah, aI g 68 (u.2.2.2.2.2.2.2.2.2.2.2.2.2.2))]) A) (own := R_Desk) (by decide +kernel) rfl (Nat.le_of_ble_eq_true rfl) ?_
  intro p e s m args below meth c S hr hlk hK A hA Q hQ H locs hP hD hS ls hl
  have hx := S.1
  have hb := S.2.1
  have hml := S.2.2.1
  have hown := S.2.2.2.1
  have htt := sd_tt S
  replace hl : lv_has ls 5 [(0, .ref zd), (1, .int vI), (2, .int vPlaces)] := hl
  unfold mf_Desk_write at hm
  refine lv_iload_n hx hb d_Desk_write_0 rfl (lv_at hl 1 rfl) ?_
  obtain ⟨r, hc, hm⟩ := sd_mb1 hm
  refine sd_ci0 (wr := [(zd, .inr (4, [.ref rg, .ref iv, .ref fe, .ref c1, .ref c2, .ref pg, .ref zl, .ref zh, .ref ds])), (rg, aQ g 8 cRg), (fe, .inr (1, [.ref fr, .ref ft, .ref fs, .long fR, .long fQ])), (fr, aI g 132 cfr), (ft, aI g 68 cft), (fs, aI g 68 cfs), (pg, .inr (3, [.ref pk, .ref pd, .int pkn, .int pdn])), (pd, aB g 128 cpd), (zl, aI g 68 czl), (zh, aI g 68 czh), (xs, .inr (0, [.ref xat, .ref xab, .ref xar, .ref xal, .ref xah, .int xk, .int xn])), (xat, aJ g 8 xT), (xab, aJ g 8 xB), (xar, aJ g 8 xR), (xal, aI g 68 xL), (xah, aI g 68 xH)]) (w2 := [(zd, .inr (4, [.ref rg, .ref iv, .ref fe, .ref c1, .ref c2, .ref pg, .ref zl, .ref zh, .ref ds])), (rg, aQ g 8 cRg), (fe, .inr (1, [.ref fr, .ref ft, .ref fs, .long fR, .long fQ])), (fr, aI g 132 cfr), (ft, aI g 68 cft), (fs, aI g 68 cfs), (pg, .inr (3, [.ref pk, .ref pd, .int pkn, .int pdn])), (pd, aB g 128 cpd), (zl, aI g 68 czl), (zh, aI g 68 czh), (xs, .inr (0, [.ref xat, .ref xab, .ref xar, .ref xal, .ref xah, .int xk, .int xn])), (xat, aJ g 8 xT), (xab, aJ g 8 xB), (xar, aJ g 8 xR), (xal, aI g 68 xL), (xah, aI g 68 xH)]) (sd_runS (rest := []) (As := [.int vI]) S (ct_Desk_isRegister l D g (H.size) vI F (r) hc) kl_Desk_56 (by decide) (by decide) hK hP hD [] rfl (by decide) rfl hl d_Desk_write_1 rfl (Nat.le_of_ble_eq_true rfl) ⟨Nat.zero_le _, Nat.zero_le _⟩) hP hD hS hA [] [0, 1, 2, 3, 4, 5, 6, 7, 8, 9, 10, 11, 12, 13, 14, 15] rfl rfl (by decide) (by decide) rfl (fun H locs hP hD hS => ?_)
  refine W.eq (g2 := F0 m 4 ls [.int r]) rfl ?_
  refine lv_if_eq (tgt := 17) hx hb d_Desk_write_4 (by decide) (fun hc => ?_) (fun hc => ?_)
  · have hm := sd_mt hc hm
    refine lv_iconst (v := (-1 : Int32)) hx hb d_Desk_write_17 (by decide) ?_
    exact sd_i1ret (u := (fR, fQ, cfr, cft, cfs, pk, pd, pkn, pdn, cpd, czl, czh, xk, xL, xH)) hQ hx hb hr hlk hK (hP.sub [0, 1, 2, 3, 4, 5, 6, 7, 8, 9, 10, 11, 12, 13, 14, 15] rfl) (hD.sub [0, 1, 2, 3, 4, 5, 6, 7, 8, 9, 10, 11, 12, 13, 14, 15] (by decide) rfl) hS (Option.some.inj hm).symm d_Desk_write_18
  · have hm := sd_mf hc hm
    refine lv_iload_n hx hb d_Desk_write_7 rfl (lv_at hl 2 rfl) ?_
    refine lv_if_lt (tgt := 17) hx hb d_Desk_write_8 (by decide) (fun hc => ?_) (fun hc => ?_)
    · have hm := sd_mt hc hm
      refine lv_iconst (v := (-1 : Int32)) hx hb d_Desk_write_17 (by decide) ?_
      exact sd_i1ret (u := (fR, fQ, cfr, cft, cfs, pk, pd, pkn, pdn, cpd, czl, czh, xk, xL, xH)) hQ hx hb hr hlk hK (hP.sub [0, 1, 2, 3, 4, 5, 6, 7, 8, 9, 10, 11, 12, 13, 14, 15] rfl) (hD.sub [0, 1, 2, 3, 4, 5, 6, 7, 8, 9, 10, 11, 12, 13, 14, 15] (by decide) rfl) hS (Option.some.inj hm).symm d_Desk_write_18
    · have hm := sd_mf hc hm
      refine lv_iload_n hx hb d_Desk_write_11 rfl (lv_at hl 2 rfl) ?_
      refine lv_bipush (v := (80 : Int32)) hx hb d_Desk_write_12 (by decide) ?_
      refine lv_icmp_le (tgt := 19) hx hb d_Desk_write_14 (by decide) (fun hc => ?_) (fun hc => ?_)
      · have hm := sd_mt hc hm
        refine lv_aload_n hx hb d_Desk_write_19 rfl (lv_at hl 0 rfl) ?_
        refine va_get (D := D) (ci := 4) (v := .ref rg) (C := R_Desk) (T := F_Desk) (N := 9) hx hb htt i_Desk hown hK hP 0 rfl rfl 0 (by decide) (htt _ kf_Desk_11) (fun _ h9 => h9) rfl d_Desk_write_20 ?_
        refine lv_iload_n hx hb d_Desk_write_23 rfl (lv_at hl 1 rfl) ?_
        obtain ⟨h_1, hm⟩ := sd_mg hm
        refine sd_aald hx hb hK hP 1 rfl h_1 d_Desk_write_24 ?_
        refine sd_topq (hI h_1) ?_
        refine lv_astore_n (lv' := [(3, .ref xs), (0, .ref zd), (1, .int vI), (2, .int vPlaces)]) hx hb d_Desk_write_25 rfl hl (by decide) rfl (fun ls hl => ?_)
        refine lv_aload_n hx hb d_Desk_write_26 rfl (lv_at hl 0 rfl) ?_
        obtain ⟨r_1, hc, hm⟩ := sd_mb1 hm
        refine sd_ci0 (wr := [(zd, .inr (4, [.ref rg, .ref iv, .ref fe, .ref c1, .ref c2, .ref pg, .ref zl, .ref zh, .ref ds])), (rg, aQ g 8 cRg), (fe, .inr (1, [.ref fr, .ref ft, .ref fs, .long fR, .long fQ])), (fr, aI g 132 cfr), (ft, aI g 68 cft), (fs, aI g 68 cfs), (pg, .inr (3, [.ref pk, .ref pd, .int pkn, .int pdn])), (pd, aB g 128 cpd), (zl, aI g 68 czl), (zh, aI g 68 czh), (xat, aJ g 8 xT), (xab, aJ g 8 xB), (xal, aI g 68 xL), (xah, aI g 68 xH)]) (w2 := [(zd, .inr (4, [.ref rg, .ref iv, .ref fe, .ref c1, .ref c2, .ref pg, .ref zl, .ref zh, .ref ds])), (rg, aQ g 8 cRg), (fe, .inr (1, [.ref fr, .ref ft, .ref fs, .long fR, .long fQ])), (fr, aI g 132 cfr), (ft, aI g 68 cft), (fs, aI g 68 cfs), (pg, .inr (3, [.ref pk, .ref pd, .int pkn, .int pdn])), (pd, aB g 128 cpd), (zl, aI g 68 czl), (zh, aI g 68 czh), (xat, aJ g 8 xT), (xab, aJ g 8 xB), (xal, aI g 68 xL), (xah, aI g 68 xH), (xs, .inr (0, [.ref xat, .ref xab, .ref xar, .ref xal, .ref xah, .int xk, .int xn])), (xar, aJ g 8 xR)]) (sd_runV (rest := []) (As := []) S (ct_Sum_isFraction l D g xs xat xab xar xal xah (H.size) xk xn xR F (r_1) hc) kl_Desk_78 (by decide) (by decide) hK hP hD [10, 13] rfl (by decide) rfl hl d_Desk_write_27 rfl (Nat.le_of_ble_eq_true rfl) ⟨Nat.zero_le _, Nat.zero_le _⟩ 10 rfl rfl) hP hD hS hA [10, 13] [0, 1, 2, 3, 4, 5, 6, 7, 8, 9, 11, 12, 14, 15] rfl rfl (by decide) (by decide) rfl (fun H locs hP hD hS => ?_)
        refine W.eq (g2 := F0 m 30 ls [.int r_1]) rfl ?_
        refine lv_if_eq (tgt := 57) hx hb d_Desk_write_30 (by decide) (fun hc => ?_) (fun hc => ?_)
        · have hm := sd_mt hc hm
          refine lv_aload_n hx hb d_Desk_write_57 rfl (lv_at hl 1 rfl) ?_
          refine va_get (D := D) (ci := 4) (v := .ref fe) (C := R_Desk) (T := F_Desk) (N := 9) hx hb htt i_Desk hown hK hP 0 rfl rfl 2 (by decide) (htt _ kf_Desk_23) (fun _ h9 => h9) rfl d_Desk_write_58 ?_
          refine lv_aload_n hx hb d_Desk_write_61 rfl (lv_at hl 0 rfl) ?_
          obtain ⟨ufe, ufe_1, ufr, uft, ufs, uxs, uxal, uxah, hc, hm⟩ := sd_mb8 hm
          refine sd_cv1 (wr := [(zd, .inr (4, [.ref rg, .ref iv, .ref fe, .ref c1, .ref c2, .ref pg, .ref zl, .ref zh, .ref ds])), (rg, aQ g 8 cRg), (pg, .inr (3, [.ref pk, .ref pd, .int pkn, .int pdn])), (pd, aB g 128 cpd), (zl, aI g 68 czl), (zh, aI g 68 czh)]) (w2 := [(zd, .inr (4, [.ref rg, .ref iv, .ref fe, .ref c1, .ref c2, .ref pg, .ref zl, .ref zh, .ref ds])), (rg, aQ g 8 cRg), (pg, .inr (3, [.ref pk, .ref pd, .int pkn, .int pdn])), (pd, aB g 128 cpd), (zl, aI g 68 czl), (zh, aI g 68 czh), (fe, .inr (1, [.ref fr, .ref ft, .ref fs, .long ufe, .long ufe_1])), (fr, aI g 132 ufr), (ft, aI g 68 uft), (fs, aI g 68 ufs), (xs, .inr (0, [.ref xat, .ref xab, .ref xar, .ref xal, .ref xah, .int uxs, .int xn])), (xat, aJ g 8 xT), (xab, aJ g 8 xB), (xar, aJ g 8 xR), (xal, aI g 68 uxal), (xah, aI g 68 uxah)]) (sd_runV (rest := []) (As := [.ref xs]) S (ct_EndsFinder_find l D g fe fr ft fs xs xat xab xar xal xah (H.size) fR fQ cfr cft cfs xk xn xT xB xR xL xH F (ufe, ufe_1, ufr, uft, ufs, uxs, uxal, uxah) hc) kl_Desk_117 (by decide) (by decide) hK hP hD [2, 3, 4, 5, 14, 10, 11, 15, 12, 13] rfl (by decide) rfl hl d_Desk_write_62 rfl (Nat.le_of_ble_eq_true rfl) ⟨Nat.zero_le _, Nat.zero_le _⟩ 2 rfl rfl) hP hD hS hA [2, 3, 4, 5, 14, 10, 11, 15, 12, 13] [0, 1, 6, 7, 8, 9] rfl rfl (by decide) (by decide) rfl (fun H locs hP hD hS => ?_)
          refine lv_aload_n hx hb d_Desk_write_65 rfl (lv_at hl 0 rfl) ?_
          refine va_get (D := D) (ci := 0) (v := .ref xal) (C := R_Sum) (T := F_Sum) (N := 7) hx hb htt i_Sum hown hK hP 10 rfl rfl 3 (by decide) (htt _ kf_Desk_134) (fun _ h9 => h9) rfl d_Desk_write_66 ?_
          refine lv_aload_n hx hb d_Desk_write_69 rfl (lv_at hl 0 rfl) ?_
          refine va_get (D := D) (ci := 0) (v := .ref xah) (C := R_Sum) (T := F_Sum) (N := 7) hx hb htt i_Sum hown hK hP 10 rfl rfl 4 (by decide) (htt _ kf_Desk_137) (fun _ h9 => h9) rfl d_Desk_write_70 ?_
          refine lv_aload_n hx hb d_Desk_write_73 rfl (lv_at hl 1 rfl) ?_
          refine va_get (D := D) (ci := 4) (v := .ref zl) (C := R_Desk) (T := F_Desk) (N := 9) hx hb htt i_Desk hown hK hP 0 rfl rfl 6 (by decide) (htt _ kf_Desk_46) (fun _ h9 => h9) rfl d_Desk_write_74 ?_
          refine lv_aload_n hx hb d_Desk_write_77 rfl (lv_at hl 1 rfl) ?_
          refine va_get (D := D) (ci := 4) (v := .ref zh) (C := R_Desk) (T := F_Desk) (N := 9) hx hb htt i_Desk hown hK hP 0 rfl rfl 7 (by decide) (htt _ kf_Desk_50) (fun _ h9 => h9) rfl d_Desk_write_78 ?_
          obtain ⟨r_2, uzl, uzh, hc, hm⟩ := sd_mb3 hm
          refine sd_ci1 (wr := [(zd, .inr (4, [.ref rg, .ref iv, .ref fe, .ref c1, .ref c2, .ref pg, .ref zl, .ref zh, .ref ds])), (rg, aQ g 8 cRg), (pg, .inr (3, [.ref pk, .ref pd, .int pkn, .int pdn])), (pd, aB g 128 cpd), (fe, .inr (1, [.ref fr, .ref ft, .ref fs, .long ufe, .long ufe_1])), (fr, aI g 132 ufr), (ft, aI g 68 uft), (fs, aI g 68 ufs), (xs, .inr (0, [.ref xat, .ref xab, .ref xar, .ref xal, .ref xah, .int uxs, .int xn])), (xat, aJ g 8 xT), (xab, aJ g 8 xB), (xar, aJ g 8 xR)]) (w2 := [(zd, .inr (4, [.ref rg, .ref iv, .ref fe, .ref c1, .ref c2, .ref pg, .ref zl, .ref zh, .ref ds])), (rg, aQ g 8 cRg), (pg, .inr (3, [.ref pk, .ref pd, .int pkn, .int pdn])), (pd, aB g 128 cpd), (fe, .inr (1, [.ref fr, .ref ft, .ref fs, .long ufe, .long ufe_1])), (fr, aI g 132 ufr), (ft, aI g 68 uft), (fs, aI g 68 ufs), (xs, .inr (0, [.ref xat, .ref xab, .ref xar, .ref xal, .ref xah, .int uxs, .int xn])), (xat, aJ g 8 xT), (xab, aJ g 8 xB), (xar, aJ g 8 xR), (xal, aI g 68 uxal), (xah, aI g 68 uxah), (zl, aI g 68 uzl), (zh, aI g 68 uzh)]) (sd_runS (rest := []) (As := [.ref xal, .ref xah, .ref zl, .ref zh]) S (ct_Teller_sizes l D g xal xah zl zh 68 68 68 68 (H.size) uxal uxah czl czh F (r_2, uzl, uzh) hc) kl_Desk_157 (by decide) (by decide) hK hP hD [14, 15, 4, 5] rfl (by decide) rfl hl d_Desk_write_81 rfl (Nat.le_of_ble_eq_true rfl) ⟨Nat.zero_le _, Nat.zero_le _⟩) hP hD hS hA [14, 15, 4, 5] [0, 1, 2, 3, 6, 7, 8, 9, 10, 11, 12, 13] rfl rfl (by decide) (by decide) rfl (fun H locs hP hD hS => ?_)
          refine W.eq (g2 := F0 m 84 ls [.int r_2]) rfl ?_
          refine lv_istore (lv' := [(4, .int r_2), (3, .ref xs), (0, .ref zd), (1, .int vI), (2, .int vPlaces)]) hx hb d_Desk_write_84 hl (by decide) rfl (fun ls hl => ?_)
          refine lv_iload hx hb d_Desk_write_86 (lv_at hl 0 rfl) ?_
          refine lv_if_eq (tgt := 120) hx hb d_Desk_write_88 (by decide) (fun hc => ?_) (fun hc => ?_)
          · have hm := sd_mt hc hm
            refine lv_bipush (v := (-4 : Int32)) hx hb d_Desk_write_120 (by decide) ?_
            exact sd_i1ret (u := (ufe, ufe_1, ufr, uft, ufs, pk, pd, pkn, pdn, cpd, uzl, uzh, uxs, uxal, uxah)) hQ hx hb hr hlk hK (hP.sub [0, 1, 4, 5, 6, 7, 2, 3, 14, 15, 8, 9, 10, 11, 12, 13] rfl) (hD.sub [0, 1, 4, 5, 6, 7, 2, 3, 14, 15, 8, 9, 10, 11, 12, 13] (by decide) rfl) hS (Option.some.inj hm).symm d_Desk_write_122
          · have hm := sd_mf hc hm
            refine lv_aload_n hx hb d_Desk_write_91 rfl (lv_at hl 2 rfl) ?_
            refine va_get (D := D) (ci := 4) (v := .ref pg) (C := R_Desk) (T := F_Desk) (N := 9) hx hb htt i_Desk hown hK hP 0 rfl rfl 5 (by decide) (htt _ kf_Desk_40) (fun _ h9 => h9) rfl d_Desk_write_92 ?_
            refine lv_iload hx hb d_Desk_write_95 (lv_at hl 0 rfl) ?_
            obtain ⟨y, hv, hm⟩ := sd_mb1 hm
            have J105_2 : ∀ (H : Heap) (locs : List Loc) (ls : Array Slot), va_P D classes [(zd, .inr (4, [.ref rg, .ref iv, .ref fe, .ref c1, .ref c2, .ref pg, .ref zl, .ref zh, .ref ds])), (rg, aQ g 8 cRg), (pg, .inr (3, [.ref pk, .ref pd, .int pkn, .int pdn])), (pd, aB g 128 cpd), (fe, .inr (1, [.ref fr, .ref ft, .ref fs, .long ufe, .long ufe_1])), (fr, aI g 132 ufr), (ft, aI g 68 uft), (fs, aI g 68 ufs), (xs, .inr (0, [.ref xat, .ref xab, .ref xar, .ref xal, .ref xah, .int uxs, .int xn])), (xat, aJ g 8 xT), (xab, aJ g 8 xB), (xar, aJ g 8 xR), (xal, aI g 68 uxal), (xah, aI g 68 uxah), (zl, aI g 68 uzl), (zh, aI g 68 uzh)] H → va_D A [(zd, .inr (4, [.ref rg, .ref iv, .ref fe, .ref c1, .ref c2, .ref pg, .ref zl, .ref zh, .ref ds])), (rg, aQ g 8 cRg), (pg, .inr (3, [.ref pk, .ref pd, .int pkn, .int pdn])), (pd, aB g 128 cpd), (fe, .inr (1, [.ref fr, .ref ft, .ref fs, .long ufe, .long ufe_1])), (fr, aI g 132 ufr), (ft, aI g 68 uft), (fs, aI g 68 ufs), (xs, .inr (0, [.ref xat, .ref xab, .ref xar, .ref xal, .ref xah, .int uxs, .int xn])), (xat, aJ g 8 xT), (xab, aJ g 8 xB), (xar, aJ g 8 xR), (xal, aI g 68 uxal), (xah, aI g 68 uxah), (zl, aI g 68 uzl), (zh, aI g 68 uzh)] → va_S A s.heap H locs → lv_has ls 5 [(0, .ref zd), (2, .int vPlaces)] → W p l e rm_Desk_write s m args below meth c H locs 0 0 Q (F0 m 105 ls [.int y, .ref pg]) := by
              intro H locs ls hP hD hS hl
              refine lv_aload_n hx hb d_Desk_write_105 rfl (lv_at hl 0 rfl) ?_
              refine va_get (D := D) (ci := 4) (v := .ref zl) (C := R_Desk) (T := F_Desk) (N := 9) hx hb htt i_Desk hown hK hP 0 rfl rfl 6 (by decide) (htt _ kf_Desk_46) (fun _ h9 => h9) rfl d_Desk_write_106 ?_
              refine lv_aload_n hx hb d_Desk_write_109 rfl (lv_at hl 0 rfl) ?_
              refine va_get (D := D) (ci := 4) (v := .ref zh) (C := R_Desk) (T := F_Desk) (N := 9) hx hb htt i_Desk hown hK hP 0 rfl rfl 7 (by decide) (htt _ kf_Desk_50) (fun _ h9 => h9) rfl d_Desk_write_110 ?_
              refine lv_iload_n hx hb d_Desk_write_113 rfl (lv_at hl 1 rfl) ?_
              obtain ⟨r_3, upg, upd, uzl_1, uzh_1, hc, hm⟩ := sd_mb5 hm
              refine sd_ci1 (wr := [(zd, .inr (4, [.ref rg, .ref iv, .ref fe, .ref c1, .ref c2, .ref pg, .ref zl, .ref zh, .ref ds])), (rg, aQ g 8 cRg), (fe, .inr (1, [.ref fr, .ref ft, .ref fs, .long ufe, .long ufe_1])), (fr, aI g 132 ufr), (ft, aI g 68 uft), (fs, aI g 68 ufs), (xs, .inr (0, [.ref xat, .ref xab, .ref xar, .ref xal, .ref xah, .int uxs, .int xn])), (xat, aJ g 8 xT), (xab, aJ g 8 xB), (xar, aJ g 8 xR), (xal, aI g 68 uxal), (xah, aI g 68 uxah)]) (w2 := [(zd, .inr (4, [.ref rg, .ref iv, .ref fe, .ref c1, .ref c2, .ref pg, .ref zl, .ref zh, .ref ds])), (rg, aQ g 8 cRg), (fe, .inr (1, [.ref fr, .ref ft, .ref fs, .long ufe, .long ufe_1])), (fr, aI g 132 ufr), (ft, aI g 68 uft), (fs, aI g 68 ufs), (xs, .inr (0, [.ref xat, .ref xab, .ref xar, .ref xal, .ref xah, .int uxs, .int xn])), (xat, aJ g 8 xT), (xab, aJ g 8 xB), (xar, aJ g 8 xR), (xal, aI g 68 uxal), (xah, aI g 68 uxah), (pg, .inr (3, [.ref pk, .ref pd, .int pkn, .int upg])), (pd, aB g 128 upd), (zl, aI g 68 uzl_1), (zh, aI g 68 uzh_1)]) (sd_runV (rest := []) (As := [.int y, .ref zl, .ref zh, .int vPlaces]) S (ct_Page_draftEnds l D g pg pk pd zl zh 68 68 (H.size) y vPlaces pkn pdn cpd uzl uzh F (r_3, upg, upd, uzl_1, uzh_1) hc) kl_Desk_161 (by decide) (by decide) hK hP hD [2, 3, 14, 15] rfl (by decide) rfl hl d_Desk_write_114 rfl (Nat.le_of_ble_eq_true rfl) ⟨Nat.zero_le _, Nat.zero_le _⟩ 2 rfl rfl) hP hD hS hA [2, 3, 14, 15] [0, 1, 4, 5, 6, 7, 8, 9, 10, 11, 12, 13] rfl rfl (by decide) (by decide) rfl (fun H locs hP hD hS => ?_)
              refine W.eq (g2 := F0 m 117 ls [.int r_3]) rfl ?_
              refine lv_if_ne (tgt := 123) hx hb d_Desk_write_117 (by decide) (fun hc => ?_) (fun hc => ?_)
              · have hm := sd_mf hc hm
                refine lv_aload_n hx hb d_Desk_write_123 rfl (lv_at hl 0 rfl) ?_
                refine va_get (D := D) (ci := 4) (v := .ref pg) (C := R_Desk) (T := F_Desk) (N := 9) hx hb htt i_Desk hown hK hP 0 rfl rfl 5 (by decide) (htt _ kf_Desk_40) (fun _ h9 => h9) rfl d_Desk_write_124 ?_
                obtain ⟨r_4, upg_1, upg_2, upg_3, hc, hm⟩ := sd_mb4 hm
                refine sd_ci1 (wr := [(zd, .inr (4, [.ref rg, .ref iv, .ref fe, .ref c1, .ref c2, .ref pg, .ref zl, .ref zh, .ref ds])), (rg, aQ g 8 cRg), (fe, .inr (1, [.ref fr, .ref ft, .ref fs, .long ufe, .long ufe_1])), (fr, aI g 132 ufr), (ft, aI g 68 uft), (fs, aI g 68 ufs), (xs, .inr (0, [.ref xat, .ref xab, .ref xar, .ref xal, .ref xah, .int uxs, .int xn])), (xat, aJ g 8 xT), (xab, aJ g 8 xB), (xar, aJ g 8 xR), (xal, aI g 68 uxal), (xah, aI g 68 uxah), (pd, aB g 128 upd), (zl, aI g 68 uzl_1), (zh, aI g 68 uzh_1)]) (w2 := [(zd, .inr (4, [.ref rg, .ref iv, .ref fe, .ref c1, .ref c2, .ref pg, .ref zl, .ref zh, .ref ds])), (rg, aQ g 8 cRg), (fe, .inr (1, [.ref fr, .ref ft, .ref fs, .long ufe, .long ufe_1])), (fr, aI g 132 ufr), (ft, aI g 68 uft), (fs, aI g 68 ufs), (xs, .inr (0, [.ref xat, .ref xab, .ref xar, .ref xal, .ref xah, .int uxs, .int xn])), (xat, aJ g 8 xT), (xab, aJ g 8 xB), (xar, aJ g 8 xR), (xal, aI g 68 uxal), (xah, aI g 68 uxah), (pd, aB g 128 upd), (zl, aI g 68 uzl_1), (zh, aI g 68 uzh_1), (pg, .inr (3, [.ref upg_1, .ref upg_2, .int upg_3, .int upg]))]) (sd_runV (rest := []) (As := []) S (ct_Page_keep l D g pg pk pd (H.size) pkn upg F (r_4, upg_1, upg_2, upg_3) hc) kl_Desk_154 (by decide) (by decide) hK hP hD [12] rfl (by decide) rfl hl d_Desk_write_127 rfl (Nat.le_of_ble_eq_true rfl) ⟨Nat.zero_le _, Nat.zero_le _⟩ 12 rfl rfl) hP hD hS hA [12] [0, 1, 2, 3, 4, 5, 6, 7, 8, 9, 10, 11, 13, 14, 15] rfl rfl (by decide) (by decide) rfl (fun H locs hP hD hS => ?_)
                refine W.eq (g2 := F0 m 130 ls [.int r_4]) rfl ?_
                exact sd_i1ret (u := (ufe, ufe_1, ufr, uft, ufs, upg_1, upg_2, upg_3, upg, upd, uzl_1, uzh_1, uxs, uxal, uxah)) hQ hx hb hr hlk hK (hP.sub [0, 1, 2, 3, 4, 5, 15, 12, 13, 14, 6, 7, 8, 9, 10, 11] rfl) (hD.sub [0, 1, 2, 3, 4, 5, 15, 12, 13, 14, 6, 7, 8, 9, 10, 11] (by decide) rfl) hS (Option.some.inj hm).symm d_Desk_write_130
              · have hm := sd_mt hc hm
                refine lv_bipush (v := (-4 : Int32)) hx hb d_Desk_write_120 (by decide) ?_
                exact sd_i1ret (u := (ufe, ufe_1, ufr, uft, ufs, pk, pd, pkn, upg, upd, uzl_1, uzh_1, uxs, uxal, uxah)) hQ hx hb hr hlk hK (hP.sub [0, 1, 2, 3, 4, 5, 12, 13, 14, 15, 6, 7, 8, 9, 10, 11] rfl) (hD.sub [0, 1, 2, 3, 4, 5, 12, 13, 14, 15, 6, 7, 8, 9, 10, 11] (by decide) rfl) hS (Option.some.inj hm).symm d_Desk_write_122
            replace hm := hv
            refine lv_if_ge (tgt := 104) hx hb d_Desk_write_97 (by decide) (fun hc => ?_) (fun hc => ?_)
            · have hm := sd_mt hc hm
              refine lv_iconst (v := (0 : Int32)) hx hb d_Desk_write_104 (by decide) ?_
              cases hm
              exact J105_2 H locs ls (hP.sub [0, 1, 2, 3, 4, 5, 6, 7, 8, 9, 10, 11, 12, 13, 14, 15] rfl) (hD.sub [0, 1, 2, 3, 4, 5, 6, 7, 8, 9, 10, 11, 12, 13, 14, 15] (by decide) rfl) hS (lv_sub hl [2, 4] rfl)
            · have hm := sd_mf hc hm
              refine lv_iconst (v := (1 : Int32)) hx hb d_Desk_write_100 (by decide) ?_
              refine lv_goto (tgt := 105) hx hb d_Desk_write_101 (by decide) ?_
              cases hm
              exact J105_2 H locs ls (hP.sub [0, 1, 2, 3, 4, 5, 6, 7, 8, 9, 10, 11, 12, 13, 14, 15] rfl) (hD.sub [0, 1, 2, 3, 4, 5, 6, 7, 8, 9, 10, 11, 12, 13, 14, 15] (by decide) rfl) hS (lv_sub hl [2, 4] rfl)
        · have hm := sd_mf hc hm
          refine lv_aload_n hx hb d_Desk_write_33 rfl (lv_at hl 1 rfl) ?_
          refine va_get (D := D) (ci := 4) (v := .ref pg) (C := R_Desk) (T := F_Desk) (N := 9) hx hb htt i_Desk hown hK hP 0 rfl rfl 5 (by decide) (htt _ kf_Desk_40) (fun _ h9 => h9) rfl d_Desk_write_34 ?_
          refine lv_aload_n hx hb d_Desk_write_37 rfl (lv_at hl 0 rfl) ?_
          obtain ⟨r_5, hc, hm⟩ := sd_mb1 hm
          refine sd_cl0 (wr := [(zd, .inr (4, [.ref rg, .ref iv, .ref fe, .ref c1, .ref c2, .ref pg, .ref zl, .ref zh, .ref ds])), (rg, aQ g 8 cRg), (fe, .inr (1, [.ref fr, .ref ft, .ref fs, .long fR, .long fQ])), (fr, aI g 132 cfr), (ft, aI g 68 cft), (fs, aI g 68 cfs), (pg, .inr (3, [.ref pk, .ref pd, .int pkn, .int pdn])), (pd, aB g 128 cpd), (zl, aI g 68 czl), (zh, aI g 68 czh), (xab, aJ g 8 xB), (xal, aI g 68 xL), (xah, aI g 68 xH), (xar, aJ g 8 xR)]) (w2 := [(zd, .inr (4, [.ref rg, .ref iv, .ref fe, .ref c1, .ref c2, .ref pg, .ref zl, .ref zh, .ref ds])), (rg, aQ g 8 cRg), (fe, .inr (1, [.ref fr, .ref ft, .ref fs, .long fR, .long fQ])), (fr, aI g 132 cfr), (ft, aI g 68 cft), (fs, aI g 68 cfs), (pg, .inr (3, [.ref pk, .ref pd, .int pkn, .int pdn])), (pd, aB g 128 cpd), (zl, aI g 68 czl), (zh, aI g 68 czh), (xab, aJ g 8 xB), (xal, aI g 68 xL), (xah, aI g 68 xH), (xar, aJ g 8 xR), (xs, .inr (0, [.ref xat, .ref xab, .ref xar, .ref xal, .ref xah, .int xk, .int xn])), (xat, aJ g 8 xT)]) (sd_runV (rest := [.ref pg]) (As := []) S (ct_Sum_top l D g xs xat xab xar xal xah (H.size) xk xn xT F (r_5) hc) kl_Desk_82 (by decide) (by decide) hK hP hD [14, 10] rfl (by decide) rfl hl d_Desk_write_38 rfl (Nat.le_of_ble_eq_true rfl) ⟨Nat.zero_le _, Nat.zero_le _⟩ 14 rfl rfl) hP hD hS hA [14, 10] [0, 1, 2, 3, 4, 5, 6, 7, 8, 9, 11, 12, 13, 15] rfl rfl (by decide) (by decide) rfl (fun H locs hP hD hS => ?_)
          refine W.eq (g2 := F0 m 41 ls [.long r_5, .ref pg]) rfl ?_
          refine lv_aload_n hx hb d_Desk_write_41 rfl (lv_at hl 0 rfl) ?_
          obtain ⟨r_6, hc, hm⟩ := sd_mb1 hm
          refine sd_cl0 (wr := [(zd, .inr (4, [.ref rg, .ref iv, .ref fe, .ref c1, .ref c2, .ref pg, .ref zl, .ref zh, .ref ds])), (rg, aQ g 8 cRg), (fe, .inr (1, [.ref fr, .ref ft, .ref fs, .long fR, .long fQ])), (fr, aI g 132 cfr), (ft, aI g 68 cft), (fs, aI g 68 cfs), (pg, .inr (3, [.ref pk, .ref pd, .int pkn, .int pdn])), (pd, aB g 128 cpd), (zl, aI g 68 czl), (zh, aI g 68 czh), (xal, aI g 68 xL), (xah, aI g 68 xH), (xar, aJ g 8 xR), (xat, aJ g 8 xT)]) (w2 := [(zd, .inr (4, [.ref rg, .ref iv, .ref fe, .ref c1, .ref c2, .ref pg, .ref zl, .ref zh, .ref ds])), (rg, aQ g 8 cRg), (fe, .inr (1, [.ref fr, .ref ft, .ref fs, .long fR, .long fQ])), (fr, aI g 132 cfr), (ft, aI g 68 cft), (fs, aI g 68 cfs), (pg, .inr (3, [.ref pk, .ref pd, .int pkn, .int pdn])), (pd, aB g 128 cpd), (zl, aI g 68 czl), (zh, aI g 68 czh), (xal, aI g 68 xL), (xah, aI g 68 xH), (xar, aJ g 8 xR), (xat, aJ g 8 xT), (xs, .inr (0, [.ref xat, .ref xab, .ref xar, .ref xal, .ref xah, .int xk, .int xn])), (xab, aJ g 8 xB)]) (sd_runV (rest := [.long r_5, .ref pg]) (As := []) S (ct_Sum_bottom l D g xs xat xab xar xal xah (H.size) xk xn xB F (r_6) hc) kl_Desk_86 (by decide) (by decide) hK hP hD [14, 10] rfl (by decide) rfl hl d_Desk_write_42 rfl (Nat.le_of_ble_eq_true rfl) ⟨Nat.zero_le _, Nat.zero_le _⟩ 14 rfl rfl) hP hD hS hA [14, 10] [0, 1, 2, 3, 4, 5, 6, 7, 8, 9, 11, 12, 13, 15] rfl rfl (by decide) (by decide) rfl (fun H locs hP hD hS => ?_)
          refine W.eq (g2 := F0 m 45 ls [.long r_6, .long r_5, .ref pg]) rfl ?_
          refine lv_iload_n hx hb d_Desk_write_45 rfl (lv_at hl 3 rfl) ?_
          obtain ⟨upg_4, upd_1, hc, hm⟩ := sd_mb2 hm
          refine sd_cv1 (wr := [(zd, .inr (4, [.ref rg, .ref iv, .ref fe, .ref c1, .ref c2, .ref pg, .ref zl, .ref zh, .ref ds])), (rg, aQ g 8 cRg), (fe, .inr (1, [.ref fr, .ref ft, .ref fs, .long fR, .long fQ])), (fr, aI g 132 cfr), (ft, aI g 68 cft), (fs, aI g 68 cfs), (zl, aI g 68 czl), (zh, aI g 68 czh), (xal, aI g 68 xL), (xah, aI g 68 xH), (xar, aJ g 8 xR), (xat, aJ g 8 xT), (xs, .inr (0, [.ref xat, .ref xab, .ref xar, .ref xal, .ref xah, .int xk, .int xn])), (xab, aJ g 8 xB)]) (w2 := [(zd, .inr (4, [.ref rg, .ref iv, .ref fe, .ref c1, .ref c2, .ref pg, .ref zl, .ref zh, .ref ds])), (rg, aQ g 8 cRg), (fe, .inr (1, [.ref fr, .ref ft, .ref fs, .long fR, .long fQ])), (fr, aI g 132 cfr), (ft, aI g 68 cft), (fs, aI g 68 cfs), (zl, aI g 68 czl), (zh, aI g 68 czh), (xal, aI g 68 xL), (xah, aI g 68 xH), (xar, aJ g 8 xR), (xat, aJ g 8 xT), (xs, .inr (0, [.ref xat, .ref xab, .ref xar, .ref xal, .ref xah, .int xk, .int xn])), (xab, aJ g 8 xB), (pg, .inr (3, [.ref pk, .ref pd, .int pkn, .int upg_4])), (pd, aB g 128 upd_1)]) (sd_runV (rest := []) (As := [.long r_5, .long r_6, .int vPlaces]) S (ct_Page_draftFraction l D g pg pk pd (H.size) r_5 r_6 vPlaces pkn pdn cpd F (upg_4, upd_1) hc) kl_Desk_150 (by decide) (by decide) hK hP hD [6, 7] rfl (by decide) rfl hl d_Desk_write_46 rfl (Nat.le_of_ble_eq_true rfl) ⟨Nat.zero_le _, Nat.zero_le _⟩ 6 rfl rfl) hP hD hS hA [6, 7] [0, 1, 2, 3, 4, 5, 8, 9, 10, 11, 12, 13, 14, 15] rfl rfl (by decide) (by decide) rfl (fun H locs hP hD hS => ?_)
          refine lv_aload_n hx hb d_Desk_write_49 rfl (lv_at hl 1 rfl) ?_
          refine va_get (D := D) (ci := 4) (v := .ref pg) (C := R_Desk) (T := F_Desk) (N := 9) hx hb htt i_Desk hown hK hP 0 rfl rfl 5 (by decide) (htt _ kf_Desk_40) (fun _ h9 => h9) rfl d_Desk_write_50 ?_
          obtain ⟨r_7, upg_5, upg_6, upg_7, hc, hm⟩ := sd_mb4 hm
          refine sd_ci1 (wr := [(zd, .inr (4, [.ref rg, .ref iv, .ref fe, .ref c1, .ref c2, .ref pg, .ref zl, .ref zh, .ref ds])), (rg, aQ g 8 cRg), (fe, .inr (1, [.ref fr, .ref ft, .ref fs, .long fR, .long fQ])), (fr, aI g 132 cfr), (ft, aI g 68 cft), (fs, aI g 68 cfs), (zl, aI g 68 czl), (zh, aI g 68 czh), (xal, aI g 68 xL), (xah, aI g 68 xH), (xar, aJ g 8 xR), (xat, aJ g 8 xT), (xs, .inr (0, [.ref xat, .ref xab, .ref xar, .ref xal, .ref xah, .int xk, .int xn])), (xab, aJ g 8 xB), (pd, aB g 128 upd_1)]) (w2 := [(zd, .inr (4, [.ref rg, .ref iv, .ref fe, .ref c1, .ref c2, .ref pg, .ref zl, .ref zh, .ref ds])), (rg, aQ g 8 cRg), (fe, .inr (1, [.ref fr, .ref ft, .ref fs, .long fR, .long fQ])), (fr, aI g 132 cfr), (ft, aI g 68 cft), (fs, aI g 68 cfs), (zl, aI g 68 czl), (zh, aI g 68 czh), (xal, aI g 68 xL), (xah, aI g 68 xH), (xar, aJ g 8 xR), (xat, aJ g 8 xT), (xs, .inr (0, [.ref xat, .ref xab, .ref xar, .ref xal, .ref xah, .int xk, .int xn])), (xab, aJ g 8 xB), (pd, aB g 128 upd_1), (pg, .inr (3, [.ref upg_5, .ref upg_6, .int upg_7, .int upg_4]))]) (sd_runV (rest := []) (As := []) S (ct_Page_keep l D g pg pk pd (H.size) pkn upg_4 F (r_7, upg_5, upg_6, upg_7) hc) kl_Desk_154 (by decide) (by decide) hK hP hD [14] rfl (by decide) rfl hl d_Desk_write_53 rfl (Nat.le_of_ble_eq_true rfl) ⟨Nat.zero_le _, Nat.zero_le _⟩ 14 rfl rfl) hP hD hS hA [14] [0, 1, 2, 3, 4, 5, 6, 7, 8, 9, 10, 11, 12, 13, 15] rfl rfl (by decide) (by decide) rfl (fun H locs hP hD hS => ?_)
          refine W.eq (g2 := F0 m 56 ls [.int r_7]) rfl ?_
          exact sd_i1ret (u := (fR, fQ, cfr, cft, cfs, upg_5, upg_6, upg_7, upg_4, upd_1, czl, czh, xk, xL, xH)) hQ hx hb hr hlk hK (hP.sub [0, 1, 2, 3, 4, 5, 15, 14, 6, 7, 12, 11, 13, 10, 8, 9] rfl) (hD.sub [0, 1, 2, 3, 4, 5, 15, 14, 6, 7, 12, 11, 13, 10, 8, 9] (by decide) rfl) hS (Option.some.inj hm).symm d_Desk_write_56
      · have hm := sd_mf hc hm
        refine lv_iconst (v := (-1 : Int32)) hx hb d_Desk_write_17 (by decide) ?_
        exact sd_i1ret (u := (fR, fQ, cfr, cft, cfs, pk, pd, pkn, pdn, cpd, czl, czh, xk, xL, xH)) hQ hx hb hr hlk hK (hP.sub [0, 1, 2, 3, 4, 5, 6, 7, 8, 9, 10, 11, 12, 13, 14, 15] rfl) (hD.sub [0, 1, 2, 3, 4, 5, 6, 7, 8, 9, 10, 11, 12, 13, 14, 15] (by decide) rfl) hS (Option.some.inj hm).symm d_Desk_write_18
theorem d_Desk_octet_0 : decode b_Desk_octet 0 = .ok (.iload_n 1, 1) := by decide +kernel
theorem d_Desk_octet_1 : decode b_Desk_octet 1 = .ok (.iconst (-1), 1) := by decide +kernel
theorem d_Desk_octet_2 : decode b_Desk_octet 2 = .ok (.if_icmp .ne 11, 3) := by decide +kernel
theorem d_Desk_octet_5 : decode b_Desk_octet 5 = .ok (.aload_n 0, 1) := by decide +kernel
theorem d_Desk_octet_6 : decode b_Desk_octet 6 = .ok (.getfield 40, 3) := by decide +kernel
theorem d_Desk_octet_9 : decode b_Desk_octet 9 = .ok (.invokevirtual 165, 3) := by decide +kernel
theorem d_Desk_octet_12 : decode b_Desk_octet 12 = .ok (.ireturn, 1) := by decide +kernel
theorem d_Desk_octet_13 : decode b_Desk_octet 13 = .ok (.iload_n 1, 1) := by decide +kernel
theorem d_Desk_octet_14 : decode b_Desk_octet 14 = .ok (.ifCond .lt 14, 3) := by decide +kernel
theorem d_Desk_octet_17 : decode b_Desk_octet 17 = .ok (.iload_n 1, 1) := by decide +kernel
theorem d_Desk_octet_18 : decode b_Desk_octet 18 = .ok (.aload_n 0, 1) := by decide +kernel
theorem d_Desk_octet_19 : decode b_Desk_octet 19 = .ok (.getfield 40, 3) := by decide +kernel
theorem d_Desk_octet_22 : decode b_Desk_octet 22 = .ok (.invokevirtual 165, 3) := by decide +kernel
theorem d_Desk_octet_25 : decode b_Desk_octet 25 = .ok (.if_icmp .lt 8, 3) := by decide +kernel
theorem d_Desk_octet_28 : decode b_Desk_octet 28 = .ok (.bipush (-2), 2) := by decide +kernel
theorem d_Desk_octet_30 : decode b_Desk_octet 30 = .ok (.goto 11, 3) := by decide +kernel
theorem d_Desk_octet_33 : decode b_Desk_octet 33 = .ok (.aload_n 0, 1) := by decide +kernel
theorem d_Desk_octet_34 : decode b_Desk_octet 34 = .ok (.getfield 40, 3) := by decide +kernel
theorem d_Desk_octet_37 : decode b_Desk_octet 37 = .ok (.iload_n 1, 1) := by decide +kernel
theorem d_Desk_octet_38 : decode b_Desk_octet 38 = .ok (.invokevirtual 168, 3) := by decide +kernel
theorem d_Desk_octet_41 : decode b_Desk_octet 41 = .ok (.ireturn, 1) := by decide +kernel
def mf_Desk_octet (F : Nat) (vK : Int32) (cRg : Nat → Option Nat) (pkn : Int32) (pdn : Int32) (cpk : Nat → Int32) : Option (Int32) :=
  (if vK = (-1 : Int32) then (sd_b1 (mf_Page_length F pkn pdn) fun r_2 => (some (r_2))) else (sd_b1 (if vK < 0 then (some ((-2 : Int32))) else (sd_b1 (mf_Page_length F pkn pdn) fun r => (if vK < r then (sd_b1 (mf_Page_at F vK pkn pdn cpk) fun r_1 => (some (r_1))) else (some ((-2 : Int32)))))) fun y => (some (y))))
abbrev rm_Desk_octet : Room := { frames := 1, cells := 0, slots := 0, locals := 21 }
set_option maxHeartbeats 4000000 in
set_option maxRecDepth 100000 in
theorem ct_Desk_octet (l : Launch) (D : va_G) (g : G4) (zd : Nat) (rg : Nat) (iv : Nat) (fe : Nat) (c1 : Nat) (c2 : Nat) (pg : Nat) (zl : Nat) (zh : Nat) (ds : Nat) (pk : Nat) (pd : Nat) (sz : Nat) (vK : Int32) (cRg : Nat → Option Nat) (pkn : Int32) (pdn : Int32) (cpk : Nat → Int32) (F : Nat) (res : Int32) (hm : mf_Desk_octet F vK cRg pkn pdn cpk = some res) : Met l y_Desk_octet (.code y_Desk_octet b_Desk_octet 2 (some .int) :: sd_tb) rm_Desk_octet (sd_PW D g [.ref zd, .int vK] sz [(zd, .inr (4, [.ref rg, .ref iv, .ref fe, .ref c1, .ref c2, .ref pg, .ref zl, .ref zh, .ref ds])), (rg, aQ g 8 cRg), (pg, .inr (3, [.ref pk, .ref pd, .int pkn, .int pdn])), (pk, aB g 128 cpk)]) (sd_Qi0 D g res [(zd, .inr (4, [.ref rg, .ref iv, .ref fe, .ref c1, .ref c2, .ref pg, .ref zl, .ref zh, .ref ds])), (rg, aQ g 8 cRg), (pg, .inr (3, [.ref pk, .ref pd, .int pkn, .int pdn])), (pk, aB g 128 cpk)] (va_A [(zd, .inr (4, [.ref rg, .ref iv, .ref fe, .ref c1, .ref c2, .ref pg, .ref zl, .ref zh, .ref ds])), (rg, aQ g 8 cRg), (pg, .inr (3, [.ref pk, .ref pd, .int pkn, .int pdn])), (pk, aB g 128 cpk)] sz)) 0 0 (va_A [(zd, .inr (4, [.ref rg, .ref iv, .ref fe, .ref c1, .ref c2, .ref pg, .ref zl, .ref zh, .ref ds])), (rg, aQ g 8 cRg), (pg, .inr (3, [.ref pk, .ref pd, .int pkn, .int pdn])), (pk, aB g 128 cpk)] sz) := by
  refine sd_met (Qf := fun A => sd_Qi0 D g res [(zd, .inr (4, [.ref rg, .ref iv, .ref fe, .ref c1, .ref c2, .ref pg, .ref zl, .ref zh, .ref ds])), (rg, aQ g 8 cRg), (pg, .inr (3, [.ref pk, .ref pd, .int pkn, .int pdn])), (pk, aB g 128 cpk)] A) (own := R_Desk) (by decide +kernel) rfl (Nat.le_of_ble_eq_true rfl) ?_
  intro p e s m args below meth c S hr hlk hK A hA Q hQ H locs hP hD hS ls hl
  have hx := S.1
  have hb := S.2.1
  have hml := S.2.2.1
  have hown := S.2.2.2.1
  have htt := sd_tt S
  replace hl : lv_has ls 2 [(0, .ref zd), (1, .int vK)] := hl
  unfold mf_Desk_octet at hm
  refine lv_iload_n hx hb d_Desk_octet_0 rfl (lv_at hl 1 rfl) ?_
  refine lv_iconst (v := (-1 : Int32)) hx hb d_Desk_octet_1 (by decide) ?_
  refine lv_icmp_ne (tgt := 13) hx hb d_Desk_octet_2 (by decide) (fun hc => ?_) (fun hc => ?_)
  · have hm := sd_mf hc hm
    refine lv_iload_n hx hb d_Desk_octet_13 rfl (lv_at hl 1 rfl) ?_
    obtain ⟨y, hv, hm⟩ := sd_mb1 hm
    have J41_1 : ∀ (H : Heap) (locs : List Loc) (ls : Array Slot), va_P D classes [(zd, .inr (4, [.ref rg, .ref iv, .ref fe, .ref c1, .ref c2, .ref pg, .ref zl, .ref zh, .ref ds])), (rg, aQ g 8 cRg), (pg, .inr (3, [.ref pk, .ref pd, .int pkn, .int pdn])), (pk, aB g 128 cpk)] H → va_D A [(zd, .inr (4, [.ref rg, .ref iv, .ref fe, .ref c1, .ref c2, .ref pg, .ref zl, .ref zh, .ref ds])), (rg, aQ g 8 cRg), (pg, .inr (3, [.ref pk, .ref pd, .int pkn, .int pdn])), (pk, aB g 128 cpk)] → va_S A s.heap H locs → lv_has ls 2 [] → W p l e rm_Desk_octet s m args below meth c H locs 0 0 Q (F0 m 41 ls [.int y]) := by
      intro H locs ls hP hD hS hl
      exact sd_i0ret hQ hx hb hr hlk hK (hP.sub [0, 1, 2, 3] rfl) (hD.sub [0, 1, 2, 3] (by decide) rfl) hS (Option.some.inj hm).symm d_Desk_octet_41
    replace hm := hv
    refine lv_if_lt (tgt := 28) hx hb d_Desk_octet_14 (by decide) (fun hc => ?_) (fun hc => ?_)
    · have hm := sd_mt hc hm
      refine lv_bipush (v := (-2 : Int32)) hx hb d_Desk_octet_28 (by decide) ?_
      refine lv_goto (tgt := 41) hx hb d_Desk_octet_30 (by decide) ?_
      cases hm
      exact J41_1 H locs ls (hP.sub [0, 1, 2, 3] rfl) (hD.sub [0, 1, 2, 3] (by decide) rfl) hS (lv_sub hl [] rfl)
    · have hm := sd_mf hc hm
      refine lv_iload_n hx hb d_Desk_octet_17 rfl (lv_at hl 1 rfl) ?_
      refine lv_aload_n hx hb d_Desk_octet_18 rfl (lv_at hl 0 rfl) ?_
      refine va_get (D := D) (ci := 4) (v := .ref pg) (C := R_Desk) (T := F_Desk) (N := 9) hx hb htt i_Desk hown hK hP 0 rfl rfl 5 (by decide) (htt _ kf_Desk_40) (fun _ h9 => h9) rfl d_Desk_octet_19 ?_
      obtain ⟨r, hc, hm⟩ := sd_mb1 hm
      refine sd_ci0 (wr := [(zd, .inr (4, [.ref rg, .ref iv, .ref fe, .ref c1, .ref c2, .ref pg, .ref zl, .ref zh, .ref ds])), (rg, aQ g 8 cRg), (pk, aB g 128 cpk)]) (w2 := [(zd, .inr (4, [.ref rg, .ref iv, .ref fe, .ref c1, .ref c2, .ref pg, .ref zl, .ref zh, .ref ds])), (rg, aQ g 8 cRg), (pk, aB g 128 cpk), (pg, .inr (3, [.ref pk, .ref pd, .int pkn, .int pdn]))]) (sd_runV (rest := [.int vK]) (As := []) S (ct_Page_length l D g pg pk pd (H.size) pkn pdn F (r) hc) kl_Desk_165 (by decide) (by decide) hK hP hD [2] rfl (by decide) rfl hl d_Desk_octet_22 rfl (Nat.le_of_ble_eq_true rfl) ⟨Nat.zero_le _, Nat.zero_le _⟩ 2 rfl rfl) hP hD hS hA [2] [0, 1, 3] rfl rfl (by decide) (by decide) rfl (fun H locs hP hD hS => ?_)
      refine W.eq (g2 := F0 m 25 ls [.int r, .int vK]) rfl ?_
      refine lv_icmp_lt (tgt := 33) hx hb d_Desk_octet_25 (by decide) (fun hc => ?_) (fun hc => ?_)
      · have hm := sd_mt hc hm
        refine lv_aload_n hx hb d_Desk_octet_33 rfl (lv_at hl 0 rfl) ?_
        refine va_get (D := D) (ci := 4) (v := .ref pg) (C := R_Desk) (T := F_Desk) (N := 9) hx hb htt i_Desk hown hK hP 0 rfl rfl 5 (by decide) (htt _ kf_Desk_40) (fun _ h9 => h9) rfl d_Desk_octet_34 ?_
        refine lv_iload_n hx hb d_Desk_octet_37 rfl (lv_at hl 1 rfl) ?_
        obtain ⟨r_1, hc, hm⟩ := sd_mb1 hm
        refine sd_ci0 (wr := [(zd, .inr (4, [.ref rg, .ref iv, .ref fe, .ref c1, .ref c2, .ref pg, .ref zl, .ref zh, .ref ds])), (rg, aQ g 8 cRg)]) (w2 := [(zd, .inr (4, [.ref rg, .ref iv, .ref fe, .ref c1, .ref c2, .ref pg, .ref zl, .ref zh, .ref ds])), (rg, aQ g 8 cRg), (pg, .inr (3, [.ref pk, .ref pd, .int pkn, .int pdn])), (pk, aB g 128 cpk)]) (sd_runV (rest := []) (As := [.int vK]) S (ct_Page_at l D g pg pk pd (H.size) vK pkn pdn cpk F (r_1) hc) kl_Desk_168 (by decide) (by decide) hK hP hD [3, 2] rfl (by decide) rfl hl d_Desk_octet_38 rfl (Nat.le_of_ble_eq_true rfl) ⟨Nat.zero_le _, Nat.zero_le _⟩ 3 rfl rfl) hP hD hS hA [3, 2] [0, 1] rfl rfl (by decide) (by decide) rfl (fun H locs hP hD hS => ?_)
        refine W.eq (g2 := F0 m 41 ls [.int r_1]) rfl ?_
        cases hm
        exact J41_1 H locs ls (hP.sub [0, 1, 2, 3] rfl) (hD.sub [0, 1, 2, 3] (by decide) rfl) hS (lv_sub hl [] rfl)
      · have hm := sd_mf hc hm
        refine lv_bipush (v := (-2 : Int32)) hx hb d_Desk_octet_28 (by decide) ?_
        refine lv_goto (tgt := 41) hx hb d_Desk_octet_30 (by decide) ?_
        cases hm
        exact J41_1 H locs ls (hP.sub [0, 1, 3, 2] rfl) (hD.sub [0, 1, 3, 2] (by decide) rfl) hS (lv_sub hl [] rfl)
  · have hm := sd_mt hc hm
    refine lv_aload_n hx hb d_Desk_octet_5 rfl (lv_at hl 0 rfl) ?_
    refine va_get (D := D) (ci := 4) (v := .ref pg) (C := R_Desk) (T := F_Desk) (N := 9) hx hb htt i_Desk hown hK hP 0 rfl rfl 5 (by decide) (htt _ kf_Desk_40) (fun _ h9 => h9) rfl d_Desk_octet_6 ?_
    obtain ⟨r_2, hc, hm⟩ := sd_mb1 hm
    refine sd_ci0 (wr := [(zd, .inr (4, [.ref rg, .ref iv, .ref fe, .ref c1, .ref c2, .ref pg, .ref zl, .ref zh, .ref ds])), (rg, aQ g 8 cRg), (pk, aB g 128 cpk)]) (w2 := [(zd, .inr (4, [.ref rg, .ref iv, .ref fe, .ref c1, .ref c2, .ref pg, .ref zl, .ref zh, .ref ds])), (rg, aQ g 8 cRg), (pk, aB g 128 cpk), (pg, .inr (3, [.ref pk, .ref pd, .int pkn, .int pdn]))]) (sd_runV (rest := []) (As := []) S (ct_Page_length l D g pg pk pd (H.size) pkn pdn F (r_2) hc) kl_Desk_165 (by decide) (by decide) hK hP hD [2] rfl (by decide) rfl hl d_Desk_octet_9 rfl (Nat.le_of_ble_eq_true rfl) ⟨Nat.zero_le _, Nat.zero_le _⟩ 2 rfl rfl) hP hD hS hA [2] [0, 1, 3] rfl rfl (by decide) (by decide) rfl (fun H locs hP hD hS => ?_)
    refine W.eq (g2 := F0 m 12 ls [.int r_2]) rfl ?_
    exact sd_i0ret hQ hx hb hr hlk hK (hP.sub [0, 1, 3, 2] rfl) (hD.sub [0, 1, 3, 2] (by decide) rfl) hS (Option.some.inj hm).symm d_Desk_octet_12
theorem d_Desk_nearest_0 : decode b_Desk_nearest 0 = .ok (.iload_n 1, 1) := by decide +kernel
theorem d_Desk_nearest_1 : decode b_Desk_nearest 1 = .ok (.invokestatic 56, 3) := by decide +kernel
theorem d_Desk_nearest_4 : decode b_Desk_nearest 4 = .ok (.ifCond .ne 5, 3) := by decide +kernel
theorem d_Desk_nearest_7 : decode b_Desk_nearest 7 = .ok (.lconst 1, 1) := by decide +kernel
theorem d_Desk_nearest_8 : decode b_Desk_nearest 8 = .ok (.lreturn, 1) := by decide +kernel
theorem d_Desk_nearest_9 : decode b_Desk_nearest 9 = .ok (.aload_n 0, 1) := by decide +kernel
theorem d_Desk_nearest_10 : decode b_Desk_nearest 10 = .ok (.getfield 11, 3) := by decide +kernel
theorem d_Desk_nearest_13 : decode b_Desk_nearest 13 = .ok (.iload_n 1, 1) := by decide +kernel
theorem d_Desk_nearest_14 : decode b_Desk_nearest 14 = .ok (.aaload, 1) := by decide +kernel
theorem d_Desk_nearest_15 : decode b_Desk_nearest 15 = .ok (.astore_n 2, 1) := by decide +kernel
theorem d_Desk_nearest_16 : decode b_Desk_nearest 16 = .ok (.aload_n 2, 1) := by decide +kernel
theorem d_Desk_nearest_17 : decode b_Desk_nearest 17 = .ok (.invokevirtual 78, 3) := by decide +kernel
theorem d_Desk_nearest_20 : decode b_Desk_nearest 20 = .ok (.ifCond .eq 15, 3) := by decide +kernel
theorem d_Desk_nearest_23 : decode b_Desk_nearest 23 = .ok (.aload_n 2, 1) := by decide +kernel
theorem d_Desk_nearest_24 : decode b_Desk_nearest 24 = .ok (.invokevirtual 82, 3) := by decide +kernel
theorem d_Desk_nearest_27 : decode b_Desk_nearest 27 = .ok (.aload_n 2, 1) := by decide +kernel
theorem d_Desk_nearest_28 : decode b_Desk_nearest 28 = .ok (.invokevirtual 86, 3) := by decide +kernel
theorem d_Desk_nearest_31 : decode b_Desk_nearest 31 = .ok (.invokestatic 181, 3) := by decide +kernel
theorem d_Desk_nearest_34 : decode b_Desk_nearest 34 = .ok (.lreturn, 1) := by decide +kernel
theorem d_Desk_nearest_35 : decode b_Desk_nearest 35 = .ok (.aload_n 0, 1) := by decide +kernel
theorem d_Desk_nearest_36 : decode b_Desk_nearest 36 = .ok (.getfield 23, 3) := by decide +kernel
theorem d_Desk_nearest_39 : decode b_Desk_nearest 39 = .ok (.aload_n 2, 1) := by decide +kernel
theorem d_Desk_nearest_40 : decode b_Desk_nearest 40 = .ok (.invokevirtual 117, 3) := by decide +kernel
theorem d_Desk_nearest_43 : decode b_Desk_nearest 43 = .ok (.aload_n 2, 1) := by decide +kernel
theorem d_Desk_nearest_44 : decode b_Desk_nearest 44 = .ok (.getfield 134, 3) := by decide +kernel
theorem d_Desk_nearest_47 : decode b_Desk_nearest 47 = .ok (.aload_n 2, 1) := by decide +kernel
theorem d_Desk_nearest_48 : decode b_Desk_nearest 48 = .ok (.getfield 137, 3) := by decide +kernel
theorem d_Desk_nearest_51 : decode b_Desk_nearest 51 = .ok (.aload_n 0, 1) := by decide +kernel
theorem d_Desk_nearest_52 : decode b_Desk_nearest 52 = .ok (.getfield 46, 3) := by decide +kernel
theorem d_Desk_nearest_55 : decode b_Desk_nearest 55 = .ok (.aload_n 0, 1) := by decide +kernel
theorem d_Desk_nearest_56 : decode b_Desk_nearest 56 = .ok (.getfield 50, 3) := by decide +kernel
theorem d_Desk_nearest_59 : decode b_Desk_nearest 59 = .ok (.invokestatic 157, 3) := by decide +kernel
theorem d_Desk_nearest_62 : decode b_Desk_nearest 62 = .ok (.istore_n 3, 1) := by decide +kernel
theorem d_Desk_nearest_63 : decode b_Desk_nearest 63 = .ok (.iload_n 3, 1) := by decide +kernel
theorem d_Desk_nearest_64 : decode b_Desk_nearest 64 = .ok (.ifCond .eq 17, 3) := by decide +kernel
theorem d_Desk_nearest_67 : decode b_Desk_nearest 67 = .ok (.aload_n 0, 1) := by decide +kernel
theorem d_Desk_nearest_68 : decode b_Desk_nearest 68 = .ok (.getfield 46, 3) := by decide +kernel
theorem d_Desk_nearest_71 : decode b_Desk_nearest 71 = .ok (.aload_n 0, 1) := by decide +kernel
theorem d_Desk_nearest_72 : decode b_Desk_nearest 72 = .ok (.getfield 50, 3) := by decide +kernel
theorem d_Desk_nearest_75 : decode b_Desk_nearest 75 = .ok (.invokestatic 186, 3) := by decide +kernel
theorem d_Desk_nearest_78 : decode b_Desk_nearest 78 = .ok (.ifCond .ne 7, 3) := by decide +kernel
theorem d_Desk_nearest_81 : decode b_Desk_nearest 81 = .ok (.ldc2_w 189, 3) := by decide +kernel
theorem d_Desk_nearest_84 : decode b_Desk_nearest 84 = .ok (.lreturn, 1) := by decide +kernel
theorem d_Desk_nearest_85 : decode b_Desk_nearest 85 = .ok (.iload_n 3, 1) := by decide +kernel
theorem d_Desk_nearest_86 : decode b_Desk_nearest 86 = .ok (.ifCond .ge 7, 3) := by decide +kernel
theorem d_Desk_nearest_89 : decode b_Desk_nearest 89 = .ok (.iconst 1, 1) := by decide +kernel
theorem d_Desk_nearest_90 : decode b_Desk_nearest 90 = .ok (.goto 4, 3) := by decide +kernel
theorem d_Desk_nearest_93 : decode b_Desk_nearest 93 = .ok (.iconst 0, 1) := by decide +kernel
theorem d_Desk_nearest_94 : decode b_Desk_nearest 94 = .ok (.aload_n 0, 1) := by decide +kernel
theorem d_Desk_nearest_95 : decode b_Desk_nearest 95 = .ok (.getfield 46, 3) := by decide +kernel
theorem d_Desk_nearest_98 : decode b_Desk_nearest 98 = .ok (.invokestatic 191, 3) := by decide +kernel
theorem d_Desk_nearest_101 : decode b_Desk_nearest 101 = .ok (.lreturn, 1) := by decide +kernel
def mf_Desk_nearest (F : Nat) (vI : Int32) (cRg : Nat → Option Nat) (fR : Int64) (fQ : Int64) (cfr : Nat → Int32) (cft : Nat → Int32) (cfs : Nat → Int32) (czl : Nat → Int32) (czh : Nat → Int32) (xk : Int32) (xn : Int32) (xT : Nat → Int64) (xB : Nat → Int64) (xR : Nat → Int64) (xL : Nat → Int32) (xH : Nat → Int32) : Option (Int64 × Int64 × Int64 × (Nat → Int32) × (Nat → Int32) × (Nat → Int32) × (Nat → Int32) × (Nat → Int32) × Int32 × (Nat → Int32) × (Nat → Int32)) :=
  (sd_b1 (mf_Desk_isRegister F vI) fun r => (if r = 0 then (some ((1 : Int64), fR, fQ, cfr, cft, cfs, czl, czh, xk, xL, xH)) else (sd_g (sd_ix vI 8) (sd_b1 (mf_Sum_isFraction F xk xn xR) fun r_1 => (if r_1 = 0 then (sd_b8 (mf_EndsFinder_find F fR fQ cfr cft cfs xk xn xT xB xR xL xH) fun ufe ufe_1 ufr uft ufs uxs uxal uxah => (sd_b3 (mf_Teller_sizes F 68 68 68 68 uxal uxah czl czh) fun r_2 uzl uzh => (if r_2 = 0 then (some ((9221120237041090560 : Int64), ufe, ufe_1, ufr, uft, ufs, uzl, uzh, uxs, uxal, uxah)) else (sd_b1 (mf_Doubles_areNear F 68 68 uzl uzh) fun r_3 => (if r_3 = 0 then (some ((9221120237041090560 : Int64), ufe, ufe_1, ufr, uft, ufs, uzl, uzh, uxs, uxal, uxah)) else (sd_b1 (if 0 ≤ r_2 then (some ((0 : Int32))) else (some ((1 : Int32)))) fun y => (sd_b1 (mf_Doubles_ofSize F 68 y uzl) fun r_4 => (some (r_4, ufe, ufe_1, ufr, uft, ufs, uzl, uzh, uxs, uxal, uxah))))))))) else (sd_b1 (mf_Sum_top F xk xn xT) fun r_5 => (sd_b1 (mf_Sum_bottom F xk xn xB) fun r_6 => (sd_b1 (mf_Doubles_ofFraction F r_5 r_6) fun r_7 => (some (r_7, fR, fQ, cfr, cft, cfs, czl, czh, xk, xL, xH))))))))))
abbrev rm_Desk_nearest : Room := { frames := 5, cells := 0, slots := 0, locals := 139 }
set_option maxHeartbeats 4000000 in
set_option maxRecDepth 100000 in
theorem ct_Desk_nearest (l : Launch) (D : va_G) (g : G4) (zd : Nat) (rg : Nat) (iv : Nat) (fe : Nat) (c1 : Nat) (c2 : Nat) (pg : Nat) (zl : Nat) (zh : Nat) (ds : Nat) (fr : Nat) (ft : Nat) (fs : Nat) (xs : Nat) (xat : Nat) (xab : Nat) (xar : Nat) (xal : Nat) (xah : Nat) (sz : Nat) (vI : Int32) (cRg : Nat → Option Nat) (fR : Int64) (fQ : Int64) (cfr : Nat → Int32) (cft : Nat → Int32) (cfs : Nat → Int32) (czl : Nat → Int32) (czh : Nat → Int32) (xk : Int32) (xn : Int32) (xT : Nat → Int64) (xB : Nat → Int64) (xR : Nat → Int64) (xL : Nat → Int32) (xH : Nat → Int32) (F : Nat) (res : Int64 × Int64 × Int64 × (Nat → Int32) × (Nat → Int32) × (Nat → Int32) × (Nat → Int32) × (Nat → Int32) × Int32 × (Nat → Int32) × (Nat → Int32)) (hm : mf_Desk_nearest F vI cRg fR fQ cfr cft cfs czl czh xk xn xT xB xR xL xH = some res) (hI : sd_ix vI 8 = true → cRg vI.toNatClampNeg = some xs) : Met l y_Desk_nearest (.code y_Desk_nearest b_Desk_nearest 4 (some .long) :: sd_tb) rm_Desk_nearest (sd_PW D g [.ref zd, .int vI] sz [(zd, .inr (4, [.ref rg, .ref iv, .ref fe, .ref c1, .ref c2, .ref pg, .ref zl, .ref zh, .ref ds])), (rg, aQ g 8 cRg), (fe, .inr (1, [.ref fr, .ref ft, .ref fs, .long fR, .long fQ])), (fr, aI g 132 cfr), (ft, aI g 68 cft), (fs, aI g 68 cfs), (zl, aI g 68 czl), (zh, aI g 68 czh), (xs, .inr (0, [.ref xat, .ref xab, .ref xar, .ref xal, .ref xah, .int xk, .int xn])), (xat, aJ g 8 xT), (xab, aJ g 8 xB), (xar, aJ g 8 xR), (xal, aI g 68 xL), (xah, aI g 68 xH)]) (sd_Ql1 D g res (fun u : Int64 × Int64 × (Nat → Int32) × (Nat → Int32) × (Nat → Int32) × (Nat → Int32) × (Nat → Int32) × Int32 × (Nat → Int32) × (Nat → Int32) => [(zd, .inr (4, [.ref rg, .ref iv, .ref fe, .ref c1, .ref c2, .ref pg, .ref zl, .ref zh, .ref ds])), (rg, aQ g 8 cRg), (fe, .inr (1, [.ref fr, .ref ft, .ref fs, .long (u.1), .long (u.2.1)])), (fr, aI g 132 (u.2.2.1)), (ft, aI g 68 (u.2.2.2.1)), (fs, aI g 68 (u.2.2.2.2.1)), (zl, aI g 68 (u.2.2.2.2.2.1)), (zh, aI g 68 (u.2.2.2.2.2.2.1)), (xs, .inr (0, [.ref xat, .ref xab, .ref xar, .ref xal, .ref xah, .int (u.2.2.2.2.2.2.2.1), .int xn])), (xat, aJ g 8 xT), (xab, aJ g 8 xB), (xar, aJ g 8 xR), (xal, aI g 68 (u.2.2.2.2.2.2.2.2.1)), (xah, aI g 68 (u.2.2.2.2.2.2.2.2.2))]) (va_A [(zd, .inr (4, [.ref rg, .ref iv, .ref fe, .ref c1, .ref c2, .ref pg, .ref zl, .ref zh, .ref ds])), (rg, aQ g 8 cRg), (fe, .inr (1, [.ref fr, .ref ft, .ref fs, .long fR, .long fQ])), (fr, aI g 132 cfr), (ft, aI g 68 cft), (fs, aI g 68 cfs), (zl, aI g 68 czl), (zh, aI g 68 czh), (xs, .inr (0, [.ref xat, .ref xab, .ref xar, .ref xal, .ref xah, .int xk, .int xn])), (xat, aJ g 8 xT), (xab, aJ g 8 xB), (xar, aJ g 8 xR), (xal, aI g 68 xL), (xah, aI g 68 xH)] sz)) 0 0 (va_A [(zd, .inr (4, [.ref rg, .ref iv, .ref fe, .ref c1, .ref c2, .ref pg, .ref zl, .ref zh, .ref ds])), (rg, aQ g 8 cRg), (fe, .inr (1, [.ref fr, .ref ft, .ref fs, .long fR, .long fQ])), (fr, aI g 132 cfr), (ft, aI g 68 cft), (fs, aI g 68 cfs), (zl, aI g 68 czl), (zh, aI g 68 czh), (xs, .inr (0, [.ref xat, .ref xab, .ref xar, .ref xal, .ref xah, .int xk, .int xn])), (xat, aJ g 8 xT), (xab, aJ g 8 xB), (xar, aJ g 8 xR), (xal, aI g 68 xL), (xah, aI g 68 xH)] sz) := by
  refine sd_met (Qf := fun A => sd_Ql1 D g res (fun u : Int64 × Int64 × (Nat → Int32) × (Nat → Int32) × (Nat → Int32) × (Nat → Int32) × (Nat → Int32) × Int32 × (Nat → Int32) × (Nat → Int32) => [(zd, .inr (4, [.ref rg, .ref iv, .ref fe, .ref c1, .ref c2, .ref pg, .ref zl, .ref zh, .ref ds])), (rg, aQ g 8 cRg), (fe, .inr (1, [.ref fr, .ref ft, .ref fs, .long (u.1), .long (u.2.1)])), (fr, aI g 132 (u.2.2.1)), (ft, aI g 68 (u.2.2.2.1)), (fs, aI g 68 (u.2.2.2.2.1)), (zl, aI g 68 (u.2.2.2.2.2.1)), (zh, aI g 68 (u.2.2.2.2.2.2.1)), (xs, .inr (0, [.ref xat, .ref xab, .ref xar, .ref xal, .ref xah, .int (u.2.2.2.2.2.2.2.1), .int xn])), (xat, aJ g 8 xT), (xab, aJ g 8 xB), (xar, aJ g 8 xR), (xal, aI g 68 (u.2.2.2.2.2.2.2.2.1)), (xah, aI g 68 (u.2.2.2.2.2.2.2.2.2))]) A) (own := R_Desk) (by decide +kernel) rfl (Nat.le_of_ble_eq_true rfl) ?_
  intro p e s m args below meth c S hr hlk hK A hA Q hQ H locs hP hD hS ls hl
  have hx := S.1
  have hb := S.2.1
  have hml := S.2.2.1
  have hown := S.2.2.2.1
  have htt := sd_tt S
  replace hl : lv_has ls 4 [(0, .ref zd), (1, .int vI)] := hl
  unfold mf_Desk_nearest at hm
  refine lv_iload_n hx hb d_Desk_nearest_0 rfl (lv_at hl 1 rfl) ?_
  obtain ⟨r, hc, hm⟩ := sd_mb1 hm
  refine sd_ci0 (wr := [(zd, .inr (4, [.ref rg, .ref iv, .ref fe, .ref c1, .ref c2, .ref pg, .ref zl, .ref zh, .ref ds])), (rg, aQ g 8 cRg), (fe, .inr (1, [.ref fr, .ref ft, .ref fs, .long fR, .long fQ])), (fr, aI g 132 cfr), (ft, aI g 68 cft), (fs, aI g 68 cfs), (zl, aI g 68 czl), (zh, aI g 68 czh), (xs, .inr (0, [.ref xat, .ref xab, .ref xar, .ref xal, .ref xah, .int xk, .int xn])), (xat, aJ g 8 xT), (xab, aJ g 8 xB), (xar, aJ g 8 xR), (xal, aI g 68 xL), (xah, aI g 68 xH)]) (w2 := [(zd, .inr (4, [.ref rg, .ref iv, .ref fe, .ref c1, .ref c2, .ref pg, .ref zl, .ref zh, .ref ds])), (rg, aQ g 8 cRg), (fe, .inr (1, [.ref fr, .ref ft, .ref fs, .long fR, .long fQ])), (fr, aI g 132 cfr), (ft, aI g 68 cft), (fs, aI g 68 cfs), (zl, aI g 68 czl), (zh, aI g 68 czh), (xs, .inr (0, [.ref xat, .ref xab, .ref xar, .ref xal, .ref xah, .int xk, .int xn])), (xat, aJ g 8 xT), (xab, aJ g 8 xB), (xar, aJ g 8 xR), (xal, aI g 68 xL), (xah, aI g 68 xH)]) (sd_runS (rest := []) (As := [.int vI]) S (ct_Desk_isRegister l D g (H.size) vI F (r) hc) kl_Desk_56 (by decide) (by decide) hK hP hD [] rfl (by decide) rfl hl d_Desk_nearest_1 rfl (Nat.le_of_ble_eq_true rfl) ⟨Nat.zero_le _, Nat.zero_le _⟩) hP hD hS hA [] [0, 1, 2, 3, 4, 5, 6, 7, 8, 9, 10, 11, 12, 13] rfl rfl (by decide) (by decide) rfl (fun H locs hP hD hS => ?_)
  refine W.eq (g2 := F0 m 4 ls [.int r]) rfl ?_
  refine lv_if_ne (tgt := 9) hx hb d_Desk_nearest_4 (by decide) (fun hc => ?_) (fun hc => ?_)
  · have hm := sd_mf hc hm
    refine lv_aload_n hx hb d_Desk_nearest_9 rfl (lv_at hl 0 rfl) ?_
    refine va_get (D := D) (ci := 4) (v := .ref rg) (C := R_Desk) (T := F_Desk) (N := 9) hx hb htt i_Desk hown hK hP 0 rfl rfl 0 (by decide) (htt _ kf_Desk_11) (fun _ h9 => h9) rfl d_Desk_nearest_10 ?_
    refine lv_iload_n hx hb d_Desk_nearest_13 rfl (lv_at hl 1 rfl) ?_
    obtain ⟨h_1, hm⟩ := sd_mg hm
    refine sd_aald hx hb hK hP 1 rfl h_1 d_Desk_nearest_14 ?_
    refine sd_topq (hI h_1) ?_
    refine lv_astore_n (lv' := [(2, .ref xs), (0, .ref zd), (1, .int vI)]) hx hb d_Desk_nearest_15 rfl hl (by decide) rfl (fun ls hl => ?_)
    refine lv_aload_n hx hb d_Desk_nearest_16 rfl (lv_at hl 0 rfl) ?_
    obtain ⟨r_1, hc, hm⟩ := sd_mb1 hm
    refine sd_ci0 (wr := [(zd, .inr (4, [.ref rg, .ref iv, .ref fe, .ref c1, .ref c2, .ref pg, .ref zl, .ref zh, .ref ds])), (rg, aQ g 8 cRg), (fe, .inr (1, [.ref fr, .ref ft, .ref fs, .long fR, .long fQ])), (fr, aI g 132 cfr), (ft, aI g 68 cft), (fs, aI g 68 cfs), (zl, aI g 68 czl), (zh, aI g 68 czh), (xat, aJ g 8 xT), (xab, aJ g 8 xB), (xal, aI g 68 xL), (xah, aI g 68 xH)]) (w2 := [(zd, .inr (4, [.ref rg, .ref iv, .ref fe, .ref c1, .ref c2, .ref pg, .ref zl, .ref zh, .ref ds])), (rg, aQ g 8 cRg), (fe, .inr (1, [.ref fr, .ref ft, .ref fs, .long fR, .long fQ])), (fr, aI g 132 cfr), (ft, aI g 68 cft), (fs, aI g 68 cfs), (zl, aI g 68 czl), (zh, aI g 68 czh), (xat, aJ g 8 xT), (xab, aJ g 8 xB), (xal, aI g 68 xL), (xah, aI g 68 xH), (xs, .inr (0, [.ref xat, .ref xab, .ref xar, .ref xal, .ref xah, .int xk, .int xn])), (xar, aJ g 8 xR)]) (sd_runV (rest := []) (As := []) S (ct_Sum_isFraction l D g xs xat xab xar xal xah (H.size) xk xn xR F (r_1) hc) kl_Desk_78 (by decide) (by decide) hK hP hD [8, 11] rfl (by decide) rfl hl d_Desk_nearest_17 rfl (Nat.le_of_ble_eq_true rfl) ⟨Nat.zero_le _, Nat.zero_le _⟩ 8 rfl rfl) hP hD hS hA [8, 11] [0, 1, 2, 3, 4, 5, 6, 7, 9, 10, 12, 13] rfl rfl (by decide) (by decide) rfl (fun H locs hP hD hS => ?_)
    refine W.eq (g2 := F0 m 20 ls [.int r_1]) rfl ?_
    refine lv_if_eq (tgt := 35) hx hb d_Desk_nearest_20 (by decide) (fun hc => ?_) (fun hc => ?_)
    · have hm := sd_mt hc hm
      refine lv_aload_n hx hb d_Desk_nearest_35 rfl (lv_at hl 1 rfl) ?_
      refine va_get (D := D) (ci := 4) (v := .ref fe) (C := R_Desk) (T := F_Desk) (N := 9) hx hb htt i_Desk hown hK hP 0 rfl rfl 2 (by decide) (htt _ kf_Desk_23) (fun _ h9 => h9) rfl d_Desk_nearest_36 ?_
      refine lv_aload_n hx hb d_Desk_nearest_39 rfl (lv_at hl 0 rfl) ?_
      obtain ⟨ufe, ufe_1, ufr, uft, ufs, uxs, uxal, uxah, hc, hm⟩ := sd_mb8 hm
      refine sd_cv1 (wr := [(zd, .inr (4, [.ref rg, .ref iv, .ref fe, .ref c1, .ref c2, .ref pg, .ref zl, .ref zh, .ref ds])), (rg, aQ g 8 cRg), (zl, aI g 68 czl), (zh, aI g 68 czh)]) (w2 := [(zd, .inr (4, [.ref rg, .ref iv, .ref fe, .ref c1, .ref c2, .ref pg, .ref zl, .ref zh, .ref ds])), (rg, aQ g 8 cRg), (zl, aI g 68 czl), (zh, aI g 68 czh), (fe, .inr (1, [.ref fr, .ref ft, .ref fs, .long ufe, .long ufe_1])), (fr, aI g 132 ufr), (ft, aI g 68 uft), (fs, aI g 68 ufs), (xs, .inr (0, [.ref xat, .ref xab, .ref xar, .ref xal, .ref xah, .int uxs, .int xn])), (xat, aJ g 8 xT), (xab, aJ g 8 xB), (xar, aJ g 8 xR), (xal, aI g 68 uxal), (xah, aI g 68 uxah)]) (sd_runV (rest := []) (As := [.ref xs]) S (ct_EndsFinder_find l D g fe fr ft fs xs xat xab xar xal xah (H.size) fR fQ cfr cft cfs xk xn xT xB xR xL xH F (ufe, ufe_1, ufr, uft, ufs, uxs, uxal, uxah) hc) kl_Desk_117 (by decide) (by decide) hK hP hD [2, 3, 4, 5, 12, 8, 9, 13, 10, 11] rfl (by decide) rfl hl d_Desk_nearest_40 rfl (Nat.le_of_ble_eq_true rfl) ⟨Nat.zero_le _, Nat.zero_le _⟩ 2 rfl rfl) hP hD hS hA [2, 3, 4, 5, 12, 8, 9, 13, 10, 11] [0, 1, 6, 7] rfl rfl (by decide) (by decide) rfl (fun H locs hP hD hS => ?_)
      refine lv_aload_n hx hb d_Desk_nearest_43 rfl (lv_at hl 0 rfl) ?_
      refine va_get (D := D) (ci := 0) (v := .ref xal) (C := R_Sum) (T := F_Sum) (N := 7) hx hb htt i_Sum hown hK hP 8 rfl rfl 3 (by decide) (htt _ kf_Desk_134) (fun _ h9 => h9) rfl d_Desk_nearest_44 ?_
      refine lv_aload_n hx hb d_Desk_nearest_47 rfl (lv_at hl 0 rfl) ?_
      refine va_get (D := D) (ci := 0) (v := .ref xah) (C := R_Sum) (T := F_Sum) (N := 7) hx hb htt i_Sum hown hK hP 8 rfl rfl 4 (by decide) (htt _ kf_Desk_137) (fun _ h9 => h9) rfl d_Desk_nearest_48 ?_
      refine lv_aload_n hx hb d_Desk_nearest_51 rfl (lv_at hl 1 rfl) ?_
      refine va_get (D := D) (ci := 4) (v := .ref zl) (C := R_Desk) (T := F_Desk) (N := 9) hx hb htt i_Desk hown hK hP 0 rfl rfl 6 (by decide) (htt _ kf_Desk_46) (fun _ h9 => h9) rfl d_Desk_nearest_52 ?_
      refine lv_aload_n hx hb d_Desk_nearest_55 rfl (lv_at hl 1 rfl) ?_
      refine va_get (D := D) (ci := 4) (v := .ref zh) (C := R_Desk) (T := F_Desk) (N := 9) hx hb htt i_Desk hown hK hP 0 rfl rfl 7 (by decide) (htt _ kf_Desk_50) (fun _ h9 => h9) rfl d_Desk_nearest_56 ?_
      obtain ⟨r_2, uzl, uzh, hc, hm⟩ := sd_mb3 hm
      refine sd_ci1 (wr := [(zd, .inr (4, [.ref rg, .ref iv, .ref fe, .ref c1, .ref c2, .ref pg, .ref zl, .ref zh, .ref ds])), (rg, aQ g 8 cRg), (fe, .inr (1, [.ref fr, .ref ft, .ref fs, .long ufe, .long ufe_1])), (fr, aI g 132 ufr), (ft, aI g 68 uft), (fs, aI g 68 ufs), (xs, .inr (0, [.ref xat, .ref xab, .ref xar, .ref xal, .ref xah, .int uxs, .int xn])), (xat, aJ g 8 xT), (xab, aJ g 8 xB), (xar, aJ g 8 xR)]) (w2 := [(zd, .inr (4, [.ref rg, .ref iv, .ref fe, .ref c1, .ref c2, .ref pg, .ref zl, .ref zh, .ref ds])), (rg, aQ g 8 cRg), (fe, .inr (1, [.ref fr, .ref ft, .ref fs, .long ufe, .long ufe_1])), (fr, aI g 132 ufr), (ft, aI g 68 uft), (fs, aI g 68 ufs), (xs, .inr (0, [.ref xat, .ref xab, .ref xar, .ref xal, .ref xah, .int uxs, .int xn])), (xat, aJ g 8 xT), (xab, aJ g 8 xB), (xar, aJ g 8 xR), (xal, aI g 68 uxal), (xah, aI g 68 uxah), (zl, aI g 68 uzl), (zh, aI g 68 uzh)]) (sd_runS (rest := []) (As := [.ref xal, .ref xah, .ref zl, .ref zh]) S (ct_Teller_sizes l D g xal xah zl zh 68 68 68 68 (H.size) uxal uxah czl czh F (r_2, uzl, uzh) hc) kl_Desk_157 (by decide) (by decide) hK hP hD [12, 13, 2, 3] rfl (by decide) rfl hl d_Desk_nearest_59 rfl (Nat.le_of_ble_eq_true rfl) ⟨Nat.zero_le _, Nat.zero_le _⟩) hP hD hS hA [12, 13, 2, 3] [0, 1, 4, 5, 6, 7, 8, 9, 10, 11] rfl rfl (by decide) (by decide) rfl (fun H locs hP hD hS => ?_)
      refine W.eq (g2 := F0 m 62 ls [.int r_2]) rfl ?_
      refine lv_istore_n (lv' := [(3, .int r_2), (2, .ref xs), (0, .ref zd), (1, .int vI)]) hx hb d_Desk_nearest_62 rfl hl (by decide) rfl (fun ls hl => ?_)
      refine lv_iload_n hx hb d_Desk_nearest_63 rfl (lv_at hl 0 rfl) ?_
      refine lv_if_eq (tgt := 81) hx hb d_Desk_nearest_64 (by decide) (fun hc => ?_) (fun hc => ?_)
      · have hm := sd_mt hc hm
        refine sd_ldc2 (v := (9221120237041090560 : Int64)) hx hb hown (htt _ km_Desk_189) d_Desk_nearest_81 ?_
        exact sd_l1ret (u := (ufe, ufe_1, ufr, uft, ufs, uzl, uzh, uxs, uxal, uxah)) hQ hx hb hr hlk hK (hP.sub [0, 1, 2, 3, 4, 5, 12, 13, 6, 7, 8, 9, 10, 11] rfl) (hD.sub [0, 1, 2, 3, 4, 5, 12, 13, 6, 7, 8, 9, 10, 11] (by decide) rfl) hS (Option.some.inj hm).symm d_Desk_nearest_84
      · have hm := sd_mf hc hm
        refine lv_aload_n hx hb d_Desk_nearest_67 rfl (lv_at hl 2 rfl) ?_
        refine va_get (D := D) (ci := 4) (v := .ref zl) (C := R_Desk) (T := F_Desk) (N := 9) hx hb htt i_Desk hown hK hP 0 rfl rfl 6 (by decide) (htt _ kf_Desk_46) (fun _ h9 => h9) rfl d_Desk_nearest_68 ?_
        refine lv_aload_n hx hb d_Desk_nearest_71 rfl (lv_at hl 2 rfl) ?_
        refine va_get (D := D) (ci := 4) (v := .ref zh) (C := R_Desk) (T := F_Desk) (N := 9) hx hb htt i_Desk hown hK hP 0 rfl rfl 7 (by decide) (htt _ kf_Desk_50) (fun _ h9 => h9) rfl d_Desk_nearest_72 ?_
        obtain ⟨r_3, hc, hm⟩ := sd_mb1 hm
        refine sd_ci0 (wr := [(zd, .inr (4, [.ref rg, .ref iv, .ref fe, .ref c1, .ref c2, .ref pg, .ref zl, .ref zh, .ref ds])), (rg, aQ g 8 cRg), (fe, .inr (1, [.ref fr, .ref ft, .ref fs, .long ufe, .long ufe_1])), (fr, aI g 132 ufr), (ft, aI g 68 uft), (fs, aI g 68 ufs), (xs, .inr (0, [.ref xat, .ref xab, .ref xar, .ref xal, .ref xah, .int uxs, .int xn])), (xat, aJ g 8 xT), (xab, aJ g 8 xB), (xar, aJ g 8 xR), (xal, aI g 68 uxal), (xah, aI g 68 uxah)]) (w2 := [(zd, .inr (4, [.ref rg, .ref iv, .ref fe, .ref c1, .ref c2, .ref pg, .ref zl, .ref zh, .ref ds])), (rg, aQ g 8 cRg), (fe, .inr (1, [.ref fr, .ref ft, .ref fs, .long ufe, .long ufe_1])), (fr, aI g 132 ufr), (ft, aI g 68 uft), (fs, aI g 68 ufs), (xs, .inr (0, [.ref xat, .ref xab, .ref xar, .ref xal, .ref xah, .int uxs, .int xn])), (xat, aJ g 8 xT), (xab, aJ g 8 xB), (xar, aJ g 8 xR), (xal, aI g 68 uxal), (xah, aI g 68 uxah), (zl, aI g 68 uzl), (zh, aI g 68 uzh)]) (sd_runS (rest := []) (As := [.ref zl, .ref zh]) S (ct_Doubles_areNear l D g zl zh 68 68 (H.size) uzl uzh F (r_3) hc) kl_Desk_186 (by decide) (by decide) hK hP hD [12, 13] rfl (by decide) rfl hl d_Desk_nearest_75 rfl (Nat.le_of_ble_eq_true rfl) ⟨Nat.zero_le _, Nat.zero_le _⟩) hP hD hS hA [12, 13] [0, 1, 2, 3, 4, 5, 6, 7, 8, 9, 10, 11] rfl rfl (by decide) (by decide) rfl (fun H locs hP hD hS => ?_)
        refine W.eq (g2 := F0 m 78 ls [.int r_3]) rfl ?_
        refine lv_if_ne (tgt := 85) hx hb d_Desk_nearest_78 (by decide) (fun hc => ?_) (fun hc => ?_)
        · have hm := sd_mf hc hm
          refine lv_iload_n hx hb d_Desk_nearest_85 rfl (lv_at hl 0 rfl) ?_
          obtain ⟨y, hv, hm⟩ := sd_mb1 hm
          have J94_2 : ∀ (H : Heap) (locs : List Loc) (ls : Array Slot), va_P D classes [(zd, .inr (4, [.ref rg, .ref iv, .ref fe, .ref c1, .ref c2, .ref pg, .ref zl, .ref zh, .ref ds])), (rg, aQ g 8 cRg), (fe, .inr (1, [.ref fr, .ref ft, .ref fs, .long ufe, .long ufe_1])), (fr, aI g 132 ufr), (ft, aI g 68 uft), (fs, aI g 68 ufs), (xs, .inr (0, [.ref xat, .ref xab, .ref xar, .ref xal, .ref xah, .int uxs, .int xn])), (xat, aJ g 8 xT), (xab, aJ g 8 xB), (xar, aJ g 8 xR), (xal, aI g 68 uxal), (xah, aI g 68 uxah), (zl, aI g 68 uzl), (zh, aI g 68 uzh)] H → va_D A [(zd, .inr (4, [.ref rg, .ref iv, .ref fe, .ref c1, .ref c2, .ref pg, .ref zl, .ref zh, .ref ds])), (rg, aQ g 8 cRg), (fe, .inr (1, [.ref fr, .ref ft, .ref fs, .long ufe, .long ufe_1])), (fr, aI g 132 ufr), (ft, aI g 68 uft), (fs, aI g 68 ufs), (xs, .inr (0, [.ref xat, .ref xab, .ref xar, .ref xal, .ref xah, .int uxs, .int xn])), (xat, aJ g 8 xT), (xab, aJ g 8 xB), (xar, aJ g 8 xR), (xal, aI g 68 uxal), (xah, aI g 68 uxah), (zl, aI g 68 uzl), (zh, aI g 68 uzh)] → va_S A s.heap H locs → lv_has ls 4 [(0, .ref zd)] → W p l e rm_Desk_nearest s m args below meth c H locs 0 0 Q (F0 m 94 ls [.int y]) := by
            intro H locs ls hP hD hS hl
            refine lv_aload_n hx hb d_Desk_nearest_94 rfl (lv_at hl 0 rfl) ?_
            refine va_get (D := D) (ci := 4) (v := .ref zl) (C := R_Desk) (T := F_Desk) (N := 9) hx hb htt i_Desk hown hK hP 0 rfl rfl 6 (by decide) (htt _ kf_Desk_46) (fun _ h9 => h9) rfl d_Desk_nearest_95 ?_
            obtain ⟨r_4, hc, hm⟩ := sd_mb1 hm
            refine sd_cl0 (wr := [(zd, .inr (4, [.ref rg, .ref iv, .ref fe, .ref c1, .ref c2, .ref pg, .ref zl, .ref zh, .ref ds])), (rg, aQ g 8 cRg), (fe, .inr (1, [.ref fr, .ref ft, .ref fs, .long ufe, .long ufe_1])), (fr, aI g 132 ufr), (ft, aI g 68 uft), (fs, aI g 68 ufs), (xs, .inr (0, [.ref xat, .ref xab, .ref xar, .ref xal, .ref xah, .int uxs, .int xn])), (xat, aJ g 8 xT), (xab, aJ g 8 xB), (xar, aJ g 8 xR), (xal, aI g 68 uxal), (xah, aI g 68 uxah), (zh, aI g 68 uzh)]) (w2 := [(zd, .inr (4, [.ref rg, .ref iv, .ref fe, .ref c1, .ref c2, .ref pg, .ref zl, .ref zh, .ref ds])), (rg, aQ g 8 cRg), (fe, .inr (1, [.ref fr, .ref ft, .ref fs, .long ufe, .long ufe_1])), (fr, aI g 132 ufr), (ft, aI g 68 uft), (fs, aI g 68 ufs), (xs, .inr (0, [.ref xat, .ref xab, .ref xar, .ref xal, .ref xah, .int uxs, .int xn])), (xat, aJ g 8 xT), (xab, aJ g 8 xB), (xar, aJ g 8 xR), (xal, aI g 68 uxal), (xah, aI g 68 uxah), (zh, aI g 68 uzh), (zl, aI g 68 uzl)]) (sd_runS (rest := []) (As := [.int y, .ref zl]) S (ct_Doubles_ofSize l D g zl 68 (H.size) y uzl F (r_4) hc) kl_Desk_191 (by decide) (by decide) hK hP hD [12] rfl (by decide) rfl hl d_Desk_nearest_98 rfl (Nat.le_of_ble_eq_true rfl) ⟨Nat.zero_le _, Nat.zero_le _⟩) hP hD hS hA [12] [0, 1, 2, 3, 4, 5, 6, 7, 8, 9, 10, 11, 13] rfl rfl (by decide) (by decide) rfl (fun H locs hP hD hS => ?_)
            refine W.eq (g2 := F0 m 101 ls [.long r_4]) rfl ?_
            exact sd_l1ret (u := (ufe, ufe_1, ufr, uft, ufs, uzl, uzh, uxs, uxal, uxah)) hQ hx hb hr hlk hK (hP.sub [0, 1, 2, 3, 4, 5, 13, 12, 6, 7, 8, 9, 10, 11] rfl) (hD.sub [0, 1, 2, 3, 4, 5, 13, 12, 6, 7, 8, 9, 10, 11] (by decide) rfl) hS (Option.some.inj hm).symm d_Desk_nearest_101
          replace hm := hv
          refine lv_if_ge (tgt := 93) hx hb d_Desk_nearest_86 (by decide) (fun hc => ?_) (fun hc => ?_)
          · have hm := sd_mt hc hm
            refine lv_iconst (v := (0 : Int32)) hx hb d_Desk_nearest_93 (by decide) ?_
            cases hm
            exact J94_2 H locs ls (hP.sub [0, 1, 2, 3, 4, 5, 6, 7, 8, 9, 10, 11, 12, 13] rfl) (hD.sub [0, 1, 2, 3, 4, 5, 6, 7, 8, 9, 10, 11, 12, 13] (by decide) rfl) hS (lv_sub hl [2] rfl)
          · have hm := sd_mf hc hm
            refine lv_iconst (v := (1 : Int32)) hx hb d_Desk_nearest_89 (by decide) ?_
            refine lv_goto (tgt := 94) hx hb d_Desk_nearest_90 (by decide) ?_
            cases hm
            exact J94_2 H locs ls (hP.sub [0, 1, 2, 3, 4, 5, 6, 7, 8, 9, 10, 11, 12, 13] rfl) (hD.sub [0, 1, 2, 3, 4, 5, 6, 7, 8, 9, 10, 11, 12, 13] (by decide) rfl) hS (lv_sub hl [2] rfl)
        · have hm := sd_mt hc hm
          refine sd_ldc2 (v := (9221120237041090560 : Int64)) hx hb hown (htt _ km_Desk_189) d_Desk_nearest_81 ?_
          exact sd_l1ret (u := (ufe, ufe_1, ufr, uft, ufs, uzl, uzh, uxs, uxal, uxah)) hQ hx hb hr hlk hK (hP.sub [0, 1, 2, 3, 4, 5, 12, 13, 6, 7, 8, 9, 10, 11] rfl) (hD.sub [0, 1, 2, 3, 4, 5, 12, 13, 6, 7, 8, 9, 10, 11] (by decide) rfl) hS (Option.some.inj hm).symm d_Desk_nearest_84
    · have hm := sd_mf hc hm
      refine lv_aload_n hx hb d_Desk_nearest_23 rfl (lv_at hl 0 rfl) ?_
      obtain ⟨r_5, hc, hm⟩ := sd_mb1 hm
      refine sd_cl0 (wr := [(zd, .inr (4, [.ref rg, .ref iv, .ref fe, .ref c1, .ref c2, .ref pg, .ref zl, .ref zh, .ref ds])), (rg, aQ g 8 cRg), (fe, .inr (1, [.ref fr, .ref ft, .ref fs, .long fR, .long fQ])), (fr, aI g 132 cfr), (ft, aI g 68 cft), (fs, aI g 68 cfs), (zl, aI g 68 czl), (zh, aI g 68 czh), (xab, aJ g 8 xB), (xal, aI g 68 xL), (xah, aI g 68 xH), (xar, aJ g 8 xR)]) (w2 := [(zd, .inr (4, [.ref rg, .ref iv, .ref fe, .ref c1, .ref c2, .ref pg, .ref zl, .ref zh, .ref ds])), (rg, aQ g 8 cRg), (fe, .inr (1, [.ref fr, .ref ft, .ref fs, .long fR, .long fQ])), (fr, aI g 132 cfr), (ft, aI g 68 cft), (fs, aI g 68 cfs), (zl, aI g 68 czl), (zh, aI g 68 czh), (xab, aJ g 8 xB), (xal, aI g 68 xL), (xah, aI g 68 xH), (xar, aJ g 8 xR), (xs, .inr (0, [.ref xat, .ref xab, .ref xar, .ref xal, .ref xah, .int xk, .int xn])), (xat, aJ g 8 xT)]) (sd_runV (rest := []) (As := []) S (ct_Sum_top l D g xs xat xab xar xal xah (H.size) xk xn xT F (r_5) hc) kl_Desk_82 (by decide) (by decide) hK hP hD [12, 8] rfl (by decide) rfl hl d_Desk_nearest_24 rfl (Nat.le_of_ble_eq_true rfl) ⟨Nat.zero_le _, Nat.zero_le _⟩ 12 rfl rfl) hP hD hS hA [12, 8] [0, 1, 2, 3, 4, 5, 6, 7, 9, 10, 11, 13] rfl rfl (by decide) (by decide) rfl (fun H locs hP hD hS => ?_)
      refine W.eq (g2 := F0 m 27 ls [.long r_5]) rfl ?_
      refine lv_aload_n hx hb d_Desk_nearest_27 rfl (lv_at hl 0 rfl) ?_
      obtain ⟨r_6, hc, hm⟩ := sd_mb1 hm
      refine sd_cl0 (wr := [(zd, .inr (4, [.ref rg, .ref iv, .ref fe, .ref c1, .ref c2, .ref pg, .ref zl, .ref zh, .ref ds])), (rg, aQ g 8 cRg), (fe, .inr (1, [.ref fr, .ref ft, .ref fs, .long fR, .long fQ])), (fr, aI g 132 cfr), (ft, aI g 68 cft), (fs, aI g 68 cfs), (zl, aI g 68 czl), (zh, aI g 68 czh), (xal, aI g 68 xL), (xah, aI g 68 xH), (xar, aJ g 8 xR), (xat, aJ g 8 xT)]) (w2 := [(zd, .inr (4, [.ref rg, .ref iv, .ref fe, .ref c1, .ref c2, .ref pg, .ref zl, .ref zh, .ref ds])), (rg, aQ g 8 cRg), (fe, .inr (1, [.ref fr, .ref ft, .ref fs, .long fR, .long fQ])), (fr, aI g 132 cfr), (ft, aI g 68 cft), (fs, aI g 68 cfs), (zl, aI g 68 czl), (zh, aI g 68 czh), (xal, aI g 68 xL), (xah, aI g 68 xH), (xar, aJ g 8 xR), (xat, aJ g 8 xT), (xs, .inr (0, [.ref xat, .ref xab, .ref xar, .ref xal, .ref xah, .int xk, .int xn])), (xab, aJ g 8 xB)]) (sd_runV (rest := [.long r_5]) (As := []) S (ct_Sum_bottom l D g xs xat xab xar xal xah (H.size) xk xn xB F (r_6) hc) kl_Desk_86 (by decide) (by decide) hK hP hD [12, 8] rfl (by decide) rfl hl d_Desk_nearest_28 rfl (Nat.le_of_ble_eq_true rfl) ⟨Nat.zero_le _, Nat.zero_le _⟩ 12 rfl rfl) hP hD hS hA [12, 8] [0, 1, 2, 3, 4, 5, 6, 7, 9, 10, 11, 13] rfl rfl (by decide) (by decide) rfl (fun H locs hP hD hS => ?_)
      refine W.eq (g2 := F0 m 31 ls [.long r_6, .long r_5]) rfl ?_
      obtain ⟨r_7, hc, hm⟩ := sd_mb1 hm
      refine sd_cl0 (wr := [(zd, .inr (4, [.ref rg, .ref iv, .ref fe, .ref c1, .ref c2, .ref pg, .ref zl, .ref zh, .ref ds])), (rg, aQ g 8 cRg), (fe, .inr (1, [.ref fr, .ref ft, .ref fs, .long fR, .long fQ])), (fr, aI g 132 cfr), (ft, aI g 68 cft), (fs, aI g 68 cfs), (zl, aI g 68 czl), (zh, aI g 68 czh), (xal, aI g 68 xL), (xah, aI g 68 xH), (xar, aJ g 8 xR), (xat, aJ g 8 xT), (xs, .inr (0, [.ref xat, .ref xab, .ref xar, .ref xal, .ref xah, .int xk, .int xn])), (xab, aJ g 8 xB)]) (w2 := [(zd, .inr (4, [.ref rg, .ref iv, .ref fe, .ref c1, .ref c2, .ref pg, .ref zl, .ref zh, .ref ds])), (rg, aQ g 8 cRg), (fe, .inr (1, [.ref fr, .ref ft, .ref fs, .long fR, .long fQ])), (fr, aI g 132 cfr), (ft, aI g 68 cft), (fs, aI g 68 cfs), (zl, aI g 68 czl), (zh, aI g 68 czh), (xal, aI g 68 xL), (xah, aI g 68 xH), (xar, aJ g 8 xR), (xat, aJ g 8 xT), (xs, .inr (0, [.ref xat, .ref xab, .ref xar, .ref xal, .ref xah, .int xk, .int xn])), (xab, aJ g 8 xB)]) (sd_runS (rest := []) (As := [.long r_5, .long r_6]) S (ct_Doubles_ofFraction l D g (H.size) r_5 r_6 F (r_7) hc) kl_Desk_181 (by decide) (by decide) hK hP hD [] rfl (by decide) rfl hl d_Desk_nearest_31 rfl (Nat.le_of_ble_eq_true rfl) ⟨Nat.zero_le _, Nat.zero_le _⟩) hP hD hS hA [] [0, 1, 2, 3, 4, 5, 6, 7, 8, 9, 10, 11, 12, 13] rfl rfl (by decide) (by decide) rfl (fun H locs hP hD hS => ?_)
      refine W.eq (g2 := F0 m 34 ls [.long r_7]) rfl ?_
      exact sd_l1ret (u := (fR, fQ, cfr, cft, cfs, czl, czh, xk, xL, xH)) hQ hx hb hr hlk hK (hP.sub [0, 1, 2, 3, 4, 5, 6, 7, 12, 11, 13, 10, 8, 9] rfl) (hD.sub [0, 1, 2, 3, 4, 5, 6, 7, 12, 11, 13, 10, 8, 9] (by decide) rfl) hS (Option.some.inj hm).symm d_Desk_nearest_34
  · have hm := sd_mt hc hm
    refine lv_lconst (v := (1 : Int64)) hx hb d_Desk_nearest_7 (by decide) ?_
    exact sd_l1ret (u := (fR, fQ, cfr, cft, cfs, czl, czh, xk, xL, xH)) hQ hx hb hr hlk hK (hP.sub [0, 1, 2, 3, 4, 5, 6, 7, 8, 9, 10, 11, 12, 13] rfl) (hD.sub [0, 1, 2, 3, 4, 5, 6, 7, 8, 9, 10, 11, 12, 13] (by decide) rfl) hS (Option.some.inj hm).symm d_Desk_nearest_8
theorem d_Desk_between_0 : decode b_Desk_between 0 = .ok (.iload_n 1, 1) := by decide +kernel
theorem d_Desk_between_1 : decode b_Desk_between 1 = .ok (.invokestatic 56, 3) := by decide +kernel
theorem d_Desk_between_4 : decode b_Desk_between 4 = .ok (.ifCond .eq 10, 3) := by decide +kernel
theorem d_Desk_between_7 : decode b_Desk_between 7 = .ok (.iload_n 2, 1) := by decide +kernel
theorem d_Desk_between_8 : decode b_Desk_between 8 = .ok (.invokestatic 56, 3) := by decide +kernel
theorem d_Desk_between_11 : decode b_Desk_between 11 = .ok (.ifCond .ne 7, 3) := by decide +kernel
theorem d_Desk_between_14 : decode b_Desk_between 14 = .ok (.ldc2_w 127, 3) := by decide +kernel
theorem d_Desk_between_17 : decode b_Desk_between 17 = .ok (.lreturn, 1) := by decide +kernel
theorem d_Desk_between_18 : decode b_Desk_between 18 = .ok (.aload_n 0, 1) := by decide +kernel
theorem d_Desk_between_19 : decode b_Desk_between 19 = .ok (.iload_n 1, 1) := by decide +kernel
theorem d_Desk_between_20 : decode b_Desk_between 20 = .ok (.invokevirtual 195, 3) := by decide +kernel
theorem d_Desk_between_23 : decode b_Desk_between 23 = .ok (.lstore_n 3, 1) := by decide +kernel
theorem d_Desk_between_24 : decode b_Desk_between 24 = .ok (.aload_n 0, 1) := by decide +kernel
theorem d_Desk_between_25 : decode b_Desk_between 25 = .ok (.iload_n 2, 1) := by decide +kernel
theorem d_Desk_between_26 : decode b_Desk_between 26 = .ok (.invokevirtual 195, 3) := by decide +kernel
theorem d_Desk_between_29 : decode b_Desk_between 29 = .ok (.lstore 5, 2) := by decide +kernel
theorem d_Desk_between_31 : decode b_Desk_between 31 = .ok (.lload_n 3, 1) := by decide +kernel
theorem d_Desk_between_32 : decode b_Desk_between 32 = .ok (.ldc2_w 148, 3) := by decide +kernel
theorem d_Desk_between_35 : decode b_Desk_between 35 = .ok (.lcmp, 1) := by decide +kernel
theorem d_Desk_between_36 : decode b_Desk_between 36 = .ok (.ifCond .eq 12, 3) := by decide +kernel
theorem d_Desk_between_39 : decode b_Desk_between 39 = .ok (.lload 5, 2) := by decide +kernel
theorem d_Desk_between_41 : decode b_Desk_between 41 = .ok (.ldc2_w 148, 3) := by decide +kernel
theorem d_Desk_between_44 : decode b_Desk_between 44 = .ok (.lcmp, 1) := by decide +kernel
theorem d_Desk_between_45 : decode b_Desk_between 45 = .ok (.ifCond .ne 7, 3) := by decide +kernel
theorem d_Desk_between_48 : decode b_Desk_between 48 = .ok (.ldc2_w 148, 3) := by decide +kernel
theorem d_Desk_between_51 : decode b_Desk_between 51 = .ok (.lreturn, 1) := by decide +kernel
theorem d_Desk_between_52 : decode b_Desk_between 52 = .ok (.lload_n 3, 1) := by decide +kernel
theorem d_Desk_between_53 : decode b_Desk_between 53 = .ok (.aload_n 0, 1) := by decide +kernel
theorem d_Desk_between_54 : decode b_Desk_between 54 = .ok (.getfield 11, 3) := by decide +kernel
theorem d_Desk_between_57 : decode b_Desk_between 57 = .ok (.iload_n 1, 1) := by decide +kernel
theorem d_Desk_between_58 : decode b_Desk_between 58 = .ok (.aaload, 1) := by decide +kernel
theorem d_Desk_between_59 : decode b_Desk_between 59 = .ok (.invokevirtual 199, 3) := by decide +kernel
theorem d_Desk_between_62 : decode b_Desk_between 62 = .ok (.ifCond .eq 7, 3) := by decide +kernel
theorem d_Desk_between_65 : decode b_Desk_between 65 = .ok (.lconst 0, 1) := by decide +kernel
theorem d_Desk_between_66 : decode b_Desk_between 66 = .ok (.goto 4, 3) := by decide +kernel
theorem d_Desk_between_69 : decode b_Desk_between 69 = .ok (.lconst 1, 1) := by decide +kernel
theorem d_Desk_between_70 : decode b_Desk_between 70 = .ok (.ladd, 1) := by decide +kernel
theorem d_Desk_between_71 : decode b_Desk_between 71 = .ok (.lstore_n 3, 1) := by decide +kernel
theorem d_Desk_between_72 : decode b_Desk_between 72 = .ok (.lload 5, 2) := by decide +kernel
theorem d_Desk_between_74 : decode b_Desk_between 74 = .ok (.aload_n 0, 1) := by decide +kernel
theorem d_Desk_between_75 : decode b_Desk_between 75 = .ok (.getfield 11, 3) := by decide +kernel
theorem d_Desk_between_78 : decode b_Desk_between 78 = .ok (.iload_n 2, 1) := by decide +kernel
theorem d_Desk_between_79 : decode b_Desk_between 79 = .ok (.aaload, 1) := by decide +kernel
theorem d_Desk_between_80 : decode b_Desk_between 80 = .ok (.invokevirtual 199, 3) := by decide +kernel
theorem d_Desk_between_83 : decode b_Desk_between 83 = .ok (.ifCond .eq 7, 3) := by decide +kernel
theorem d_Desk_between_86 : decode b_Desk_between 86 = .ok (.lconst 0, 1) := by decide +kernel
theorem d_Desk_between_87 : decode b_Desk_between 87 = .ok (.goto 4, 3) := by decide +kernel
theorem d_Desk_between_90 : decode b_Desk_between 90 = .ok (.lconst 1, 1) := by decide +kernel
theorem d_Desk_between_91 : decode b_Desk_between 91 = .ok (.ladd, 1) := by decide +kernel
theorem d_Desk_between_92 : decode b_Desk_between 92 = .ok (.lstore 5, 2) := by decide +kernel
theorem d_Desk_between_94 : decode b_Desk_between 94 = .ok (.lconst 0, 1) := by decide +kernel
theorem d_Desk_between_95 : decode b_Desk_between 95 = .ok (.lload 5, 2) := by decide +kernel
theorem d_Desk_between_97 : decode b_Desk_between 97 = .ok (.lload_n 3, 1) := by decide +kernel
theorem d_Desk_between_98 : decode b_Desk_between 98 = .ok (.lsub, 1) := by decide +kernel
theorem d_Desk_between_99 : decode b_Desk_between 99 = .ok (.invokestatic 202, 3) := by decide +kernel
theorem d_Desk_between_102 : decode b_Desk_between 102 = .ok (.lreturn, 1) := by decide +kernel
def mf_Desk_between (F : Nat) (vI : Int32) (vJ : Int32) (cRg : Nat → Option Nat) (fR : Int64) (fQ : Int64) (cfr : Nat → Int32) (cft : Nat → Int32) (cfs : Nat → Int32) (xk : Int32) (xn : Int32) (xT : Nat → Int64) (xB : Nat → Int64) (xR : Nat → Int64) (xL : Nat → Int32) (xH : Nat → Int32) (yk : Int32) (yn : Int32) (yT : Nat → Int64) (yB : Nat → Int64) (yR : Nat → Int64) (yL : Nat → Int32) (yH : Nat → Int32) : Option (Int64 × Int64 × Int64 × (Nat → Int32) × (Nat → Int32) × (Nat → Int32) × Int32 × (Nat → Int32) × (Nat → Int32) × Int32 × (Nat → Int32) × (Nat → Int32)) :=
  (sd_b1 (mf_Desk_isRegister F vI) fun r => (if r = 0 then (some ((4611686018427387904 : Int64), fR, fQ, cfr, cft, cfs, xk, xL, xH, yk, yL, yH)) else (sd_b1 (mf_Desk_isRegister F vJ) fun r_1 => (if r_1 = 0 then (some ((4611686018427387904 : Int64), fR, fQ, cfr, cft, cfs, xk, xL, xH, yk, yL, yH)) else (sd_b9 (mf_Desk_floor F vI cRg fR fQ cfr cft cfs xk xn xT xB xR xL xH) fun r_2 ufe ufe_1 ufr uft ufs uxs uxal uxah => (sd_b9 (mf_Desk_floor F vJ cRg ufe ufe_1 ufr uft ufs yk yn yT yB yR yL yH) fun r_3 ufe_2 ufe_3 ufr_1 uft_1 ufs_1 uys uyal uyah => (if r_2 = (4611686018427387906 : Int64) then (some ((4611686018427387906 : Int64), ufe_2, ufe_3, ufr_1, uft_1, ufs_1, uxs, uxal, uxah, uys, uyal, uyah)) else (if r_3 = (4611686018427387906 : Int64) then (some ((4611686018427387906 : Int64), ufe_2, ufe_3, ufr_1, uft_1, ufs_1, uxs, uxal, uxah, uys, uyal, uyah)) else (sd_g (sd_ix vI 8) (sd_b1 (mf_Sum_isWhole F uxs xn xB xR) fun r_4 => (sd_b1 (if r_4 = 0 then (some ((1 : Int64))) else (some ((0 : Int64)))) fun y => (sd_let ((r_2 + y)) fun x3 => (sd_g (sd_ix vJ 8) (sd_b1 (mf_Sum_isWhole F uys yn yB yR) fun r_5 => (sd_b1 (if r_5 = 0 then (some ((1 : Int64))) else (some ((0 : Int64)))) fun y_1 => (sd_let ((r_3 + y_1)) fun x5 => (some ((if (x5 - x3) < (0 : Int64) then (0 : Int64) else (x5 - x3)), ufe_2, ufe_3, ufr_1, uft_1, ufs_1, uxs, uxal, uxah, uys, uyal, uyah))))))))))))))))))
abbrev rm_Desk_between : Room := { frames := 6, cells := 0, slots := 0, locals := 161 }
set_option maxHeartbeats 4000000 in
set_option maxRecDepth 100000 in
theorem ct_Desk_between (l : Launch) (D : va_G) (g : G4) (zd : Nat) (rg : Nat) (iv : Nat) (fe : Nat) (c1 : Nat) (c2 : Nat) (pg : Nat) (zl : Nat) (zh : Nat) (ds : Nat) (fr : Nat) (ft : Nat) (fs : Nat) (xs : Nat) (xat : Nat) (xab : Nat) (xar : Nat) (xal : Nat) (xah : Nat) (ys : Nat) (yat : Nat) (yab : Nat) (yar : Nat) (yal : Nat) (yah : Nat) (sz : Nat) (vI : Int32) (vJ : Int32) (cRg : Nat → Option Nat) (fR : Int64) (fQ : Int64) (cfr : Nat → Int32) (cft : Nat → Int32) (cfs : Nat → Int32) (xk : Int32) (xn : Int32) (xT : Nat → Int64) (xB : Nat → Int64) (xR : Nat → Int64) (xL : Nat → Int32) (xH : Nat → Int32) (yk : Int32) (yn : Int32) (yT : Nat → Int64) (yB : Nat → Int64) (yR : Nat → Int64) (yL : Nat → Int32) (yH : Nat → Int32) (F : Nat) (res : Int64 × Int64 × Int64 × (Nat → Int32) × (Nat → Int32) × (Nat → Int32) × Int32 × (Nat → Int32) × (Nat → Int32) × Int32 × (Nat → Int32) × (Nat → Int32)) (hm : mf_Desk_between F vI vJ cRg fR fQ cfr cft cfs xk xn xT xB xR xL xH yk yn yT yB yR yL yH = some res) (hI : sd_ix vI 8 = true → cRg vI.toNatClampNeg = some xs) (hJ : sd_ix vJ 8 = true → cRg vJ.toNatClampNeg = some ys) : Met l y_Desk_between (.code y_Desk_between b_Desk_between 7 (some .long) :: sd_tb) rm_Desk_between (sd_PW D g [.ref zd, .int vI, .int vJ] sz [(zd, .inr (4, [.ref rg, .ref iv, .ref fe, .ref c1, .ref c2, .ref pg, .ref zl, .ref zh, .ref ds])), (rg, aQ g 8 cRg), (fe, .inr (1, [.ref fr, .ref ft, .ref fs, .long fR, .long fQ])), (fr, aI g 132 cfr), (ft, aI g 68 cft), (fs, aI g 68 cfs), (xs, .inr (0, [.ref xat, .ref xab, .ref xar, .ref xal, .ref xah, .int xk, .int xn])), (xat, aJ g 8 xT), (xab, aJ g 8 xB), (xar, aJ g 8 xR), (xal, aI g 68 xL), (xah, aI g 68 xH), (ys, .inr (0, [.ref yat, .ref yab, .ref yar, .ref yal, .ref yah, .int yk, .int yn])), (yat, aJ g 8 yT), (yab, aJ g 8 yB), (yar, aJ g 8 yR), (yal, aI g 68 yL), (yah, aI g 68 yH)]) (sd_Ql1 D g res (fun u : Int64 × Int64 × (Nat → Int32) × (Nat → Int32) × (Nat → Int32) × Int32 × (Nat → Int32) × (Nat → Int32) × Int32 × (Nat → Int32) × (Nat → Int32) => [(zd, .inr (4, [.ref rg, .ref iv, .ref fe, .ref c1, .ref c2, .ref pg, .ref zl, .ref zh, .ref ds])), (rg, aQ g 8 cRg), (fe, .inr (1, [.ref fr, .ref ft, .ref fs, .long (u.1), .long (u.2.1)])), (fr, aI g 132 (u.2.2.1)), (ft, aI g 68 (u.2.2.2.1)), (fs, aI g 68 (u.2.2.2.2.1)), (xs, .inr (0, [.ref xat, .ref xab, .ref xar, .ref xal, .ref xah, .int (u.2.2.2.2.2.1), .int xn])), (xat, aJ g 8 xT), (xab, aJ g 8 xB), (xar, aJ g 8 xR), (xal, aI g 68 (u.2.2.2.2.2.2.1)), (xah, aI g 68 (u.2.2.2.2.2.2.2.1)), (ys, .inr (0, [.ref yat, .ref yab, .ref yar, .ref yal, .ref yah, .int (u.2.2.2.2.2.2.2.2.1), .int yn])), (yat, aJ g 8 yT), (yab, aJ g 8 yB), (yar, aJ g 8 yR), (yal, aI g 68 (u.2.2.2.2.2.2.2.2.2.1)), (yah, aI g 68 (u.2.2.2.2.2.2.2.2.2.2))]) (va_A [(zd, .inr (4, [.ref rg, .ref iv, .ref fe, .ref c1, .ref c2, .ref pg, .ref zl, .ref zh, .ref ds])), (rg, aQ g 8 cRg), (fe, .inr (1, [.ref fr, .ref ft, .ref fs, .long fR, .long fQ])), (fr, aI g 132 cfr), (ft, aI g 68 cft), (fs, aI g 68 cfs), (xs, .inr (0, [.ref xat, .ref xab, .ref xar, .ref xal, .ref xah, .int xk, .int xn])), (xat, aJ g 8 xT), (xab, aJ g 8 xB), (xar, aJ g 8 xR), (xal, aI g 68 xL), (xah, aI g 68 xH), (ys, .inr (0, [.ref yat, .ref yab, .ref yar, .ref yal, .ref yah, .int yk, .int yn])), (yat, aJ g 8 yT), (yab, aJ g 8 yB), (yar, aJ g 8 yR), (yal, aI g 68 yL), (yah, aI g 68 yH)] sz)) 0 0 (va_A [(zd, .inr (4, [.ref rg, .ref iv, .ref fe, .ref c1, .ref c2, .ref pg, .ref zl, .ref zh, .ref ds])), (rg, aQ g 8 cRg), (fe, .inr (1, [.ref fr, .ref ft, .ref fs, .long fR, .long fQ])), (fr, aI g 132 cfr), (ft, aI g 68 cft), (fs, aI g 68 cfs), (xs, .inr (0, [.ref xat, .ref xab, .ref xar, .ref xal, .ref xah, .int xk, .int xn])), (xat, aJ g 8 xT), (xab, aJ g 8 xB), (xar, aJ g 8 xR), (xal, aI g 68 xL), (xah, aI g 68 xH), (ys, .inr (0, [.ref yat, .ref yab, .ref yar, .ref yal, .ref yah, .int yk, .int yn])), (yat, aJ g 8 yT), (yab, aJ g 8 yB), (yar, aJ g 8 yR), (yal, aI g 68 yL), (yah, aI g 68 yH)] sz) := by
  refine sd_met (Qf := fun A => sd_Ql1 D g res (fun u : Int64 × Int64 × (Nat → Int32) × (Nat → Int32) × (Nat → Int32) × Int32 × (Nat → Int32) × (Nat → Int32) × Int32 × (Nat → Int32) × (Nat → Int32) => [(zd, .inr (4, [.ref rg, .ref iv, .ref fe, .ref c1, .ref c2, .ref pg, .ref zl, .ref zh, .ref ds])), (rg, aQ g 8 cRg), (fe, .inr (1, [.ref fr, .ref ft, .ref fs, .long (u.1), .long (u.2.1)])), (fr, aI g 132 (u.2.2.1)), (ft, aI g 68 (u.2.2.2.1)), (fs, aI g 68 (u.2.2.2.2.1)), (xs, .inr (0, [.ref xat, .ref xab, .ref xar, .ref xal, .ref xah, .int (u.2.2.2.2.2.1), .int xn])), (xat, aJ g 8 xT), (xab, aJ g 8 xB), (xar, aJ g 8 xR), (xal, aI g 68 (u.2.2.2.2.2.2.1)), (xah, aI g 68 (u.2.2.2.2.2.2.2.1)), (ys, .inr (0, [.ref yat, .ref yab, .ref yar, .ref yal, .ref yah, .int (u.2.2.2.2.2.2.2.2.1), .int yn])), (yat, aJ g 8 yT), (yab, aJ g 8 yB), (yar, aJ g 8 yR), (yal, aI g 68 (u.2.2.2.2.2.2.2.2.2.1)), (yah, aI g 68 (u.2.2.2.2.2.2.2.2.2.2))]) A) (own := R_Desk) (by decide +kernel) rfl (Nat.le_of_ble_eq_true rfl) ?_
  intro p e s m args below meth c S hr hlk hK A hA Q hQ H locs hP hD hS ls hl
  have hx := S.1
  have hb := S.2.1
  have hml := S.2.2.1
  have hown := S.2.2.2.1
  have htt := sd_tt S
  replace hl : lv_has ls 7 [(0, .ref zd), (1, .int vI), (2, .int vJ)] := hl
  unfold mf_Desk_between at hm
  refine lv_iload_n hx hb d_Desk_between_0 rfl (lv_at hl 1 rfl) ?_
  obtain ⟨r, hc, hm⟩ := sd_mb1 hm
  refine sd_ci0 (wr := [(zd, .inr (4, [.ref rg, .ref iv, .ref fe, .ref c1, .ref c2, .ref pg, .ref zl, .ref zh, .ref ds])), (rg, aQ g 8 cRg), (fe, .inr (1, [.ref fr, .ref ft, .ref fs, .long fR, .long fQ])), (fr, aI g 132 cfr), (ft, aI g 68 cft), (fs, aI g 68 cfs), (xs, .inr (0, [.ref xat, .ref xab, .ref xar, .ref xal, .ref xah, .int xk, .int xn])), (xat, aJ g 8 xT), (xab, aJ g 8 xB), (xar, aJ g 8 xR), (xal, aI g 68 xL), (xah, aI g 68 xH), (ys, .inr (0, [.ref yat, .ref yab, .ref yar, .ref yal, .ref yah, .int yk, .int yn])), (yat, aJ g 8 yT), (yab, aJ g 8 yB), (yar, aJ g 8 yR), (yal, aI g 68 yL), (yah, aI g 68 yH)]) (w2 := [(zd, .inr (4, [.ref rg, .ref iv, .ref fe, .ref c1, .ref c2, .ref pg, .ref zl, .ref zh, .ref ds])), (rg, aQ g 8 cRg), (fe, .inr (1, [.ref fr, .ref ft, .ref fs, .long fR, .long fQ])), (fr, aI g 132 cfr), (ft, aI g 68 cft), (fs, aI g 68 cfs), (xs, .inr (0, [.ref xat, .ref xab, .ref xar, .ref xal, .ref xah, .int xk, .int xn])), (xat, aJ g 8 xT), (xab, aJ g 8 xB), (xar, aJ g 8 xR), (xal, aI g 68 xL), (xah, aI g 68 xH), (ys, .inr (0, [.ref yat, .ref yab, .ref yar, .ref yal, .ref yah, .int yk, .int yn])), (yat, aJ g 8 yT), (yab, aJ g 8 yB), (yar, aJ g 8 yR), (yal, aI g 68 yL), (yah, aI g 68 yH)]) (sd_runS (rest := []) (As := [.int vI]) S (ct_Desk_isRegister l D g (H.size) vI F (r) hc) kl_Desk_56 (by decide) (by decide) hK hP hD [] rfl (by decide) rfl hl d_Desk_between_1 rfl (Nat.le_of_ble_eq_true rfl) ⟨Nat.zero_le _, Nat.zero_le _⟩) hP hD hS hA [] [0, 1, 2, 3, 4, 5, 6, 7, 8, 9, 10, 11, 12, 13, 14, 15, 16, 17] rfl rfl (by decide) (by decide) rfl (fun H locs hP hD hS => ?_)
  refine W.eq (g2 := F0 m 4 ls [.int r]) rfl ?_
  refine lv_if_eq (tgt := 14) hx hb d_Desk_between_4 (by decide) (fun hc => ?_) (fun hc => ?_)
  · have hm := sd_mt hc hm
    refine sd_ldc2 (v := (4611686018427387904 : Int64)) hx hb hown (htt _ km_Desk_127) d_Desk_between_14 ?_
    exact sd_l1ret (u := (fR, fQ, cfr, cft, cfs, xk, xL, xH, yk, yL, yH)) hQ hx hb hr hlk hK (hP.sub [0, 1, 2, 3, 4, 5, 6, 7, 8, 9, 10, 11, 12, 13, 14, 15, 16, 17] rfl) (hD.sub [0, 1, 2, 3, 4, 5, 6, 7, 8, 9, 10, 11, 12, 13, 14, 15, 16, 17] (by decide) rfl) hS (Option.some.inj hm).symm d_Desk_between_17
  · have hm := sd_mf hc hm
    refine lv_iload_n hx hb d_Desk_between_7 rfl (lv_at hl 2 rfl) ?_
    obtain ⟨r_1, hc, hm⟩ := sd_mb1 hm
    refine sd_ci0 (wr := [(zd, .inr (4, [.ref rg, .ref iv, .ref fe, .ref c1, .ref c2, .ref pg, .ref zl, .ref zh, .ref ds])), (rg, aQ g 8 cRg), (fe, .inr (1, [.ref fr, .ref ft, .ref fs, .long fR, .long fQ])), (fr, aI g 132 cfr), (ft, aI g 68 cft), (fs, aI g 68 cfs), (xs, .inr (0, [.ref xat, .ref xab, .ref xar, .ref xal, .ref xah, .int xk, .int xn])), (xat, aJ g 8 xT), (xab, aJ g 8 xB), (xar, aJ g 8 xR), (xal, aI g 68 xL), (xah, aI g 68 xH), (ys, .inr (0, [.ref yat, .ref yab, .ref yar, .ref yal, .ref yah, .int yk, .int yn])), (yat, aJ g 8 yT), (yab, aJ g 8 yB), (yar, aJ g 8 yR), (yal, aI g 68 yL), (yah, aI g 68 yH)]) (w2 := [(zd, .inr (4, [.ref rg, .ref iv, .ref fe, .ref c1, .ref c2, .ref pg, .ref zl, .ref zh, .ref ds])), (rg, aQ g 8 cRg), (fe, .inr (1, [.ref fr, .ref ft, .ref fs, .long fR, .long fQ])), (fr, aI g 132 cfr), (ft, aI g 68 cft), (fs, aI g 68 cfs), (xs, .inr (0, [.ref xat, .ref xab, .ref xar, .ref xal, .ref xah, .int xk, .int xn])), (xat, aJ g 8 xT), (xab, aJ g 8 xB), (xar, aJ g 8 xR), (xal, aI g 68 xL), (xah, aI g 68 xH), (ys, .inr (0, [.ref yat, .ref yab, .ref yar, .ref yal, .ref yah, .int yk, .int yn])), (yat, aJ g 8 yT), (yab, aJ g 8 yB), (yar, aJ g 8 yR), (yal, aI g 68 yL), (yah, aI g 68 yH)]) (sd_runS (rest := []) (As := [.int vJ]) S (ct_Desk_isRegister l D g (H.size) vJ F (r_1) hc) kl_Desk_56 (by decide) (by decide) hK hP hD [] rfl (by decide) rfl hl d_Desk_between_8 rfl (Nat.le_of_ble_eq_true rfl) ⟨Nat.zero_le _, Nat.zero_le _⟩) hP hD hS hA [] [0, 1, 2, 3, 4, 5, 6, 7, 8, 9, 10, 11, 12, 13, 14, 15, 16, 17] rfl rfl (by decide) (by decide) rfl (fun H locs hP hD hS => ?_)
    refine W.eq (g2 := F0 m 11 ls [.int r_1]) rfl ?_
    refine lv_if_ne (tgt := 18) hx hb d_Desk_between_11 (by decide) (fun hc => ?_) (fun hc => ?_)
    · have hm := sd_mf hc hm
      refine lv_aload_n hx hb d_Desk_between_18 rfl (lv_at hl 0 rfl) ?_
      refine lv_iload_n hx hb d_Desk_between_19 rfl (lv_at hl 1 rfl) ?_
      obtain ⟨r_2, ufe, ufe_1, ufr, uft, ufs, uxs, uxal, uxah, hc, hm⟩ := sd_mb9 hm
      refine sd_cl1 (wr := [(ys, .inr (0, [.ref yat, .ref yab, .ref yar, .ref yal, .ref yah, .int yk, .int yn])), (yat, aJ g 8 yT), (yab, aJ g 8 yB), (yar, aJ g 8 yR), (yal, aI g 68 yL), (yah, aI g 68 yH)]) (w2 := [(ys, .inr (0, [.ref yat, .ref yab, .ref yar, .ref yal, .ref yah, .int yk, .int yn])), (yat, aJ g 8 yT), (yab, aJ g 8 yB), (yar, aJ g 8 yR), (yal, aI g 68 yL), (yah, aI g 68 yH), (zd, .inr (4, [.ref rg, .ref iv, .ref fe, .ref c1, .ref c2, .ref pg, .ref zl, .ref zh, .ref ds])), (rg, aQ g 8 cRg), (fe, .inr (1, [.ref fr, .ref ft, .ref fs, .long ufe, .long ufe_1])), (fr, aI g 132 ufr), (ft, aI g 68 uft), (fs, aI g 68 ufs), (xs, .inr (0, [.ref xat, .ref xab, .ref xar, .ref xal, .ref xah, .int uxs, .int xn])), (xat, aJ g 8 xT), (xab, aJ g 8 xB), (xar, aJ g 8 xR), (xal, aI g 68 uxal), (xah, aI g 68 uxah)]) (sd_runV (rest := []) (As := [.int vI]) S (ct_Desk_floor l D g zd rg iv fe c1 c2 pg zl zh ds fr ft fs xs xat xab xar xal xah (H.size) vI cRg fR fQ cfr cft cfs xk xn xT xB xR xL xH F (r_2, ufe, ufe_1, ufr, uft, ufs, uxs, uxal, uxah) hc hI) kl_Desk_195 (by decide) (by decide) hK hP hD [0, 1, 2, 3, 4, 5, 6, 7, 8, 9, 10, 11] rfl (by decide) rfl hl d_Desk_between_20 rfl (Nat.le_of_ble_eq_true rfl) ⟨Nat.zero_le _, Nat.zero_le _⟩ 0 rfl rfl) hP hD hS hA [0, 1, 2, 3, 4, 5, 6, 7, 8, 9, 10, 11] [12, 13, 14, 15, 16, 17] rfl rfl (by decide) (by decide) rfl (fun H locs hP hD hS => ?_)
      refine W.eq (g2 := F0 m 23 ls [.long r_2]) rfl ?_
      refine lv_lstore_n (lv' := [(3, .long r_2), (0, .ref zd), (1, .int vI), (2, .int vJ)]) hx hb d_Desk_between_23 rfl hl (by decide) rfl (fun ls hl => ?_)
      refine lv_aload_n hx hb d_Desk_between_24 rfl (lv_at hl 1 rfl) ?_
      refine lv_iload_n hx hb d_Desk_between_25 rfl (lv_at hl 3 rfl) ?_
      obtain ⟨r_3, ufe_2, ufe_3, ufr_1, uft_1, ufs_1, uys, uyal, uyah, hc, hm⟩ := sd_mb9 hm
      refine sd_cl1 (wr := [(xs, .inr (0, [.ref xat, .ref xab, .ref xar, .ref xal, .ref xah, .int uxs, .int xn])), (xat, aJ g 8 xT), (xab, aJ g 8 xB), (xar, aJ g 8 xR), (xal, aI g 68 uxal), (xah, aI g 68 uxah)]) (w2 := [(xs, .inr (0, [.ref xat, .ref xab, .ref xar, .ref xal, .ref xah, .int uxs, .int xn])), (xat, aJ g 8 xT), (xab, aJ g 8 xB), (xar, aJ g 8 xR), (xal, aI g 68 uxal), (xah, aI g 68 uxah), (zd, .inr (4, [.ref rg, .ref iv, .ref fe, .ref c1, .ref c2, .ref pg, .ref zl, .ref zh, .ref ds])), (rg, aQ g 8 cRg), (fe, .inr (1, [.ref fr, .ref ft, .ref fs, .long ufe_2, .long ufe_3])), (fr, aI g 132 ufr_1), (ft, aI g 68 uft_1), (fs, aI g 68 ufs_1), (ys, .inr (0, [.ref yat, .ref yab, .ref yar, .ref yal, .ref yah, .int uys, .int yn])), (yat, aJ g 8 yT), (yab, aJ g 8 yB), (yar, aJ g 8 yR), (yal, aI g 68 uyal), (yah, aI g 68 uyah)]) (sd_runV (rest := []) (As := [.int vJ]) S (ct_Desk_floor l D g zd rg iv fe c1 c2 pg zl zh ds fr ft fs ys yat yab yar yal yah (H.size) vJ cRg ufe ufe_1 ufr uft ufs yk yn yT yB yR yL yH F (r_3, ufe_2, ufe_3, ufr_1, uft_1, ufs_1, uys, uyal, uyah) hc hJ) kl_Desk_195 (by decide) (by decide) hK hP hD [6, 7, 8, 9, 10, 11, 0, 1, 2, 3, 4, 5] rfl (by decide) rfl hl d_Desk_between_26 rfl (Nat.le_of_ble_eq_true rfl) ⟨Nat.zero_le _, Nat.zero_le _⟩ 6 rfl rfl) hP hD hS hA [6, 7, 8, 9, 10, 11, 0, 1, 2, 3, 4, 5] [12, 13, 14, 15, 16, 17] rfl rfl (by decide) (by decide) rfl (fun H locs hP hD hS => ?_)
      refine W.eq (g2 := F0 m 29 ls [.long r_3]) rfl ?_
      refine lv_lstore (lv' := [(5, .long r_3), (3, .long r_2), (0, .ref zd), (1, .int vI), (2, .int vJ)]) hx hb d_Desk_between_29 hl (by decide) rfl (fun ls hl => ?_)
      refine lv_lload_n hx hb d_Desk_between_31 rfl (lv_at hl 1 rfl) ?_
      refine sd_ldc2 (v := (4611686018427387906 : Int64)) hx hb hown (htt _ km_Desk_148) d_Desk_between_32 ?_
      refine sd_leq (tgt := 48) hx hb d_Desk_between_35 d_Desk_between_36 (by decide) (fun hc => ?_) (fun hc => ?_)
      · have hm := sd_mt hc hm
        refine sd_ldc2 (v := (4611686018427387906 : Int64)) hx hb hown (htt _ km_Desk_148) d_Desk_between_48 ?_
        exact sd_l1ret (u := (ufe_2, ufe_3, ufr_1, uft_1, ufs_1, uxs, uxal, uxah, uys, uyal, uyah)) hQ hx hb hr hlk hK (hP.sub [6, 7, 8, 9, 10, 11, 0, 1, 2, 3, 4, 5, 12, 13, 14, 15, 16, 17] rfl) (hD.sub [6, 7, 8, 9, 10, 11, 0, 1, 2, 3, 4, 5, 12, 13, 14, 15, 16, 17] (by decide) rfl) hS (Option.some.inj hm).symm d_Desk_between_51
      · have hm := sd_mf hc hm
        refine lv_lload hx hb d_Desk_between_39 (lv_at hl 0 rfl) ?_
        refine sd_ldc2 (v := (4611686018427387906 : Int64)) hx hb hown (htt _ km_Desk_148) d_Desk_between_41 ?_
        refine sd_lne (tgt := 52) hx hb d_Desk_between_44 d_Desk_between_45 (by decide) (fun hc => ?_) (fun hc => ?_)
        · have hm := sd_mf hc hm
          refine lv_lload_n hx hb d_Desk_between_52 rfl (lv_at hl 1 rfl) ?_
          refine lv_aload_n hx hb d_Desk_between_53 rfl (lv_at hl 2 rfl) ?_
          refine va_get (D := D) (ci := 4) (v := .ref rg) (C := R_Desk) (T := F_Desk) (N := 9) hx hb htt i_Desk hown hK hP 6 rfl rfl 0 (by decide) (htt _ kf_Desk_11) (fun _ h9 => h9) rfl d_Desk_between_54 ?_
          refine lv_iload_n hx hb d_Desk_between_57 rfl (lv_at hl 3 rfl) ?_
          obtain ⟨h_1, hm⟩ := sd_mg hm
          refine sd_aald hx hb hK hP 7 rfl h_1 d_Desk_between_58 ?_
          refine sd_topq (hI h_1) ?_
          obtain ⟨r_4, hc, hm⟩ := sd_mb1 hm
          refine sd_ci0 (wr := [(xat, aJ g 8 xT), (xal, aI g 68 uxal), (xah, aI g 68 uxah), (zd, .inr (4, [.ref rg, .ref iv, .ref fe, .ref c1, .ref c2, .ref pg, .ref zl, .ref zh, .ref ds])), (rg, aQ g 8 cRg), (fe, .inr (1, [.ref fr, .ref ft, .ref fs, .long ufe_2, .long ufe_3])), (fr, aI g 132 ufr_1), (ft, aI g 68 uft_1), (fs, aI g 68 ufs_1), (ys, .inr (0, [.ref yat, .ref yab, .ref yar, .ref yal, .ref yah, .int uys, .int yn])), (yat, aJ g 8 yT), (yab, aJ g 8 yB), (yar, aJ g 8 yR), (yal, aI g 68 uyal), (yah, aI g 68 uyah)]) (w2 := [(xat, aJ g 8 xT), (xal, aI g 68 uxal), (xah, aI g 68 uxah), (zd, .inr (4, [.ref rg, .ref iv, .ref fe, .ref c1, .ref c2, .ref pg, .ref zl, .ref zh, .ref ds])), (rg, aQ g 8 cRg), (fe, .inr (1, [.ref fr, .ref ft, .ref fs, .long ufe_2, .long ufe_3])), (fr, aI g 132 ufr_1), (ft, aI g 68 uft_1), (fs, aI g 68 ufs_1), (ys, .inr (0, [.ref yat, .ref yab, .ref yar, .ref yal, .ref yah, .int uys, .int yn])), (yat, aJ g 8 yT), (yab, aJ g 8 yB), (yar, aJ g 8 yR), (yal, aI g 68 uyal), (yah, aI g 68 uyah), (xs, .inr (0, [.ref xat, .ref xab, .ref xar, .ref xal, .ref xah, .int uxs, .int xn])), (xab, aJ g 8 xB), (xar, aJ g 8 xR)]) (sd_runV (rest := [.long r_2]) (As := []) S (ct_Sum_isWhole l D g xs xat xab xar xal xah (H.size) uxs xn xB xR F (r_4) hc) kl_Desk_199 (by decide) (by decide) hK hP hD [0, 2, 3] rfl (by decide) rfl hl d_Desk_between_59 rfl (Nat.le_of_ble_eq_true rfl) ⟨Nat.zero_le _, Nat.zero_le _⟩ 0 rfl rfl) hP hD hS hA [0, 2, 3] [1, 4, 5, 6, 7, 8, 9, 10, 11, 12, 13, 14, 15, 16, 17] rfl rfl (by decide) (by decide) rfl (fun H locs hP hD hS => ?_)
          refine W.eq (g2 := F0 m 62 ls [.int r_4, .long r_2]) rfl ?_
          obtain ⟨y, hv, hm⟩ := sd_mb1 hm
          have J70_2 : ∀ (H : Heap) (locs : List Loc) (ls : Array Slot), va_P D classes [(xat, aJ g 8 xT), (xal, aI g 68 uxal), (xah, aI g 68 uxah), (zd, .inr (4, [.ref rg, .ref iv, .ref fe, .ref c1, .ref c2, .ref pg, .ref zl, .ref zh, .ref ds])), (rg, aQ g 8 cRg), (fe, .inr (1, [.ref fr, .ref ft, .ref fs, .long ufe_2, .long ufe_3])), (fr, aI g 132 ufr_1), (ft, aI g 68 uft_1), (fs, aI g 68 ufs_1), (ys, .inr (0, [.ref yat, .ref yab, .ref yar, .ref yal, .ref yah, .int uys, .int yn])), (yat, aJ g 8 yT), (yab, aJ g 8 yB), (yar, aJ g 8 yR), (yal, aI g 68 uyal), (yah, aI g 68 uyah), (xs, .inr (0, [.ref xat, .ref xab, .ref xar, .ref xal, .ref xah, .int uxs, .int xn])), (xab, aJ g 8 xB), (xar, aJ g 8 xR)] H → va_D A [(xat, aJ g 8 xT), (xal, aI g 68 uxal), (xah, aI g 68 uxah), (zd, .inr (4, [.ref rg, .ref iv, .ref fe, .ref c1, .ref c2, .ref pg, .ref zl, .ref zh, .ref ds])), (rg, aQ g 8 cRg), (fe, .inr (1, [.ref fr, .ref ft, .ref fs, .long ufe_2, .long ufe_3])), (fr, aI g 132 ufr_1), (ft, aI g 68 uft_1), (fs, aI g 68 ufs_1), (ys, .inr (0, [.ref yat, .ref yab, .ref yar, .ref yal, .ref yah, .int uys, .int yn])), (yat, aJ g 8 yT), (yab, aJ g 8 yB), (yar, aJ g 8 yR), (yal, aI g 68 uyal), (yah, aI g 68 uyah), (xs, .inr (0, [.ref xat, .ref xab, .ref xar, .ref xal, .ref xah, .int uxs, .int xn])), (xab, aJ g 8 xB), (xar, aJ g 8 xR)] → va_S A s.heap H locs → lv_has ls 7 [(0, .ref zd), (2, .int vJ), (5, .long r_3)] → W p l e rm_Desk_between s m args below meth c H locs 0 0 Q (F0 m 70 ls [.long y, .long r_2]) := by
            intro H locs ls hP hD hS hl
            refine lv_ladd hx hb d_Desk_between_70 ?_
            obtain ⟨x3, ex3, hm⟩ := sd_mlet hm
            refine sd_topj ex3 ?_
            refine lv_lstore_n (lv' := [(3, .long x3), (0, .ref zd), (2, .int vJ), (5, .long r_3)]) hx hb d_Desk_between_71 rfl hl (by decide) rfl (fun ls hl => ?_)
            refine lv_lload hx hb d_Desk_between_72 (lv_at hl 3 rfl) ?_
            refine lv_aload_n hx hb d_Desk_between_74 rfl (lv_at hl 1 rfl) ?_
            refine va_get (D := D) (ci := 4) (v := .ref rg) (C := R_Desk) (T := F_Desk) (N := 9) hx hb htt i_Desk hown hK hP 3 rfl rfl 0 (by decide) (htt _ kf_Desk_11) (fun _ h9 => h9) rfl d_Desk_between_75 ?_
            refine lv_iload_n hx hb d_Desk_between_78 rfl (lv_at hl 2 rfl) ?_
            obtain ⟨h_3, hm⟩ := sd_mg hm
            refine sd_aald hx hb hK hP 4 rfl h_3 d_Desk_between_79 ?_
            refine sd_topq (hJ h_3) ?_
            obtain ⟨r_5, hc, hm⟩ := sd_mb1 hm
            refine sd_ci0 (wr := [(xat, aJ g 8 xT), (xal, aI g 68 uxal), (xah, aI g 68 uxah), (zd, .inr (4, [.ref rg, .ref iv, .ref fe, .ref c1, .ref c2, .ref pg, .ref zl, .ref zh, .ref ds])), (rg, aQ g 8 cRg), (fe, .inr (1, [.ref fr, .ref ft, .ref fs, .long ufe_2, .long ufe_3])), (fr, aI g 132 ufr_1), (ft, aI g 68 uft_1), (fs, aI g 68 ufs_1), (yat, aJ g 8 yT), (yal, aI g 68 uyal), (yah, aI g 68 uyah), (xs, .inr (0, [.ref xat, .ref xab, .ref xar, .ref xal, .ref xah, .int uxs, .int xn])), (xab, aJ g 8 xB), (xar, aJ g 8 xR)]) (w2 := [(xat, aJ g 8 xT), (xal, aI g 68 uxal), (xah, aI g 68 uxah), (zd, .inr (4, [.ref rg, .ref iv, .ref fe, .ref c1, .ref c2, .ref pg, .ref zl, .ref zh, .ref ds])), (rg, aQ g 8 cRg), (fe, .inr (1, [.ref fr, .ref ft, .ref fs, .long ufe_2, .long ufe_3])), (fr, aI g 132 ufr_1), (ft, aI g 68 uft_1), (fs, aI g 68 ufs_1), (yat, aJ g 8 yT), (yal, aI g 68 uyal), (yah, aI g 68 uyah), (xs, .inr (0, [.ref xat, .ref xab, .ref xar, .ref xal, .ref xah, .int uxs, .int xn])), (xab, aJ g 8 xB), (xar, aJ g 8 xR), (ys, .inr (0, [.ref yat, .ref yab, .ref yar, .ref yal, .ref yah, .int uys, .int yn])), (yab, aJ g 8 yB), (yar, aJ g 8 yR)]) (sd_runV (rest := [.long r_3]) (As := []) S (ct_Sum_isWhole l D g ys yat yab yar yal yah (H.size) uys yn yB yR F (r_5) hc) kl_Desk_199 (by decide) (by decide) hK hP hD [9, 11, 12] rfl (by decide) rfl hl d_Desk_between_80 rfl (Nat.le_of_ble_eq_true rfl) ⟨Nat.zero_le _, Nat.zero_le _⟩ 9 rfl rfl) hP hD hS hA [9, 11, 12] [0, 1, 2, 3, 4, 5, 6, 7, 8, 10, 13, 14, 15, 16, 17] rfl rfl (by decide) (by decide) rfl (fun H locs hP hD hS => ?_)
            refine W.eq (g2 := F0 m 83 ls [.int r_5, .long r_3]) rfl ?_
            obtain ⟨y_1, hv, hm⟩ := sd_mb1 hm
            have J91_4 : ∀ (H : Heap) (locs : List Loc) (ls : Array Slot), va_P D classes [(xat, aJ g 8 xT), (xal, aI g 68 uxal), (xah, aI g 68 uxah), (zd, .inr (4, [.ref rg, .ref iv, .ref fe, .ref c1, .ref c2, .ref pg, .ref zl, .ref zh, .ref ds])), (rg, aQ g 8 cRg), (fe, .inr (1, [.ref fr, .ref ft, .ref fs, .long ufe_2, .long ufe_3])), (fr, aI g 132 ufr_1), (ft, aI g 68 uft_1), (fs, aI g 68 ufs_1), (yat, aJ g 8 yT), (yal, aI g 68 uyal), (yah, aI g 68 uyah), (xs, .inr (0, [.ref xat, .ref xab, .ref xar, .ref xal, .ref xah, .int uxs, .int xn])), (xab, aJ g 8 xB), (xar, aJ g 8 xR), (ys, .inr (0, [.ref yat, .ref yab, .ref yar, .ref yal, .ref yah, .int uys, .int yn])), (yab, aJ g 8 yB), (yar, aJ g 8 yR)] H → va_D A [(xat, aJ g 8 xT), (xal, aI g 68 uxal), (xah, aI g 68 uxah), (zd, .inr (4, [.ref rg, .ref iv, .ref fe, .ref c1, .ref c2, .ref pg, .ref zl, .ref zh, .ref ds])), (rg, aQ g 8 cRg), (fe, .inr (1, [.ref fr, .ref ft, .ref fs, .long ufe_2, .long ufe_3])), (fr, aI g 132 ufr_1), (ft, aI g 68 uft_1), (fs, aI g 68 ufs_1), (yat, aJ g 8 yT), (yal, aI g 68 uyal), (yah, aI g 68 uyah), (xs, .inr (0, [.ref xat, .ref xab, .ref xar, .ref xal, .ref xah, .int uxs, .int xn])), (xab, aJ g 8 xB), (xar, aJ g 8 xR), (ys, .inr (0, [.ref yat, .ref yab, .ref yar, .ref yal, .ref yah, .int uys, .int yn])), (yab, aJ g 8 yB), (yar, aJ g 8 yR)] → va_S A s.heap H locs → lv_has ls 7 [(3, .long x3)] → W p l e rm_Desk_between s m args below meth c H locs 0 0 Q (F0 m 91 ls [.long y_1, .long r_3]) := by
              intro H locs ls hP hD hS hl
              refine lv_ladd hx hb d_Desk_between_91 ?_
              obtain ⟨x5, ex5, hm⟩ := sd_mlet hm
              refine sd_topj ex5 ?_
              refine lv_lstore (lv' := [(5, .long x5), (3, .long x3)]) hx hb d_Desk_between_92 hl (by decide) rfl (fun ls hl => ?_)
              refine lv_lconst (v := (0 : Int64)) hx hb d_Desk_between_94 (by decide) ?_
              refine lv_lload hx hb d_Desk_between_95 (lv_at hl 0 rfl) ?_
              refine lv_lload_n hx hb d_Desk_between_97 rfl (lv_at hl 1 rfl) ?_
              refine lv_lsub hx hb d_Desk_between_98 ?_
              refine sd_maxl hx hb hml hown kl_Desk_202 htt hl d_Desk_between_99 (Nat.le_of_ble_eq_true rfl) (Nat.le_of_ble_eq_true rfl) ?_
              exact sd_l1ret (u := (ufe_2, ufe_3, ufr_1, uft_1, ufs_1, uxs, uxal, uxah, uys, uyal, uyah)) hQ hx hb hr hlk hK (hP.sub [3, 4, 5, 6, 7, 8, 12, 0, 13, 14, 1, 2, 15, 9, 16, 17, 10, 11] rfl) (hD.sub [3, 4, 5, 6, 7, 8, 12, 0, 13, 14, 1, 2, 15, 9, 16, 17, 10, 11] (by decide) rfl) hS (Option.some.inj hm).symm d_Desk_between_102
            replace hm := hv
            refine lv_if_eq (tgt := 90) hx hb d_Desk_between_83 (by decide) (fun hc => ?_) (fun hc => ?_)
            · have hm := sd_mt hc hm
              refine lv_lconst (v := (1 : Int64)) hx hb d_Desk_between_90 (by decide) ?_
              cases hm
              exact J91_4 H locs ls (hP.sub [0, 1, 2, 3, 4, 5, 6, 7, 8, 9, 10, 11, 12, 13, 14, 15, 16, 17] rfl) (hD.sub [0, 1, 2, 3, 4, 5, 6, 7, 8, 9, 10, 11, 12, 13, 14, 15, 16, 17] (by decide) rfl) hS (lv_sub hl [0] rfl)
            · have hm := sd_mf hc hm
              refine lv_lconst (v := (0 : Int64)) hx hb d_Desk_between_86 (by decide) ?_
              refine lv_goto (tgt := 91) hx hb d_Desk_between_87 (by decide) ?_
              cases hm
              exact J91_4 H locs ls (hP.sub [0, 1, 2, 3, 4, 5, 6, 7, 8, 9, 10, 11, 12, 13, 14, 15, 16, 17] rfl) (hD.sub [0, 1, 2, 3, 4, 5, 6, 7, 8, 9, 10, 11, 12, 13, 14, 15, 16, 17] (by decide) rfl) hS (lv_sub hl [0] rfl)
          replace hm := hv
          refine lv_if_eq (tgt := 69) hx hb d_Desk_between_62 (by decide) (fun hc => ?_) (fun hc => ?_)
          · have hm := sd_mt hc hm
            refine lv_lconst (v := (1 : Int64)) hx hb d_Desk_between_69 (by decide) ?_
            cases hm
            exact J70_2 H locs ls (hP.sub [0, 1, 2, 3, 4, 5, 6, 7, 8, 9, 10, 11, 12, 13, 14, 15, 16, 17] rfl) (hD.sub [0, 1, 2, 3, 4, 5, 6, 7, 8, 9, 10, 11, 12, 13, 14, 15, 16, 17] (by decide) rfl) hS (lv_sub hl [2, 4, 0] rfl)
          · have hm := sd_mf hc hm
            refine lv_lconst (v := (0 : Int64)) hx hb d_Desk_between_65 (by decide) ?_
            refine lv_goto (tgt := 70) hx hb d_Desk_between_66 (by decide) ?_
            cases hm
            exact J70_2 H locs ls (hP.sub [0, 1, 2, 3, 4, 5, 6, 7, 8, 9, 10, 11, 12, 13, 14, 15, 16, 17] rfl) (hD.sub [0, 1, 2, 3, 4, 5, 6, 7, 8, 9, 10, 11, 12, 13, 14, 15, 16, 17] (by decide) rfl) hS (lv_sub hl [2, 4, 0] rfl)
        · have hm := sd_mt hc hm
          refine sd_ldc2 (v := (4611686018427387906 : Int64)) hx hb hown (htt _ km_Desk_148) d_Desk_between_48 ?_
          exact sd_l1ret (u := (ufe_2, ufe_3, ufr_1, uft_1, ufs_1, uxs, uxal, uxah, uys, uyal, uyah)) hQ hx hb hr hlk hK (hP.sub [6, 7, 8, 9, 10, 11, 0, 1, 2, 3, 4, 5, 12, 13, 14, 15, 16, 17] rfl) (hD.sub [6, 7, 8, 9, 10, 11, 0, 1, 2, 3, 4, 5, 12, 13, 14, 15, 16, 17] (by decide) rfl) hS (Option.some.inj hm).symm d_Desk_between_51
    · have hm := sd_mt hc hm
      refine sd_ldc2 (v := (4611686018427387904 : Int64)) hx hb hown (htt _ km_Desk_127) d_Desk_between_14 ?_
      exact sd_l1ret (u := (fR, fQ, cfr, cft, cfs, xk, xL, xH, yk, yL, yH)) hQ hx hb hr hlk hK (hP.sub [0, 1, 2, 3, 4, 5, 6, 7, 8, 9, 10, 11, 12, 13, 14, 15, 16, 17] rfl) (hD.sub [0, 1, 2, 3, 4, 5, 6, 7, 8, 9, 10, 11, 12, 13, 14, 15, 16, 17] (by decide) rfl) hS (Option.some.inj hm).symm d_Desk_between_17
theorem d_Desk_term_0 : decode b_Desk_term 0 = .ok (.iload_n 1, 1) := by decide +kernel
theorem d_Desk_term_1 : decode b_Desk_term 1 = .ok (.invokestatic 56, 3) := by decide +kernel
theorem d_Desk_term_4 : decode b_Desk_term 4 = .ok (.ifCond .eq 20, 3) := by decide +kernel
theorem d_Desk_term_7 : decode b_Desk_term 7 = .ok (.iload_n 2, 1) := by decide +kernel
theorem d_Desk_term_8 : decode b_Desk_term 8 = .ok (.ifCond .lt 16, 3) := by decide +kernel
theorem d_Desk_term_11 : decode b_Desk_term 11 = .ok (.iload_n 2, 1) := by decide +kernel
theorem d_Desk_term_12 : decode b_Desk_term 12 = .ok (.aload_n 0, 1) := by decide +kernel
theorem d_Desk_term_13 : decode b_Desk_term 13 = .ok (.getfield 11, 3) := by decide +kernel
theorem d_Desk_term_16 : decode b_Desk_term 16 = .ok (.iload_n 1, 1) := by decide +kernel
theorem d_Desk_term_17 : decode b_Desk_term 17 = .ok (.aaload, 1) := by decide +kernel
theorem d_Desk_term_18 : decode b_Desk_term 18 = .ok (.invokevirtual 106, 3) := by decide +kernel
theorem d_Desk_term_21 : decode b_Desk_term 21 = .ok (.if_icmp .lt 6, 3) := by decide +kernel
theorem d_Desk_term_24 : decode b_Desk_term 24 = .ok (.bipush (-2), 2) := by decide +kernel
theorem d_Desk_term_26 : decode b_Desk_term 26 = .ok (.ireturn, 1) := by decide +kernel
theorem d_Desk_term_27 : decode b_Desk_term 27 = .ok (.iload_n 3, 1) := by decide +kernel
theorem d_Desk_term_28 : decode b_Desk_term 28 = .ok (.tableswitch 67 0 2 #[28, 41, 54], 28) := by decide +kernel
theorem d_Desk_term_56 : decode b_Desk_term 56 = .ok (.aload_n 0, 1) := by decide +kernel
theorem d_Desk_term_57 : decode b_Desk_term 57 = .ok (.getfield 11, 3) := by decide +kernel
theorem d_Desk_term_60 : decode b_Desk_term 60 = .ok (.iload_n 1, 1) := by decide +kernel
theorem d_Desk_term_61 : decode b_Desk_term 61 = .ok (.aaload, 1) := by decide +kernel
theorem d_Desk_term_62 : decode b_Desk_term 62 = .ok (.getfield 205, 3) := by decide +kernel
theorem d_Desk_term_65 : decode b_Desk_term 65 = .ok (.iload_n 2, 1) := by decide +kernel
theorem d_Desk_term_66 : decode b_Desk_term 66 = .ok (.laload, 1) := by decide +kernel
theorem d_Desk_term_67 : decode b_Desk_term 67 = .ok (.l2i, 1) := by decide +kernel
theorem d_Desk_term_68 : decode b_Desk_term 68 = .ok (.ireturn, 1) := by decide +kernel
theorem d_Desk_term_69 : decode b_Desk_term 69 = .ok (.aload_n 0, 1) := by decide +kernel
theorem d_Desk_term_70 : decode b_Desk_term 70 = .ok (.getfield 11, 3) := by decide +kernel
theorem d_Desk_term_73 : decode b_Desk_term 73 = .ok (.iload_n 1, 1) := by decide +kernel
theorem d_Desk_term_74 : decode b_Desk_term 74 = .ok (.aaload, 1) := by decide +kernel
theorem d_Desk_term_75 : decode b_Desk_term 75 = .ok (.getfield 209, 3) := by decide +kernel
theorem d_Desk_term_78 : decode b_Desk_term 78 = .ok (.iload_n 2, 1) := by decide +kernel
theorem d_Desk_term_79 : decode b_Desk_term 79 = .ok (.laload, 1) := by decide +kernel
theorem d_Desk_term_80 : decode b_Desk_term 80 = .ok (.l2i, 1) := by decide +kernel
theorem d_Desk_term_81 : decode b_Desk_term 81 = .ok (.ireturn, 1) := by decide +kernel
theorem d_Desk_term_82 : decode b_Desk_term 82 = .ok (.aload_n 0, 1) := by decide +kernel
theorem d_Desk_term_83 : decode b_Desk_term 83 = .ok (.getfield 11, 3) := by decide +kernel
theorem d_Desk_term_86 : decode b_Desk_term 86 = .ok (.iload_n 1, 1) := by decide +kernel
theorem d_Desk_term_87 : decode b_Desk_term 87 = .ok (.aaload, 1) := by decide +kernel
theorem d_Desk_term_88 : decode b_Desk_term 88 = .ok (.getfield 212, 3) := by decide +kernel
theorem d_Desk_term_91 : decode b_Desk_term 91 = .ok (.iload_n 2, 1) := by decide +kernel
theorem d_Desk_term_92 : decode b_Desk_term 92 = .ok (.laload, 1) := by decide +kernel
theorem d_Desk_term_93 : decode b_Desk_term 93 = .ok (.l2i, 1) := by decide +kernel
theorem d_Desk_term_94 : decode b_Desk_term 94 = .ok (.ireturn, 1) := by decide +kernel
theorem d_Desk_term_95 : decode b_Desk_term 95 = .ok (.bipush (-2), 2) := by decide +kernel
theorem d_Desk_term_97 : decode b_Desk_term 97 = .ok (.ireturn, 1) := by decide +kernel
def mf_Desk_term (F : Nat) (vI : Int32) (vK : Int32) (vWhat : Int32) (cRg : Nat → Option Nat) (xk : Int32) (xn : Int32) (xT : Nat → Int64) (xB : Nat → Int64) (xR : Nat → Int64) : Option (Int32) :=
  (sd_b1 (mf_Desk_isRegister F vI) fun r => (if r = 0 then (some ((-2 : Int32))) else (if vK < 0 then (some ((-2 : Int32))) else (sd_g (sd_ix vI 8) (sd_b1 (mf_Sum_count F xk xn) fun r_1 => (if vK < r_1 then (if vWhat = (0 : Int32) then (sd_g (sd_ix vI 8) (sd_g (sd_ix vK 8) (some (((xT vK.toNatClampNeg).toInt32))))) else (if vWhat = (1 : Int32) then (sd_g (sd_ix vI 8) (sd_g (sd_ix vK 8) (some (((xB vK.toNatClampNeg).toInt32))))) else (if vWhat = (2 : Int32) then (sd_g (sd_ix vI 8) (sd_g (sd_ix vK 8) (some (((xR vK.toNatClampNeg).toInt32))))) else (some ((-2 : Int32)))))) else (some ((-2 : Int32)))))))))
abbrev rm_Desk_term : Room := { frames := 1, cells := 0, slots := 0, locals := 20 }
set_option maxHeartbeats 4000000 in
set_option maxRecDepth 100000 in
theorem ct_Desk_term (l : Launch) (D : va_G) (g : G4) (zd : Nat) (rg : Nat) (iv : Nat) (fe : Nat) (c1 : Nat) (c2 : Nat) (pg : Nat) (zl : Nat) (zh : Nat) (ds : Nat) (xs : Nat) (xat : Nat) (xab : Nat) (xar : Nat) (xal : Nat) (xah : Nat) (sz : Nat) (vI : Int32) (vK : Int32) (vWhat : Int32) (cRg : Nat → Option Nat) (xk : Int32) (xn : Int32) (xT : Nat → Int64) (xB : Nat → Int64) (xR : Nat → Int64) (F : Nat) (res : Int32) (hm : mf_Desk_term F vI vK vWhat cRg xk xn xT xB xR = some res) (hI : sd_ix vI 8 = true → cRg vI.toNatClampNeg = some xs) : Met l y_Desk_term (.code y_Desk_term b_Desk_term 4 (some .int) :: sd_tb) rm_Desk_term (sd_PW D g [.ref zd, .int vI, .int vK, .int vWhat] sz [(zd, .inr (4, [.ref rg, .ref iv, .ref fe, .ref c1, .ref c2, .ref pg, .ref zl, .ref zh, .ref ds])), (rg, aQ g 8 cRg), (xs, .inr (0, [.ref xat, .ref xab, .ref xar, .ref xal, .ref xah, .int xk, .int xn])), (xat, aJ g 8 xT), (xab, aJ g 8 xB), (xar, aJ g 8 xR)]) (sd_Qi0 D g res [(zd, .inr (4, [.ref rg, .ref iv, .ref fe, .ref c1, .ref c2, .ref pg, .ref zl, .ref zh, .ref ds])), (rg, aQ g 8 cRg), (xs, .inr (0, [.ref xat, .ref xab, .ref xar, .ref xal, .ref xah, .int xk, .int xn])), (xat, aJ g 8 xT), (xab, aJ g 8 xB), (xar, aJ g 8 xR)] (va_A [(zd, .inr (4, [.ref rg, .ref iv, .ref fe, .ref c1, .ref c2, .ref pg, .ref zl, .ref zh, .ref ds])), (rg, aQ g 8 cRg), (xs, .inr (0, [.ref xat, .ref xab, .ref xar, .ref xal, .ref xah, .int xk, .int xn])), (xat, aJ g 8 xT), (xab, aJ g 8 xB), (xar, aJ g 8 xR)] sz)) 0 0 (va_A [(zd, .inr (4, [.ref rg, .ref iv, .ref fe, .ref c1, .ref c2, .ref pg, .ref zl, .ref zh, .ref ds])), (rg, aQ g 8 cRg), (xs, .inr (0, [.ref xat, .ref xab, .ref xar, .ref xal, .ref xah, .int xk, .int xn])), (xat, aJ g 8 xT), (xab, aJ g 8 xB), (xar, aJ g 8 xR)] sz) := by
  refine sd_met (Qf := fun A => sd_Qi0 D g res [(zd, .inr (4, [.ref rg, .ref iv, .ref fe, .ref c1, .ref c2, .ref pg, .ref zl, .ref zh, .ref ds])), (rg, aQ g 8 cRg), (xs, .inr (0, [.ref xat, .ref xab, .ref xar, .ref xal, .ref xah, .int xk, .int xn])), (xat, aJ g 8 xT), (xab, aJ g 8 xB), (xar, aJ g 8 xR)] A) (own := R_Desk) (by decide +kernel) rfl (Nat.le_of_ble_eq_true rfl) ?_
  intro p e s m args below meth c S hr hlk hK A hA Q hQ H locs hP hD hS ls hl
  have hx := S.1
  have hb := S.2.1
  have hml := S.2.2.1
  have hown := S.2.2.2.1
  have htt := sd_tt S
  replace hl : lv_has ls 4 [(0, .ref zd), (1, .int vI), (2, .int vK), (3, .int vWhat)] := hl
  unfold mf_Desk_term at hm
  refine lv_iload_n hx hb d_Desk_term_0 rfl (lv_at hl 1 rfl) ?_
  obtain ⟨r, hc, hm⟩ := sd_mb1 hm
  refine sd_ci0 (wr := [(zd, .inr (4, [.ref rg, .ref iv, .ref fe, .ref c1, .ref c2, .ref pg, .ref zl, .ref zh, .ref ds])), (rg, aQ g 8 cRg), (xs, .inr (0, [.ref xat, .ref xab, .ref xar, .ref xal, .ref xah, .int xk, .int xn])), (xat, aJ g 8 xT), (xab, aJ g 8 xB), (xar, aJ g 8 xR)]) (w2 := [(zd, .inr (4, [.ref rg, .ref iv, .ref fe, .ref c1, .ref c2, .ref pg, .ref zl, .ref zh, .ref ds])), (rg, aQ g 8 cRg), (xs, .inr (0, [.ref xat, .ref xab, .ref xar, .ref xal, .ref xah, .int xk, .int xn])), (xat, aJ g 8 xT), (xab, aJ g 8 xB), (xar, aJ g 8 xR)]) (sd_runS (rest := []) (As := [.int vI]) S (ct_Desk_isRegister l D g (H.size) vI F (r) hc) kl_Desk_56 (by decide) (by decide) hK hP hD [] rfl (by decide) rfl hl d_Desk_term_1 rfl (Nat.le_of_ble_eq_true rfl) ⟨Nat.zero_le _, Nat.zero_le _⟩) hP hD hS hA [] [0, 1, 2, 3, 4, 5] rfl rfl (by decide) (by decide) rfl (fun H locs hP hD hS => ?_)
  refine W.eq (g2 := F0 m 4 ls [.int r]) rfl ?_
  refine lv_if_eq (tgt := 24) hx hb d_Desk_term_4 (by decide) (fun hc => ?_) (fun hc => ?_)
  · have hm := sd_mt hc hm
    refine lv_bipush (v := (-2 : Int32)) hx hb d_Desk_term_24 (by decide) ?_
    exact sd_i0ret hQ hx hb hr hlk hK (hP.sub [0, 1, 2, 3, 4, 5] rfl) (hD.sub [0, 1, 2, 3, 4, 5] (by decide) rfl) hS (Option.some.inj hm).symm d_Desk_term_26
  · have hm := sd_mf hc hm
    refine lv_iload_n hx hb d_Desk_term_7 rfl (lv_at hl 2 rfl) ?_
    refine lv_if_lt (tgt := 24) hx hb d_Desk_term_8 (by decide) (fun hc => ?_) (fun hc => ?_)
    · have hm := sd_mt hc hm
      refine lv_bipush (v := (-2 : Int32)) hx hb d_Desk_term_24 (by decide) ?_
      exact sd_i0ret hQ hx hb hr hlk hK (hP.sub [0, 1, 2, 3, 4, 5] rfl) (hD.sub [0, 1, 2, 3, 4, 5] (by decide) rfl) hS (Option.some.inj hm).symm d_Desk_term_26
    · have hm := sd_mf hc hm
      refine lv_iload_n hx hb d_Desk_term_11 rfl (lv_at hl 2 rfl) ?_
      refine lv_aload_n hx hb d_Desk_term_12 rfl (lv_at hl 0 rfl) ?_
      refine va_get (D := D) (ci := 4) (v := .ref rg) (C := R_Desk) (T := F_Desk) (N := 9) hx hb htt i_Desk hown hK hP 0 rfl rfl 0 (by decide) (htt _ kf_Desk_11) (fun _ h9 => h9) rfl d_Desk_term_13 ?_
      refine lv_iload_n hx hb d_Desk_term_16 rfl (lv_at hl 1 rfl) ?_
      obtain ⟨h_1, hm⟩ := sd_mg hm
      refine sd_aald hx hb hK hP 1 rfl h_1 d_Desk_term_17 ?_
      refine sd_topq (hI h_1) ?_
      obtain ⟨r_1, hc, hm⟩ := sd_mb1 hm
      refine sd_ci0 (wr := [(zd, .inr (4, [.ref rg, .ref iv, .ref fe, .ref c1, .ref c2, .ref pg, .ref zl, .ref zh, .ref ds])), (rg, aQ g 8 cRg), (xat, aJ g 8 xT), (xab, aJ g 8 xB), (xar, aJ g 8 xR)]) (w2 := [(zd, .inr (4, [.ref rg, .ref iv, .ref fe, .ref c1, .ref c2, .ref pg, .ref zl, .ref zh, .ref ds])), (rg, aQ g 8 cRg), (xat, aJ g 8 xT), (xab, aJ g 8 xB), (xar, aJ g 8 xR), (xs, .inr (0, [.ref xat, .ref xab, .ref xar, .ref xal, .ref xah, .int xk, .int xn]))]) (sd_runV (rest := [.int vK]) (As := []) S (ct_Sum_count l D g xs xat xab xar xal xah (H.size) xk xn F (r_1) hc) kl_Desk_106 (by decide) (by decide) hK hP hD [2] rfl (by decide) rfl hl d_Desk_term_18 rfl (Nat.le_of_ble_eq_true rfl) ⟨Nat.zero_le _, Nat.zero_le _⟩ 2 rfl rfl) hP hD hS hA [2] [0, 1, 3, 4, 5] rfl rfl (by decide) (by decide) rfl (fun H locs hP hD hS => ?_)
      refine W.eq (g2 := F0 m 21 ls [.int r_1, .int vK]) rfl ?_
      refine lv_icmp_lt (tgt := 27) hx hb d_Desk_term_21 (by decide) (fun hc => ?_) (fun hc => ?_)
      · have hm := sd_mt hc hm
        refine lv_iload_n hx hb d_Desk_term_27 rfl (lv_at hl 3 rfl) ?_
        by_cases hs0 : vWhat = (0 : Int32)
        · have hm := sd_mt hs0 hm
          refine lv_tableIn (tgt := 56) hx hb d_Desk_term_28 (by rw [hs0]; decide) (by rw [hs0]; decide) (by rw [hs0]; rfl) (by decide) ?_
          refine lv_aload_n hx hb d_Desk_term_56 rfl (lv_at hl 0 rfl) ?_
          refine va_get (D := D) (ci := 4) (v := .ref rg) (C := R_Desk) (T := F_Desk) (N := 9) hx hb htt i_Desk hown hK hP 0 rfl rfl 0 (by decide) (htt _ kf_Desk_11) (fun _ h9 => h9) rfl d_Desk_term_57 ?_
          refine lv_iload_n hx hb d_Desk_term_60 rfl (lv_at hl 1 rfl) ?_
          obtain ⟨h_2, hm⟩ := sd_mg hm
          refine sd_aald hx hb hK hP 1 rfl h_2 d_Desk_term_61 ?_
          refine sd_topq (hI h_2) ?_
          refine va_get (D := D) (ci := 0) (v := .ref xat) (C := R_Sum) (T := F_Sum) (N := 7) hx hb htt i_Sum hown hK hP 5 rfl rfl 0 (by decide) (htt _ kf_Desk_205) (fun _ h9 => h9) rfl d_Desk_term_62 ?_
          refine lv_iload_n hx hb d_Desk_term_65 rfl (lv_at hl 2 rfl) ?_
          obtain ⟨h_3, hm⟩ := sd_mg hm
          refine sd_lald hx hb hK hP 2 rfl h_3 d_Desk_term_66 ?_
          refine lv_l2i hx hb d_Desk_term_67 rfl ?_
          exact sd_i0ret hQ hx hb hr hlk hK (hP.sub [0, 1, 5, 2, 3, 4] rfl) (hD.sub [0, 1, 5, 2, 3, 4] (by decide) rfl) hS (Option.some.inj hm).symm d_Desk_term_68
        have hm := sd_mf hs0 hm
        by_cases hs1 : vWhat = (1 : Int32)
        · have hm := sd_mt hs1 hm
          refine lv_tableIn (tgt := 69) hx hb d_Desk_term_28 (by rw [hs1]; decide) (by rw [hs1]; decide) (by rw [hs1]; rfl) (by decide) ?_
          refine lv_aload_n hx hb d_Desk_term_69 rfl (lv_at hl 0 rfl) ?_
          refine va_get (D := D) (ci := 4) (v := .ref rg) (C := R_Desk) (T := F_Desk) (N := 9) hx hb htt i_Desk hown hK hP 0 rfl rfl 0 (by decide) (htt _ kf_Desk_11) (fun _ h9 => h9) rfl d_Desk_term_70 ?_
          refine lv_iload_n hx hb d_Desk_term_73 rfl (lv_at hl 1 rfl) ?_
          obtain ⟨h_4, hm⟩ := sd_mg hm
          refine sd_aald hx hb hK hP 1 rfl h_4 d_Desk_term_74 ?_
          refine sd_topq (hI h_4) ?_
          refine va_get (D := D) (ci := 0) (v := .ref xab) (C := R_Sum) (T := F_Sum) (N := 7) hx hb htt i_Sum hown hK hP 5 rfl rfl 1 (by decide) (htt _ kf_Desk_209) (fun _ h9 => h9) rfl d_Desk_term_75 ?_
          refine lv_iload_n hx hb d_Desk_term_78 rfl (lv_at hl 2 rfl) ?_
          obtain ⟨h_5, hm⟩ := sd_mg hm
          refine sd_lald hx hb hK hP 3 rfl h_5 d_Desk_term_79 ?_
          refine lv_l2i hx hb d_Desk_term_80 rfl ?_
          exact sd_i0ret hQ hx hb hr hlk hK (hP.sub [0, 1, 5, 2, 3, 4] rfl) (hD.sub [0, 1, 5, 2, 3, 4] (by decide) rfl) hS (Option.some.inj hm).symm d_Desk_term_81
        have hm := sd_mf hs1 hm
        by_cases hs2 : vWhat = (2 : Int32)
        · have hm := sd_mt hs2 hm
          refine lv_tableIn (tgt := 82) hx hb d_Desk_term_28 (by rw [hs2]; decide) (by rw [hs2]; decide) (by rw [hs2]; rfl) (by decide) ?_
          refine lv_aload_n hx hb d_Desk_term_82 rfl (lv_at hl 0 rfl) ?_
          refine va_get (D := D) (ci := 4) (v := .ref rg) (C := R_Desk) (T := F_Desk) (N := 9) hx hb htt i_Desk hown hK hP 0 rfl rfl 0 (by decide) (htt _ kf_Desk_11) (fun _ h9 => h9) rfl d_Desk_term_83 ?_
          refine lv_iload_n hx hb d_Desk_term_86 rfl (lv_at hl 1 rfl) ?_
          obtain ⟨h_6, hm⟩ := sd_mg hm
          refine sd_aald hx hb hK hP 1 rfl h_6 d_Desk_term_87 ?_
          refine sd_topq (hI h_6) ?_
          refine va_get (D := D) (ci := 0) (v := .ref xar) (C := R_Sum) (T := F_Sum) (N := 7) hx hb htt i_Sum hown hK hP 5 rfl rfl 2 (by decide) (htt _ kf_Desk_212) (fun _ h9 => h9) rfl d_Desk_term_88 ?_
          refine lv_iload_n hx hb d_Desk_term_91 rfl (lv_at hl 2 rfl) ?_
          obtain ⟨h_7, hm⟩ := sd_mg hm
          refine sd_lald hx hb hK hP 4 rfl h_7 d_Desk_term_92 ?_
          refine lv_l2i hx hb d_Desk_term_93 rfl ?_
          exact sd_i0ret hQ hx hb hr hlk hK (hP.sub [0, 1, 5, 2, 3, 4] rfl) (hD.sub [0, 1, 5, 2, 3, 4] (by decide) rfl) hS (Option.some.inj hm).symm d_Desk_term_94
        have hm := sd_mf hs2 hm
        refine lv_tableOut (tgt := 95) hx hb d_Desk_term_28 (sd_out0_2 hs0 hs1 hs2) (by decide) ?_
        refine lv_bipush (v := (-2 : Int32)) hx hb d_Desk_term_95 (by decide) ?_
        exact sd_i0ret hQ hx hb hr hlk hK (hP.sub [0, 1, 5, 2, 3, 4] rfl) (hD.sub [0, 1, 5, 2, 3, 4] (by decide) rfl) hS (Option.some.inj hm).symm d_Desk_term_97
      · have hm := sd_mf hc hm
        refine lv_bipush (v := (-2 : Int32)) hx hb d_Desk_term_24 (by decide) ?_
        exact sd_i0ret hQ hx hb hr hlk hK (hP.sub [0, 1, 5, 2, 3, 4] rfl) (hD.sub [0, 1, 5, 2, 3, 4] (by decide) rfl) hS (Option.some.inj hm).symm d_Desk_term_26
theorem d_Desk_terms_0 : decode b_Desk_terms 0 = .ok (.iload_n 1, 1) := by decide +kernel
theorem d_Desk_terms_1 : decode b_Desk_terms 1 = .ok (.invokestatic 56, 3) := by decide +kernel
theorem d_Desk_terms_4 : decode b_Desk_terms 4 = .ok (.ifCond .eq 15, 3) := by decide +kernel
theorem d_Desk_terms_7 : decode b_Desk_terms 7 = .ok (.aload_n 0, 1) := by decide +kernel
theorem d_Desk_terms_8 : decode b_Desk_terms 8 = .ok (.getfield 11, 3) := by decide +kernel
theorem d_Desk_terms_11 : decode b_Desk_terms 11 = .ok (.iload_n 1, 1) := by decide +kernel
theorem d_Desk_terms_12 : decode b_Desk_terms 12 = .ok (.aaload, 1) := by decide +kernel
theorem d_Desk_terms_13 : decode b_Desk_terms 13 = .ok (.invokevirtual 106, 3) := by decide +kernel
theorem d_Desk_terms_16 : decode b_Desk_terms 16 = .ok (.goto 5, 3) := by decide +kernel
theorem d_Desk_terms_19 : decode b_Desk_terms 19 = .ok (.bipush (-2), 2) := by decide +kernel
theorem d_Desk_terms_21 : decode b_Desk_terms 21 = .ok (.ireturn, 1) := by decide +kernel
def mf_Desk_terms (F : Nat) (vI : Int32) (cRg : Nat → Option Nat) (xk : Int32) (xn : Int32) : Option (Int32) :=
  (sd_b1 (mf_Desk_isRegister F vI) fun r => (sd_b1 (if r = 0 then (some ((-2 : Int32))) else (sd_g (sd_ix vI 8) (sd_b1 (mf_Sum_count F xk xn) fun r_1 => (some (r_1))))) fun y => (some (y))))
abbrev rm_Desk_terms : Room := { frames := 1, cells := 0, slots := 0, locals := 20 }
set_option maxHeartbeats 4000000 in
set_option maxRecDepth 100000 in
theorem ct_Desk_terms (l : Launch) (D : va_G) (g : G4) (zd : Nat) (rg : Nat) (iv : Nat) (fe : Nat) (c1 : Nat) (c2 : Nat) (pg : Nat) (zl : Nat) (zh : Nat) (ds : Nat) (xs : Nat) (xat : Nat) (xab : Nat) (xar : Nat) (xal : Nat) (xah : Nat) (sz : Nat) (vI : Int32) (cRg : Nat → Option Nat) (xk : Int32) (xn : Int32) (F : Nat) (res : Int32) (hm : mf_Desk_terms F vI cRg xk xn = some res) (hI : sd_ix vI 8 = true → cRg vI.toNatClampNeg = some xs) : Met l y_Desk_terms (.code y_Desk_terms b_Desk_terms 2 (some .int) :: sd_tb) rm_Desk_terms (sd_PW D g [.ref zd, .int vI] sz [(zd, .inr (4, [.ref rg, .ref iv, .ref fe, .ref c1, .ref c2, .ref pg, .ref zl, .ref zh, .ref ds])), (rg, aQ g 8 cRg), (xs, .inr (0, [.ref xat, .ref xab, .ref xar, .ref xal, .ref xah, .int xk, .int xn]))]) (sd_Qi0 D g res [(zd, .inr (4, [.ref rg, .ref iv, .ref fe, .ref c1, .ref c2, .ref pg, .ref zl, .ref zh, .ref ds])), (rg, aQ g 8 cRg), (xs, .inr (0, [.ref xat, .ref xab, .ref xar, .ref xal, .ref xah, .int xk, .int xn]))] (va_A [(zd, .inr (4, [.ref rg, .ref iv, .ref fe, .ref c1, .ref c2, .ref pg, .ref zl, .ref zh, .ref ds])), (rg, aQ g 8 cRg), (xs, .inr (0, [.ref xat, .ref xab, .ref xar, .ref xal, .ref xah, .int xk, .int xn]))] sz)) 0 0 (va_A [(zd, .inr (4, [.ref rg, .ref iv, .ref fe, .ref c1, .ref c2, .ref pg, .ref zl, .ref zh, .ref ds])), (rg, aQ g 8 cRg), (xs, .inr (0, [.ref xat, .ref xab, .ref xar, .ref xal, .ref xah, .int xk, .int xn]))] sz) := by
  refine sd_met (Qf := fun A => sd_Qi0 D g res [(zd, .inr (4, [.ref rg, .ref iv, .ref fe, .ref c1, .ref c2, .ref pg, .ref zl, .ref zh, .ref ds])), (rg, aQ g 8 cRg), (xs, .inr (0, [.ref xat, .ref xab, .ref xar, .ref xal, .ref xah, .int xk, .int xn]))] A) (own := R_Desk) (by decide +kernel) rfl (Nat.le_of_ble_eq_true rfl) ?_
  intro p e s m args below meth c S hr hlk hK A hA Q hQ H locs hP hD hS ls hl
  have hx := S.1
  have hb := S.2.1
  have hml := S.2.2.1
  have hown := S.2.2.2.1
  have htt := sd_tt S
  replace hl : lv_has ls 2 [(0, .ref zd), (1, .int vI)] := hl
  unfold mf_Desk_terms at hm
  refine lv_iload_n hx hb d_Desk_terms_0 rfl (lv_at hl 1 rfl) ?_
  obtain ⟨r, hc, hm⟩ := sd_mb1 hm
  refine sd_ci0 (wr := [(zd, .inr (4, [.ref rg, .ref iv, .ref fe, .ref c1, .ref c2, .ref pg, .ref zl, .ref zh, .ref ds])), (rg, aQ g 8 cRg), (xs, .inr (0, [.ref xat, .ref xab, .ref xar, .ref xal, .ref xah, .int xk, .int xn]))]) (w2 := [(zd, .inr (4, [.ref rg, .ref iv, .ref fe, .ref c1, .ref c2, .ref pg, .ref zl, .ref zh, .ref ds])), (rg, aQ g 8 cRg), (xs, .inr (0, [.ref xat, .ref xab, .ref xar, .ref xal, .ref xah, .int xk, .int xn]))]) (sd_runS (rest := []) (As := [.int vI]) S (ct_Desk_isRegister l D g (H.size) vI F (r) hc) kl_Desk_56 (by decide) (by decide) hK hP hD [] rfl (by decide) rfl hl d_Desk_terms_1 rfl (Nat.le_of_ble_eq_true rfl) ⟨Nat.zero_le _, Nat.zero_le _⟩) hP hD hS hA [] [0, 1, 2] rfl rfl (by decide) (by decide) rfl (fun H locs hP hD hS => ?_)
  refine W.eq (g2 := F0 m 4 ls [.int r]) rfl ?_
  obtain ⟨y, hv, hm⟩ := sd_mb1 hm
  have J21_1 : ∀ (H : Heap) (locs : List Loc) (ls : Array Slot), va_P D classes [(zd, .inr (4, [.ref rg, .ref iv, .ref fe, .ref c1, .ref c2, .ref pg, .ref zl, .ref zh, .ref ds])), (rg, aQ g 8 cRg), (xs, .inr (0, [.ref xat, .ref xab, .ref xar, .ref xal, .ref xah, .int xk, .int xn]))] H → va_D A [(zd, .inr (4, [.ref rg, .ref iv, .ref fe, .ref c1, .ref c2, .ref pg, .ref zl, .ref zh, .ref ds])), (rg, aQ g 8 cRg), (xs, .inr (0, [.ref xat, .ref xab, .ref xar, .ref xal, .ref xah, .int xk, .int xn]))] → va_S A s.heap H locs → lv_has ls 2 [] → W p l e rm_Desk_terms s m args below meth c H locs 0 0 Q (F0 m 21 ls [.int y]) := by
    intro H locs ls hP hD hS hl
    exact sd_i0ret hQ hx hb hr hlk hK (hP.sub [0, 1, 2] rfl) (hD.sub [0, 1, 2] (by decide) rfl) hS (Option.some.inj hm).symm d_Desk_terms_21
  replace hm := hv
  refine lv_if_eq (tgt := 19) hx hb d_Desk_terms_4 (by decide) (fun hc => ?_) (fun hc => ?_)
  · have hm := sd_mt hc hm
    refine lv_bipush (v := (-2 : Int32)) hx hb d_Desk_terms_19 (by decide) ?_
    cases hm
    exact J21_1 H locs ls (hP.sub [0, 1, 2] rfl) (hD.sub [0, 1, 2] (by decide) rfl) hS (lv_sub hl [] rfl)
  · have hm := sd_mf hc hm
    refine lv_aload_n hx hb d_Desk_terms_7 rfl (lv_at hl 0 rfl) ?_
    refine va_get (D := D) (ci := 4) (v := .ref rg) (C := R_Desk) (T := F_Desk) (N := 9) hx hb htt i_Desk hown hK hP 0 rfl rfl 0 (by decide) (htt _ kf_Desk_11) (fun _ h9 => h9) rfl d_Desk_terms_8 ?_
    refine lv_iload_n hx hb d_Desk_terms_11 rfl (lv_at hl 1 rfl) ?_
    obtain ⟨h_2, hm⟩ := sd_mg hm
    refine sd_aald hx hb hK hP 1 rfl h_2 d_Desk_terms_12 ?_
    refine sd_topq (hI h_2) ?_
    obtain ⟨r_1, hc, hm⟩ := sd_mb1 hm
    refine sd_ci0 (wr := [(zd, .inr (4, [.ref rg, .ref iv, .ref fe, .ref c1, .ref c2, .ref pg, .ref zl, .ref zh, .ref ds])), (rg, aQ g 8 cRg)]) (w2 := [(zd, .inr (4, [.ref rg, .ref iv, .ref fe, .ref c1, .ref c2, .ref pg, .ref zl, .ref zh, .ref ds])), (rg, aQ g 8 cRg), (xs, .inr (0, [.ref xat, .ref xab, .ref xar, .ref xal, .ref xah, .int xk, .int xn]))]) (sd_runV (rest := []) (As := []) S (ct_Sum_count l D g xs xat xab xar xal xah (H.size) xk xn F (r_1) hc) kl_Desk_106 (by decide) (by decide) hK hP hD [2] rfl (by decide) rfl hl d_Desk_terms_13 rfl (Nat.le_of_ble_eq_true rfl) ⟨Nat.zero_le _, Nat.zero_le _⟩ 2 rfl rfl) hP hD hS hA [2] [0, 1] rfl rfl (by decide) (by decide) rfl (fun H locs hP hD hS => ?_)
    refine W.eq (g2 := F0 m 16 ls [.int r_1]) rfl ?_
    refine lv_goto (tgt := 21) hx hb d_Desk_terms_16 (by decide) ?_
    cases hm
    exact J21_1 H locs ls (hP.sub [0, 1, 2] rfl) (hD.sub [0, 1, 2] (by decide) rfl) hS (lv_sub hl [] rfl)
theorem d_Desk_same_0 : decode b_Desk_same 0 = .ok (.iload_n 1, 1) := by decide +kernel
theorem d_Desk_same_1 : decode b_Desk_same 1 = .ok (.invokestatic 56, 3) := by decide +kernel
theorem d_Desk_same_4 : decode b_Desk_same 4 = .ok (.ifCond .eq 32, 3) := by decide +kernel
theorem d_Desk_same_7 : decode b_Desk_same 7 = .ok (.iload_n 2, 1) := by decide +kernel
theorem d_Desk_same_8 : decode b_Desk_same 8 = .ok (.invokestatic 56, 3) := by decide +kernel
theorem d_Desk_same_11 : decode b_Desk_same 11 = .ok (.ifCond .eq 25, 3) := by decide +kernel
theorem d_Desk_same_14 : decode b_Desk_same 14 = .ok (.aload_n 0, 1) := by decide +kernel
theorem d_Desk_same_15 : decode b_Desk_same 15 = .ok (.getfield 11, 3) := by decide +kernel
theorem d_Desk_same_18 : decode b_Desk_same 18 = .ok (.iload_n 1, 1) := by decide +kernel
theorem d_Desk_same_19 : decode b_Desk_same 19 = .ok (.aaload, 1) := by decide +kernel
theorem d_Desk_same_20 : decode b_Desk_same 20 = .ok (.aload_n 0, 1) := by decide +kernel
theorem d_Desk_same_21 : decode b_Desk_same 21 = .ok (.getfield 11, 3) := by decide +kernel
theorem d_Desk_same_24 : decode b_Desk_same 24 = .ok (.iload_n 2, 1) := by decide +kernel
theorem d_Desk_same_25 : decode b_Desk_same 25 = .ok (.aaload, 1) := by decide +kernel
theorem d_Desk_same_26 : decode b_Desk_same 26 = .ok (.invokevirtual 114, 3) := by decide +kernel
theorem d_Desk_same_29 : decode b_Desk_same 29 = .ok (.ifCond .eq 7, 3) := by decide +kernel
theorem d_Desk_same_32 : decode b_Desk_same 32 = .ok (.iconst 1, 1) := by decide +kernel
theorem d_Desk_same_33 : decode b_Desk_same 33 = .ok (.goto 4, 3) := by decide +kernel
theorem d_Desk_same_36 : decode b_Desk_same 36 = .ok (.iconst 0, 1) := by decide +kernel
theorem d_Desk_same_37 : decode b_Desk_same 37 = .ok (.ireturn, 1) := by decide +kernel
def mf_Desk_same (F : Nat) (vI : Int32) (vJ : Int32) (cRg : Nat → Option Nat) (xk : Int32) (xn : Int32) (xT : Nat → Int64) (xB : Nat → Int64) (xR : Nat → Int64) (yk : Int32) (yn : Int32) (yT : Nat → Int64) (yB : Nat → Int64) (yR : Nat → Int64) : Option (Int32) :=
  (sd_b1 (mf_Desk_isRegister F vI) fun r => (sd_b1 (if r = 0 then (some ((0 : Int32))) else (sd_b1 (mf_Desk_isRegister F vJ) fun r_1 => (if r_1 = 0 then (some ((0 : Int32))) else (sd_g (sd_ix vI 8) (sd_g (sd_ix vJ 8) (sd_b1 (mf_Sum_isSameAs F xk xn xT xB xR yk yn yT yB yR) fun r_2 => (if r_2 = 0 then (some ((0 : Int32))) else (some ((1 : Int32)))))))))) fun y => (sd_g (sd_b01 y) (some (y)))))
abbrev rm_Desk_same : Room := { frames := 1, cells := 0, slots := 0, locals := 22 }
set_option maxHeartbeats 4000000 in
set_option maxRecDepth 100000 in
theorem ct_Desk_same (l : Launch) (D : va_G) (g : G4) (zd : Nat) (rg : Nat) (iv : Nat) (fe : Nat) (c1 : Nat) (c2 : Nat) (pg : Nat) (zl : Nat) (zh : Nat) (ds : Nat) (xs : Nat) (xat : Nat) (xab : Nat) (xar : Nat) (xal : Nat) (xah : Nat) (ys : Nat) (yat : Nat) (yab : Nat) (yar : Nat) (yal : Nat) (yah : Nat) (sz : Nat) (vI : Int32) (vJ : Int32) (cRg : Nat → Option Nat) (xk : Int32) (xn : Int32) (xT : Nat → Int64) (xB : Nat → Int64) (xR : Nat → Int64) (yk : Int32) (yn : Int32) (yT : Nat → Int64) (yB : Nat → Int64) (yR : Nat → Int64) (F : Nat) (res : Int32) (hm : mf_Desk_same F vI vJ cRg xk xn xT xB xR yk yn yT yB yR = some res) (hI : sd_ix vI 8 = true → cRg vI.toNatClampNeg = some xs) (hJ : sd_ix vJ 8 = true → cRg vJ.toNatClampNeg = some ys) : Met l y_Desk_same (.code y_Desk_same b_Desk_same 3 (some .boolean) :: sd_tb) rm_Desk_same (sd_PW D g [.ref zd, .int vI, .int vJ] sz [(zd, .inr (4, [.ref rg, .ref iv, .ref fe, .ref c1, .ref c2, .ref pg, .ref zl, .ref zh, .ref ds])), (rg, aQ g 8 cRg), (xs, .inr (0, [.ref xat, .ref xab, .ref xar, .ref xal, .ref xah, .int xk, .int xn])), (xat, aJ g 8 xT), (xab, aJ g 8 xB), (xar, aJ g 8 xR), (ys, .inr (0, [.ref yat, .ref yab, .ref yar, .ref yal, .ref yah, .int yk, .int yn])), (yat, aJ g 8 yT), (yab, aJ g 8 yB), (yar, aJ g 8 yR)]) (sd_Qi0 D g res [(zd, .inr (4, [.ref rg, .ref iv, .ref fe, .ref c1, .ref c2, .ref pg, .ref zl, .ref zh, .ref ds])), (rg, aQ g 8 cRg), (xs, .inr (0, [.ref xat, .ref xab, .ref xar, .ref xal, .ref xah, .int xk, .int xn])), (xat, aJ g 8 xT), (xab, aJ g 8 xB), (xar, aJ g 8 xR), (ys, .inr (0, [.ref yat, .ref yab, .ref yar, .ref yal, .ref yah, .int yk, .int yn])), (yat, aJ g 8 yT), (yab, aJ g 8 yB), (yar, aJ g 8 yR)] (va_A [(zd, .inr (4, [.ref rg, .ref iv, .ref fe, .ref c1, .ref c2, .ref pg, .ref zl, .ref zh, .ref ds])), (rg, aQ g 8 cRg), (xs, .inr (0, [.ref xat, .ref xab, .ref xar, .ref xal, .ref xah, .int xk, .int xn])), (xat, aJ g 8 xT), (xab, aJ g 8 xB), (xar, aJ g 8 xR), (ys, .inr (0, [.ref yat, .ref yab, .ref yar, .ref yal, .ref yah, .int yk, .int yn])), (yat, aJ g 8 yT), (yab, aJ g 8 yB), (yar, aJ g 8 yR)] sz)) 0 0 (va_A [(zd, .inr (4, [.ref rg, .ref iv, .ref fe, .ref c1, .ref c2, .ref pg, .ref zl, .ref zh, .ref ds])), (rg, aQ g 8 cRg), (xs, .inr (0, [.ref xat, .ref xab, .ref xar, .ref xal, .ref xah, .int xk, .int xn])), (xat, aJ g 8 xT), (xab, aJ g 8 xB), (xar, aJ g 8 xR), (ys, .inr (0, [.ref yat, .ref yab, .ref yar, .ref yal, .ref yah, .int yk, .int yn])), (yat, aJ g 8 yT), (yab, aJ g 8 yB), (yar, aJ g 8 yR)] sz) := by
  refine sd_met (Qf := fun A => sd_Qi0 D g res [(zd, .inr (4, [.ref rg, .ref iv, .ref fe, .ref c1, .ref c2, .ref pg, .ref zl, .ref zh, .ref ds])), (rg, aQ g 8 cRg), (xs, .inr (0, [.ref xat, .ref xab, .ref xar, .ref xal, .ref xah, .int xk, .int xn])), (xat, aJ g 8 xT), (xab, aJ g 8 xB), (xar, aJ g 8 xR), (ys, .inr (0, [.ref yat, .ref yab, .ref yar, .ref yal, .ref yah, .int yk, .int yn])), (yat, aJ g 8 yT), (yab, aJ g 8 yB), (yar, aJ g 8 yR)] A) (own := R_Desk) (by decide +kernel) rfl (Nat.le_of_ble_eq_true rfl) ?_
  intro p e s m args below meth c S hr hlk hK A hA Q hQ H locs hP hD hS ls hl
  have hx := S.1
  have hb := S.2.1
  have hml := S.2.2.1
  have hown := S.2.2.2.1
  have htt := sd_tt S
  replace hl : lv_has ls 3 [(0, .ref zd), (1, .int vI), (2, .int vJ)] := hl
  unfold mf_Desk_same at hm
  refine lv_iload_n hx hb d_Desk_same_0 rfl (lv_at hl 1 rfl) ?_
  obtain ⟨r, hc, hm⟩ := sd_mb1 hm
  refine sd_ci0 (wr := [(zd, .inr (4, [.ref rg, .ref iv, .ref fe, .ref c1, .ref c2, .ref pg, .ref zl, .ref zh, .ref ds])), (rg, aQ g 8 cRg), (xs, .inr (0, [.ref xat, .ref xab, .ref xar, .ref xal, .ref xah, .int xk, .int xn])), (xat, aJ g 8 xT), (xab, aJ g 8 xB), (xar, aJ g 8 xR), (ys, .inr (0, [.ref yat, .ref yab, .ref yar, .ref yal, .ref yah, .int yk, .int yn])), (yat, aJ g 8 yT), (yab, aJ g 8 yB), (yar, aJ g 8 yR)]) (w2 := [(zd, .inr (4, [.ref rg, .ref iv, .ref fe, .ref c1, .ref c2, .ref pg, .ref zl, .ref zh, .ref ds])), (rg, aQ g 8 cRg), (xs, .inr (0, [.ref xat, .ref xab, .ref xar, .ref xal, .ref xah, .int xk, .int xn])), (xat, aJ g 8 xT), (xab, aJ g 8 xB), (xar, aJ g 8 xR), (ys, .inr (0, [.ref yat, .ref yab, .ref yar, .ref yal, .ref yah, .int yk, .int yn])), (yat, aJ g 8 yT), (yab, aJ g 8 yB), (yar, aJ g 8 yR)]) (sd_runS (rest := []) (As := [.int vI]) S (ct_Desk_isRegister l D g (H.size) vI F (r) hc) kl_Desk_56 (by decide) (by decide) hK hP hD [] rfl (by decide) rfl hl d_Desk_same_1 rfl (Nat.le_of_ble_eq_true rfl) ⟨Nat.zero_le _, Nat.zero_le _⟩) hP hD hS hA [] [0, 1, 2, 3, 4, 5, 6, 7, 8, 9] rfl rfl (by decide) (by decide) rfl (fun H locs hP hD hS => ?_)
  refine W.eq (g2 := F0 m 4 ls [.int r]) rfl ?_
  obtain ⟨y, hv, hm⟩ := sd_mb1 hm
  have J37_1 : ∀ (H : Heap) (locs : List Loc) (ls : Array Slot), va_P D classes [(zd, .inr (4, [.ref rg, .ref iv, .ref fe, .ref c1, .ref c2, .ref pg, .ref zl, .ref zh, .ref ds])), (rg, aQ g 8 cRg), (xs, .inr (0, [.ref xat, .ref xab, .ref xar, .ref xal, .ref xah, .int xk, .int xn])), (xat, aJ g 8 xT), (xab, aJ g 8 xB), (xar, aJ g 8 xR), (ys, .inr (0, [.ref yat, .ref yab, .ref yar, .ref yal, .ref yah, .int yk, .int yn])), (yat, aJ g 8 yT), (yab, aJ g 8 yB), (yar, aJ g 8 yR)] H → va_D A [(zd, .inr (4, [.ref rg, .ref iv, .ref fe, .ref c1, .ref c2, .ref pg, .ref zl, .ref zh, .ref ds])), (rg, aQ g 8 cRg), (xs, .inr (0, [.ref xat, .ref xab, .ref xar, .ref xal, .ref xah, .int xk, .int xn])), (xat, aJ g 8 xT), (xab, aJ g 8 xB), (xar, aJ g 8 xR), (ys, .inr (0, [.ref yat, .ref yab, .ref yar, .ref yal, .ref yah, .int yk, .int yn])), (yat, aJ g 8 yT), (yab, aJ g 8 yB), (yar, aJ g 8 yR)] → va_S A s.heap H locs → lv_has ls 3 [] → W p l e rm_Desk_same s m args below meth c H locs 0 0 Q (F0 m 37 ls [.int y]) := by
    intro H locs ls hP hD hS hl
    obtain ⟨h_4, hm⟩ := sd_mg hm
    exact sd_z0ret hQ hx hb hr hlk (sd_zb h_4) hK (hP.sub [0, 1, 2, 3, 4, 5, 6, 7, 8, 9] rfl) (hD.sub [0, 1, 2, 3, 4, 5, 6, 7, 8, 9] (by decide) rfl) hS (Option.some.inj hm).symm d_Desk_same_37
  replace hm := hv
  refine lv_if_eq (tgt := 36) hx hb d_Desk_same_4 (by decide) (fun hc => ?_) (fun hc => ?_)
  · have hm := sd_mt hc hm
    refine lv_iconst (v := (0 : Int32)) hx hb d_Desk_same_36 (by decide) ?_
    cases hm
    exact J37_1 H locs ls (hP.sub [0, 1, 2, 3, 4, 5, 6, 7, 8, 9] rfl) (hD.sub [0, 1, 2, 3, 4, 5, 6, 7, 8, 9] (by decide) rfl) hS (lv_sub hl [] rfl)
  · have hm := sd_mf hc hm
    refine lv_iload_n hx hb d_Desk_same_7 rfl (lv_at hl 2 rfl) ?_
    obtain ⟨r_1, hc, hm⟩ := sd_mb1 hm
    refine sd_ci0 (wr := [(zd, .inr (4, [.ref rg, .ref iv, .ref fe, .ref c1, .ref c2, .ref pg, .ref zl, .ref zh, .ref ds])), (rg, aQ g 8 cRg), (xs, .inr (0, [.ref xat, .ref xab, .ref xar, .ref xal, .ref xah, .int xk, .int xn])), (xat, aJ g 8 xT), (xab, aJ g 8 xB), (xar, aJ g 8 xR), (ys, .inr (0, [.ref yat, .ref yab, .ref yar, .ref yal, .ref yah, .int yk, .int yn])), (yat, aJ g 8 yT), (yab, aJ g 8 yB), (yar, aJ g 8 yR)]) (w2 := [(zd, .inr (4, [.ref rg, .ref iv, .ref fe, .ref c1, .ref c2, .ref pg, .ref zl, .ref zh, .ref ds])), (rg, aQ g 8 cRg), (xs, .inr (0, [.ref xat, .ref xab, .ref xar, .ref xal, .ref xah, .int xk, .int xn])), (xat, aJ g 8 xT), (xab, aJ g 8 xB), (xar, aJ g 8 xR), (ys, .inr (0, [.ref yat, .ref yab, .ref yar, .ref yal, .ref yah, .int yk, .int yn])), (yat, aJ g 8 yT), (yab, aJ g 8 yB), (yar, aJ g 8 yR)]) (sd_runS (rest := []) (As := [.int vJ]) S (ct_Desk_isRegister l D g (H.size) vJ F (r_1) hc) kl_Desk_56 (by decide) (by decide) hK hP hD [] rfl (by decide) rfl hl d_Desk_same_8 rfl (Nat.le_of_ble_eq_true rfl) ⟨Nat.zero_le _, Nat.zero_le _⟩) hP hD hS hA [] [0, 1, 2, 3, 4, 5, 6, 7, 8, 9] rfl rfl (by decide) (by decide) rfl (fun H locs hP hD hS => ?_)
    refine W.eq (g2 := F0 m 11 ls [.int r_1]) rfl ?_
    refine lv_if_eq (tgt := 36) hx hb d_Desk_same_11 (by decide) (fun hc => ?_) (fun hc => ?_)
    · have hm := sd_mt hc hm
      refine lv_iconst (v := (0 : Int32)) hx hb d_Desk_same_36 (by decide) ?_
      cases hm
      exact J37_1 H locs ls (hP.sub [0, 1, 2, 3, 4, 5, 6, 7, 8, 9] rfl) (hD.sub [0, 1, 2, 3, 4, 5, 6, 7, 8, 9] (by decide) rfl) hS (lv_sub hl [] rfl)
    · have hm := sd_mf hc hm
      refine lv_aload_n hx hb d_Desk_same_14 rfl (lv_at hl 0 rfl) ?_
      refine va_get (D := D) (ci := 4) (v := .ref rg) (C := R_Desk) (T := F_Desk) (N := 9) hx hb htt i_Desk hown hK hP 0 rfl rfl 0 (by decide) (htt _ kf_Desk_11) (fun _ h9 => h9) rfl d_Desk_same_15 ?_
      refine lv_iload_n hx hb d_Desk_same_18 rfl (lv_at hl 1 rfl) ?_
      obtain ⟨h_2, hm⟩ := sd_mg hm
      refine sd_aald hx hb hK hP 1 rfl h_2 d_Desk_same_19 ?_
      refine sd_topq (hI h_2) ?_
      refine lv_aload_n hx hb d_Desk_same_20 rfl (lv_at hl 0 rfl) ?_
      refine va_get (D := D) (ci := 4) (v := .ref rg) (C := R_Desk) (T := F_Desk) (N := 9) hx hb htt i_Desk hown hK hP 0 rfl rfl 0 (by decide) (htt _ kf_Desk_11) (fun _ h9 => h9) rfl d_Desk_same_21 ?_
      refine lv_iload_n hx hb d_Desk_same_24 rfl (lv_at hl 2 rfl) ?_
      obtain ⟨h_3, hm⟩ := sd_mg hm
      refine sd_aald hx hb hK hP 1 rfl h_3 d_Desk_same_25 ?_
      refine sd_topq (hJ h_3) ?_
      obtain ⟨r_2, hc, hm⟩ := sd_mb1 hm
      refine sd_ci0 (wr := [(zd, .inr (4, [.ref rg, .ref iv, .ref fe, .ref c1, .ref c2, .ref pg, .ref zl, .ref zh, .ref ds])), (rg, aQ g 8 cRg)]) (w2 := [(zd, .inr (4, [.ref rg, .ref iv, .ref fe, .ref c1, .ref c2, .ref pg, .ref zl, .ref zh, .ref ds])), (rg, aQ g 8 cRg), (xs, .inr (0, [.ref xat, .ref xab, .ref xar, .ref xal, .ref xah, .int xk, .int xn])), (xat, aJ g 8 xT), (xab, aJ g 8 xB), (xar, aJ g 8 xR), (ys, .inr (0, [.ref yat, .ref yab, .ref yar, .ref yal, .ref yah, .int yk, .int yn])), (yat, aJ g 8 yT), (yab, aJ g 8 yB), (yar, aJ g 8 yR)]) (sd_runV (rest := []) (As := [.ref ys]) S (ct_Sum_isSameAs l D g xs xat xab xar xal xah ys yat yab yar yal yah (H.size) xk xn xT xB xR yk yn yT yB yR F (r_2) hc) kl_Desk_114 (by decide) (by decide) hK hP hD [2, 3, 4, 5, 6, 7, 8, 9] rfl (by decide) rfl hl d_Desk_same_26 rfl (Nat.le_of_ble_eq_true rfl) ⟨Nat.zero_le _, Nat.zero_le _⟩ 2 rfl rfl) hP hD hS hA [2, 3, 4, 5, 6, 7, 8, 9] [0, 1] rfl rfl (by decide) (by decide) rfl (fun H locs hP hD hS => ?_)
      refine W.eq (g2 := F0 m 29 ls [.int r_2]) rfl ?_
      refine lv_if_eq (tgt := 36) hx hb d_Desk_same_29 (by decide) (fun hc => ?_) (fun hc => ?_)
      · have hm := sd_mt hc hm
        refine lv_iconst (v := (0 : Int32)) hx hb d_Desk_same_36 (by decide) ?_
        cases hm
        exact J37_1 H locs ls (hP.sub [0, 1, 2, 3, 4, 5, 6, 7, 8, 9] rfl) (hD.sub [0, 1, 2, 3, 4, 5, 6, 7, 8, 9] (by decide) rfl) hS (lv_sub hl [] rfl)
      · have hm := sd_mf hc hm
        refine lv_iconst (v := (1 : Int32)) hx hb d_Desk_same_32 (by decide) ?_
        refine lv_goto (tgt := 37) hx hb d_Desk_same_33 (by decide) ?_
        cases hm
        exact J37_1 H locs ls (hP.sub [0, 1, 2, 3, 4, 5, 6, 7, 8, 9] rfl) (hD.sub [0, 1, 2, 3, 4, 5, 6, 7, 8, 9] (by decide) rfl) hS (lv_sub hl [] rfl)
abbrev rm_Desk_same2 : Room := { frames := 1, cells := 0, slots := 0, locals := 22 }
set_option maxHeartbeats 4000000 in
set_option maxRecDepth 100000 in
theorem ct_Desk_same2 (l : Launch) (D : va_G) (g : G4) (zd : Nat) (rg : Nat) (iv : Nat) (fe : Nat) (c1 : Nat) (c2 : Nat) (pg : Nat) (zl : Nat) (zh : Nat) (ds : Nat) (xs : Nat) (xat : Nat) (xab : Nat) (xar : Nat) (xal : Nat) (xah : Nat) (sz : Nat) (vI : Int32) (vJ : Int32) (cRg : Nat → Option Nat) (xk : Int32) (xn : Int32) (xT : Nat → Int64) (xB : Nat → Int64) (xR : Nat → Int64) (F : Nat) (res : Int32) (hm : mf_Desk_same F vI vJ cRg xk xn xT xB xR xk xn xT xB xR = some res) (hI : sd_ix vI 8 = true → cRg vI.toNatClampNeg = some xs) (hJ : sd_ix vJ 8 = true → cRg vJ.toNatClampNeg = some xs) : Met l y_Desk_same (.code y_Desk_same b_Desk_same 3 (some .boolean) :: sd_tb) rm_Desk_same2 (sd_PW D g [.ref zd, .int vI, .int vJ] sz [(zd, .inr (4, [.ref rg, .ref iv, .ref fe, .ref c1, .ref c2, .ref pg, .ref zl, .ref zh, .ref ds])), (rg, aQ g 8 cRg), (xs, .inr (0, [.ref xat, .ref xab, .ref xar, .ref xal, .ref xah, .int xk, .int xn])), (xat, aJ g 8 xT), (xab, aJ g 8 xB), (xar, aJ g 8 xR)]) (sd_Qi0 D g res [(zd, .inr (4, [.ref rg, .ref iv, .ref fe, .ref c1, .ref c2, .ref pg, .ref zl, .ref zh, .ref ds])), (rg, aQ g 8 cRg), (xs, .inr (0, [.ref xat, .ref xab, .ref xar, .ref xal, .ref xah, .int xk, .int xn])), (xat, aJ g 8 xT), (xab, aJ g 8 xB), (xar, aJ g 8 xR)] (va_A [(zd, .inr (4, [.ref rg, .ref iv, .ref fe, .ref c1, .ref c2, .ref pg, .ref zl, .ref zh, .ref ds])), (rg, aQ g 8 cRg), (xs, .inr (0, [.ref xat, .ref xab, .ref xar, .ref xal, .ref xah, .int xk, .int xn])), (xat, aJ g 8 xT), (xab, aJ g 8 xB), (xar, aJ g 8 xR)] sz)) 0 0 (va_A [(zd, .inr (4, [.ref rg, .ref iv, .ref fe, .ref c1, .ref c2, .ref pg, .ref zl, .ref zh, .ref ds])), (rg, aQ g 8 cRg), (xs, .inr (0, [.ref xat, .ref xab, .ref xar, .ref xal, .ref xah, .int xk, .int xn])), (xat, aJ g 8 xT), (xab, aJ g 8 xB), (xar, aJ g 8 xR)] sz) := by
  refine sd_met (Qf := fun A => sd_Qi0 D g res [(zd, .inr (4, [.ref rg, .ref iv, .ref fe, .ref c1, .ref c2, .ref pg, .ref zl, .ref zh, .ref ds])), (rg, aQ g 8 cRg), (xs, .inr (0, [.ref xat, .ref xab, .ref xar, .ref xal, .ref xah, .int xk, .int xn])), (xat, aJ g 8 xT), (xab, aJ g 8 xB), (xar, aJ g 8 xR)] A) (own := R_Desk) (by decide +kernel) rfl (Nat.le_of_ble_eq_true rfl) ?_
  intro p e s m args below meth c S hr hlk hK A hA Q hQ H locs hP hD hS ls hl
  have hx := S.1
  have hb := S.2.1
  have hml := S.2.2.1
  have hown := S.2.2.2.1
  have htt := sd_tt S
  replace hl : lv_has ls 3 [(0, .ref zd), (1, .int vI), (2, .int vJ)] := hl
  unfold mf_Desk_same at hm
  refine lv_iload_n hx hb d_Desk_same_0 rfl (lv_at hl 1 rfl) ?_
  obtain ⟨r, hc, hm⟩ := sd_mb1 hm
  refine sd_ci0 (wr := [(zd, .inr (4, [.ref rg, .ref iv, .ref fe, .ref c1, .ref c2, .ref pg, .ref zl, .ref zh, .ref ds])), (rg, aQ g 8 cRg), (xs, .inr (0, [.ref xat, .ref xab, .ref xar, .ref xal, .ref xah, .int xk, .int xn])), (xat, aJ g 8 xT), (xab, aJ g 8 xB), (xar, aJ g 8 xR)]) (w2 := [(zd, .inr (4, [.ref rg, .ref iv, .ref fe, .ref c1, .ref c2, .ref pg, .ref zl, .ref zh, .ref ds])), (rg, aQ g 8 cRg), (xs, .inr (0, [.ref xat, .ref xab, .ref xar, .ref xal, .ref xah, .int xk, .int xn])), (xat, aJ g 8 xT), (xab, aJ g 8 xB), (xar, aJ g 8 xR)]) (sd_runS (rest := []) (As := [.int vI]) S (ct_Desk_isRegister l D g (H.size) vI F (r) hc) kl_Desk_56 (by decide) (by decide) hK hP hD [] rfl (by decide) rfl hl d_Desk_same_1 rfl (Nat.le_of_ble_eq_true rfl) ⟨Nat.zero_le _, Nat.zero_le _⟩) hP hD hS hA [] [0, 1, 2, 3, 4, 5] rfl rfl (by decide) (by decide) rfl (fun H locs hP hD hS => ?_)
  refine W.eq (g2 := F0 m 4 ls [.int r]) rfl ?_
  obtain ⟨y, hv, hm⟩ := sd_mb1 hm
  have J37_1 : ∀ (H : Heap) (locs : List Loc) (ls : Array Slot), va_P D classes [(zd, .inr (4, [.ref rg, .ref iv, .ref fe, .ref c1, .ref c2, .ref pg, .ref zl, .ref zh, .ref ds])), (rg, aQ g 8 cRg), (xs, .inr (0, [.ref xat, .ref xab, .ref xar, .ref xal, .ref xah, .int xk, .int xn])), (xat, aJ g 8 xT), (xab, aJ g 8 xB), (xar, aJ g 8 xR)] H → va_D A [(zd, .inr (4, [.ref rg, .ref iv, .ref fe, .ref c1, .ref c2, .ref pg, .ref zl, .ref zh, .ref ds])), (rg, aQ g 8 cRg), (xs, .inr (0, [.ref xat, .ref xab, .ref xar, .ref xal, .ref xah, .int xk, .int xn])), (xat, aJ g 8 xT), (xab, aJ g 8 xB), (xar, aJ g 8 xR)] → va_S A s.heap H locs → lv_has ls 3 [] → W p l e rm_Desk_same2 s m args below meth c H locs 0 0 Q (F0 m 37 ls [.int y]) := by
    intro H locs ls hP hD hS hl
    obtain ⟨h_4, hm⟩ := sd_mg hm
    exact sd_z0ret hQ hx hb hr hlk (sd_zb h_4) hK (hP.sub [0, 1, 2, 3, 4, 5] rfl) (hD.sub [0, 1, 2, 3, 4, 5] (by decide) rfl) hS (Option.some.inj hm).symm d_Desk_same_37
  replace hm := hv
  refine lv_if_eq (tgt := 36) hx hb d_Desk_same_4 (by decide) (fun hc => ?_) (fun hc => ?_)
  · have hm := sd_mt hc hm
    refine lv_iconst (v := (0 : Int32)) hx hb d_Desk_same_36 (by decide) ?_
    cases hm
    exact J37_1 H locs ls (hP.sub [0, 1, 2, 3, 4, 5] rfl) (hD.sub [0, 1, 2, 3, 4, 5] (by decide) rfl) hS (lv_sub hl [] rfl)
  · have hm := sd_mf hc hm
    refine lv_iload_n hx hb d_Desk_same_7 rfl (lv_at hl 2 rfl) ?_
    obtain ⟨r_1, hc, hm⟩ := sd_mb1 hm
    refine sd_ci0 (wr := [(zd, .inr (4, [.ref rg, .ref iv, .ref fe, .ref c1, .ref c2, .ref pg, .ref zl, .ref zh, .ref ds])), (rg, aQ g 8 cRg), (xs, .inr (0, [.ref xat, .ref xab, .ref xar, .ref xal, .ref xah, .int xk, .int xn])), (xat, aJ g 8 xT), (xab, aJ g 8 xB), (xar, aJ g 8 xR)]) (w2 := [(zd, .inr (4, [.ref rg, .ref iv, .ref fe, .ref c1, .ref c2, .ref pg, .ref zl, .ref zh, .ref ds])), (rg, aQ g 8 cRg), (xs, .inr (0, [.ref xat, .ref xab, .ref xar, .ref xal, .ref xah, .int xk, .int xn])), (xat, aJ g 8 xT), (xab, aJ g 8 xB), (xar, aJ g 8 xR)]) (sd_runS (rest := []) (As := [.int vJ]) S (ct_Desk_isRegister l D g (H.size) vJ F (r_1) hc) kl_Desk_56 (by decide) (by decide) hK hP hD [] rfl (by decide) rfl hl d_Desk_same_8 rfl (Nat.le_of_ble_eq_true rfl) ⟨Nat.zero_le _, Nat.zero_le _⟩) hP hD hS hA [] [0, 1, 2, 3, 4, 5] rfl rfl (by decide) (by decide) rfl (fun H locs hP hD hS => ?_)
    refine W.eq (g2 := F0 m 11 ls [.int r_1]) rfl ?_
    refine lv_if_eq (tgt := 36) hx hb d_Desk_same_11 (by decide) (fun hc => ?_) (fun hc => ?_)
    · have hm := sd_mt hc hm
      refine lv_iconst (v := (0 : Int32)) hx hb d_Desk_same_36 (by decide) ?_
      cases hm
      exact J37_1 H locs ls (hP.sub [0, 1, 2, 3, 4, 5] rfl) (hD.sub [0, 1, 2, 3, 4, 5] (by decide) rfl) hS (lv_sub hl [] rfl)
    · have hm := sd_mf hc hm
      refine lv_aload_n hx hb d_Desk_same_14 rfl (lv_at hl 0 rfl) ?_
      refine va_get (D := D) (ci := 4) (v := .ref rg) (C := R_Desk) (T := F_Desk) (N := 9) hx hb htt i_Desk hown hK hP 0 rfl rfl 0 (by decide) (htt _ kf_Desk_11) (fun _ h9 => h9) rfl d_Desk_same_15 ?_
      refine lv_iload_n hx hb d_Desk_same_18 rfl (lv_at hl 1 rfl) ?_
      obtain ⟨h_2, hm⟩ := sd_mg hm
      refine sd_aald hx hb hK hP 1 rfl h_2 d_Desk_same_19 ?_
      refine sd_topq (hI h_2) ?_
      refine lv_aload_n hx hb d_Desk_same_20 rfl (lv_at hl 0 rfl) ?_
      refine va_get (D := D) (ci := 4) (v := .ref rg) (C := R_Desk) (T := F_Desk) (N := 9) hx hb htt i_Desk hown hK hP 0 rfl rfl 0 (by decide) (htt _ kf_Desk_11) (fun _ h9 => h9) rfl d_Desk_same_21 ?_
      refine lv_iload_n hx hb d_Desk_same_24 rfl (lv_at hl 2 rfl) ?_
      obtain ⟨h_3, hm⟩ := sd_mg hm
      refine sd_aald hx hb hK hP 1 rfl h_3 d_Desk_same_25 ?_
      refine sd_topq (hJ h_3) ?_
      obtain ⟨r_2, hc, hm⟩ := sd_mb1 hm
      refine sd_ci0 (wr := [(zd, .inr (4, [.ref rg, .ref iv, .ref fe, .ref c1, .ref c2, .ref pg, .ref zl, .ref zh, .ref ds])), (rg, aQ g 8 cRg)]) (w2 := [(zd, .inr (4, [.ref rg, .ref iv, .ref fe, .ref c1, .ref c2, .ref pg, .ref zl, .ref zh, .ref ds])), (rg, aQ g 8 cRg), (xs, .inr (0, [.ref xat, .ref xab, .ref xar, .ref xal, .ref xah, .int xk, .int xn])), (xat, aJ g 8 xT), (xab, aJ g 8 xB), (xar, aJ g 8 xR)]) (sd_runV (rest := []) (As := [.ref xs]) S (ct_Sum_isSameAs2 l D g xs xat xab xar xal xah (H.size) xk xn xT xB xR F (r_2) hc) kl_Desk_114 (by decide) (by decide) hK hP hD [2, 3, 4, 5] rfl (by decide) rfl hl d_Desk_same_26 rfl (Nat.le_of_ble_eq_true rfl) ⟨Nat.zero_le _, Nat.zero_le _⟩ 2 rfl rfl) hP hD hS hA [2, 3, 4, 5] [0, 1] rfl rfl (by decide) (by decide) rfl (fun H locs hP hD hS => ?_)
      refine W.eq (g2 := F0 m 29 ls [.int r_2]) rfl ?_
      refine lv_if_eq (tgt := 36) hx hb d_Desk_same_29 (by decide) (fun hc => ?_) (fun hc => ?_)
      · have hm := sd_mt hc hm
        refine lv_iconst (v := (0 : Int32)) hx hb d_Desk_same_36 (by decide) ?_
        cases hm
        exact J37_1 H locs ls (hP.sub [0, 1, 2, 3, 4, 5] rfl) (hD.sub [0, 1, 2, 3, 4, 5] (by decide) rfl) hS (lv_sub hl [] rfl)
      · have hm := sd_mf hc hm
        refine lv_iconst (v := (1 : Int32)) hx hb d_Desk_same_32 (by decide) ?_
        refine lv_goto (tgt := 37) hx hb d_Desk_same_33 (by decide) ?_
        cases hm
        exact J37_1 H locs ls (hP.sub [0, 1, 2, 3, 4, 5] rfl) (hD.sub [0, 1, 2, 3, 4, 5] (by decide) rfl) hS (lv_sub hl [] rfl)
