/-! Desk_isRegister, Desk_partialOfFraction, Desk_keepDraft, Desk_load, Desk_root, Desk_root2, Desk_reckon, Desk_reckon2, Desk_divide, Desk_divide2 -/
theorem kf_Desk_11 : Cond.fieldLink R_Desk 11 "SurdDesk" "registers" "[LSurdDesk$Sum;" ∈ sd_tb := (sd_in (List.mem_of_getElem? (i := 160) (by decide +kernel)) rfl)
theorem kf_Desk_16 : Cond.fieldLink R_Desk 16 "SurdDesk" "inverse" "LSurdDesk$Sum;" ∈ sd_tb := (sd_in (List.mem_of_getElem? (i := 161) (by decide +kernel)) rfl)
theorem kf_Desk_53 : Cond.fieldLink R_Desk 53 "SurdDesk" "draft" "LSurdDesk$Sum;" ∈ sd_tb := (sd_in (List.mem_of_getElem? (i := 168) (by decide +kernel)) rfl)
theorem kl_Desk_102 : sd_LV R_Desk 102 y_Desk_keepDraft b_Desk_keepDraft 3 (some .int) 1 := ⟨(sd_in (List.mem_of_getElem? (i := 279) (by decide +kernel)) rfl), (sd_in (List.mem_of_getElem? (i := 281) (by decide +kernel)) rfl), (sd_in (List.mem_of_getElem? (i := 6) (by decide +kernel)) rfl), (sd_in (List.mem_of_getElem? (i := 35) (by decide +kernel)) rfl), (sd_in (List.mem_of_getElem? (i := 282) (by decide +kernel)) rfl), by decide +kernel, by decide +kernel, by decide +kernel⟩
theorem kl_Desk_106 : sd_LV R_Desk 106 y_Sum_count b_Sum_count 1 (some .int) 0 := ⟨(sd_in (List.mem_of_getElem? (i := 283) (by decide +kernel)) rfl), (sd_in (List.mem_of_getElem? (i := 284) (by decide +kernel)) rfl), (sd_in (List.mem_of_getElem? (i := 285) (by decide +kernel)) rfl), (sd_in (List.mem_of_getElem? (i := 36) (by decide +kernel)) rfl), (sd_in (List.mem_of_getElem? (i := 286) (by decide +kernel)) rfl), by decide +kernel, by decide +kernel, by decide +kernel⟩
theorem kl_Desk_110 : sd_LV R_Desk 110 y_Sum_becomeInverse b_Sum_becomeInverse 12 (some .boolean) 1 := ⟨(sd_in (List.mem_of_getElem? (i := 291) (by decide +kernel)) rfl), (sd_in (List.mem_of_getElem? (i := 292) (by decide +kernel)) rfl), (sd_in (List.mem_of_getElem? (i := 293) (by decide +kernel)) rfl), (sd_in (List.mem_of_getElem? (i := 36) (by decide +kernel)) rfl), (sd_in (List.mem_of_getElem? (i := 294) (by decide +kernel)) rfl), by decide +kernel, by decide +kernel, by decide +kernel⟩
theorem kl_Desk_129 : sd_LS R_Desk 129 y_Math_floorDiv b_Math_floorDiv 6 (some .long) 2 := ⟨(sd_in (List.mem_of_getElem? (i := 367) (by decide +kernel)) rfl), (sd_in (List.mem_of_getElem? (i := 368) (by decide +kernel)) rfl), (sd_in (List.mem_of_getElem? (i := 42) (by decide +kernel)) rfl), (sd_in (List.mem_of_getElem? (i := 369) (by decide +kernel)) rfl), by decide +kernel, by decide +kernel, by decide +kernel⟩
theorem kl_Desk_215 : sd_LS R_Desk 215 y_Math_floorMod b_Math_floorMod 6 (some .long) 2 := ⟨(sd_in (List.mem_of_getElem? (i := 439) (by decide +kernel)) rfl), (sd_in (List.mem_of_getElem? (i := 440) (by decide +kernel)) rfl), (sd_in (List.mem_of_getElem? (i := 42) (by decide +kernel)) rfl), (sd_in (List.mem_of_getElem? (i := 441) (by decide +kernel)) rfl), by decide +kernel, by decide +kernel, by decide +kernel⟩
theorem kl_Desk_56 : sd_LS R_Desk 56 y_Desk_isRegister b_Desk_isRegister 1 (some .boolean) 1 := ⟨(sd_in (List.mem_of_getElem? (i := 192) (by decide +kernel)) rfl), (sd_in (List.mem_of_getElem? (i := 193) (by decide +kernel)) rfl), (sd_in (List.mem_of_getElem? (i := 35) (by decide +kernel)) rfl), (sd_in (List.mem_of_getElem? (i := 194) (by decide +kernel)) rfl), by decide +kernel, by decide +kernel, by decide +kernel⟩
theorem kl_Desk_60 : sd_LS R_Desk 60 y_Whole_commonDivisor b_Whole_commonDivisor 11 (some .long) 2 := ⟨(sd_in (List.mem_of_getElem? (i := 195) (by decide +kernel)) rfl), (sd_in (List.mem_of_getElem? (i := 196) (by decide +kernel)) rfl), (sd_in (List.mem_of_getElem? (i := 41) (by decide +kernel)) rfl), (sd_in (List.mem_of_getElem? (i := 197) (by decide +kernel)) rfl), by decide +kernel, by decide +kernel, by decide +kernel⟩
theorem kl_Desk_66 : sd_LS R_Desk 66 y_Whole_belowZero b_Whole_belowZero 2 (some .long) 1 := ⟨(sd_in (List.mem_of_getElem? (i := 201) (by decide +kernel)) rfl), (sd_in (List.mem_of_getElem? (i := 199) (by decide +kernel)) rfl), (sd_in (List.mem_of_getElem? (i := 41) (by decide +kernel)) rfl), (sd_in (List.mem_of_getElem? (i := 200) (by decide +kernel)) rfl), by decide +kernel, by decide +kernel, by decide +kernel⟩
theorem kl_Desk_70 : sd_LS R_Desk 70 y_Whole_isTooGreat b_Whole_isTooGreat 2 (some .boolean) 1 := ⟨(sd_in (List.mem_of_getElem? (i := 202) (by decide +kernel)) rfl), (sd_in (List.mem_of_getElem? (i := 203) (by decide +kernel)) rfl), (sd_in (List.mem_of_getElem? (i := 41) (by decide +kernel)) rfl), (sd_in (List.mem_of_getElem? (i := 204) (by decide +kernel)) rfl), by decide +kernel, by decide +kernel, by decide +kernel⟩
theorem kl_Desk_74 : sd_LV R_Desk 74 y_Sum_become b_Sum_become 7 none 3 := ⟨(sd_in (List.mem_of_getElem? (i := 206) (by decide +kernel)) rfl), (sd_in (List.mem_of_getElem? (i := 207) (by decide +kernel)) rfl), (sd_in (List.mem_of_getElem? (i := 208) (by decide +kernel)) rfl), (sd_in (List.mem_of_getElem? (i := 36) (by decide +kernel)) rfl), (sd_in (List.mem_of_getElem? (i := 209) (by decide +kernel)) rfl), by decide +kernel, by decide +kernel, by decide +kernel⟩
theorem kl_Desk_78 : sd_LV R_Desk 78 y_Sum_isFraction b_Sum_isFraction 1 (some .boolean) 0 := ⟨(sd_in (List.mem_of_getElem? (i := 222) (by decide +kernel)) rfl), (sd_in (List.mem_of_getElem? (i := 223) (by decide +kernel)) rfl), (sd_in (List.mem_of_getElem? (i := 224) (by decide +kernel)) rfl), (sd_in (List.mem_of_getElem? (i := 36) (by decide +kernel)) rfl), (sd_in (List.mem_of_getElem? (i := 225) (by decide +kernel)) rfl), by decide +kernel, by decide +kernel, by decide +kernel⟩
theorem kl_Desk_82 : sd_LV R_Desk 82 y_Sum_top b_Sum_top 1 (some .long) 0 := ⟨(sd_in (List.mem_of_getElem? (i := 226) (by decide +kernel)) rfl), (sd_in (List.mem_of_getElem? (i := 227) (by decide +kernel)) rfl), (sd_in (List.mem_of_getElem? (i := 228) (by decide +kernel)) rfl), (sd_in (List.mem_of_getElem? (i := 36) (by decide +kernel)) rfl), (sd_in (List.mem_of_getElem? (i := 229) (by decide +kernel)) rfl), by decide +kernel, by decide +kernel, by decide +kernel⟩
theorem kl_Desk_86 : sd_LV R_Desk 86 y_Sum_bottom b_Sum_bottom 1 (some .long) 0 := ⟨(sd_in (List.mem_of_getElem? (i := 230) (by decide +kernel)) rfl), (sd_in (List.mem_of_getElem? (i := 231) (by decide +kernel)) rfl), (sd_in (List.mem_of_getElem? (i := 232) (by decide +kernel)) rfl), (sd_in (List.mem_of_getElem? (i := 36) (by decide +kernel)) rfl), (sd_in (List.mem_of_getElem? (i := 233) (by decide +kernel)) rfl), by decide +kernel, by decide +kernel, by decide +kernel⟩
theorem kl_Desk_91 : sd_LS R_Desk 91 y_Whole_sideOfGreatestSquare b_Whole_sideOfGreatestSquare 9 (some .long) 1 := ⟨(sd_in (List.mem_of_getElem? (i := 235) (by decide +kernel)) rfl), (sd_in (List.mem_of_getElem? (i := 236) (by decide +kernel)) rfl), (sd_in (List.mem_of_getElem? (i := 41) (by decide +kernel)) rfl), (sd_in (List.mem_of_getElem? (i := 237) (by decide +kernel)) rfl), by decide +kernel, by decide +kernel, by decide +kernel⟩
theorem kl_Desk_94 : sd_LV R_Desk 94 y_Sum_becomeProducts b_Sum_becomeProducts 5 (some .boolean) 2 := ⟨(sd_in (List.mem_of_getElem? (i := 247) (by decide +kernel)) rfl), (sd_in (List.mem_of_getElem? (i := 248) (by decide +kernel)) rfl), (sd_in (List.mem_of_getElem? (i := 249) (by decide +kernel)) rfl), (sd_in (List.mem_of_getElem? (i := 36) (by decide +kernel)) rfl), (sd_in (List.mem_of_getElem? (i := 250) (by decide +kernel)) rfl), by decide +kernel, by decide +kernel, by decide +kernel⟩
theorem kl_Desk_98 : sd_LV R_Desk 98 y_Sum_becomeSum b_Sum_becomeSum 5 (some .boolean) 3 := ⟨(sd_in (List.mem_of_getElem? (i := 275) (by decide +kernel)) rfl), (sd_in (List.mem_of_getElem? (i := 276) (by decide +kernel)) rfl), (sd_in (List.mem_of_getElem? (i := 277) (by decide +kernel)) rfl), (sd_in (List.mem_of_getElem? (i := 36) (by decide +kernel)) rfl), (sd_in (List.mem_of_getElem? (i := 278) (by decide +kernel)) rfl), by decide +kernel, by decide +kernel, by decide +kernel⟩
theorem km_Desk_127 : Cond.constantLong R_Desk 127 (4611686018427387904 : Int64) ∈ sd_tb := (sd_in (List.mem_of_getElem? (i := 366) (by decide +kernel)) rfl)
theorem km_Desk_89 : Cond.constantLong R_Desk 89 (100000000 : Int64) ∈ sd_tb := (sd_in (List.mem_of_getElem? (i := 234) (by decide +kernel)) rfl)
theorem d_Desk_isRegister_0 : decode b_Desk_isRegister 0 = .ok (.iload_n 0, 1) := by decide +kernel
theorem d_Desk_isRegister_1 : decode b_Desk_isRegister 1 = .ok (.ifCond .lt 13, 3) := by decide +kernel
theorem d_Desk_isRegister_4 : decode b_Desk_isRegister 4 = .ok (.iload_n 0, 1) := by decide +kernel
theorem d_Desk_isRegister_5 : decode b_Desk_isRegister 5 = .ok (.bipush 8, 2) := by decide +kernel
theorem d_Desk_isRegister_7 : decode b_Desk_isRegister 7 = .ok (.if_icmp .ge 7, 3) := by decide +kernel
theorem d_Desk_isRegister_10 : decode b_Desk_isRegister 10 = .ok (.iconst 1, 1) := by decide +kernel
theorem d_Desk_isRegister_11 : decode b_Desk_isRegister 11 = .ok (.goto 4, 3) := by decide +kernel
theorem d_Desk_isRegister_14 : decode b_Desk_isRegister 14 = .ok (.iconst 0, 1) := by decide +kernel
theorem d_Desk_isRegister_15 : decode b_Desk_isRegister 15 = .ok (.ireturn, 1) := by decide +kernel
def mf_Desk_isRegister (F : Nat) (vK : Int32) : Option (Int32) :=
  (sd_b1 (if vK < 0 then (some ((0 : Int32))) else (if (8 : Int32) ≤ vK then (some ((0 : Int32))) else (some ((1 : Int32))))) fun y => (sd_g (sd_b01 y) (some (y))))
abbrev rm_Desk_isRegister : Room := { frames := 0, cells := 0, slots := 0, locals := 0 }
set_option maxHeartbeats 4000000 in
set_option maxRecDepth 100000 in
theorem ct_Desk_isRegister (l : Launch) (D : va_G) (g : G4) (sz : Nat) (vK : Int32) (F : Nat) (res : Int32) (hm : mf_Desk_isRegister F vK = some res) : Met l y_Desk_isRegister (.code y_Desk_isRegister b_Desk_isRegister 1 (some .boolean) :: sd_tb) rm_Desk_isRegister (sd_PW D g [.int vK] sz []) (sd_Qi0 D g res [] (va_A [] sz)) 0 0 (va_A [] sz) := by
  refine sd_met (Qf := fun A => sd_Qi0 D g res [] A) (own := R_Desk) (by decide +kernel) rfl (Nat.le_of_ble_eq_true rfl) ?_
  intro p e s m args below meth c S hr hlk hK A hA Q hQ H locs hP hD hS ls hl
  have hx := S.1
  have hb := S.2.1
  have hml := S.2.2.1
  have hown := S.2.2.2.1
  have htt := sd_tt S
  replace hl : lv_has ls 1 [(0, .int vK)] := hl
  unfold mf_Desk_isRegister at hm
  refine lv_iload_n hx hb d_Desk_isRegister_0 rfl (lv_at hl 0 rfl) ?_
  obtain ⟨y, hv, hm⟩ := sd_mb1 hm
  have J15_1 : ∀ (H : Heap) (locs : List Loc) (ls : Array Slot), va_P D classes [] H → va_D A [] → va_S A s.heap H locs → lv_has ls 1 [] → W p l e rm_Desk_isRegister s m args below meth c H locs 0 0 Q (F0 m 15 ls [.int y]) := by
    intro H locs ls hP hD hS hl
    obtain ⟨h_2, hm⟩ := sd_mg hm
    exact sd_z0ret hQ hx hb hr hlk (sd_zb h_2) hK (hP.sub [] rfl) (hD.sub [] (by decide) rfl) hS (Option.some.inj hm).symm d_Desk_isRegister_15
  replace hm := hv
  refine lv_if_lt (tgt := 14) hx hb d_Desk_isRegister_1 (by decide) (fun hc => ?_) (fun hc => ?_)
  · have hm := sd_mt hc hm
    refine lv_iconst (v := (0 : Int32)) hx hb d_Desk_isRegister_14 (by decide) ?_
    cases hm
    exact J15_1 H locs ls (hP.sub [] rfl) (hD.sub [] (by decide) rfl) hS (lv_sub hl [] rfl)
  · have hm := sd_mf hc hm
    refine lv_iload_n hx hb d_Desk_isRegister_4 rfl (lv_at hl 0 rfl) ?_
    refine lv_bipush (v := (8 : Int32)) hx hb d_Desk_isRegister_5 (by decide) ?_
    refine lv_icmp_ge (tgt := 14) hx hb d_Desk_isRegister_7 (by decide) (fun hc => ?_) (fun hc => ?_)
    · have hm := sd_mt hc hm
      refine lv_iconst (v := (0 : Int32)) hx hb d_Desk_isRegister_14 (by decide) ?_
      cases hm
      exact J15_1 H locs ls (hP.sub [] rfl) (hD.sub [] (by decide) rfl) hS (lv_sub hl [] rfl)
    · have hm := sd_mf hc hm
      refine lv_iconst (v := (1 : Int32)) hx hb d_Desk_isRegister_10 (by decide) ?_
      refine lv_goto (tgt := 15) hx hb d_Desk_isRegister_11 (by decide) ?_
      cases hm
      exact J15_1 H locs ls (hP.sub [] rfl) (hD.sub [] (by decide) rfl) hS (lv_sub hl [] rfl)
theorem d_Desk_partialOfFraction_0 : decode b_Desk_partialOfFraction 0 = .ok (.lload_n 0, 1) := by decide +kernel
theorem d_Desk_partialOfFraction_1 : decode b_Desk_partialOfFraction 1 = .ok (.lstore 5, 2) := by decide +kernel
theorem d_Desk_partialOfFraction_3 : decode b_Desk_partialOfFraction 3 = .ok (.lload_n 2, 1) := by decide +kernel
theorem d_Desk_partialOfFraction_4 : decode b_Desk_partialOfFraction 4 = .ok (.lstore 7, 2) := by decide +kernel
theorem d_Desk_partialOfFraction_6 : decode b_Desk_partialOfFraction 6 = .ok (.lconst 0, 1) := by decide +kernel
theorem d_Desk_partialOfFraction_7 : decode b_Desk_partialOfFraction 7 = .ok (.lstore 9, 2) := by decide +kernel
theorem d_Desk_partialOfFraction_9 : decode b_Desk_partialOfFraction 9 = .ok (.iconst 0, 1) := by decide +kernel
theorem d_Desk_partialOfFraction_10 : decode b_Desk_partialOfFraction 10 = .ok (.istore 11, 2) := by decide +kernel
theorem d_Desk_partialOfFraction_12 : decode b_Desk_partialOfFraction 12 = .ok (.iload 11, 2) := by decide +kernel
theorem d_Desk_partialOfFraction_14 : decode b_Desk_partialOfFraction 14 = .ok (.iload 4, 2) := by decide +kernel
theorem d_Desk_partialOfFraction_16 : decode b_Desk_partialOfFraction 16 = .ok (.if_icmp .gt 46, 3) := by decide +kernel
theorem d_Desk_partialOfFraction_19 : decode b_Desk_partialOfFraction 19 = .ok (.lload 7, 2) := by decide +kernel
theorem d_Desk_partialOfFraction_21 : decode b_Desk_partialOfFraction 21 = .ok (.lconst 0, 1) := by decide +kernel
theorem d_Desk_partialOfFraction_22 : decode b_Desk_partialOfFraction 22 = .ok (.lcmp, 1) := by decide +kernel
theorem d_Desk_partialOfFraction_23 : decode b_Desk_partialOfFraction 23 = .ok (.ifCond .ne 7, 3) := by decide +kernel
theorem d_Desk_partialOfFraction_26 : decode b_Desk_partialOfFraction 26 = .ok (.ldc2_w 127, 3) := by decide +kernel
theorem d_Desk_partialOfFraction_29 : decode b_Desk_partialOfFraction 29 = .ok (.lreturn, 1) := by decide +kernel
theorem d_Desk_partialOfFraction_30 : decode b_Desk_partialOfFraction 30 = .ok (.lload 5, 2) := by decide +kernel
theorem d_Desk_partialOfFraction_32 : decode b_Desk_partialOfFraction 32 = .ok (.lload 7, 2) := by decide +kernel
theorem d_Desk_partialOfFraction_34 : decode b_Desk_partialOfFraction 34 = .ok (.invokestatic 129, 3) := by decide +kernel
theorem d_Desk_partialOfFraction_37 : decode b_Desk_partialOfFraction 37 = .ok (.lstore 9, 2) := by decide +kernel
theorem d_Desk_partialOfFraction_39 : decode b_Desk_partialOfFraction 39 = .ok (.lload 5, 2) := by decide +kernel
theorem d_Desk_partialOfFraction_41 : decode b_Desk_partialOfFraction 41 = .ok (.lload 7, 2) := by decide +kernel
theorem d_Desk_partialOfFraction_43 : decode b_Desk_partialOfFraction 43 = .ok (.invokestatic 215, 3) := by decide +kernel
theorem d_Desk_partialOfFraction_46 : decode b_Desk_partialOfFraction 46 = .ok (.lstore 12, 2) := by decide +kernel
theorem d_Desk_partialOfFraction_48 : decode b_Desk_partialOfFraction 48 = .ok (.lload 7, 2) := by decide +kernel
theorem d_Desk_partialOfFraction_50 : decode b_Desk_partialOfFraction 50 = .ok (.lstore 5, 2) := by decide +kernel
theorem d_Desk_partialOfFraction_52 : decode b_Desk_partialOfFraction 52 = .ok (.lload 12, 2) := by decide +kernel
theorem d_Desk_partialOfFraction_54 : decode b_Desk_partialOfFraction 54 = .ok (.lstore 7, 2) := by decide +kernel
theorem d_Desk_partialOfFraction_56 : decode b_Desk_partialOfFraction 56 = .ok (.iinc 11 1, 3) := by decide +kernel
theorem d_Desk_partialOfFraction_59 : decode b_Desk_partialOfFraction 59 = .ok (.goto (-47), 3) := by decide +kernel
theorem d_Desk_partialOfFraction_62 : decode b_Desk_partialOfFraction 62 = .ok (.lload 9, 2) := by decide +kernel
theorem d_Desk_partialOfFraction_64 : decode b_Desk_partialOfFraction 64 = .ok (.lreturn, 1) := by decide +kernel
def mf_Desk_partialOfFraction_L12 (vN : Int32) (F : Nat) : Nat → Int64 → Int64 → Int64 → Int32 → Option (Nat × Int64)
  | 0, _, _, _, _ => none
  | fu + 1, x5, x7, x9, x11 => (if vN < x11 then (some (1, x9)) else (if x7 = (0 : Int64) then (some (0, x9)) else (sd_b1 (mf_Math_floorDiv F x5 x7) fun r => (sd_b1 (mf_Math_floorMod F x5 x7) fun r_1 => (sd_let (x11 + (1 : Int32)) fun x11_1 => ((mf_Desk_partialOfFraction_L12 vN F fu) x7 r_1 r x11_1))))))
def mf_Desk_partialOfFraction (F : Nat) (vTop : Int64) (vBot : Int64) (vN : Int32) : Option (Int64) :=
  (sd_b2 (mf_Desk_partialOfFraction_L12 vN F F vTop vBot (0 : Int64) (0 : Int32)) fun tg rx9 => (if tg = 0 then (some ((4611686018427387904 : Int64))) else (some (rx9))))
abbrev rm_Desk_partialOfFraction : Room := { frames := 1, cells := 0, slots := 0, locals := 25 }
set_option maxHeartbeats 4000000 in
set_option maxRecDepth 100000 in
theorem ct_Desk_partialOfFraction (l : Launch) (D : va_G) (g : G4) (sz : Nat) (vTop : Int64) (vBot : Int64) (vN : Int32) (F : Nat) (res : Int64) (hm : mf_Desk_partialOfFraction F vTop vBot vN = some res) : Met l y_Desk_partialOfFraction (.code y_Desk_partialOfFraction b_Desk_partialOfFraction 14 (some .long) :: sd_tb) rm_Desk_partialOfFraction (sd_PW D g [.long vTop, .long vBot, .int vN] sz []) (sd_Ql0 D g res [] (va_A [] sz)) 0 0 (va_A [] sz) := by
  refine sd_met (Qf := fun A => sd_Ql0 D g res [] A) (own := R_Desk) (by decide +kernel) rfl (Nat.le_of_ble_eq_true rfl) ?_
  intro p e s m args below meth c S hr hlk hK A hA Q hQ H locs hP hD hS ls hl
  have hx := S.1
  have hb := S.2.1
  have hml := S.2.2.1
  have hown := S.2.2.2.1
  have htt := sd_tt S
  replace hl : lv_has ls 14 [(0, .long vTop), (2, .long vBot), (4, .int vN)] := hl
  unfold mf_Desk_partialOfFraction at hm
  refine lv_lload_n hx hb d_Desk_partialOfFraction_0 rfl (lv_at hl 0 rfl) ?_
  refine lv_lstore (lv' := [(5, .long vTop), (0, .long vTop), (2, .long vBot), (4, .int vN)]) hx hb d_Desk_partialOfFraction_1 hl (by decide) rfl (fun ls hl => ?_)
  refine lv_lload_n hx hb d_Desk_partialOfFraction_3 rfl (lv_at hl 2 rfl) ?_
  refine lv_lstore (lv' := [(7, .long vBot), (5, .long vTop), (0, .long vTop), (2, .long vBot), (4, .int vN)]) hx hb d_Desk_partialOfFraction_4 hl (by decide) rfl (fun ls hl => ?_)
  refine lv_lconst (v := (0 : Int64)) hx hb d_Desk_partialOfFraction_6 (by decide) ?_
  refine lv_lstore (lv' := [(9, .long (0 : Int64)), (7, .long vBot), (5, .long vTop), (0, .long vTop), (2, .long vBot), (4, .int vN)]) hx hb d_Desk_partialOfFraction_7 hl (by decide) rfl (fun ls hl => ?_)
  refine lv_iconst (v := (0 : Int32)) hx hb d_Desk_partialOfFraction_9 (by decide) ?_
  refine lv_istore (lv' := [(11, .int (0 : Int32)), (9, .long (0 : Int64)), (7, .long vBot), (5, .long vTop), (0, .long vTop), (2, .long vBot), (4, .int vN)]) hx hb d_Desk_partialOfFraction_10 hl (by decide) rfl (fun ls hl => ?_)
  have L12 : ∀ (fu : Nat) (x5 : Int64) (x7 : Int64) (x9 : Int64) (x11 : Int32) (tg : Nat) (rx9 : Int64), mf_Desk_partialOfFraction_L12 vN F fu x5 x7 x9 x11 = some (tg, rx9) → ∀ (H : Heap) (locs : List Loc) (ls : Array Slot), va_P D classes [] H → va_D A [] → va_S A s.heap H locs → lv_has ls 14 [(4, .int vN), (5, .long x5), (7, .long x7), (9, .long x9), (11, .int x11)] → (tg = 0 → ∀ (H : Heap) (locs : List Loc) (ls : Array Slot), va_P D classes [] H → va_D A [] → va_S A s.heap H locs → lv_has ls 14 [] → W p l e rm_Desk_partialOfFraction s m args below meth c H locs 0 0 Q (F0 m 26 ls [])) → (tg = 1 → ∀ (H : Heap) (locs : List Loc) (ls : Array Slot), va_P D classes [] H → va_D A [] → va_S A s.heap H locs → lv_has ls 14 [(9, .long rx9)] → W p l e rm_Desk_partialOfFraction s m args below meth c H locs 0 0 Q (F0 m 62 ls [])) → W p l e rm_Desk_partialOfFraction s m args below meth c H locs 0 0 Q (F0 m 12 ls []) := by
    intro fu
    induction fu with
    | zero => intro x5 x7 x9 x11 tg rx9 hm; exact absurd (show (none : Option (Nat × Int64)) = some (tg, rx9) from hm) (fun h => nomatch h)
    | succ fu ih =>
      intro x5 x7 x9 x11 tg rx9 hm H locs ls hP hD hS hl kx26 kx62
      rw [mf_Desk_partialOfFraction_L12] at hm
      refine lv_iload hx hb d_Desk_partialOfFraction_12 (lv_at hl 4 rfl) ?_
      refine lv_iload hx hb d_Desk_partialOfFraction_14 (lv_at hl 0 rfl) ?_
      refine lv_icmp_gt (tgt := 62) hx hb d_Desk_partialOfFraction_16 (by decide) (fun hc => ?_) (fun hc => ?_)
      · have hm := sd_mt hc hm
        cases hm
        exact kx62 rfl H locs ls (hP.sub [] rfl) (hD.sub [] (by decide) rfl) hS (lv_sub hl [3] rfl)
      · have hm := sd_mf hc hm
        refine lv_lload hx hb d_Desk_partialOfFraction_19 (lv_at hl 2 rfl) ?_
        refine lv_lconst (v := (0 : Int64)) hx hb d_Desk_partialOfFraction_21 (by decide) ?_
        refine sd_lne (tgt := 30) hx hb d_Desk_partialOfFraction_22 d_Desk_partialOfFraction_23 (by decide) (fun hc => ?_) (fun hc => ?_)
        · have hm := sd_mf hc hm
          refine lv_lload hx hb d_Desk_partialOfFraction_30 (lv_at hl 1 rfl) ?_
          refine lv_lload hx hb d_Desk_partialOfFraction_32 (lv_at hl 2 rfl) ?_
          obtain ⟨r, hc, hm⟩ := sd_mb1 hm
          refine sd_cl0 (wr := []) (w2 := []) (sd_runS (rest := []) (As := [.long x5, .long x7]) S (ct_Math_floorDiv l D g (H.size) x5 x7 F (r) hc) kl_Desk_129 (by decide) (by decide) hK hP hD [] rfl (by decide) rfl hl d_Desk_partialOfFraction_34 rfl (Nat.le_of_ble_eq_true rfl) ⟨Nat.zero_le _, Nat.zero_le _⟩) hP hD hS hA [] [] rfl rfl (by decide) (by decide) rfl (fun H locs hP hD hS => ?_)
          refine W.eq (g2 := F0 m 37 ls [.long r]) rfl ?_
          refine lv_lstore (lv' := [(9, .long r), (4, .int vN), (5, .long x5), (7, .long x7), (11, .int x11)]) hx hb d_Desk_partialOfFraction_37 hl (by decide) rfl (fun ls hl => ?_)
          refine lv_lload hx hb d_Desk_partialOfFraction_39 (lv_at hl 2 rfl) ?_
          refine lv_lload hx hb d_Desk_partialOfFraction_41 (lv_at hl 3 rfl) ?_
          obtain ⟨r_1, hc, hm⟩ := sd_mb1 hm
          refine sd_cl0 (wr := []) (w2 := []) (sd_runS (rest := []) (As := [.long x5, .long x7]) S (ct_Math_floorMod l D g (H.size) x5 x7 F (r_1) hc) kl_Desk_215 (by decide) (by decide) hK hP hD [] rfl (by decide) rfl hl d_Desk_partialOfFraction_43 rfl (Nat.le_of_ble_eq_true rfl) ⟨Nat.zero_le _, Nat.zero_le _⟩) hP hD hS hA [] [] rfl rfl (by decide) (by decide) rfl (fun H locs hP hD hS => ?_)
          refine W.eq (g2 := F0 m 46 ls [.long r_1]) rfl ?_
          refine lv_lstore (lv' := [(12, .long r_1), (9, .long r), (4, .int vN), (5, .long x5), (7, .long x7), (11, .int x11)]) hx hb d_Desk_partialOfFraction_46 hl (by decide) rfl (fun ls hl => ?_)
          refine lv_lload hx hb d_Desk_partialOfFraction_48 (lv_at hl 4 rfl) ?_
          refine lv_lstore (lv' := [(5, .long x7), (12, .long r_1), (9, .long r), (4, .int vN), (7, .long x7), (11, .int x11)]) hx hb d_Desk_partialOfFraction_50 hl (by decide) rfl (fun ls hl => ?_)
          refine lv_lload hx hb d_Desk_partialOfFraction_52 (lv_at hl 1 rfl) ?_
          refine lv_lstore (lv' := [(7, .long r_1), (5, .long x7), (12, .long r_1), (9, .long r), (4, .int vN), (11, .int x11)]) hx hb d_Desk_partialOfFraction_54 hl (by decide) rfl (fun ls hl => ?_)
          obtain ⟨x11_1, ex11_1, hm⟩ := sd_mlet hm
          refine lv_iinc (v := x11_1) (lv' := [(11, .int x11_1), (7, .long r_1), (5, .long x7), (12, .long r_1), (9, .long r), (4, .int vN)]) hx hb d_Desk_partialOfFraction_56 hl (k := 5) rfl (by rw [ex11_1]; rfl) (by decide) rfl (fun ls hl => ?_)
          refine lv_goto (tgt := 12) hx hb d_Desk_partialOfFraction_59 (by decide) ?_
          exact ih x7 r_1 r x11_1 tg rx9 hm H locs ls (hP.sub [] rfl) (hD.sub [] (by decide) rfl) hS (lv_sub hl [5, 2, 1, 4, 0] rfl) kx26 kx62
        · have hm := sd_mt hc hm
          cases hm
          exact kx26 rfl H locs ls (hP.sub [] rfl) (hD.sub [] (by decide) rfl) hS (lv_sub hl [] rfl)
  obtain ⟨tg, rx9, hc, hm⟩ := sd_mb2 hm
  refine L12 F vTop vBot (0 : Int64) (0 : Int32) tg rx9 hc H locs ls (hP.sub [] rfl) (hD.sub [] (by decide) rfl) hS (lv_sub hl [6, 3, 2, 1, 0] rfl) ?_ ?_
  · intro ht H locs ls hP hD hS hl
    have hm := sd_mt ht hm
    refine sd_ldc2 (v := (4611686018427387904 : Int64)) hx hb hown (htt _ km_Desk_127) d_Desk_partialOfFraction_26 ?_
    exact sd_l0ret hQ hx hb hr hlk hK (hP.sub [] rfl) (hD.sub [] (by decide) rfl) hS (Option.some.inj hm).symm d_Desk_partialOfFraction_29
  · intro ht H locs ls hP hD hS hl
    have hm := sd_mf (by rw [ht]; decide) hm
    refine lv_lload hx hb d_Desk_partialOfFraction_62 (lv_at hl 0 rfl) ?_
    exact sd_l0ret hQ hx hb hr hlk hK (hP.sub [] rfl) (hD.sub [] (by decide) rfl) hS (Option.some.inj hm).symm d_Desk_partialOfFraction_64
theorem d_Desk_keepDraft_0 : decode b_Desk_keepDraft 0 = .ok (.aload_n 0, 1) := by decide +kernel
theorem d_Desk_keepDraft_1 : decode b_Desk_keepDraft 1 = .ok (.getfield 11, 3) := by decide +kernel
theorem d_Desk_keepDraft_4 : decode b_Desk_keepDraft 4 = .ok (.iload_n 1, 1) := by decide +kernel
theorem d_Desk_keepDraft_5 : decode b_Desk_keepDraft 5 = .ok (.aaload, 1) := by decide +kernel
theorem d_Desk_keepDraft_6 : decode b_Desk_keepDraft 6 = .ok (.astore_n 2, 1) := by decide +kernel
theorem d_Desk_keepDraft_7 : decode b_Desk_keepDraft 7 = .ok (.aload_n 0, 1) := by decide +kernel
theorem d_Desk_keepDraft_8 : decode b_Desk_keepDraft 8 = .ok (.getfield 11, 3) := by decide +kernel
theorem d_Desk_keepDraft_11 : decode b_Desk_keepDraft 11 = .ok (.iload_n 1, 1) := by decide +kernel
theorem d_Desk_keepDraft_12 : decode b_Desk_keepDraft 12 = .ok (.aload_n 0, 1) := by decide +kernel
theorem d_Desk_keepDraft_13 : decode b_Desk_keepDraft 13 = .ok (.getfield 53, 3) := by decide +kernel
theorem d_Desk_keepDraft_16 : decode b_Desk_keepDraft 16 = .ok (.aastore, 1) := by decide +kernel
theorem d_Desk_keepDraft_17 : decode b_Desk_keepDraft 17 = .ok (.aload_n 0, 1) := by decide +kernel
theorem d_Desk_keepDraft_18 : decode b_Desk_keepDraft 18 = .ok (.aload_n 2, 1) := by decide +kernel
theorem d_Desk_keepDraft_19 : decode b_Desk_keepDraft 19 = .ok (.putfield 53, 3) := by decide +kernel
theorem d_Desk_keepDraft_22 : decode b_Desk_keepDraft 22 = .ok (.aload_n 0, 1) := by decide +kernel
theorem d_Desk_keepDraft_23 : decode b_Desk_keepDraft 23 = .ok (.getfield 11, 3) := by decide +kernel
theorem d_Desk_keepDraft_26 : decode b_Desk_keepDraft 26 = .ok (.iload_n 1, 1) := by decide +kernel
theorem d_Desk_keepDraft_27 : decode b_Desk_keepDraft 27 = .ok (.aaload, 1) := by decide +kernel
theorem d_Desk_keepDraft_28 : decode b_Desk_keepDraft 28 = .ok (.invokevirtual 106, 3) := by decide +kernel
theorem d_Desk_keepDraft_31 : decode b_Desk_keepDraft 31 = .ok (.ireturn, 1) := by decide +kernel
def mf_Desk_keepDraft (F : Nat) (vK : Int32) (cRg : Nat → Option Nat) (dk : Int32) (dn : Int32) (ds : Nat) (os : Nat) : Option (Int32 × Nat × (Nat → Option Nat)) :=
  (sd_g (sd_ix vK 8) (sd_g (sd_ix vK 8) (sd_let (va_up cRg vK.toNatClampNeg (some ds)) fun urg => (sd_g (sd_ix vK 8) (sd_b1 (mf_Sum_count F dk dn) fun r => (some (r, os, urg)))))))
abbrev rm_Desk_keepDraft : Room := { frames := 1, cells := 0, slots := 0, locals := 20 }
set_option maxHeartbeats 4000000 in
set_option maxRecDepth 100000 in
theorem ct_Desk_keepDraft (l : Launch) (D : va_G) (g : G4) (zd : Nat) (rg : Nat) (iv : Nat) (fe : Nat) (c1 : Nat) (c2 : Nat) (pg : Nat) (zl : Nat) (zh : Nat) (ds : Nat) (dat : Nat) (dab : Nat) (dar : Nat) (dal : Nat) (dah : Nat) (os : Nat) (sz : Nat) (vK : Int32) (cRg : Nat → Option Nat) (dk : Int32) (dn : Int32) (F : Nat) (res : Int32 × Nat × (Nat → Option Nat)) (hm : mf_Desk_keepDraft F vK cRg dk dn ds os = some res) (hKk : sd_ix vK 8 = true → cRg vK.toNatClampNeg = some os) : Met l y_Desk_keepDraft (.code y_Desk_keepDraft b_Desk_keepDraft 3 (some .int) :: sd_tb) rm_Desk_keepDraft (sd_PW D g [.ref zd, .int vK] sz [(zd, .inr (4, [.ref rg, .ref iv, .ref fe, .ref c1, .ref c2, .ref pg, .ref zl, .ref zh, .ref ds])), (rg, aQ g 8 cRg), (ds, .inr (0, [.ref dat, .ref dab, .ref dar, .ref dal, .ref dah, .int dk, .int dn]))]) (sd_Qi1 D g res (fun u : Nat × (Nat → Option Nat) => [(zd, .inr (4, [.ref rg, .ref iv, .ref fe, .ref c1, .ref c2, .ref pg, .ref zl, .ref zh, .ref (u.1)])), (rg, aQ g 8 (u.2)), (ds, .inr (0, [.ref dat, .ref dab, .ref dar, .ref dal, .ref dah, .int dk, .int dn]))]) (va_A [(zd, .inr (4, [.ref rg, .ref iv, .ref fe, .ref c1, .ref c2, .ref pg, .ref zl, .ref zh, .ref ds])), (rg, aQ g 8 cRg), (ds, .inr (0, [.ref dat, .ref dab, .ref dar, .ref dal, .ref dah, .int dk, .int dn]))] sz)) 0 0 (va_A [(zd, .inr (4, [.ref rg, .ref iv, .ref fe, .ref c1, .ref c2, .ref pg, .ref zl, .ref zh, .ref ds])), (rg, aQ g 8 cRg), (ds, .inr (0, [.ref dat, .ref dab, .ref dar, .ref dal, .ref dah, .int dk, .int dn]))] sz) := by
  refine sd_met (Qf := fun A => sd_Qi1 D g res (fun u : Nat × (Nat → Option Nat) => [(zd, .inr (4, [.ref rg, .ref iv, .ref fe, .ref c1, .ref c2, .ref pg, .ref zl, .ref zh, .ref (u.1)])), (rg, aQ g 8 (u.2)), (ds, .inr (0, [.ref dat, .ref dab, .ref dar, .ref dal, .ref dah, .int dk, .int dn]))]) A) (own := R_Desk) (by decide +kernel) rfl (Nat.le_of_ble_eq_true rfl) ?_
  intro p e s m args below meth c S hr hlk hK A hA Q hQ H locs hP hD hS ls hl
  have hx := S.1
  have hb := S.2.1
  have hml := S.2.2.1
  have hown := S.2.2.2.1
  have htt := sd_tt S
  replace hl : lv_has ls 3 [(0, .ref zd), (1, .int vK)] := hl
  unfold mf_Desk_keepDraft at hm
  refine lv_aload_n hx hb d_Desk_keepDraft_0 rfl (lv_at hl 0 rfl) ?_
  refine va_get (D := D) (ci := 4) (v := .ref rg) (C := R_Desk) (T := F_Desk) (N := 9) hx hb htt i_Desk hown hK hP 0 rfl rfl 0 (by decide) (htt _ kf_Desk_11) (fun _ h9 => h9) rfl d_Desk_keepDraft_1 ?_
  refine lv_iload_n hx hb d_Desk_keepDraft_4 rfl (lv_at hl 1 rfl) ?_
  obtain ⟨h_1, hm⟩ := sd_mg hm
  refine sd_aald hx hb hK hP 1 rfl h_1 d_Desk_keepDraft_5 ?_
  refine sd_topq (hKk h_1) ?_
  refine lv_astore_n (lv' := [(2, .ref os), (0, .ref zd), (1, .int vK)]) hx hb d_Desk_keepDraft_6 rfl hl (by decide) rfl (fun ls hl => ?_)
  refine lv_aload_n hx hb d_Desk_keepDraft_7 rfl (lv_at hl 1 rfl) ?_
  refine va_get (D := D) (ci := 4) (v := .ref rg) (C := R_Desk) (T := F_Desk) (N := 9) hx hb htt i_Desk hown hK hP 0 rfl rfl 0 (by decide) (htt _ kf_Desk_11) (fun _ h9 => h9) rfl d_Desk_keepDraft_8 ?_
  refine lv_iload_n hx hb d_Desk_keepDraft_11 rfl (lv_at hl 2 rfl) ?_
  refine lv_aload_n hx hb d_Desk_keepDraft_12 rfl (lv_at hl 1 rfl) ?_
  refine va_get (D := D) (ci := 4) (v := .ref ds) (C := R_Desk) (T := F_Desk) (N := 9) hx hb htt i_Desk hown hK hP 0 rfl rfl 8 (by decide) (htt _ kf_Desk_53) (fun _ h9 => h9) rfl d_Desk_keepDraft_13 ?_
  obtain ⟨h_2, hm⟩ := sd_mg hm
  obtain ⟨urg, eurg, hm⟩ := sd_mlet hm
  refine sd_aast (f2 := urg) (ws2 := [(zd, .inr (4, [.ref rg, .ref iv, .ref fe, .ref c1, .ref c2, .ref pg, .ref zl, .ref zh, .ref ds])), (rg, aQ g 8 urg), (ds, .inr (0, [.ref dat, .ref dab, .ref dar, .ref dal, .ref dah, .int dk, .int dn]))]) hx hb hK hP hD hS 1 2 rfl rfl h_2 eurg rfl d_Desk_keepDraft_16 (fun H locs hP hD hS => ?_)
  refine lv_aload_n hx hb d_Desk_keepDraft_17 rfl (lv_at hl 1 rfl) ?_
  refine lv_aload_n hx hb d_Desk_keepDraft_18 rfl (lv_at hl 0 rfl) ?_
  refine sd_put (ci := 4) (v := .ref os) (ty := (t_Desk 8)) (C := R_Desk) (T := F_Desk) (N := 9) (ws2 := [(zd, .inr (4, [.ref rg, .ref iv, .ref fe, .ref c1, .ref c2, .ref pg, .ref zl, .ref zh, .ref os])), (rg, aQ g 8 urg), (ds, .inr (0, [.ref dat, .ref dab, .ref dar, .ref dal, .ref dah, .int dk, .int dn]))]) hx hb htt i_Desk t_Desk t_Desk_ok n_Desk hown hK hP hD hS 0 rfl rfl 8 (by decide) kf_Desk_53 (fun _ h9 => h9) rfl (by decide +kernel) rfl rfl (Nat.le_of_ble_eq_true rfl) rfl d_Desk_keepDraft_19 (fun H locs hP hD hS => ?_)
  refine lv_aload_n hx hb d_Desk_keepDraft_22 rfl (lv_at hl 1 rfl) ?_
  refine va_get (D := D) (ci := 4) (v := .ref rg) (C := R_Desk) (T := F_Desk) (N := 9) hx hb htt i_Desk hown hK hP 0 rfl rfl 0 (by decide) (htt _ kf_Desk_11) (fun _ h9 => h9) rfl d_Desk_keepDraft_23 ?_
  refine lv_iload_n hx hb d_Desk_keepDraft_26 rfl (lv_at hl 2 rfl) ?_
  obtain ⟨h_3, hm⟩ := sd_mg hm
  refine sd_aald hx hb hK hP 1 rfl h_3 d_Desk_keepDraft_27 ?_
  refine sd_topq (sd_upself eurg) ?_
  obtain ⟨r, hc, hm⟩ := sd_mb1 hm
  refine sd_ci0 (wr := [(zd, .inr (4, [.ref rg, .ref iv, .ref fe, .ref c1, .ref c2, .ref pg, .ref zl, .ref zh, .ref os])), (rg, aQ g 8 urg)]) (w2 := [(zd, .inr (4, [.ref rg, .ref iv, .ref fe, .ref c1, .ref c2, .ref pg, .ref zl, .ref zh, .ref os])), (rg, aQ g 8 urg), (ds, .inr (0, [.ref dat, .ref dab, .ref dar, .ref dal, .ref dah, .int dk, .int dn]))]) (sd_runV (rest := []) (As := []) S (ct_Sum_count l D g ds dat dab dar dal dah (H.size) dk dn F (r) hc) kl_Desk_106 (by decide) (by decide) hK hP hD [2] rfl (by decide) rfl hl d_Desk_keepDraft_28 rfl (Nat.le_of_ble_eq_true rfl) ⟨Nat.zero_le _, Nat.zero_le _⟩ 2 rfl rfl) hP hD hS hA [2] [0, 1] rfl rfl (by decide) (by decide) rfl (fun H locs hP hD hS => ?_)
  refine W.eq (g2 := F0 m 31 ls [.int r]) rfl ?_
  exact sd_i1ret (u := (os, urg)) hQ hx hb hr hlk hK (hP.sub [0, 1, 2] rfl) (hD.sub [0, 1, 2] (by decide) rfl) hS (Option.some.inj hm).symm d_Desk_keepDraft_31
theorem d_Desk_load_0 : decode b_Desk_load 0 = .ok (.iload_n 1, 1) := by decide +kernel
theorem d_Desk_load_1 : decode b_Desk_load 1 = .ok (.invokestatic 56, 3) := by decide +kernel
theorem d_Desk_load_4 : decode b_Desk_load 4 = .ok (.ifCond .eq 10, 3) := by decide +kernel
theorem d_Desk_load_7 : decode b_Desk_load 7 = .ok (.lload 4, 2) := by decide +kernel
theorem d_Desk_load_9 : decode b_Desk_load 9 = .ok (.lconst 0, 1) := by decide +kernel
theorem d_Desk_load_10 : decode b_Desk_load 10 = .ok (.lcmp, 1) := by decide +kernel
theorem d_Desk_load_11 : decode b_Desk_load 11 = .ok (.ifCond .ne 5, 3) := by decide +kernel
theorem d_Desk_load_14 : decode b_Desk_load 14 = .ok (.iconst (-1), 1) := by decide +kernel
theorem d_Desk_load_15 : decode b_Desk_load 15 = .ok (.ireturn, 1) := by decide +kernel
theorem d_Desk_load_16 : decode b_Desk_load 16 = .ok (.lload_n 2, 1) := by decide +kernel
theorem d_Desk_load_17 : decode b_Desk_load 17 = .ok (.lload 4, 2) := by decide +kernel
theorem d_Desk_load_19 : decode b_Desk_load 19 = .ok (.invokestatic 60, 3) := by decide +kernel
theorem d_Desk_load_22 : decode b_Desk_load 22 = .ok (.lneg, 1) := by decide +kernel
theorem d_Desk_load_23 : decode b_Desk_load 23 = .ok (.lstore 6, 2) := by decide +kernel
theorem d_Desk_load_25 : decode b_Desk_load 25 = .ok (.lload_n 2, 1) := by decide +kernel
theorem d_Desk_load_26 : decode b_Desk_load 26 = .ok (.invokestatic 66, 3) := by decide +kernel
theorem d_Desk_load_29 : decode b_Desk_load 29 = .ok (.lload 6, 2) := by decide +kernel
theorem d_Desk_load_31 : decode b_Desk_load 31 = .ok (.ldiv, 1) := by decide +kernel
theorem d_Desk_load_32 : decode b_Desk_load 32 = .ok (.lstore 8, 2) := by decide +kernel
theorem d_Desk_load_34 : decode b_Desk_load 34 = .ok (.lload 4, 2) := by decide +kernel
theorem d_Desk_load_36 : decode b_Desk_load 36 = .ok (.invokestatic 66, 3) := by decide +kernel
theorem d_Desk_load_39 : decode b_Desk_load 39 = .ok (.lload 6, 2) := by decide +kernel
theorem d_Desk_load_41 : decode b_Desk_load 41 = .ok (.ldiv, 1) := by decide +kernel
theorem d_Desk_load_42 : decode b_Desk_load 42 = .ok (.lstore 10, 2) := by decide +kernel
theorem d_Desk_load_44 : decode b_Desk_load 44 = .ok (.lload 8, 2) := by decide +kernel
theorem d_Desk_load_46 : decode b_Desk_load 46 = .ok (.invokestatic 70, 3) := by decide +kernel
theorem d_Desk_load_49 : decode b_Desk_load 49 = .ok (.ifCond .ne 11, 3) := by decide +kernel
theorem d_Desk_load_52 : decode b_Desk_load 52 = .ok (.lload 10, 2) := by decide +kernel
theorem d_Desk_load_54 : decode b_Desk_load 54 = .ok (.invokestatic 70, 3) := by decide +kernel
theorem d_Desk_load_57 : decode b_Desk_load 57 = .ok (.ifCond .eq 6, 3) := by decide +kernel
theorem d_Desk_load_60 : decode b_Desk_load 60 = .ok (.bipush (-3), 2) := by decide +kernel
theorem d_Desk_load_62 : decode b_Desk_load 62 = .ok (.ireturn, 1) := by decide +kernel
theorem d_Desk_load_63 : decode b_Desk_load 63 = .ok (.aload_n 0, 1) := by decide +kernel
theorem d_Desk_load_64 : decode b_Desk_load 64 = .ok (.getfield 11, 3) := by decide +kernel
theorem d_Desk_load_67 : decode b_Desk_load 67 = .ok (.iload_n 1, 1) := by decide +kernel
theorem d_Desk_load_68 : decode b_Desk_load 68 = .ok (.aaload, 1) := by decide +kernel
theorem d_Desk_load_69 : decode b_Desk_load 69 = .ok (.lload_n 2, 1) := by decide +kernel
theorem d_Desk_load_70 : decode b_Desk_load 70 = .ok (.lconst 0, 1) := by decide +kernel
theorem d_Desk_load_71 : decode b_Desk_load 71 = .ok (.lcmp, 1) := by decide +kernel
theorem d_Desk_load_72 : decode b_Desk_load 72 = .ok (.ifCond .ge 7, 3) := by decide +kernel
theorem d_Desk_load_75 : decode b_Desk_load 75 = .ok (.iconst 1, 1) := by decide +kernel
theorem d_Desk_load_76 : decode b_Desk_load 76 = .ok (.goto 4, 3) := by decide +kernel
theorem d_Desk_load_79 : decode b_Desk_load 79 = .ok (.iconst 0, 1) := by decide +kernel
theorem d_Desk_load_80 : decode b_Desk_load 80 = .ok (.lload 4, 2) := by decide +kernel
theorem d_Desk_load_82 : decode b_Desk_load 82 = .ok (.lconst 0, 1) := by decide +kernel
theorem d_Desk_load_83 : decode b_Desk_load 83 = .ok (.lcmp, 1) := by decide +kernel
theorem d_Desk_load_84 : decode b_Desk_load 84 = .ok (.ifCond .ge 7, 3) := by decide +kernel
theorem d_Desk_load_87 : decode b_Desk_load 87 = .ok (.iconst 1, 1) := by decide +kernel
theorem d_Desk_load_88 : decode b_Desk_load 88 = .ok (.goto 4, 3) := by decide +kernel
theorem d_Desk_load_91 : decode b_Desk_load 91 = .ok (.iconst 0, 1) := by decide +kernel
theorem d_Desk_load_92 : decode b_Desk_load 92 = .ok (.if_icmp .ne 8, 3) := by decide +kernel
theorem d_Desk_load_95 : decode b_Desk_load 95 = .ok (.lload 8, 2) := by decide +kernel
theorem d_Desk_load_97 : decode b_Desk_load 97 = .ok (.goto 6, 3) := by decide +kernel
theorem d_Desk_load_100 : decode b_Desk_load 100 = .ok (.lload 8, 2) := by decide +kernel
theorem d_Desk_load_102 : decode b_Desk_load 102 = .ok (.lneg, 1) := by decide +kernel
theorem d_Desk_load_103 : decode b_Desk_load 103 = .ok (.lload 10, 2) := by decide +kernel
theorem d_Desk_load_105 : decode b_Desk_load 105 = .ok (.lconst 1, 1) := by decide +kernel
theorem d_Desk_load_106 : decode b_Desk_load 106 = .ok (.invokevirtual 74, 3) := by decide +kernel
theorem d_Desk_load_109 : decode b_Desk_load 109 = .ok (.iconst 0, 1) := by decide +kernel
theorem d_Desk_load_110 : decode b_Desk_load 110 = .ok (.ireturn, 1) := by decide +kernel
def mf_Desk_load (F : Nat) (vK : Int32) (vN : Int64) (vD : Int64) (cRg : Nat → Option Nat) (xk : Int32) (xn : Int32) (xT : Nat → Int64) (xB : Nat → Int64) (xR : Nat → Int64) : Option (Int32 × Int32 × Int32 × (Nat → Int64) × (Nat → Int64) × (Nat → Int64)) :=
  (sd_b1 (mf_Desk_isRegister F vK) fun r => (if r = 0 then (some ((-1 : Int32), xk, xn, xT, xB, xR)) else (if vD = (0 : Int64) then (some ((-1 : Int32), xk, xn, xT, xB, xR)) else (sd_b1 (mf_Whole_commonDivisor F vN vD) fun r_1 => (sd_let ((-r_1)) fun x6 => (sd_b1 (mf_Whole_belowZero F vN) fun r_2 => (sd_g (sd_zJ x6) (sd_let ((r_2 / x6)) fun x8 => (sd_b1 (mf_Whole_belowZero F vD) fun r_3 => (sd_g (sd_zJ x6) (sd_let ((r_3 / x6)) fun x10 => (sd_b1 (mf_Whole_isTooGreat F x8) fun r_4 => (if r_4 = 0 then (sd_b1 (mf_Whole_isTooGreat F x10) fun r_5 => (if r_5 = 0 then (sd_g (sd_ix vK 8) (sd_b1 (if (0 : Int64) ≤ vN then (some ((0 : Int32))) else (some ((1 : Int32)))) fun y => (sd_b1 (if (0 : Int64) ≤ vD then (some ((0 : Int32))) else (some ((1 : Int32)))) fun y_1 => (sd_b1 (if y = y_1 then (some (x8)) else (some ((-x8)))) fun y_2 => (sd_b5 (mf_Sum_become F y_2 x10 (1 : Int64) xk xn xT xB xR) fun uxs uxs_1 uxat uxab uxar => (some ((0 : Int32), uxs, uxs_1, uxat, uxab, uxar))))))) else (some ((-3 : Int32), xk, xn, xT, xB, xR)))) else (some ((-3 : Int32), xk, xn, xT, xB, xR)))))))))))))))
abbrev rm_Desk_load : Room := { frames := 2, cells := 0, slots := 0, locals := 53 }
set_option maxHeartbeats 4000000 in
set_option maxRecDepth 100000 in
theorem ct_Desk_load (l : Launch) (D : va_G) (g : G4) (zd : Nat) (rg : Nat) (iv : Nat) (fe : Nat) (c1 : Nat) (c2 : Nat) (pg : Nat) (zl : Nat) (zh : Nat) (ds : Nat) (xs : Nat) (xat : Nat) (xab : Nat) (xar : Nat) (xal : Nat) (xah : Nat) (sz : Nat) (vK : Int32) (vN : Int64) (vD : Int64) (cRg : Nat → Option Nat) (xk : Int32) (xn : Int32) (xT : Nat → Int64) (xB : Nat → Int64) (xR : Nat → Int64) (F : Nat) (res : Int32 × Int32 × Int32 × (Nat → Int64) × (Nat → Int64) × (Nat → Int64)) (hm : mf_Desk_load F vK vN vD cRg xk xn xT xB xR = some res) (hKk : sd_ix vK 8 = true → cRg vK.toNatClampNeg = some xs) : Met l y_Desk_load (.code y_Desk_load b_Desk_load 12 (some .int) :: sd_tb) rm_Desk_load (sd_PW D g [.ref zd, .int vK, .long vN, .long vD] sz [(zd, .inr (4, [.ref rg, .ref iv, .ref fe, .ref c1, .ref c2, .ref pg, .ref zl, .ref zh, .ref ds])), (rg, aQ g 8 cRg), (xs, .inr (0, [.ref xat, .ref xab, .ref xar, .ref xal, .ref xah, .int xk, .int xn])), (xat, aJ g 8 xT), (xab, aJ g 8 xB), (xar, aJ g 8 xR)]) (sd_Qi1 D g res (fun u : Int32 × Int32 × (Nat → Int64) × (Nat → Int64) × (Nat → Int64) => [(zd, .inr (4, [.ref rg, .ref iv, .ref fe, .ref c1, .ref c2, .ref pg, .ref zl, .ref zh, .ref ds])), (rg, aQ g 8 cRg), (xs, .inr (0, [.ref xat, .ref xab, .ref xar, .ref xal, .ref xah, .int (u.1), .int (u.2.1)])), (xat, aJ g 8 (u.2.2.1)), (xab, aJ g 8 (u.2.2.2.1)), (xar, aJ g 8 (u.2.2.2.2))]) (va_A [(zd, .inr (4, [.ref rg, .ref iv, .ref fe, .ref c1, .ref c2, .ref pg, .ref zl, .ref zh, .ref ds])), (rg, aQ g 8 cRg), (xs, .inr (0, [.ref xat, .ref xab, .ref xar, .ref xal, .ref xah, .int xk, .int xn])), (xat, aJ g 8 xT), (xab, aJ g 8 xB), (xar, aJ g 8 xR)] sz)) 0 0 (va_A [(zd, .inr (4, [.ref rg, .ref iv, .ref fe, .ref c1, .ref c2, .ref pg, .ref zl, .ref zh, .ref ds])), (rg, aQ g 8 cRg), (xs, .inr (0, [.ref xat, .ref xab, .ref xar, .ref xal, .ref xah, .int xk, .int xn])), (xat, aJ g 8 xT), (xab, aJ g 8 xB), (xar, aJ g 8 xR)] sz) := by
  refine sd_met (Qf := fun A => sd_Qi1 D g res (fun u : Int32 × Int32 × (Nat → Int64) × (Nat → Int64) × (Nat → Int64) => [(zd, .inr (4, [.ref rg, .ref iv, .ref fe, .ref c1, .ref c2, .ref pg, .ref zl, .ref zh, .ref ds])), (rg, aQ g 8 cRg), (xs, .inr (0, [.ref xat, .ref xab, .ref xar, .ref xal, .ref xah, .int (u.1), .int (u.2.1)])), (xat, aJ g 8 (u.2.2.1)), (xab, aJ g 8 (u.2.2.2.1)), (xar, aJ g 8 (u.2.2.2.2))]) A) (own := R_Desk) (by decide +kernel) rfl (Nat.le_of_ble_eq_true rfl) ?_
  intro p e s m args below meth c S hr hlk hK A hA Q hQ H locs hP hD hS ls hl
  have hx := S.1
  have hb := S.2.1
  have hml := S.2.2.1
  have hown := S.2.2.2.1
  have htt := sd_tt S
  replace hl : lv_has ls 12 [(0, .ref zd), (1, .int vK), (2, .long vN), (4, .long vD)] := hl
  unfold mf_Desk_load at hm
  refine lv_iload_n hx hb d_Desk_load_0 rfl (lv_at hl 1 rfl) ?_
  obtain ⟨r, hc, hm⟩ := sd_mb1 hm
  refine sd_ci0 (wr := [(zd, .inr (4, [.ref rg, .ref iv, .ref fe, .ref c1, .ref c2, .ref pg, .ref zl, .ref zh, .ref ds])), (rg, aQ g 8 cRg), (xs, .inr (0, [.ref xat, .ref xab, .ref xar, .ref xal, .ref xah, .int xk, .int xn])), (xat, aJ g 8 xT), (xab, aJ g 8 xB), (xar, aJ g 8 xR)]) (w2 := [(zd, .inr (4, [.ref rg, .ref iv, .ref fe, .ref c1, .ref c2, .ref pg, .ref zl, .ref zh, .ref ds])), (rg, aQ g 8 cRg), (xs, .inr (0, [.ref xat, .ref xab, .ref xar, .ref xal, .ref xah, .int xk, .int xn])), (xat, aJ g 8 xT), (xab, aJ g 8 xB), (xar, aJ g 8 xR)]) (sd_runS (rest := []) (As := [.int vK]) S (ct_Desk_isRegister l D g (H.size) vK F (r) hc) kl_Desk_56 (by decide) (by decide) hK hP hD [] rfl (by decide) rfl hl d_Desk_load_1 rfl (Nat.le_of_ble_eq_true rfl) ⟨Nat.zero_le _, Nat.zero_le _⟩) hP hD hS hA [] [0, 1, 2, 3, 4, 5] rfl rfl (by decide) (by decide) rfl (fun H locs hP hD hS => ?_)
  refine W.eq (g2 := F0 m 4 ls [.int r]) rfl ?_
  refine lv_if_eq (tgt := 14) hx hb d_Desk_load_4 (by decide) (fun hc => ?_) (fun hc => ?_)
  · have hm := sd_mt hc hm
    refine lv_iconst (v := (-1 : Int32)) hx hb d_Desk_load_14 (by decide) ?_
    exact sd_i1ret (u := (xk, xn, xT, xB, xR)) hQ hx hb hr hlk hK (hP.sub [0, 1, 2, 3, 4, 5] rfl) (hD.sub [0, 1, 2, 3, 4, 5] (by decide) rfl) hS (Option.some.inj hm).symm d_Desk_load_15
  · have hm := sd_mf hc hm
    refine lv_lload hx hb d_Desk_load_7 (lv_at hl 3 rfl) ?_
    refine lv_lconst (v := (0 : Int64)) hx hb d_Desk_load_9 (by decide) ?_
    refine sd_lne (tgt := 16) hx hb d_Desk_load_10 d_Desk_load_11 (by decide) (fun hc => ?_) (fun hc => ?_)
    · have hm := sd_mf hc hm
      refine lv_lload_n hx hb d_Desk_load_16 rfl (lv_at hl 2 rfl) ?_
      refine lv_lload hx hb d_Desk_load_17 (lv_at hl 3 rfl) ?_
      obtain ⟨r_1, hc, hm⟩ := sd_mb1 hm
      refine sd_cl0 (wr := [(zd, .inr (4, [.ref rg, .ref iv, .ref fe, .ref c1, .ref c2, .ref pg, .ref zl, .ref zh, .ref ds])), (rg, aQ g 8 cRg), (xs, .inr (0, [.ref xat, .ref xab, .ref xar, .ref xal, .ref xah, .int xk, .int xn])), (xat, aJ g 8 xT), (xab, aJ g 8 xB), (xar, aJ g 8 xR)]) (w2 := [(zd, .inr (4, [.ref rg, .ref iv, .ref fe, .ref c1, .ref c2, .ref pg, .ref zl, .ref zh, .ref ds])), (rg, aQ g 8 cRg), (xs, .inr (0, [.ref xat, .ref xab, .ref xar, .ref xal, .ref xah, .int xk, .int xn])), (xat, aJ g 8 xT), (xab, aJ g 8 xB), (xar, aJ g 8 xR)]) (sd_runS (rest := []) (As := [.long vN, .long vD]) S (ct_Whole_commonDivisor l D g (H.size) vN vD F (r_1) hc) kl_Desk_60 (by decide) (by decide) hK hP hD [] rfl (by decide) rfl hl d_Desk_load_19 rfl (Nat.le_of_ble_eq_true rfl) ⟨Nat.zero_le _, Nat.zero_le _⟩) hP hD hS hA [] [0, 1, 2, 3, 4, 5] rfl rfl (by decide) (by decide) rfl (fun H locs hP hD hS => ?_)
      refine W.eq (g2 := F0 m 22 ls [.long r_1]) rfl ?_
      refine lv_lneg hx hb d_Desk_load_22 ?_
      obtain ⟨x6, ex6, hm⟩ := sd_mlet hm
      refine sd_topj ex6 ?_
      refine lv_lstore (lv' := [(6, .long x6), (0, .ref zd), (1, .int vK), (2, .long vN), (4, .long vD)]) hx hb d_Desk_load_23 hl (by decide) rfl (fun ls hl => ?_)
      refine lv_lload_n hx hb d_Desk_load_25 rfl (lv_at hl 3 rfl) ?_
      obtain ⟨r_2, hc, hm⟩ := sd_mb1 hm
      refine sd_cl0 (wr := [(zd, .inr (4, [.ref rg, .ref iv, .ref fe, .ref c1, .ref c2, .ref pg, .ref zl, .ref zh, .ref ds])), (rg, aQ g 8 cRg), (xs, .inr (0, [.ref xat, .ref xab, .ref xar, .ref xal, .ref xah, .int xk, .int xn])), (xat, aJ g 8 xT), (xab, aJ g 8 xB), (xar, aJ g 8 xR)]) (w2 := [(zd, .inr (4, [.ref rg, .ref iv, .ref fe, .ref c1, .ref c2, .ref pg, .ref zl, .ref zh, .ref ds])), (rg, aQ g 8 cRg), (xs, .inr (0, [.ref xat, .ref xab, .ref xar, .ref xal, .ref xah, .int xk, .int xn])), (xat, aJ g 8 xT), (xab, aJ g 8 xB), (xar, aJ g 8 xR)]) (sd_runS (rest := []) (As := [.long vN]) S (ct_Whole_belowZero l D g (H.size) vN F (r_2) hc) kl_Desk_66 (by decide) (by decide) hK hP hD [] rfl (by decide) rfl hl d_Desk_load_26 rfl (Nat.le_of_ble_eq_true rfl) ⟨Nat.zero_le _, Nat.zero_le _⟩) hP hD hS hA [] [0, 1, 2, 3, 4, 5] rfl rfl (by decide) (by decide) rfl (fun H locs hP hD hS => ?_)
      refine W.eq (g2 := F0 m 29 ls [.long r_2]) rfl ?_
      refine lv_lload hx hb d_Desk_load_29 (lv_at hl 0 rfl) ?_
      obtain ⟨h_1, hm⟩ := sd_mg hm
      refine lv_ldiv hx hb d_Desk_load_31 (sd_nzJ h_1) ?_
      obtain ⟨x8, ex8, hm⟩ := sd_mlet hm
      refine sd_topj ex8 ?_
      refine lv_lstore (lv' := [(8, .long x8), (6, .long x6), (0, .ref zd), (1, .int vK), (2, .long vN), (4, .long vD)]) hx hb d_Desk_load_32 hl (by decide) rfl (fun ls hl => ?_)
      refine lv_lload hx hb d_Desk_load_34 (lv_at hl 5 rfl) ?_
      obtain ⟨r_3, hc, hm⟩ := sd_mb1 hm
      refine sd_cl0 (wr := [(zd, .inr (4, [.ref rg, .ref iv, .ref fe, .ref c1, .ref c2, .ref pg, .ref zl, .ref zh, .ref ds])), (rg, aQ g 8 cRg), (xs, .inr (0, [.ref xat, .ref xab, .ref xar, .ref xal, .ref xah, .int xk, .int xn])), (xat, aJ g 8 xT), (xab, aJ g 8 xB), (xar, aJ g 8 xR)]) (w2 := [(zd, .inr (4, [.ref rg, .ref iv, .ref fe, .ref c1, .ref c2, .ref pg, .ref zl, .ref zh, .ref ds])), (rg, aQ g 8 cRg), (xs, .inr (0, [.ref xat, .ref xab, .ref xar, .ref xal, .ref xah, .int xk, .int xn])), (xat, aJ g 8 xT), (xab, aJ g 8 xB), (xar, aJ g 8 xR)]) (sd_runS (rest := []) (As := [.long vD]) S (ct_Whole_belowZero l D g (H.size) vD F (r_3) hc) kl_Desk_66 (by decide) (by decide) hK hP hD [] rfl (by decide) rfl hl d_Desk_load_36 rfl (Nat.le_of_ble_eq_true rfl) ⟨Nat.zero_le _, Nat.zero_le _⟩) hP hD hS hA [] [0, 1, 2, 3, 4, 5] rfl rfl (by decide) (by decide) rfl (fun H locs hP hD hS => ?_)
      refine W.eq (g2 := F0 m 39 ls [.long r_3]) rfl ?_
      refine lv_lload hx hb d_Desk_load_39 (lv_at hl 1 rfl) ?_
      obtain ⟨h_2, hm⟩ := sd_mg hm
      refine lv_ldiv hx hb d_Desk_load_41 (sd_nzJ h_2) ?_
      obtain ⟨x10, ex10, hm⟩ := sd_mlet hm
      refine sd_topj ex10 ?_
      refine lv_lstore (lv' := [(10, .long x10), (8, .long x8), (6, .long x6), (0, .ref zd), (1, .int vK), (2, .long vN), (4, .long vD)]) hx hb d_Desk_load_42 hl (by decide) rfl (fun ls hl => ?_)
      refine lv_lload hx hb d_Desk_load_44 (lv_at hl 1 rfl) ?_
      obtain ⟨r_4, hc, hm⟩ := sd_mb1 hm
      refine sd_ci0 (wr := [(zd, .inr (4, [.ref rg, .ref iv, .ref fe, .ref c1, .ref c2, .ref pg, .ref zl, .ref zh, .ref ds])), (rg, aQ g 8 cRg), (xs, .inr (0, [.ref xat, .ref xab, .ref xar, .ref xal, .ref xah, .int xk, .int xn])), (xat, aJ g 8 xT), (xab, aJ g 8 xB), (xar, aJ g 8 xR)]) (w2 := [(zd, .inr (4, [.ref rg, .ref iv, .ref fe, .ref c1, .ref c2, .ref pg, .ref zl, .ref zh, .ref ds])), (rg, aQ g 8 cRg), (xs, .inr (0, [.ref xat, .ref xab, .ref xar, .ref xal, .ref xah, .int xk, .int xn])), (xat, aJ g 8 xT), (xab, aJ g 8 xB), (xar, aJ g 8 xR)]) (sd_runS (rest := []) (As := [.long x8]) S (ct_Whole_isTooGreat l D g (H.size) x8 F (r_4) hc) kl_Desk_70 (by decide) (by decide) hK hP hD [] rfl (by decide) rfl hl d_Desk_load_46 rfl (Nat.le_of_ble_eq_true rfl) ⟨Nat.zero_le _, Nat.zero_le _⟩) hP hD hS hA [] [0, 1, 2, 3, 4, 5] rfl rfl (by decide) (by decide) rfl (fun H locs hP hD hS => ?_)
      refine W.eq (g2 := F0 m 49 ls [.int r_4]) rfl ?_
      refine lv_if_ne (tgt := 60) hx hb d_Desk_load_49 (by decide) (fun hc => ?_) (fun hc => ?_)
      · have hm := sd_mf hc hm
        refine lv_bipush (v := (-3 : Int32)) hx hb d_Desk_load_60 (by decide) ?_
        exact sd_i1ret (u := (xk, xn, xT, xB, xR)) hQ hx hb hr hlk hK (hP.sub [0, 1, 2, 3, 4, 5] rfl) (hD.sub [0, 1, 2, 3, 4, 5] (by decide) rfl) hS (Option.some.inj hm).symm d_Desk_load_62
      · have hm := sd_mt hc hm
        refine lv_lload hx hb d_Desk_load_52 (lv_at hl 0 rfl) ?_
        obtain ⟨r_5, hc, hm⟩ := sd_mb1 hm
        refine sd_ci0 (wr := [(zd, .inr (4, [.ref rg, .ref iv, .ref fe, .ref c1, .ref c2, .ref pg, .ref zl, .ref zh, .ref ds])), (rg, aQ g 8 cRg), (xs, .inr (0, [.ref xat, .ref xab, .ref xar, .ref xal, .ref xah, .int xk, .int xn])), (xat, aJ g 8 xT), (xab, aJ g 8 xB), (xar, aJ g 8 xR)]) (w2 := [(zd, .inr (4, [.ref rg, .ref iv, .ref fe, .ref c1, .ref c2, .ref pg, .ref zl, .ref zh, .ref ds])), (rg, aQ g 8 cRg), (xs, .inr (0, [.ref xat, .ref xab, .ref xar, .ref xal, .ref xah, .int xk, .int xn])), (xat, aJ g 8 xT), (xab, aJ g 8 xB), (xar, aJ g 8 xR)]) (sd_runS (rest := []) (As := [.long x10]) S (ct_Whole_isTooGreat l D g (H.size) x10 F (r_5) hc) kl_Desk_70 (by decide) (by decide) hK hP hD [] rfl (by decide) rfl hl d_Desk_load_54 rfl (Nat.le_of_ble_eq_true rfl) ⟨Nat.zero_le _, Nat.zero_le _⟩) hP hD hS hA [] [0, 1, 2, 3, 4, 5] rfl rfl (by decide) (by decide) rfl (fun H locs hP hD hS => ?_)
        refine W.eq (g2 := F0 m 57 ls [.int r_5]) rfl ?_
        refine lv_if_eq (tgt := 63) hx hb d_Desk_load_57 (by decide) (fun hc => ?_) (fun hc => ?_)
        · have hm := sd_mt hc hm
          refine lv_aload_n hx hb d_Desk_load_63 rfl (lv_at hl 3 rfl) ?_
          refine va_get (D := D) (ci := 4) (v := .ref rg) (C := R_Desk) (T := F_Desk) (N := 9) hx hb htt i_Desk hown hK hP 0 rfl rfl 0 (by decide) (htt _ kf_Desk_11) (fun _ h9 => h9) rfl d_Desk_load_64 ?_
          refine lv_iload_n hx hb d_Desk_load_67 rfl (lv_at hl 4 rfl) ?_
          obtain ⟨h_3, hm⟩ := sd_mg hm
          refine sd_aald hx hb hK hP 1 rfl h_3 d_Desk_load_68 ?_
          refine sd_topq (hKk h_3) ?_
          refine lv_lload_n hx hb d_Desk_load_69 rfl (lv_at hl 5 rfl) ?_
          refine lv_lconst (v := (0 : Int64)) hx hb d_Desk_load_70 (by decide) ?_
          obtain ⟨y, hv, hm⟩ := sd_mb1 hm
          have J80_4 : ∀ (H : Heap) (locs : List Loc) (ls : Array Slot), va_P D classes [(zd, .inr (4, [.ref rg, .ref iv, .ref fe, .ref c1, .ref c2, .ref pg, .ref zl, .ref zh, .ref ds])), (rg, aQ g 8 cRg), (xs, .inr (0, [.ref xat, .ref xab, .ref xar, .ref xal, .ref xah, .int xk, .int xn])), (xat, aJ g 8 xT), (xab, aJ g 8 xB), (xar, aJ g 8 xR)] H → va_D A [(zd, .inr (4, [.ref rg, .ref iv, .ref fe, .ref c1, .ref c2, .ref pg, .ref zl, .ref zh, .ref ds])), (rg, aQ g 8 cRg), (xs, .inr (0, [.ref xat, .ref xab, .ref xar, .ref xal, .ref xah, .int xk, .int xn])), (xat, aJ g 8 xT), (xab, aJ g 8 xB), (xar, aJ g 8 xR)] → va_S A s.heap H locs → lv_has ls 12 [(4, .long vD), (8, .long x8), (10, .long x10)] → W p l e rm_Desk_load s m args below meth c H locs 0 0 Q (F0 m 80 ls [.int y, .ref xs]) := by
            intro H locs ls hP hD hS hl
            refine lv_lload hx hb d_Desk_load_80 (lv_at hl 0 rfl) ?_
            refine lv_lconst (v := (0 : Int64)) hx hb d_Desk_load_82 (by decide) ?_
            obtain ⟨y_1, hv, hm⟩ := sd_mb1 hm
            have J92_5 : ∀ (H : Heap) (locs : List Loc) (ls : Array Slot), va_P D classes [(zd, .inr (4, [.ref rg, .ref iv, .ref fe, .ref c1, .ref c2, .ref pg, .ref zl, .ref zh, .ref ds])), (rg, aQ g 8 cRg), (xs, .inr (0, [.ref xat, .ref xab, .ref xar, .ref xal, .ref xah, .int xk, .int xn])), (xat, aJ g 8 xT), (xab, aJ g 8 xB), (xar, aJ g 8 xR)] H → va_D A [(zd, .inr (4, [.ref rg, .ref iv, .ref fe, .ref c1, .ref c2, .ref pg, .ref zl, .ref zh, .ref ds])), (rg, aQ g 8 cRg), (xs, .inr (0, [.ref xat, .ref xab, .ref xar, .ref xal, .ref xah, .int xk, .int xn])), (xat, aJ g 8 xT), (xab, aJ g 8 xB), (xar, aJ g 8 xR)] → va_S A s.heap H locs → lv_has ls 12 [(8, .long x8), (10, .long x10)] → W p l e rm_Desk_load s m args below meth c H locs 0 0 Q (F0 m 92 ls [.int y_1, .int y, .ref xs]) := by
              intro H locs ls hP hD hS hl
              obtain ⟨y_2, hv, hm⟩ := sd_mb1 hm
              have J103_6 : ∀ (H : Heap) (locs : List Loc) (ls : Array Slot), va_P D classes [(zd, .inr (4, [.ref rg, .ref iv, .ref fe, .ref c1, .ref c2, .ref pg, .ref zl, .ref zh, .ref ds])), (rg, aQ g 8 cRg), (xs, .inr (0, [.ref xat, .ref xab, .ref xar, .ref xal, .ref xah, .int xk, .int xn])), (xat, aJ g 8 xT), (xab, aJ g 8 xB), (xar, aJ g 8 xR)] H → va_D A [(zd, .inr (4, [.ref rg, .ref iv, .ref fe, .ref c1, .ref c2, .ref pg, .ref zl, .ref zh, .ref ds])), (rg, aQ g 8 cRg), (xs, .inr (0, [.ref xat, .ref xab, .ref xar, .ref xal, .ref xah, .int xk, .int xn])), (xat, aJ g 8 xT), (xab, aJ g 8 xB), (xar, aJ g 8 xR)] → va_S A s.heap H locs → lv_has ls 12 [(10, .long x10)] → W p l e rm_Desk_load s m args below meth c H locs 0 0 Q (F0 m 103 ls [.long y_2, .ref xs]) := by
                intro H locs ls hP hD hS hl
                refine lv_lload hx hb d_Desk_load_103 (lv_at hl 0 rfl) ?_
                refine lv_lconst (v := (1 : Int64)) hx hb d_Desk_load_105 (by decide) ?_
                obtain ⟨uxs, uxs_1, uxat, uxab, uxar, hc, hm⟩ := sd_mb5 hm
                refine sd_cv1 (wr := [(zd, .inr (4, [.ref rg, .ref iv, .ref fe, .ref c1, .ref c2, .ref pg, .ref zl, .ref zh, .ref ds])), (rg, aQ g 8 cRg)]) (w2 := [(zd, .inr (4, [.ref rg, .ref iv, .ref fe, .ref c1, .ref c2, .ref pg, .ref zl, .ref zh, .ref ds])), (rg, aQ g 8 cRg), (xs, .inr (0, [.ref xat, .ref xab, .ref xar, .ref xal, .ref xah, .int uxs, .int uxs_1])), (xat, aJ g 8 uxat), (xab, aJ g 8 uxab), (xar, aJ g 8 uxar)]) (sd_runV (rest := []) (As := [.long y_2, .long x10, .long (1 : Int64)]) S (ct_Sum_become l D g xs xat xab xar xal xah (H.size) y_2 x10 (1 : Int64) xk xn xT xB xR F (uxs, uxs_1, uxat, uxab, uxar) hc) kl_Desk_74 (by decide) (by decide) hK hP hD [2, 3, 4, 5] rfl (by decide) rfl hl d_Desk_load_106 rfl (Nat.le_of_ble_eq_true rfl) ⟨Nat.zero_le _, Nat.zero_le _⟩ 2 rfl rfl) hP hD hS hA [2, 3, 4, 5] [0, 1] rfl rfl (by decide) (by decide) rfl (fun H locs hP hD hS => ?_)
                refine lv_iconst (v := (0 : Int32)) hx hb d_Desk_load_109 (by decide) ?_
                exact sd_i1ret (u := (uxs, uxs_1, uxat, uxab, uxar)) hQ hx hb hr hlk hK (hP.sub [0, 1, 2, 3, 4, 5] rfl) (hD.sub [0, 1, 2, 3, 4, 5] (by decide) rfl) hS (Option.some.inj hm).symm d_Desk_load_110
              replace hm := hv
              refine lv_icmp_ne (tgt := 100) hx hb d_Desk_load_92 (by decide) (fun hc => ?_) (fun hc => ?_)
              · have hm := sd_mf hc hm
                refine lv_lload hx hb d_Desk_load_100 (lv_at hl 0 rfl) ?_
                refine lv_lneg hx hb d_Desk_load_102 ?_
                cases hm
                exact J103_6 H locs ls (hP.sub [0, 1, 2, 3, 4, 5] rfl) (hD.sub [0, 1, 2, 3, 4, 5] (by decide) rfl) hS (lv_sub hl [1] rfl)
              · have hm := sd_mt hc hm
                refine lv_lload hx hb d_Desk_load_95 (lv_at hl 0 rfl) ?_
                refine lv_goto (tgt := 103) hx hb d_Desk_load_97 (by decide) ?_
                cases hm
                exact J103_6 H locs ls (hP.sub [0, 1, 2, 3, 4, 5] rfl) (hD.sub [0, 1, 2, 3, 4, 5] (by decide) rfl) hS (lv_sub hl [1] rfl)
            replace hm := hv
            refine sd_lge (tgt := 91) hx hb d_Desk_load_83 d_Desk_load_84 (by decide) (fun hc => ?_) (fun hc => ?_)
            · have hm := sd_mt hc hm
              refine lv_iconst (v := (0 : Int32)) hx hb d_Desk_load_91 (by decide) ?_
              cases hm
              exact J92_5 H locs ls (hP.sub [0, 1, 2, 3, 4, 5] rfl) (hD.sub [0, 1, 2, 3, 4, 5] (by decide) rfl) hS (lv_sub hl [1, 2] rfl)
            · have hm := sd_mf hc hm
              refine lv_iconst (v := (1 : Int32)) hx hb d_Desk_load_87 (by decide) ?_
              refine lv_goto (tgt := 92) hx hb d_Desk_load_88 (by decide) ?_
              cases hm
              exact J92_5 H locs ls (hP.sub [0, 1, 2, 3, 4, 5] rfl) (hD.sub [0, 1, 2, 3, 4, 5] (by decide) rfl) hS (lv_sub hl [1, 2] rfl)
          replace hm := hv
          refine sd_lge (tgt := 79) hx hb d_Desk_load_71 d_Desk_load_72 (by decide) (fun hc => ?_) (fun hc => ?_)
          · have hm := sd_mt hc hm
            refine lv_iconst (v := (0 : Int32)) hx hb d_Desk_load_79 (by decide) ?_
            cases hm
            exact J80_4 H locs ls (hP.sub [0, 1, 2, 3, 4, 5] rfl) (hD.sub [0, 1, 2, 3, 4, 5] (by decide) rfl) hS (lv_sub hl [6, 1, 0] rfl)
          · have hm := sd_mf hc hm
            refine lv_iconst (v := (1 : Int32)) hx hb d_Desk_load_75 (by decide) ?_
            refine lv_goto (tgt := 80) hx hb d_Desk_load_76 (by decide) ?_
            cases hm
            exact J80_4 H locs ls (hP.sub [0, 1, 2, 3, 4, 5] rfl) (hD.sub [0, 1, 2, 3, 4, 5] (by decide) rfl) hS (lv_sub hl [6, 1, 0] rfl)
        · have hm := sd_mf hc hm
          refine lv_bipush (v := (-3 : Int32)) hx hb d_Desk_load_60 (by decide) ?_
          exact sd_i1ret (u := (xk, xn, xT, xB, xR)) hQ hx hb hr hlk hK (hP.sub [0, 1, 2, 3, 4, 5] rfl) (hD.sub [0, 1, 2, 3, 4, 5] (by decide) rfl) hS (Option.some.inj hm).symm d_Desk_load_62
    · have hm := sd_mt hc hm
      refine lv_iconst (v := (-1 : Int32)) hx hb d_Desk_load_14 (by decide) ?_
      exact sd_i1ret (u := (xk, xn, xT, xB, xR)) hQ hx hb hr hlk hK (hP.sub [0, 1, 2, 3, 4, 5] rfl) (hD.sub [0, 1, 2, 3, 4, 5] (by decide) rfl) hS (Option.some.inj hm).symm d_Desk_load_15
theorem d_Desk_root_0 : decode b_Desk_root 0 = .ok (.iload_n 1, 1) := by decide +kernel
theorem d_Desk_root_1 : decode b_Desk_root 1 = .ok (.invokestatic 56, 3) := by decide +kernel
theorem d_Desk_root_4 : decode b_Desk_root 4 = .ok (.ifCond .eq 10, 3) := by decide +kernel
theorem d_Desk_root_7 : decode b_Desk_root 7 = .ok (.iload_n 2, 1) := by decide +kernel
theorem d_Desk_root_8 : decode b_Desk_root 8 = .ok (.invokestatic 56, 3) := by decide +kernel
theorem d_Desk_root_11 : decode b_Desk_root 11 = .ok (.ifCond .ne 5, 3) := by decide +kernel
theorem d_Desk_root_14 : decode b_Desk_root 14 = .ok (.iconst (-1), 1) := by decide +kernel
theorem d_Desk_root_15 : decode b_Desk_root 15 = .ok (.ireturn, 1) := by decide +kernel
theorem d_Desk_root_16 : decode b_Desk_root 16 = .ok (.aload_n 0, 1) := by decide +kernel
theorem d_Desk_root_17 : decode b_Desk_root 17 = .ok (.getfield 11, 3) := by decide +kernel
theorem d_Desk_root_20 : decode b_Desk_root 20 = .ok (.iload_n 2, 1) := by decide +kernel
theorem d_Desk_root_21 : decode b_Desk_root 21 = .ok (.aaload, 1) := by decide +kernel
theorem d_Desk_root_22 : decode b_Desk_root 22 = .ok (.astore_n 3, 1) := by decide +kernel
theorem d_Desk_root_23 : decode b_Desk_root 23 = .ok (.aload_n 3, 1) := by decide +kernel
theorem d_Desk_root_24 : decode b_Desk_root 24 = .ok (.invokevirtual 78, 3) := by decide +kernel
theorem d_Desk_root_27 : decode b_Desk_root 27 = .ok (.ifCond .eq 12, 3) := by decide +kernel
theorem d_Desk_root_30 : decode b_Desk_root 30 = .ok (.aload_n 3, 1) := by decide +kernel
theorem d_Desk_root_31 : decode b_Desk_root 31 = .ok (.invokevirtual 82, 3) := by decide +kernel
theorem d_Desk_root_34 : decode b_Desk_root 34 = .ok (.lconst 0, 1) := by decide +kernel
theorem d_Desk_root_35 : decode b_Desk_root 35 = .ok (.lcmp, 1) := by decide +kernel
theorem d_Desk_root_36 : decode b_Desk_root 36 = .ok (.ifCond .ge 6, 3) := by decide +kernel
theorem d_Desk_root_39 : decode b_Desk_root 39 = .ok (.bipush (-2), 2) := by decide +kernel
theorem d_Desk_root_41 : decode b_Desk_root 41 = .ok (.ireturn, 1) := by decide +kernel
theorem d_Desk_root_42 : decode b_Desk_root 42 = .ok (.aload_n 3, 1) := by decide +kernel
theorem d_Desk_root_43 : decode b_Desk_root 43 = .ok (.invokevirtual 86, 3) := by decide +kernel
theorem d_Desk_root_46 : decode b_Desk_root 46 = .ok (.lstore 4, 2) := by decide +kernel
theorem d_Desk_root_48 : decode b_Desk_root 48 = .ok (.aload_n 3, 1) := by decide +kernel
theorem d_Desk_root_49 : decode b_Desk_root 49 = .ok (.invokevirtual 82, 3) := by decide +kernel
theorem d_Desk_root_52 : decode b_Desk_root 52 = .ok (.lload 4, 2) := by decide +kernel
theorem d_Desk_root_54 : decode b_Desk_root 54 = .ok (.lmul, 1) := by decide +kernel
theorem d_Desk_root_55 : decode b_Desk_root 55 = .ok (.lstore 6, 2) := by decide +kernel
theorem d_Desk_root_57 : decode b_Desk_root 57 = .ok (.lload 6, 2) := by decide +kernel
theorem d_Desk_root_59 : decode b_Desk_root 59 = .ok (.ldc2_w 89, 3) := by decide +kernel
theorem d_Desk_root_62 : decode b_Desk_root 62 = .ok (.lcmp, 1) := by decide +kernel
theorem d_Desk_root_63 : decode b_Desk_root 63 = .ok (.ifCond .le 6, 3) := by decide +kernel
theorem d_Desk_root_66 : decode b_Desk_root 66 = .ok (.bipush (-3), 2) := by decide +kernel
theorem d_Desk_root_68 : decode b_Desk_root 68 = .ok (.ireturn, 1) := by decide +kernel
theorem d_Desk_root_69 : decode b_Desk_root 69 = .ok (.lload 6, 2) := by decide +kernel
theorem d_Desk_root_71 : decode b_Desk_root 71 = .ok (.invokestatic 91, 3) := by decide +kernel
theorem d_Desk_root_74 : decode b_Desk_root 74 = .ok (.lstore 8, 2) := by decide +kernel
theorem d_Desk_root_76 : decode b_Desk_root 76 = .ok (.lload 8, 2) := by decide +kernel
theorem d_Desk_root_78 : decode b_Desk_root 78 = .ok (.lload 4, 2) := by decide +kernel
theorem d_Desk_root_80 : decode b_Desk_root 80 = .ok (.invokestatic 60, 3) := by decide +kernel
theorem d_Desk_root_83 : decode b_Desk_root 83 = .ok (.lstore 10, 2) := by decide +kernel
theorem d_Desk_root_85 : decode b_Desk_root 85 = .ok (.aload_n 0, 1) := by decide +kernel
theorem d_Desk_root_86 : decode b_Desk_root 86 = .ok (.getfield 11, 3) := by decide +kernel
theorem d_Desk_root_89 : decode b_Desk_root 89 = .ok (.iload_n 1, 1) := by decide +kernel
theorem d_Desk_root_90 : decode b_Desk_root 90 = .ok (.aaload, 1) := by decide +kernel
theorem d_Desk_root_91 : decode b_Desk_root 91 = .ok (.lload 6, 2) := by decide +kernel
theorem d_Desk_root_93 : decode b_Desk_root 93 = .ok (.lconst 0, 1) := by decide +kernel
theorem d_Desk_root_94 : decode b_Desk_root 94 = .ok (.lcmp, 1) := by decide +kernel
theorem d_Desk_root_95 : decode b_Desk_root 95 = .ok (.ifCond .ne 7, 3) := by decide +kernel
theorem d_Desk_root_98 : decode b_Desk_root 98 = .ok (.lconst 0, 1) := by decide +kernel
theorem d_Desk_root_99 : decode b_Desk_root 99 = .ok (.goto 8, 3) := by decide +kernel
theorem d_Desk_root_102 : decode b_Desk_root 102 = .ok (.lload 8, 2) := by decide +kernel
theorem d_Desk_root_104 : decode b_Desk_root 104 = .ok (.lload 10, 2) := by decide +kernel
theorem d_Desk_root_106 : decode b_Desk_root 106 = .ok (.ldiv, 1) := by decide +kernel
theorem d_Desk_root_107 : decode b_Desk_root 107 = .ok (.lload 4, 2) := by decide +kernel
theorem d_Desk_root_109 : decode b_Desk_root 109 = .ok (.lload 10, 2) := by decide +kernel
theorem d_Desk_root_111 : decode b_Desk_root 111 = .ok (.ldiv, 1) := by decide +kernel
theorem d_Desk_root_112 : decode b_Desk_root 112 = .ok (.lload 6, 2) := by decide +kernel
theorem d_Desk_root_114 : decode b_Desk_root 114 = .ok (.lload 8, 2) := by decide +kernel
theorem d_Desk_root_116 : decode b_Desk_root 116 = .ok (.lload 8, 2) := by decide +kernel
theorem d_Desk_root_118 : decode b_Desk_root 118 = .ok (.lmul, 1) := by decide +kernel
theorem d_Desk_root_119 : decode b_Desk_root 119 = .ok (.ldiv, 1) := by decide +kernel
theorem d_Desk_root_120 : decode b_Desk_root 120 = .ok (.invokevirtual 74, 3) := by decide +kernel
theorem d_Desk_root_123 : decode b_Desk_root 123 = .ok (.iconst 0, 1) := by decide +kernel
theorem d_Desk_root_124 : decode b_Desk_root 124 = .ok (.ireturn, 1) := by decide +kernel
def mf_Desk_root (F : Nat) (vK : Int32) (vI : Int32) (cRg : Nat → Option Nat) (xk : Int32) (xn : Int32) (xT : Nat → Int64) (xB : Nat → Int64) (xR : Nat → Int64) (yk : Int32) (yn : Int32) (yT : Nat → Int64) (yB : Nat → Int64) (yR : Nat → Int64) : Option (Int32 × Int32 × Int32 × (Nat → Int64) × (Nat → Int64) × (Nat → Int64)) :=
  (sd_b1 (mf_Desk_isRegister F vK) fun r => (if r = 0 then (some ((-1 : Int32), xk, xn, xT, xB, xR)) else (sd_b1 (mf_Desk_isRegister F vI) fun r_1 => (if r_1 = 0 then (some ((-1 : Int32), xk, xn, xT, xB, xR)) else (sd_g (sd_ix vI 8) (sd_b1 (mf_Sum_isFraction F yk yn yR) fun r_2 => (if r_2 = 0 then (some ((-2 : Int32), xk, xn, xT, xB, xR)) else (sd_b1 (mf_Sum_top F yk yn yT) fun r_3 => (if (0 : Int64) ≤ r_3 then (sd_b1 (mf_Sum_bottom F yk yn yB) fun r_4 => (sd_b1 (mf_Sum_top F yk yn yT) fun r_5 => (sd_let ((r_5 * r_4)) fun x6 => (if x6 ≤ (100000000 : Int64) then (sd_b1 (mf_Whole_sideOfGreatestSquare F x6) fun r_6 => (sd_b1 (mf_Whole_commonDivisor F r_6 r_4) fun r_7 => (sd_g (sd_ix vK 8) (sd_b1 (if x6 = (0 : Int64) then (some ((0 : Int64))) else (sd_g (sd_zJ r_7) (some ((r_6 / r_7))))) fun y => (sd_g (sd_zJ r_7) (sd_g (sd_zJ (r_6 * r_6)) (sd_b5 (mf_Sum_become F y (r_4 / r_7) (x6 / (r_6 * r_6)) xk xn xT xB xR) fun uxs uxs_1 uxat uxab uxar => (some ((0 : Int32), uxs, uxs_1, uxat, uxab, uxar))))))))) else (some ((-3 : Int32), xk, xn, xT, xB, xR)))))) else (some ((-2 : Int32), xk, xn, xT, xB, xR)))))))))))
abbrev rm_Desk_root : Room := { frames := 2, cells := 0, slots := 0, locals := 53 }
set_option maxHeartbeats 4000000 in
set_option maxRecDepth 100000 in
theorem ct_Desk_root (l : Launch) (D : va_G) (g : G4) (zd : Nat) (rg : Nat) (iv : Nat) (fe : Nat) (c1 : Nat) (c2 : Nat) (pg : Nat) (zl : Nat) (zh : Nat) (ds : Nat) (xs : Nat) (xat : Nat) (xab : Nat) (xar : Nat) (xal : Nat) (xah : Nat) (ys : Nat) (yat : Nat) (yab : Nat) (yar : Nat) (yal : Nat) (yah : Nat) (sz : Nat) (vK : Int32) (vI : Int32) (cRg : Nat → Option Nat) (xk : Int32) (xn : Int32) (xT : Nat → Int64) (xB : Nat → Int64) (xR : Nat → Int64) (yk : Int32) (yn : Int32) (yT : Nat → Int64) (yB : Nat → Int64) (yR : Nat → Int64) (F : Nat) (res : Int32 × Int32 × Int32 × (Nat → Int64) × (Nat → Int64) × (Nat → Int64)) (hm : mf_Desk_root F vK vI cRg xk xn xT xB xR yk yn yT yB yR = some res) (hKk : sd_ix vK 8 = true → cRg vK.toNatClampNeg = some xs) (hI : sd_ix vI 8 = true → cRg vI.toNatClampNeg = some ys) : Met l y_Desk_root (.code y_Desk_root b_Desk_root 12 (some .int) :: sd_tb) rm_Desk_root (sd_PW D g [.ref zd, .int vK, .int vI] sz [(zd, .inr (4, [.ref rg, .ref iv, .ref fe, .ref c1, .ref c2, .ref pg, .ref zl, .ref zh, .ref ds])), (rg, aQ g 8 cRg), (xs, .inr (0, [.ref xat, .ref xab, .ref xar, .ref xal, .ref xah, .int xk, .int xn])), (xat, aJ g 8 xT), (xab, aJ g 8 xB), (xar, aJ g 8 xR), (ys, .inr (0, [.ref yat, .ref yab, .ref yar, .ref yal, .ref yah, .int yk, .int yn])), (yat, aJ g 8 yT), (yab, aJ g 8 yB), (yar, aJ g 8 yR)]) (sd_Qi1 D g res (fun u : Int32 × Int32 × (Nat → Int64) × (Nat → Int64) × (Nat → Int64) => [(zd, .inr (4, [.ref rg, .ref iv, .ref fe, .ref c1, .ref c2, .ref pg, .ref zl, .ref zh, .ref ds])), (rg, aQ g 8 cRg), (xs, .inr (0, [.ref xat, .ref xab, .ref xar, .ref xal, .ref xah, .int (u.1), .int (u.2.1)])), (xat, aJ g 8 (u.2.2.1)), (xab, aJ g 8 (u.2.2.2.1)), (xar, aJ g 8 (u.2.2.2.2)), (ys, .inr (0, [.ref yat, .ref yab, .ref yar, .ref yal, .ref yah, .int yk, .int yn])), (yat, aJ g 8 yT), (yab, aJ g 8 yB), (yar, aJ g 8 yR)]) (va_A [(zd, .inr (4, [.ref rg, .ref iv, .ref fe, .ref c1, .ref c2, .ref pg, .ref zl, .ref zh, .ref ds])), (rg, aQ g 8 cRg), (xs, .inr (0, [.ref xat, .ref xab, .ref xar, .ref xal, .ref xah, .int xk, .int xn])), (xat, aJ g 8 xT), (xab, aJ g 8 xB), (xar, aJ g 8 xR), (ys, .inr (0, [.ref yat, .ref yab, .ref yar, .ref yal, .ref yah, .int yk, .int yn])), (yat, aJ g 8 yT), (yab, aJ g 8 yB), (yar, aJ g 8 yR)] sz)) 0 0 (va_A [(zd, .inr (4, [.ref rg, .ref iv, .ref fe, .ref c1, .ref c2, .ref pg, .ref zl, .ref zh, .ref ds])), (rg, aQ g 8 cRg), (xs, .inr (0, [.ref xat, .ref xab, .ref xar, .ref xal, .ref xah, .int xk, .int xn])), (xat, aJ g 8 xT), (xab, aJ g 8 xB), (xar, aJ g 8 xR), (ys, .inr (0, [.ref yat, .ref yab, .ref yar, .ref yal, .ref yah, .int yk, .int yn])), (yat, aJ g 8 yT), (yab, aJ g 8 yB), (yar, aJ g 8 yR)] sz) := by
  refine sd_met (Qf := fun A => sd_Qi1 D g res (fun u : Int32 × Int32 × (Nat → Int64) × (Nat → Int64) × (Nat → Int64) => [(zd, .inr (4, [.ref rg, .ref iv, .ref fe, .ref c1, .ref c2, .ref pg, .ref zl, .ref zh, .ref ds])), (rg, aQ g 8 cRg), (xs, .inr (0, [.ref xat, .ref xab, .ref xar, .ref xal, .ref xah, .int (u.1), .int (u.2.1)])), (xat, aJ g 8 (u.2.2.1)), (xab, aJ g 8 (u.2.2.2.1)), (xar, aJ g 8 (u.2.2.2.2)), (ys, .inr (0, [.ref yat, .ref yab, .ref yar, .ref yal, .ref yah, .int yk, .int yn])), (yat, aJ g 8 yT), (yab, aJ g 8 yB), (yar, aJ g 8 yR)]) A) (own := R_Desk) (by decide +kernel) rfl (Nat.le_of_ble_eq_true rfl) ?_
  intro p e s m args below meth c S hr hlk hK A hA Q hQ H locs hP hD hS ls hl
  have hx := S.1
  have hb := S.2.1
  have hml := S.2.2.1
  have hown := S.2.2.2.1
  have htt := sd_tt S
  replace hl : lv_has ls 12 [(0, .ref zd), (1, .int vK), (2, .int vI)] := hl
  unfold mf_Desk_root at hm
  refine lv_iload_n hx hb d_Desk_root_0 rfl (lv_at hl 1 rfl) ?_
  obtain ⟨r, hc, hm⟩ := sd_mb1 hm
  refine sd_ci0 (wr := [(zd, .inr (4, [.ref rg, .ref iv, .ref fe, .ref c1, .ref c2, .ref pg, .ref zl, .ref zh, .ref ds])), (rg, aQ g 8 cRg), (xs, .inr (0, [.ref xat, .ref xab, .ref xar, .ref xal, .ref xah, .int xk, .int xn])), (xat, aJ g 8 xT), (xab, aJ g 8 xB), (xar, aJ g 8 xR), (ys, .inr (0, [.ref yat, .ref yab, .ref yar, .ref yal, .ref yah, .int yk, .int yn])), (yat, aJ g 8 yT), (yab, aJ g 8 yB), (yar, aJ g 8 yR)]) (w2 := [(zd, .inr (4, [.ref rg, .ref iv, .ref fe, .ref c1, .ref c2, .ref pg, .ref zl, .ref zh, .ref ds])), (rg, aQ g 8 cRg), (xs, .inr (0, [.ref xat, .ref xab, .ref xar, .ref xal, .ref xah, .int xk, .int xn])), (xat, aJ g 8 xT), (xab, aJ g 8 xB), (xar, aJ g 8 xR), (ys, .inr (0, [.ref yat, .ref yab, .ref yar, .ref yal, .ref yah, .int yk, .int yn])), (yat, aJ g 8 yT), (yab, aJ g 8 yB), (yar, aJ g 8 yR)]) (sd_runS (rest := []) (As := [.int vK]) S (ct_Desk_isRegister l D g (H.size) vK F (r) hc) kl_Desk_56 (by decide) (by decide) hK hP hD [] rfl (by decide) rfl hl d_Desk_root_1 rfl (Nat.le_of_ble_eq_true rfl) ⟨Nat.zero_le _, Nat.zero_le _⟩) hP hD hS hA [] [0, 1, 2, 3, 4, 5, 6, 7, 8, 9] rfl rfl (by decide) (by decide) rfl (fun H locs hP hD hS => ?_)
  refine W.eq (g2 := F0 m 4 ls [.int r]) rfl ?_
  refine lv_if_eq (tgt := 14) hx hb d_Desk_root_4 (by decide) (fun hc => ?_) (fun hc => ?_)
  · have hm := sd_mt hc hm
    refine lv_iconst (v := (-1 : Int32)) hx hb d_Desk_root_14 (by decide) ?_
    exact sd_i1ret (u := (xk, xn, xT, xB, xR)) hQ hx hb hr hlk hK (hP.sub [0, 1, 2, 3, 4, 5, 6, 7, 8, 9] rfl) (hD.sub [0, 1, 2, 3, 4, 5, 6, 7, 8, 9] (by decide) rfl) hS (Option.some.inj hm).symm d_Desk_root_15
  · have hm := sd_mf hc hm
    refine lv_iload_n hx hb d_Desk_root_7 rfl (lv_at hl 2 rfl) ?_
    obtain ⟨r_1, hc, hm⟩ := sd_mb1 hm
    refine sd_ci0 (wr := [(zd, .inr (4, [.ref rg, .ref iv, .ref fe, .ref c1, .ref c2, .ref pg, .ref zl, .ref zh, .ref ds])), (rg, aQ g 8 cRg), (xs, .inr (0, [.ref xat, .ref xab, .ref xar, .ref xal, .ref xah, .int xk, .int xn])), (xat, aJ g 8 xT), (xab, aJ g 8 xB), (xar, aJ g 8 xR), (ys, .inr (0, [.ref yat, .ref yab, .ref yar, .ref yal, .ref yah, .int yk, .int yn])), (yat, aJ g 8 yT), (yab, aJ g 8 yB), (yar, aJ g 8 yR)]) (w2 := [(zd, .inr (4, [.ref rg, .ref iv, .ref fe, .ref c1, .ref c2, .ref pg, .ref zl, .ref zh, .ref ds])), (rg, aQ g 8 cRg), (xs, .inr (0, [.ref xat, .ref xab, .ref xar, .ref xal, .ref xah, .int xk, .int xn])), (xat, aJ g 8 xT), (xab, aJ g 8 xB), (xar, aJ g 8 xR), (ys, .inr (0, [.ref yat, .ref yab, .ref yar, .ref yal, .ref yah, .int yk, .int yn])), (yat, aJ g 8 yT), (yab, aJ g 8 yB), (yar, aJ g 8 yR)]) (sd_runS (rest := []) (As := [.int vI]) S (ct_Desk_isRegister l D g (H.size) vI F (r_1) hc) kl_Desk_56 (by decide) (by decide) hK hP hD [] rfl (by decide) rfl hl d_Desk_root_8 rfl (Nat.le_of_ble_eq_true rfl) ⟨Nat.zero_le _, Nat.zero_le _⟩) hP hD hS hA [] [0, 1, 2, 3, 4, 5, 6, 7, 8, 9] rfl rfl (by decide) (by decide) rfl (fun H locs hP hD hS => ?_)
    refine W.eq (g2 := F0 m 11 ls [.int r_1]) rfl ?_
    refine lv_if_ne (tgt := 16) hx hb d_Desk_root_11 (by decide) (fun hc => ?_) (fun hc => ?_)
    · have hm := sd_mf hc hm
      refine lv_aload_n hx hb d_Desk_root_16 rfl (lv_at hl 0 rfl) ?_
      refine va_get (D := D) (ci := 4) (v := .ref rg) (C := R_Desk) (T := F_Desk) (N := 9) hx hb htt i_Desk hown hK hP 0 rfl rfl 0 (by decide) (htt _ kf_Desk_11) (fun _ h9 => h9) rfl d_Desk_root_17 ?_
      refine lv_iload_n hx hb d_Desk_root_20 rfl (lv_at hl 2 rfl) ?_
      obtain ⟨h_1, hm⟩ := sd_mg hm
      refine sd_aald hx hb hK hP 1 rfl h_1 d_Desk_root_21 ?_
      refine sd_topq (hI h_1) ?_
      refine lv_astore_n (lv' := [(3, .ref ys), (0, .ref zd), (1, .int vK), (2, .int vI)]) hx hb d_Desk_root_22 rfl hl (by decide) rfl (fun ls hl => ?_)
      refine lv_aload_n hx hb d_Desk_root_23 rfl (lv_at hl 0 rfl) ?_
      obtain ⟨r_2, hc, hm⟩ := sd_mb1 hm
      refine sd_ci0 (wr := [(zd, .inr (4, [.ref rg, .ref iv, .ref fe, .ref c1, .ref c2, .ref pg, .ref zl, .ref zh, .ref ds])), (rg, aQ g 8 cRg), (xs, .inr (0, [.ref xat, .ref xab, .ref xar, .ref xal, .ref xah, .int xk, .int xn])), (xat, aJ g 8 xT), (xab, aJ g 8 xB), (xar, aJ g 8 xR), (yat, aJ g 8 yT), (yab, aJ g 8 yB)]) (w2 := [(zd, .inr (4, [.ref rg, .ref iv, .ref fe, .ref c1, .ref c2, .ref pg, .ref zl, .ref zh, .ref ds])), (rg, aQ g 8 cRg), (xs, .inr (0, [.ref xat, .ref xab, .ref xar, .ref xal, .ref xah, .int xk, .int xn])), (xat, aJ g 8 xT), (xab, aJ g 8 xB), (xar, aJ g 8 xR), (yat, aJ g 8 yT), (yab, aJ g 8 yB), (ys, .inr (0, [.ref yat, .ref yab, .ref yar, .ref yal, .ref yah, .int yk, .int yn])), (yar, aJ g 8 yR)]) (sd_runV (rest := []) (As := []) S (ct_Sum_isFraction l D g ys yat yab yar yal yah (H.size) yk yn yR F (r_2) hc) kl_Desk_78 (by decide) (by decide) hK hP hD [6, 9] rfl (by decide) rfl hl d_Desk_root_24 rfl (Nat.le_of_ble_eq_true rfl) ⟨Nat.zero_le _, Nat.zero_le _⟩ 6 rfl rfl) hP hD hS hA [6, 9] [0, 1, 2, 3, 4, 5, 7, 8] rfl rfl (by decide) (by decide) rfl (fun H locs hP hD hS => ?_)
      refine W.eq (g2 := F0 m 27 ls [.int r_2]) rfl ?_
      refine lv_if_eq (tgt := 39) hx hb d_Desk_root_27 (by decide) (fun hc => ?_) (fun hc => ?_)
      · have hm := sd_mt hc hm
        refine lv_bipush (v := (-2 : Int32)) hx hb d_Desk_root_39 (by decide) ?_
        exact sd_i1ret (u := (xk, xn, xT, xB, xR)) hQ hx hb hr hlk hK (hP.sub [0, 1, 2, 3, 4, 5, 8, 6, 7, 9] rfl) (hD.sub [0, 1, 2, 3, 4, 5, 8, 6, 7, 9] (by decide) rfl) hS (Option.some.inj hm).symm d_Desk_root_41
      · have hm := sd_mf hc hm
        refine lv_aload_n hx hb d_Desk_root_30 rfl (lv_at hl 0 rfl) ?_
        obtain ⟨r_3, hc, hm⟩ := sd_mb1 hm
        refine sd_cl0 (wr := [(zd, .inr (4, [.ref rg, .ref iv, .ref fe, .ref c1, .ref c2, .ref pg, .ref zl, .ref zh, .ref ds])), (rg, aQ g 8 cRg), (xs, .inr (0, [.ref xat, .ref xab, .ref xar, .ref xal, .ref xah, .int xk, .int xn])), (xat, aJ g 8 xT), (xab, aJ g 8 xB), (xar, aJ g 8 xR), (yab, aJ g 8 yB), (yar, aJ g 8 yR)]) (w2 := [(zd, .inr (4, [.ref rg, .ref iv, .ref fe, .ref c1, .ref c2, .ref pg, .ref zl, .ref zh, .ref ds])), (rg, aQ g 8 cRg), (xs, .inr (0, [.ref xat, .ref xab, .ref xar, .ref xal, .ref xah, .int xk, .int xn])), (xat, aJ g 8 xT), (xab, aJ g 8 xB), (xar, aJ g 8 xR), (yab, aJ g 8 yB), (yar, aJ g 8 yR), (ys, .inr (0, [.ref yat, .ref yab, .ref yar, .ref yal, .ref yah, .int yk, .int yn])), (yat, aJ g 8 yT)]) (sd_runV (rest := []) (As := []) S (ct_Sum_top l D g ys yat yab yar yal yah (H.size) yk yn yT F (r_3) hc) kl_Desk_82 (by decide) (by decide) hK hP hD [8, 6] rfl (by decide) rfl hl d_Desk_root_31 rfl (Nat.le_of_ble_eq_true rfl) ⟨Nat.zero_le _, Nat.zero_le _⟩ 8 rfl rfl) hP hD hS hA [8, 6] [0, 1, 2, 3, 4, 5, 7, 9] rfl rfl (by decide) (by decide) rfl (fun H locs hP hD hS => ?_)
        refine W.eq (g2 := F0 m 34 ls [.long r_3]) rfl ?_
        refine lv_lconst (v := (0 : Int64)) hx hb d_Desk_root_34 (by decide) ?_
        refine sd_lge (tgt := 42) hx hb d_Desk_root_35 d_Desk_root_36 (by decide) (fun hc => ?_) (fun hc => ?_)
        · have hm := sd_mt hc hm
          refine lv_aload_n hx hb d_Desk_root_42 rfl (lv_at hl 0 rfl) ?_
          obtain ⟨r_4, hc, hm⟩ := sd_mb1 hm
          refine sd_cl0 (wr := [(zd, .inr (4, [.ref rg, .ref iv, .ref fe, .ref c1, .ref c2, .ref pg, .ref zl, .ref zh, .ref ds])), (rg, aQ g 8 cRg), (xs, .inr (0, [.ref xat, .ref xab, .ref xar, .ref xal, .ref xah, .int xk, .int xn])), (xat, aJ g 8 xT), (xab, aJ g 8 xB), (xar, aJ g 8 xR), (yar, aJ g 8 yR), (yat, aJ g 8 yT)]) (w2 := [(zd, .inr (4, [.ref rg, .ref iv, .ref fe, .ref c1, .ref c2, .ref pg, .ref zl, .ref zh, .ref ds])), (rg, aQ g 8 cRg), (xs, .inr (0, [.ref xat, .ref xab, .ref xar, .ref xal, .ref xah, .int xk, .int xn])), (xat, aJ g 8 xT), (xab, aJ g 8 xB), (xar, aJ g 8 xR), (yar, aJ g 8 yR), (yat, aJ g 8 yT), (ys, .inr (0, [.ref yat, .ref yab, .ref yar, .ref yal, .ref yah, .int yk, .int yn])), (yab, aJ g 8 yB)]) (sd_runV (rest := []) (As := []) S (ct_Sum_bottom l D g ys yat yab yar yal yah (H.size) yk yn yB F (r_4) hc) kl_Desk_86 (by decide) (by decide) hK hP hD [8, 6] rfl (by decide) rfl hl d_Desk_root_43 rfl (Nat.le_of_ble_eq_true rfl) ⟨Nat.zero_le _, Nat.zero_le _⟩ 8 rfl rfl) hP hD hS hA [8, 6] [0, 1, 2, 3, 4, 5, 7, 9] rfl rfl (by decide) (by decide) rfl (fun H locs hP hD hS => ?_)
          refine W.eq (g2 := F0 m 46 ls [.long r_4]) rfl ?_
          refine lv_lstore (lv' := [(4, .long r_4), (3, .ref ys), (0, .ref zd), (1, .int vK), (2, .int vI)]) hx hb d_Desk_root_46 hl (by decide) rfl (fun ls hl => ?_)
          refine lv_aload_n hx hb d_Desk_root_48 rfl (lv_at hl 1 rfl) ?_
          obtain ⟨r_5, hc, hm⟩ := sd_mb1 hm
          refine sd_cl0 (wr := [(zd, .inr (4, [.ref rg, .ref iv, .ref fe, .ref c1, .ref c2, .ref pg, .ref zl, .ref zh, .ref ds])), (rg, aQ g 8 cRg), (xs, .inr (0, [.ref xat, .ref xab, .ref xar, .ref xal, .ref xah, .int xk, .int xn])), (xat, aJ g 8 xT), (xab, aJ g 8 xB), (xar, aJ g 8 xR), (yar, aJ g 8 yR), (yab, aJ g 8 yB)]) (w2 := [(zd, .inr (4, [.ref rg, .ref iv, .ref fe, .ref c1, .ref c2, .ref pg, .ref zl, .ref zh, .ref ds])), (rg, aQ g 8 cRg), (xs, .inr (0, [.ref xat, .ref xab, .ref xar, .ref xal, .ref xah, .int xk, .int xn])), (xat, aJ g 8 xT), (xab, aJ g 8 xB), (xar, aJ g 8 xR), (yar, aJ g 8 yR), (yab, aJ g 8 yB), (ys, .inr (0, [.ref yat, .ref yab, .ref yar, .ref yal, .ref yah, .int yk, .int yn])), (yat, aJ g 8 yT)]) (sd_runV (rest := []) (As := []) S (ct_Sum_top l D g ys yat yab yar yal yah (H.size) yk yn yT F (r_5) hc) kl_Desk_82 (by decide) (by decide) hK hP hD [8, 7] rfl (by decide) rfl hl d_Desk_root_49 rfl (Nat.le_of_ble_eq_true rfl) ⟨Nat.zero_le _, Nat.zero_le _⟩ 8 rfl rfl) hP hD hS hA [8, 7] [0, 1, 2, 3, 4, 5, 6, 9] rfl rfl (by decide) (by decide) rfl (fun H locs hP hD hS => ?_)
          refine W.eq (g2 := F0 m 52 ls [.long r_5]) rfl ?_
          refine lv_lload hx hb d_Desk_root_52 (lv_at hl 0 rfl) ?_
          refine lv_lmul hx hb d_Desk_root_54 ?_
          obtain ⟨x6, ex6, hm⟩ := sd_mlet hm
          refine sd_topj ex6 ?_
          refine lv_lstore (lv' := [(6, .long x6), (4, .long r_4), (3, .ref ys), (0, .ref zd), (1, .int vK), (2, .int vI)]) hx hb d_Desk_root_55 hl (by decide) rfl (fun ls hl => ?_)
          refine lv_lload hx hb d_Desk_root_57 (lv_at hl 0 rfl) ?_
          refine sd_ldc2 (v := (100000000 : Int64)) hx hb hown (htt _ km_Desk_89) d_Desk_root_59 ?_
          refine sd_lle (tgt := 69) hx hb d_Desk_root_62 d_Desk_root_63 (by decide) (fun hc => ?_) (fun hc => ?_)
          · have hm := sd_mt hc hm
            refine lv_lload hx hb d_Desk_root_69 (lv_at hl 0 rfl) ?_
            obtain ⟨r_6, hc, hm⟩ := sd_mb1 hm
            refine sd_cl0 (wr := [(zd, .inr (4, [.ref rg, .ref iv, .ref fe, .ref c1, .ref c2, .ref pg, .ref zl, .ref zh, .ref ds])), (rg, aQ g 8 cRg), (xs, .inr (0, [.ref xat, .ref xab, .ref xar, .ref xal, .ref xah, .int xk, .int xn])), (xat, aJ g 8 xT), (xab, aJ g 8 xB), (xar, aJ g 8 xR), (yar, aJ g 8 yR), (yab, aJ g 8 yB), (ys, .inr (0, [.ref yat, .ref yab, .ref yar, .ref yal, .ref yah, .int yk, .int yn])), (yat, aJ g 8 yT)]) (w2 := [(zd, .inr (4, [.ref rg, .ref iv, .ref fe, .ref c1, .ref c2, .ref pg, .ref zl, .ref zh, .ref ds])), (rg, aQ g 8 cRg), (xs, .inr (0, [.ref xat, .ref xab, .ref xar, .ref xal, .ref xah, .int xk, .int xn])), (xat, aJ g 8 xT), (xab, aJ g 8 xB), (xar, aJ g 8 xR), (yar, aJ g 8 yR), (yab, aJ g 8 yB), (ys, .inr (0, [.ref yat, .ref yab, .ref yar, .ref yal, .ref yah, .int yk, .int yn])), (yat, aJ g 8 yT)]) (sd_runS (rest := []) (As := [.long x6]) S (ct_Whole_sideOfGreatestSquare l D g (H.size) x6 F (r_6) hc) kl_Desk_91 (by decide) (by decide) hK hP hD [] rfl (by decide) rfl hl d_Desk_root_71 rfl (Nat.le_of_ble_eq_true rfl) ⟨Nat.zero_le _, Nat.zero_le _⟩) hP hD hS hA [] [0, 1, 2, 3, 4, 5, 6, 7, 8, 9] rfl rfl (by decide) (by decide) rfl (fun H locs hP hD hS => ?_)
            refine W.eq (g2 := F0 m 74 ls [.long r_6]) rfl ?_
            refine lv_lstore (lv' := [(8, .long r_6), (6, .long x6), (4, .long r_4), (3, .ref ys), (0, .ref zd), (1, .int vK), (2, .int vI)]) hx hb d_Desk_root_74 hl (by decide) rfl (fun ls hl => ?_)
            refine lv_lload hx hb d_Desk_root_76 (lv_at hl 0 rfl) ?_
            refine lv_lload hx hb d_Desk_root_78 (lv_at hl 2 rfl) ?_
            obtain ⟨r_7, hc, hm⟩ := sd_mb1 hm
            refine sd_cl0 (wr := [(zd, .inr (4, [.ref rg, .ref iv, .ref fe, .ref c1, .ref c2, .ref pg, .ref zl, .ref zh, .ref ds])), (rg, aQ g 8 cRg), (xs, .inr (0, [.ref xat, .ref xab, .ref xar, .ref xal, .ref xah, .int xk, .int xn])), (xat, aJ g 8 xT), (xab, aJ g 8 xB), (xar, aJ g 8 xR), (yar, aJ g 8 yR), (yab, aJ g 8 yB), (ys, .inr (0, [.ref yat, .ref yab, .ref yar, .ref yal, .ref yah, .int yk, .int yn])), (yat, aJ g 8 yT)]) (w2 := [(zd, .inr (4, [.ref rg, .ref iv, .ref fe, .ref c1, .ref c2, .ref pg, .ref zl, .ref zh, .ref ds])), (rg, aQ g 8 cRg), (xs, .inr (0, [.ref xat, .ref xab, .ref xar, .ref xal, .ref xah, .int xk, .int xn])), (xat, aJ g 8 xT), (xab, aJ g 8 xB), (xar, aJ g 8 xR), (yar, aJ g 8 yR), (yab, aJ g 8 yB), (ys, .inr (0, [.ref yat, .ref yab, .ref yar, .ref yal, .ref yah, .int yk, .int yn])), (yat, aJ g 8 yT)]) (sd_runS (rest := []) (As := [.long r_6, .long r_4]) S (ct_Whole_commonDivisor l D g (H.size) r_6 r_4 F (r_7) hc) kl_Desk_60 (by decide) (by decide) hK hP hD [] rfl (by decide) rfl hl d_Desk_root_80 rfl (Nat.le_of_ble_eq_true rfl) ⟨Nat.zero_le _, Nat.zero_le _⟩) hP hD hS hA [] [0, 1, 2, 3, 4, 5, 6, 7, 8, 9] rfl rfl (by decide) (by decide) rfl (fun H locs hP hD hS => ?_)
            refine W.eq (g2 := F0 m 83 ls [.long r_7]) rfl ?_
            refine lv_lstore (lv' := [(10, .long r_7), (8, .long r_6), (6, .long x6), (4, .long r_4), (3, .ref ys), (0, .ref zd), (1, .int vK), (2, .int vI)]) hx hb d_Desk_root_83 hl (by decide) rfl (fun ls hl => ?_)
            refine lv_aload_n hx hb d_Desk_root_85 rfl (lv_at hl 5 rfl) ?_
            refine va_get (D := D) (ci := 4) (v := .ref rg) (C := R_Desk) (T := F_Desk) (N := 9) hx hb htt i_Desk hown hK hP 0 rfl rfl 0 (by decide) (htt _ kf_Desk_11) (fun _ h9 => h9) rfl d_Desk_root_86 ?_
            refine lv_iload_n hx hb d_Desk_root_89 rfl (lv_at hl 6 rfl) ?_
            obtain ⟨h_2, hm⟩ := sd_mg hm
            refine sd_aald hx hb hK hP 1 rfl h_2 d_Desk_root_90 ?_
            refine sd_topq (hKk h_2) ?_
            refine lv_lload hx hb d_Desk_root_91 (lv_at hl 2 rfl) ?_
            refine lv_lconst (v := (0 : Int64)) hx hb d_Desk_root_93 (by decide) ?_
            obtain ⟨y, hv, hm⟩ := sd_mb1 hm
            have J107_3 : ∀ (H : Heap) (locs : List Loc) (ls : Array Slot), va_P D classes [(zd, .inr (4, [.ref rg, .ref iv, .ref fe, .ref c1, .ref c2, .ref pg, .ref zl, .ref zh, .ref ds])), (rg, aQ g 8 cRg), (xs, .inr (0, [.ref xat, .ref xab, .ref xar, .ref xal, .ref xah, .int xk, .int xn])), (xat, aJ g 8 xT), (xab, aJ g 8 xB), (xar, aJ g 8 xR), (yar, aJ g 8 yR), (yab, aJ g 8 yB), (ys, .inr (0, [.ref yat, .ref yab, .ref yar, .ref yal, .ref yah, .int yk, .int yn])), (yat, aJ g 8 yT)] H → va_D A [(zd, .inr (4, [.ref rg, .ref iv, .ref fe, .ref c1, .ref c2, .ref pg, .ref zl, .ref zh, .ref ds])), (rg, aQ g 8 cRg), (xs, .inr (0, [.ref xat, .ref xab, .ref xar, .ref xal, .ref xah, .int xk, .int xn])), (xat, aJ g 8 xT), (xab, aJ g 8 xB), (xar, aJ g 8 xR), (yar, aJ g 8 yR), (yab, aJ g 8 yB), (ys, .inr (0, [.ref yat, .ref yab, .ref yar, .ref yal, .ref yah, .int yk, .int yn])), (yat, aJ g 8 yT)] → va_S A s.heap H locs → lv_has ls 12 [(4, .long r_4), (6, .long x6), (8, .long r_6), (10, .long r_7)] → W p l e rm_Desk_root s m args below meth c H locs 0 0 Q (F0 m 107 ls [.long y, .ref xs]) := by
              intro H locs ls hP hD hS hl
              refine lv_lload hx hb d_Desk_root_107 (lv_at hl 0 rfl) ?_
              refine lv_lload hx hb d_Desk_root_109 (lv_at hl 3 rfl) ?_
              obtain ⟨h_5, hm⟩ := sd_mg hm
              refine lv_ldiv hx hb d_Desk_root_111 (sd_nzJ h_5) ?_
              refine lv_lload hx hb d_Desk_root_112 (lv_at hl 1 rfl) ?_
              refine lv_lload hx hb d_Desk_root_114 (lv_at hl 2 rfl) ?_
              refine lv_lload hx hb d_Desk_root_116 (lv_at hl 2 rfl) ?_
              refine lv_lmul hx hb d_Desk_root_118 ?_
              obtain ⟨h_6, hm⟩ := sd_mg hm
              refine lv_ldiv hx hb d_Desk_root_119 (sd_nzJ h_6) ?_
              obtain ⟨uxs, uxs_1, uxat, uxab, uxar, hc, hm⟩ := sd_mb5 hm
              refine sd_cv1 (wr := [(zd, .inr (4, [.ref rg, .ref iv, .ref fe, .ref c1, .ref c2, .ref pg, .ref zl, .ref zh, .ref ds])), (rg, aQ g 8 cRg), (yar, aJ g 8 yR), (yab, aJ g 8 yB), (ys, .inr (0, [.ref yat, .ref yab, .ref yar, .ref yal, .ref yah, .int yk, .int yn])), (yat, aJ g 8 yT)]) (w2 := [(zd, .inr (4, [.ref rg, .ref iv, .ref fe, .ref c1, .ref c2, .ref pg, .ref zl, .ref zh, .ref ds])), (rg, aQ g 8 cRg), (yar, aJ g 8 yR), (yab, aJ g 8 yB), (ys, .inr (0, [.ref yat, .ref yab, .ref yar, .ref yal, .ref yah, .int yk, .int yn])), (yat, aJ g 8 yT), (xs, .inr (0, [.ref xat, .ref xab, .ref xar, .ref xal, .ref xah, .int uxs, .int uxs_1])), (xat, aJ g 8 uxat), (xab, aJ g 8 uxab), (xar, aJ g 8 uxar)]) (sd_runV (rest := []) (As := [.long y, .long (r_4 / r_7), .long (x6 / (r_6 * r_6))]) S (ct_Sum_become l D g xs xat xab xar xal xah (H.size) y (r_4 / r_7) (x6 / (r_6 * r_6)) xk xn xT xB xR F (uxs, uxs_1, uxat, uxab, uxar) hc) kl_Desk_74 (by decide) (by decide) hK hP hD [2, 3, 4, 5] rfl (by decide) rfl hl d_Desk_root_120 rfl (Nat.le_of_ble_eq_true rfl) ⟨Nat.zero_le _, Nat.zero_le _⟩ 2 rfl rfl) hP hD hS hA [2, 3, 4, 5] [0, 1, 6, 7, 8, 9] rfl rfl (by decide) (by decide) rfl (fun H locs hP hD hS => ?_)
              refine lv_iconst (v := (0 : Int32)) hx hb d_Desk_root_123 (by decide) ?_
              exact sd_i1ret (u := (uxs, uxs_1, uxat, uxab, uxar)) hQ hx hb hr hlk hK (hP.sub [0, 1, 6, 7, 8, 9, 4, 5, 3, 2] rfl) (hD.sub [0, 1, 6, 7, 8, 9, 4, 5, 3, 2] (by decide) rfl) hS (Option.some.inj hm).symm d_Desk_root_124
            replace hm := hv
            refine sd_lne (tgt := 102) hx hb d_Desk_root_94 d_Desk_root_95 (by decide) (fun hc => ?_) (fun hc => ?_)
            · have hm := sd_mf hc hm
              refine lv_lload hx hb d_Desk_root_102 (lv_at hl 1 rfl) ?_
              refine lv_lload hx hb d_Desk_root_104 (lv_at hl 0 rfl) ?_
              obtain ⟨h_4, hm⟩ := sd_mg hm
              refine lv_ldiv hx hb d_Desk_root_106 (sd_nzJ h_4) ?_
              cases hm
              exact J107_3 H locs ls (hP.sub [0, 1, 2, 3, 4, 5, 6, 7, 8, 9] rfl) (hD.sub [0, 1, 2, 3, 4, 5, 6, 7, 8, 9] (by decide) rfl) hS (lv_sub hl [3, 2, 1, 0] rfl)
            · have hm := sd_mt hc hm
              refine lv_lconst (v := (0 : Int64)) hx hb d_Desk_root_98 (by decide) ?_
              refine lv_goto (tgt := 107) hx hb d_Desk_root_99 (by decide) ?_
              cases hm
              exact J107_3 H locs ls (hP.sub [0, 1, 2, 3, 4, 5, 6, 7, 8, 9] rfl) (hD.sub [0, 1, 2, 3, 4, 5, 6, 7, 8, 9] (by decide) rfl) hS (lv_sub hl [3, 2, 1, 0] rfl)
          · have hm := sd_mf hc hm
            refine lv_bipush (v := (-3 : Int32)) hx hb d_Desk_root_66 (by decide) ?_
            exact sd_i1ret (u := (xk, xn, xT, xB, xR)) hQ hx hb hr hlk hK (hP.sub [0, 1, 2, 3, 4, 5, 8, 9, 7, 6] rfl) (hD.sub [0, 1, 2, 3, 4, 5, 8, 9, 7, 6] (by decide) rfl) hS (Option.some.inj hm).symm d_Desk_root_68
        · have hm := sd_mf hc hm
          refine lv_bipush (v := (-2 : Int32)) hx hb d_Desk_root_39 (by decide) ?_
          exact sd_i1ret (u := (xk, xn, xT, xB, xR)) hQ hx hb hr hlk hK (hP.sub [0, 1, 2, 3, 4, 5, 8, 9, 6, 7] rfl) (hD.sub [0, 1, 2, 3, 4, 5, 8, 9, 6, 7] (by decide) rfl) hS (Option.some.inj hm).symm d_Desk_root_41
    · have hm := sd_mt hc hm
      refine lv_iconst (v := (-1 : Int32)) hx hb d_Desk_root_14 (by decide) ?_
      exact sd_i1ret (u := (xk, xn, xT, xB, xR)) hQ hx hb hr hlk hK (hP.sub [0, 1, 2, 3, 4, 5, 6, 7, 8, 9] rfl) (hD.sub [0, 1, 2, 3, 4, 5, 6, 7, 8, 9] (by decide) rfl) hS (Option.some.inj hm).symm d_Desk_root_15
abbrev rm_Desk_root2 : Room := { frames := 2, cells := 0, slots := 0, locals := 53 }
set_option maxHeartbeats 4000000 in
set_option maxRecDepth 100000 in
theorem ct_Desk_root2 (l : Launch) (D : va_G) (g : G4) (zd : Nat) (rg : Nat) (iv : Nat) (fe : Nat) (c1 : Nat) (c2 : Nat) (pg : Nat) (zl : Nat) (zh : Nat) (ds : Nat) (xs : Nat) (xat : Nat) (xab : Nat) (xar : Nat) (xal : Nat) (xah : Nat) (sz : Nat) (vK : Int32) (vI : Int32) (cRg : Nat → Option Nat) (xk : Int32) (xn : Int32) (xT : Nat → Int64) (xB : Nat → Int64) (xR : Nat → Int64) (F : Nat) (res : Int32 × Int32 × Int32 × (Nat → Int64) × (Nat → Int64) × (Nat → Int64)) (hm : mf_Desk_root F vK vI cRg xk xn xT xB xR xk xn xT xB xR = some res) (hKk : sd_ix vK 8 = true → cRg vK.toNatClampNeg = some xs) (hI : sd_ix vI 8 = true → cRg vI.toNatClampNeg = some xs) : Met l y_Desk_root (.code y_Desk_root b_Desk_root 12 (some .int) :: sd_tb) rm_Desk_root2 (sd_PW D g [.ref zd, .int vK, .int vI] sz [(zd, .inr (4, [.ref rg, .ref iv, .ref fe, .ref c1, .ref c2, .ref pg, .ref zl, .ref zh, .ref ds])), (rg, aQ g 8 cRg), (xs, .inr (0, [.ref xat, .ref xab, .ref xar, .ref xal, .ref xah, .int xk, .int xn])), (xat, aJ g 8 xT), (xab, aJ g 8 xB), (xar, aJ g 8 xR)]) (sd_Qi1 D g res (fun u : Int32 × Int32 × (Nat → Int64) × (Nat → Int64) × (Nat → Int64) => [(zd, .inr (4, [.ref rg, .ref iv, .ref fe, .ref c1, .ref c2, .ref pg, .ref zl, .ref zh, .ref ds])), (rg, aQ g 8 cRg), (xs, .inr (0, [.ref xat, .ref xab, .ref xar, .ref xal, .ref xah, .int (u.1), .int (u.2.1)])), (xat, aJ g 8 (u.2.2.1)), (xab, aJ g 8 (u.2.2.2.1)), (xar, aJ g 8 (u.2.2.2.2))]) (va_A [(zd, .inr (4, [.ref rg, .ref iv, .ref fe, .ref c1, .ref c2, .ref pg, .ref zl, .ref zh, .ref ds])), (rg, aQ g 8 cRg), (xs, .inr (0, [.ref xat, .ref xab, .ref xar, .ref xal, .ref xah, .int xk, .int xn])), (xat, aJ g 8 xT), (xab, aJ g 8 xB), (xar, aJ g 8 xR)] sz)) 0 0 (va_A [(zd, .inr (4, [.ref rg, .ref iv, .ref fe, .ref c1, .ref c2, .ref pg, .ref zl, .ref zh, .ref ds])), (rg, aQ g 8 cRg), (xs, .inr (0, [.ref xat, .ref xab, .ref xar, .ref xal, .ref xah, .int xk, .int xn])), (xat, aJ g 8 xT), (xab, aJ g 8 xB), (xar, aJ g 8 xR)] sz) := by
  refine sd_met (Qf := fun A => sd_Qi1 D g res (fun u : Int32 × Int32 × (Nat → Int64) × (Nat → Int64) × (Nat → Int64) => [(zd, .inr (4, [.ref rg, .ref iv, .ref fe, .ref c1, .ref c2, .ref pg, .ref zl, .ref zh, .ref ds])), (rg, aQ g 8 cRg), (xs, .inr (0, [.ref xat, .ref xab, .ref xar, .ref xal, .ref xah, .int (u.1), .int (u.2.1)])), (xat, aJ g 8 (u.2.2.1)), (xab, aJ g 8 (u.2.2.2.1)), (xar, aJ g 8 (u.2.2.2.2))]) A) (own := R_Desk) (by decide +kernel) rfl (Nat.le_of_ble_eq_true rfl) ?_
  intro p e s m args below meth c S hr hlk hK A hA Q hQ H locs hP hD hS ls hl
  have hx := S.1
  have hb := S.2.1
  have hml := S.2.2.1
  have hown := S.2.2.2.1
  have htt := sd_tt S
  replace hl : lv_has ls 12 [(0, .ref zd), (1, .int vK), (2, .int vI)] := hl
  unfold mf_Desk_root at hm
  refine lv_iload_n hx hb d_Desk_root_0 rfl (lv_at hl 1 rfl) ?_
  obtain ⟨r, hc, hm⟩ := sd_mb1 hm
  refine sd_ci0 (wr := [(zd, .inr (4, [.ref rg, .ref iv, .ref fe, .ref c1, .ref c2, .ref pg, .ref zl, .ref zh, .ref ds])), (rg, aQ g 8 cRg), (xs, .inr (0, [.ref xat, .ref xab, .ref xar, .ref xal, .ref xah, .int xk, .int xn])), (xat, aJ g 8 xT), (xab, aJ g 8 xB), (xar, aJ g 8 xR)]) (w2 := [(zd, .inr (4, [.ref rg, .ref iv, .ref fe, .ref c1, .ref c2, .ref pg, .ref zl, .ref zh, .ref ds])), (rg, aQ g 8 cRg), (xs, .inr (0, [.ref xat, .ref xab, .ref xar, .ref xal, .ref xah, .int xk, .int xn])), (xat, aJ g 8 xT), (xab, aJ g 8 xB), (xar, aJ g 8 xR)]) (sd_runS (rest := []) (As := [.int vK]) S (ct_Desk_isRegister l D g (H.size) vK F (r) hc) kl_Desk_56 (by decide) (by decide) hK hP hD [] rfl (by decide) rfl hl d_Desk_root_1 rfl (Nat.le_of_ble_eq_true rfl) ⟨Nat.zero_le _, Nat.zero_le _⟩) hP hD hS hA [] [0, 1, 2, 3, 4, 5] rfl rfl (by decide) (by decide) rfl (fun H locs hP hD hS => ?_)
  refine W.eq (g2 := F0 m 4 ls [.int r]) rfl ?_
  refine lv_if_eq (tgt := 14) hx hb d_Desk_root_4 (by decide) (fun hc => ?_) (fun hc => ?_)
  · have hm := sd_mt hc hm
    refine lv_iconst (v := (-1 : Int32)) hx hb d_Desk_root_14 (by decide) ?_
    exact sd_i1ret (u := (xk, xn, xT, xB, xR)) hQ hx hb hr hlk hK (hP.sub [0, 1, 2, 3, 4, 5] rfl) (hD.sub [0, 1, 2, 3, 4, 5] (by decide) rfl) hS (Option.some.inj hm).symm d_Desk_root_15
  · have hm := sd_mf hc hm
    refine lv_iload_n hx hb d_Desk_root_7 rfl (lv_at hl 2 rfl) ?_
    obtain ⟨r_1, hc, hm⟩ := sd_mb1 hm
    refine sd_ci0 (wr := [(zd, .inr (4, [.ref rg, .ref iv, .ref fe, .ref c1, .ref c2, .ref pg, .ref zl, .ref zh, .ref ds])), (rg, aQ g 8 cRg), (xs, .inr (0, [.ref xat, .ref xab, .ref xar, .ref xal, .ref xah, .int xk, .int xn])), (xat, aJ g 8 xT), (xab, aJ g 8 xB), (xar, aJ g 8 xR)]) (w2 := [(zd, .inr (4, [.ref rg, .ref iv, .ref fe, .ref c1, .ref c2, .ref pg, .ref zl, .ref zh, .ref ds])), (rg, aQ g 8 cRg), (xs, .inr (0, [.ref xat, .ref xab, .ref xar, .ref xal, .ref xah, .int xk, .int xn])), (xat, aJ g 8 xT), (xab, aJ g 8 xB), (xar, aJ g 8 xR)]) (sd_runS (rest := []) (As := [.int vI]) S (ct_Desk_isRegister l D g (H.size) vI F (r_1) hc) kl_Desk_56 (by decide) (by decide) hK hP hD [] rfl (by decide) rfl hl d_Desk_root_8 rfl (Nat.le_of_ble_eq_true rfl) ⟨Nat.zero_le _, Nat.zero_le _⟩) hP hD hS hA [] [0, 1, 2, 3, 4, 5] rfl rfl (by decide) (by decide) rfl (fun H locs hP hD hS => ?_)
    refine W.eq (g2 := F0 m 11 ls [.int r_1]) rfl ?_
    refine lv_if_ne (tgt := 16) hx hb d_Desk_root_11 (by decide) (fun hc => ?_) (fun hc => ?_)
    · have hm := sd_mf hc hm
      refine lv_aload_n hx hb d_Desk_root_16 rfl (lv_at hl 0 rfl) ?_
      refine va_get (D := D) (ci := 4) (v := .ref rg) (C := R_Desk) (T := F_Desk) (N := 9) hx hb htt i_Desk hown hK hP 0 rfl rfl 0 (by decide) (htt _ kf_Desk_11) (fun _ h9 => h9) rfl d_Desk_root_17 ?_
      refine lv_iload_n hx hb d_Desk_root_20 rfl (lv_at hl 2 rfl) ?_
      obtain ⟨h_1, hm⟩ := sd_mg hm
      refine sd_aald hx hb hK hP 1 rfl h_1 d_Desk_root_21 ?_
      refine sd_topq (hI h_1) ?_
      refine lv_astore_n (lv' := [(3, .ref xs), (0, .ref zd), (1, .int vK), (2, .int vI)]) hx hb d_Desk_root_22 rfl hl (by decide) rfl (fun ls hl => ?_)
      refine lv_aload_n hx hb d_Desk_root_23 rfl (lv_at hl 0 rfl) ?_
      obtain ⟨r_2, hc, hm⟩ := sd_mb1 hm
      refine sd_ci0 (wr := [(zd, .inr (4, [.ref rg, .ref iv, .ref fe, .ref c1, .ref c2, .ref pg, .ref zl, .ref zh, .ref ds])), (rg, aQ g 8 cRg), (xat, aJ g 8 xT), (xab, aJ g 8 xB)]) (w2 := [(zd, .inr (4, [.ref rg, .ref iv, .ref fe, .ref c1, .ref c2, .ref pg, .ref zl, .ref zh, .ref ds])), (rg, aQ g 8 cRg), (xat, aJ g 8 xT), (xab, aJ g 8 xB), (xs, .inr (0, [.ref xat, .ref xab, .ref xar, .ref xal, .ref xah, .int xk, .int xn])), (xar, aJ g 8 xR)]) (sd_runV (rest := []) (As := []) S (ct_Sum_isFraction l D g xs xat xab xar xal xah (H.size) xk xn xR F (r_2) hc) kl_Desk_78 (by decide) (by decide) hK hP hD [2, 5] rfl (by decide) rfl hl d_Desk_root_24 rfl (Nat.le_of_ble_eq_true rfl) ⟨Nat.zero_le _, Nat.zero_le _⟩ 2 rfl rfl) hP hD hS hA [2, 5] [0, 1, 3, 4] rfl rfl (by decide) (by decide) rfl (fun H locs hP hD hS => ?_)
      refine W.eq (g2 := F0 m 27 ls [.int r_2]) rfl ?_
      refine lv_if_eq (tgt := 39) hx hb d_Desk_root_27 (by decide) (fun hc => ?_) (fun hc => ?_)
      · have hm := sd_mt hc hm
        refine lv_bipush (v := (-2 : Int32)) hx hb d_Desk_root_39 (by decide) ?_
        exact sd_i1ret (u := (xk, xn, xT, xB, xR)) hQ hx hb hr hlk hK (hP.sub [0, 1, 4, 2, 3, 5] rfl) (hD.sub [0, 1, 4, 2, 3, 5] (by decide) rfl) hS (Option.some.inj hm).symm d_Desk_root_41
      · have hm := sd_mf hc hm
        refine lv_aload_n hx hb d_Desk_root_30 rfl (lv_at hl 0 rfl) ?_
        obtain ⟨r_3, hc, hm⟩ := sd_mb1 hm
        refine sd_cl0 (wr := [(zd, .inr (4, [.ref rg, .ref iv, .ref fe, .ref c1, .ref c2, .ref pg, .ref zl, .ref zh, .ref ds])), (rg, aQ g 8 cRg), (xab, aJ g 8 xB), (xar, aJ g 8 xR)]) (w2 := [(zd, .inr (4, [.ref rg, .ref iv, .ref fe, .ref c1, .ref c2, .ref pg, .ref zl, .ref zh, .ref ds])), (rg, aQ g 8 cRg), (xab, aJ g 8 xB), (xar, aJ g 8 xR), (xs, .inr (0, [.ref xat, .ref xab, .ref xar, .ref xal, .ref xah, .int xk, .int xn])), (xat, aJ g 8 xT)]) (sd_runV (rest := []) (As := []) S (ct_Sum_top l D g xs xat xab xar xal xah (H.size) xk xn xT F (r_3) hc) kl_Desk_82 (by decide) (by decide) hK hP hD [4, 2] rfl (by decide) rfl hl d_Desk_root_31 rfl (Nat.le_of_ble_eq_true rfl) ⟨Nat.zero_le _, Nat.zero_le _⟩ 4 rfl rfl) hP hD hS hA [4, 2] [0, 1, 3, 5] rfl rfl (by decide) (by decide) rfl (fun H locs hP hD hS => ?_)
        refine W.eq (g2 := F0 m 34 ls [.long r_3]) rfl ?_
        refine lv_lconst (v := (0 : Int64)) hx hb d_Desk_root_34 (by decide) ?_
        refine sd_lge (tgt := 42) hx hb d_Desk_root_35 d_Desk_root_36 (by decide) (fun hc => ?_) (fun hc => ?_)
        · have hm := sd_mt hc hm
          refine lv_aload_n hx hb d_Desk_root_42 rfl (lv_at hl 0 rfl) ?_
          obtain ⟨r_4, hc, hm⟩ := sd_mb1 hm
          refine sd_cl0 (wr := [(zd, .inr (4, [.ref rg, .ref iv, .ref fe, .ref c1, .ref c2, .ref pg, .ref zl, .ref zh, .ref ds])), (rg, aQ g 8 cRg), (xar, aJ g 8 xR), (xat, aJ g 8 xT)]) (w2 := [(zd, .inr (4, [.ref rg, .ref iv, .ref fe, .ref c1, .ref c2, .ref pg, .ref zl, .ref zh, .ref ds])), (rg, aQ g 8 cRg), (xar, aJ g 8 xR), (xat, aJ g 8 xT), (xs, .inr (0, [.ref xat, .ref xab, .ref xar, .ref xal, .ref xah, .int xk, .int xn])), (xab, aJ g 8 xB)]) (sd_runV (rest := []) (As := []) S (ct_Sum_bottom l D g xs xat xab xar xal xah (H.size) xk xn xB F (r_4) hc) kl_Desk_86 (by decide) (by decide) hK hP hD [4, 2] rfl (by decide) rfl hl d_Desk_root_43 rfl (Nat.le_of_ble_eq_true rfl) ⟨Nat.zero_le _, Nat.zero_le _⟩ 4 rfl rfl) hP hD hS hA [4, 2] [0, 1, 3, 5] rfl rfl (by decide) (by decide) rfl (fun H locs hP hD hS => ?_)
          refine W.eq (g2 := F0 m 46 ls [.long r_4]) rfl ?_
          refine lv_lstore (lv' := [(4, .long r_4), (3, .ref xs), (0, .ref zd), (1, .int vK), (2, .int vI)]) hx hb d_Desk_root_46 hl (by decide) rfl (fun ls hl => ?_)
          refine lv_aload_n hx hb d_Desk_root_48 rfl (lv_at hl 1 rfl) ?_
          obtain ⟨r_5, hc, hm⟩ := sd_mb1 hm
          refine sd_cl0 (wr := [(zd, .inr (4, [.ref rg, .ref iv, .ref fe, .ref c1, .ref c2, .ref pg, .ref zl, .ref zh, .ref ds])), (rg, aQ g 8 cRg), (xar, aJ g 8 xR), (xab, aJ g 8 xB)]) (w2 := [(zd, .inr (4, [.ref rg, .ref iv, .ref fe, .ref c1, .ref c2, .ref pg, .ref zl, .ref zh, .ref ds])), (rg, aQ g 8 cRg), (xar, aJ g 8 xR), (xab, aJ g 8 xB), (xs, .inr (0, [.ref xat, .ref xab, .ref xar, .ref xal, .ref xah, .int xk, .int xn])), (xat, aJ g 8 xT)]) (sd_runV (rest := []) (As := []) S (ct_Sum_top l D g xs xat xab xar xal xah (H.size) xk xn xT F (r_5) hc) kl_Desk_82 (by decide) (by decide) hK hP hD [4, 3] rfl (by decide) rfl hl d_Desk_root_49 rfl (Nat.le_of_ble_eq_true rfl) ⟨Nat.zero_le _, Nat.zero_le _⟩ 4 rfl rfl) hP hD hS hA [4, 3] [0, 1, 2, 5] rfl rfl (by decide) (by decide) rfl (fun H locs hP hD hS => ?_)
          refine W.eq (g2 := F0 m 52 ls [.long r_5]) rfl ?_
          refine lv_lload hx hb d_Desk_root_52 (lv_at hl 0 rfl) ?_
          refine lv_lmul hx hb d_Desk_root_54 ?_
          obtain ⟨x6, ex6, hm⟩ := sd_mlet hm
          refine sd_topj ex6 ?_
          refine lv_lstore (lv' := [(6, .long x6), (4, .long r_4), (3, .ref xs), (0, .ref zd), (1, .int vK), (2, .int vI)]) hx hb d_Desk_root_55 hl (by decide) rfl (fun ls hl => ?_)
          refine lv_lload hx hb d_Desk_root_57 (lv_at hl 0 rfl) ?_
          refine sd_ldc2 (v := (100000000 : Int64)) hx hb hown (htt _ km_Desk_89) d_Desk_root_59 ?_
          refine sd_lle (tgt := 69) hx hb d_Desk_root_62 d_Desk_root_63 (by decide) (fun hc => ?_) (fun hc => ?_)
          · have hm := sd_mt hc hm
            refine lv_lload hx hb d_Desk_root_69 (lv_at hl 0 rfl) ?_
            obtain ⟨r_6, hc, hm⟩ := sd_mb1 hm
            refine sd_cl0 (wr := [(zd, .inr (4, [.ref rg, .ref iv, .ref fe, .ref c1, .ref c2, .ref pg, .ref zl, .ref zh, .ref ds])), (rg, aQ g 8 cRg), (xar, aJ g 8 xR), (xab, aJ g 8 xB), (xs, .inr (0, [.ref xat, .ref xab, .ref xar, .ref xal, .ref xah, .int xk, .int xn])), (xat, aJ g 8 xT)]) (w2 := [(zd, .inr (4, [.ref rg, .ref iv, .ref fe, .ref c1, .ref c2, .ref pg, .ref zl, .ref zh, .ref ds])), (rg, aQ g 8 cRg), (xar, aJ g 8 xR), (xab, aJ g 8 xB), (xs, .inr (0, [.ref xat, .ref xab, .ref xar, .ref xal, .ref xah, .int xk, .int xn])), (xat, aJ g 8 xT)]) (sd_runS (rest := []) (As := [.long x6]) S (ct_Whole_sideOfGreatestSquare l D g (H.size) x6 F (r_6) hc) kl_Desk_91 (by decide) (by decide) hK hP hD [] rfl (by decide) rfl hl d_Desk_root_71 rfl (Nat.le_of_ble_eq_true rfl) ⟨Nat.zero_le _, Nat.zero_le _⟩) hP hD hS hA [] [0, 1, 2, 3, 4, 5] rfl rfl (by decide) (by decide) rfl (fun H locs hP hD hS => ?_)
            refine W.eq (g2 := F0 m 74 ls [.long r_6]) rfl ?_
            refine lv_lstore (lv' := [(8, .long r_6), (6, .long x6), (4, .long r_4), (3, .ref xs), (0, .ref zd), (1, .int vK), (2, .int vI)]) hx hb d_Desk_root_74 hl (by decide) rfl (fun ls hl => ?_)
            refine lv_lload hx hb d_Desk_root_76 (lv_at hl 0 rfl) ?_
            refine lv_lload hx hb d_Desk_root_78 (lv_at hl 2 rfl) ?_
            obtain ⟨r_7, hc, hm⟩ := sd_mb1 hm
            refine sd_cl0 (wr := [(zd, .inr (4, [.ref rg, .ref iv, .ref fe, .ref c1, .ref c2, .ref pg, .ref zl, .ref zh, .ref ds])), (rg, aQ g 8 cRg), (xar, aJ g 8 xR), (xab, aJ g 8 xB), (xs, .inr (0, [.ref xat, .ref xab, .ref xar, .ref xal, .ref xah, .int xk, .int xn])), (xat, aJ g 8 xT)]) (w2 := [(zd, .inr (4, [.ref rg, .ref iv, .ref fe, .ref c1, .ref c2, .ref pg, .ref zl, .ref zh, .ref ds])), (rg, aQ g 8 cRg), (xar, aJ g 8 xR), (xab, aJ g 8 xB), (xs, .inr (0, [.ref xat, .ref xab, .ref xar, .ref xal, .ref xah, .int xk, .int xn])), (xat, aJ g 8 xT)]) (sd_runS (rest := []) (As := [.long r_6, .long r_4]) S (ct_Whole_commonDivisor l D g (H.size) r_6 r_4 F (r_7) hc) kl_Desk_60 (by decide) (by decide) hK hP hD [] rfl (by decide) rfl hl d_Desk_root_80 rfl (Nat.le_of_ble_eq_true rfl) ⟨Nat.zero_le _, Nat.zero_le _⟩) hP hD hS hA [] [0, 1, 2, 3, 4, 5] rfl rfl (by decide) (by decide) rfl (fun H locs hP hD hS => ?_)
            refine W.eq (g2 := F0 m 83 ls [.long r_7]) rfl ?_
            refine lv_lstore (lv' := [(10, .long r_7), (8, .long r_6), (6, .long x6), (4, .long r_4), (3, .ref xs), (0, .ref zd), (1, .int vK), (2, .int vI)]) hx hb d_Desk_root_83 hl (by decide) rfl (fun ls hl => ?_)
            refine lv_aload_n hx hb d_Desk_root_85 rfl (lv_at hl 5 rfl) ?_
            refine va_get (D := D) (ci := 4) (v := .ref rg) (C := R_Desk) (T := F_Desk) (N := 9) hx hb htt i_Desk hown hK hP 0 rfl rfl 0 (by decide) (htt _ kf_Desk_11) (fun _ h9 => h9) rfl d_Desk_root_86 ?_
            refine lv_iload_n hx hb d_Desk_root_89 rfl (lv_at hl 6 rfl) ?_
            obtain ⟨h_2, hm⟩ := sd_mg hm
            refine sd_aald hx hb hK hP 1 rfl h_2 d_Desk_root_90 ?_
            refine sd_topq (hKk h_2) ?_
            refine lv_lload hx hb d_Desk_root_91 (lv_at hl 2 rfl) ?_
            refine lv_lconst (v := (0 : Int64)) hx hb d_Desk_root_93 (by decide) ?_
            obtain ⟨y, hv, hm⟩ := sd_mb1 hm
            have J107_3 : ∀ (H : Heap) (locs : List Loc) (ls : Array Slot), va_P D classes [(zd, .inr (4, [.ref rg, .ref iv, .ref fe, .ref c1, .ref c2, .ref pg, .ref zl, .ref zh, .ref ds])), (rg, aQ g 8 cRg), (xar, aJ g 8 xR), (xab, aJ g 8 xB), (xs, .inr (0, [.ref xat, .ref xab, .ref xar, .ref xal, .ref xah, .int xk, .int xn])), (xat, aJ g 8 xT)] H → va_D A [(zd, .inr (4, [.ref rg, .ref iv, .ref fe, .ref c1, .ref c2, .ref pg, .ref zl, .ref zh, .ref ds])), (rg, aQ g 8 cRg), (xar, aJ g 8 xR), (xab, aJ g 8 xB), (xs, .inr (0, [.ref xat, .ref xab, .ref xar, .ref xal, .ref xah, .int xk, .int xn])), (xat, aJ g 8 xT)] → va_S A s.heap H locs → lv_has ls 12 [(4, .long r_4), (6, .long x6), (8, .long r_6), (10, .long r_7)] → W p l e rm_Desk_root2 s m args below meth c H locs 0 0 Q (F0 m 107 ls [.long y, .ref xs]) := by
              intro H locs ls hP hD hS hl
              refine lv_lload hx hb d_Desk_root_107 (lv_at hl 0 rfl) ?_
              refine lv_lload hx hb d_Desk_root_109 (lv_at hl 3 rfl) ?_
              obtain ⟨h_5, hm⟩ := sd_mg hm
              refine lv_ldiv hx hb d_Desk_root_111 (sd_nzJ h_5) ?_
              refine lv_lload hx hb d_Desk_root_112 (lv_at hl 1 rfl) ?_
              refine lv_lload hx hb d_Desk_root_114 (lv_at hl 2 rfl) ?_
              refine lv_lload hx hb d_Desk_root_116 (lv_at hl 2 rfl) ?_
              refine lv_lmul hx hb d_Desk_root_118 ?_
              obtain ⟨h_6, hm⟩ := sd_mg hm
              refine lv_ldiv hx hb d_Desk_root_119 (sd_nzJ h_6) ?_
              obtain ⟨uxs, uxs_1, uxat, uxab, uxar, hc, hm⟩ := sd_mb5 hm
              refine sd_cv1 (wr := [(zd, .inr (4, [.ref rg, .ref iv, .ref fe, .ref c1, .ref c2, .ref pg, .ref zl, .ref zh, .ref ds])), (rg, aQ g 8 cRg)]) (w2 := [(zd, .inr (4, [.ref rg, .ref iv, .ref fe, .ref c1, .ref c2, .ref pg, .ref zl, .ref zh, .ref ds])), (rg, aQ g 8 cRg), (xs, .inr (0, [.ref xat, .ref xab, .ref xar, .ref xal, .ref xah, .int uxs, .int uxs_1])), (xat, aJ g 8 uxat), (xab, aJ g 8 uxab), (xar, aJ g 8 uxar)]) (sd_runV (rest := []) (As := [.long y, .long (r_4 / r_7), .long (x6 / (r_6 * r_6))]) S (ct_Sum_become l D g xs xat xab xar xal xah (H.size) y (r_4 / r_7) (x6 / (r_6 * r_6)) xk xn xT xB xR F (uxs, uxs_1, uxat, uxab, uxar) hc) kl_Desk_74 (by decide) (by decide) hK hP hD [4, 5, 3, 2] rfl (by decide) rfl hl d_Desk_root_120 rfl (Nat.le_of_ble_eq_true rfl) ⟨Nat.zero_le _, Nat.zero_le _⟩ 4 rfl rfl) hP hD hS hA [4, 5, 3, 2] [0, 1] rfl rfl (by decide) (by decide) rfl (fun H locs hP hD hS => ?_)
              refine lv_iconst (v := (0 : Int32)) hx hb d_Desk_root_123 (by decide) ?_
              exact sd_i1ret (u := (uxs, uxs_1, uxat, uxab, uxar)) hQ hx hb hr hlk hK (hP.sub [0, 1, 2, 3, 4, 5] rfl) (hD.sub [0, 1, 2, 3, 4, 5] (by decide) rfl) hS (Option.some.inj hm).symm d_Desk_root_124
            replace hm := hv
            refine sd_lne (tgt := 102) hx hb d_Desk_root_94 d_Desk_root_95 (by decide) (fun hc => ?_) (fun hc => ?_)
            · have hm := sd_mf hc hm
              refine lv_lload hx hb d_Desk_root_102 (lv_at hl 1 rfl) ?_
              refine lv_lload hx hb d_Desk_root_104 (lv_at hl 0 rfl) ?_
              obtain ⟨h_4, hm⟩ := sd_mg hm
              refine lv_ldiv hx hb d_Desk_root_106 (sd_nzJ h_4) ?_
              cases hm
              exact J107_3 H locs ls (hP.sub [0, 1, 2, 3, 4, 5] rfl) (hD.sub [0, 1, 2, 3, 4, 5] (by decide) rfl) hS (lv_sub hl [3, 2, 1, 0] rfl)
            · have hm := sd_mt hc hm
              refine lv_lconst (v := (0 : Int64)) hx hb d_Desk_root_98 (by decide) ?_
              refine lv_goto (tgt := 107) hx hb d_Desk_root_99 (by decide) ?_
              cases hm
              exact J107_3 H locs ls (hP.sub [0, 1, 2, 3, 4, 5] rfl) (hD.sub [0, 1, 2, 3, 4, 5] (by decide) rfl) hS (lv_sub hl [3, 2, 1, 0] rfl)
          · have hm := sd_mf hc hm
            refine lv_bipush (v := (-3 : Int32)) hx hb d_Desk_root_66 (by decide) ?_
            exact sd_i1ret (u := (xk, xn, xT, xB, xR)) hQ hx hb hr hlk hK (hP.sub [0, 1, 4, 5, 3, 2] rfl) (hD.sub [0, 1, 4, 5, 3, 2] (by decide) rfl) hS (Option.some.inj hm).symm d_Desk_root_68
        · have hm := sd_mf hc hm
          refine lv_bipush (v := (-2 : Int32)) hx hb d_Desk_root_39 (by decide) ?_
          exact sd_i1ret (u := (xk, xn, xT, xB, xR)) hQ hx hb hr hlk hK (hP.sub [0, 1, 4, 5, 2, 3] rfl) (hD.sub [0, 1, 4, 5, 2, 3] (by decide) rfl) hS (Option.some.inj hm).symm d_Desk_root_41
    · have hm := sd_mt hc hm
      refine lv_iconst (v := (-1 : Int32)) hx hb d_Desk_root_14 (by decide) ?_
      exact sd_i1ret (u := (xk, xn, xT, xB, xR)) hQ hx hb hr hlk hK (hP.sub [0, 1, 2, 3, 4, 5] rfl) (hD.sub [0, 1, 2, 3, 4, 5] (by decide) rfl) hS (Option.some.inj hm).symm d_Desk_root_15
theorem d_Desk_reckon_0 : decode b_Desk_reckon 0 = .ok (.iload_n 1, 1) := by decide +kernel
theorem d_Desk_reckon_1 : decode b_Desk_reckon 1 = .ok (.ifCond .lt 30, 3) := by decide +kernel
theorem d_Desk_reckon_4 : decode b_Desk_reckon 4 = .ok (.iload_n 1, 1) := by decide +kernel
theorem d_Desk_reckon_5 : decode b_Desk_reckon 5 = .ok (.iconst 2, 1) := by decide +kernel
theorem d_Desk_reckon_6 : decode b_Desk_reckon 6 = .ok (.if_icmp .gt 25, 3) := by decide +kernel
theorem d_Desk_reckon_9 : decode b_Desk_reckon 9 = .ok (.iload_n 2, 1) := by decide +kernel
theorem d_Desk_reckon_10 : decode b_Desk_reckon 10 = .ok (.invokestatic 56, 3) := by decide +kernel
theorem d_Desk_reckon_13 : decode b_Desk_reckon 13 = .ok (.ifCond .eq 18, 3) := by decide +kernel
theorem d_Desk_reckon_16 : decode b_Desk_reckon 16 = .ok (.iload_n 3, 1) := by decide +kernel
theorem d_Desk_reckon_17 : decode b_Desk_reckon 17 = .ok (.invokestatic 56, 3) := by decide +kernel
theorem d_Desk_reckon_20 : decode b_Desk_reckon 20 = .ok (.ifCond .eq 11, 3) := by decide +kernel
theorem d_Desk_reckon_23 : decode b_Desk_reckon 23 = .ok (.iload 4, 2) := by decide +kernel
theorem d_Desk_reckon_25 : decode b_Desk_reckon 25 = .ok (.invokestatic 56, 3) := by decide +kernel
theorem d_Desk_reckon_28 : decode b_Desk_reckon 28 = .ok (.ifCond .ne 5, 3) := by decide +kernel
theorem d_Desk_reckon_31 : decode b_Desk_reckon 31 = .ok (.iconst (-1), 1) := by decide +kernel
theorem d_Desk_reckon_32 : decode b_Desk_reckon 32 = .ok (.ireturn, 1) := by decide +kernel
theorem d_Desk_reckon_33 : decode b_Desk_reckon 33 = .ok (.iload_n 1, 1) := by decide +kernel
theorem d_Desk_reckon_34 : decode b_Desk_reckon 34 = .ok (.iconst 2, 1) := by decide +kernel
theorem d_Desk_reckon_35 : decode b_Desk_reckon 35 = .ok (.if_icmp .ne 28, 3) := by decide +kernel
theorem d_Desk_reckon_38 : decode b_Desk_reckon 38 = .ok (.aload_n 0, 1) := by decide +kernel
theorem d_Desk_reckon_39 : decode b_Desk_reckon 39 = .ok (.getfield 53, 3) := by decide +kernel
theorem d_Desk_reckon_42 : decode b_Desk_reckon 42 = .ok (.aload_n 0, 1) := by decide +kernel
theorem d_Desk_reckon_43 : decode b_Desk_reckon 43 = .ok (.getfield 11, 3) := by decide +kernel
theorem d_Desk_reckon_46 : decode b_Desk_reckon 46 = .ok (.iload_n 3, 1) := by decide +kernel
theorem d_Desk_reckon_47 : decode b_Desk_reckon 47 = .ok (.aaload, 1) := by decide +kernel
theorem d_Desk_reckon_48 : decode b_Desk_reckon 48 = .ok (.aload_n 0, 1) := by decide +kernel
theorem d_Desk_reckon_49 : decode b_Desk_reckon 49 = .ok (.getfield 11, 3) := by decide +kernel
theorem d_Desk_reckon_52 : decode b_Desk_reckon 52 = .ok (.iload 4, 2) := by decide +kernel
theorem d_Desk_reckon_54 : decode b_Desk_reckon 54 = .ok (.aaload, 1) := by decide +kernel
theorem d_Desk_reckon_55 : decode b_Desk_reckon 55 = .ok (.invokevirtual 94, 3) := by decide +kernel
theorem d_Desk_reckon_58 : decode b_Desk_reckon 58 = .ok (.istore 5, 2) := by decide +kernel
theorem d_Desk_reckon_60 : decode b_Desk_reckon 60 = .ok (.goto 35, 3) := by decide +kernel
theorem d_Desk_reckon_63 : decode b_Desk_reckon 63 = .ok (.aload_n 0, 1) := by decide +kernel
theorem d_Desk_reckon_64 : decode b_Desk_reckon 64 = .ok (.getfield 53, 3) := by decide +kernel
theorem d_Desk_reckon_67 : decode b_Desk_reckon 67 = .ok (.aload_n 0, 1) := by decide +kernel
theorem d_Desk_reckon_68 : decode b_Desk_reckon 68 = .ok (.getfield 11, 3) := by decide +kernel
theorem d_Desk_reckon_71 : decode b_Desk_reckon 71 = .ok (.iload_n 3, 1) := by decide +kernel
theorem d_Desk_reckon_72 : decode b_Desk_reckon 72 = .ok (.aaload, 1) := by decide +kernel
theorem d_Desk_reckon_73 : decode b_Desk_reckon 73 = .ok (.aload_n 0, 1) := by decide +kernel
theorem d_Desk_reckon_74 : decode b_Desk_reckon 74 = .ok (.getfield 11, 3) := by decide +kernel
theorem d_Desk_reckon_77 : decode b_Desk_reckon 77 = .ok (.iload 4, 2) := by decide +kernel
theorem d_Desk_reckon_79 : decode b_Desk_reckon 79 = .ok (.aaload, 1) := by decide +kernel
theorem d_Desk_reckon_80 : decode b_Desk_reckon 80 = .ok (.iload_n 1, 1) := by decide +kernel
theorem d_Desk_reckon_81 : decode b_Desk_reckon 81 = .ok (.iconst 1, 1) := by decide +kernel
theorem d_Desk_reckon_82 : decode b_Desk_reckon 82 = .ok (.if_icmp .ne 7, 3) := by decide +kernel
theorem d_Desk_reckon_85 : decode b_Desk_reckon 85 = .ok (.iconst (-1), 1) := by decide +kernel
theorem d_Desk_reckon_86 : decode b_Desk_reckon 86 = .ok (.goto 4, 3) := by decide +kernel
theorem d_Desk_reckon_89 : decode b_Desk_reckon 89 = .ok (.iconst 1, 1) := by decide +kernel
theorem d_Desk_reckon_90 : decode b_Desk_reckon 90 = .ok (.invokevirtual 98, 3) := by decide +kernel
theorem d_Desk_reckon_93 : decode b_Desk_reckon 93 = .ok (.istore 5, 2) := by decide +kernel
theorem d_Desk_reckon_95 : decode b_Desk_reckon 95 = .ok (.iload 5, 2) := by decide +kernel
theorem d_Desk_reckon_97 : decode b_Desk_reckon 97 = .ok (.ifCond .eq 11, 3) := by decide +kernel
theorem d_Desk_reckon_100 : decode b_Desk_reckon 100 = .ok (.aload_n 0, 1) := by decide +kernel
theorem d_Desk_reckon_101 : decode b_Desk_reckon 101 = .ok (.iload_n 2, 1) := by decide +kernel
theorem d_Desk_reckon_102 : decode b_Desk_reckon 102 = .ok (.invokevirtual 102, 3) := by decide +kernel
theorem d_Desk_reckon_105 : decode b_Desk_reckon 105 = .ok (.goto 5, 3) := by decide +kernel
theorem d_Desk_reckon_108 : decode b_Desk_reckon 108 = .ok (.bipush (-3), 2) := by decide +kernel
theorem d_Desk_reckon_110 : decode b_Desk_reckon 110 = .ok (.ireturn, 1) := by decide +kernel
def mf_Desk_reckon (F : Nat) (vOp : Int32) (vK : Int32) (vI : Int32) (vJ : Int32) (cRg : Nat → Option Nat) (dk : Int32) (dn : Int32) (dT : Nat → Int64) (dB : Nat → Int64) (dR : Nat → Int64) (xk : Int32) (xn : Int32) (xT : Nat → Int64) (xB : Nat → Int64) (xR : Nat → Int64) (yk : Int32) (yn : Int32) (yT : Nat → Int64) (yB : Nat → Int64) (yR : Nat → Int64) (ds : Nat) (os : Nat) : Option (Int32 × Nat × (Nat → Option Nat) × Int32 × Int32 × (Nat → Int64) × (Nat → Int64) × (Nat → Int64)) :=
  (if vOp < 0 then (some ((-1 : Int32), ds, cRg, dk, dn, dT, dB, dR)) else (if (2 : Int32) < vOp then (some ((-1 : Int32), ds, cRg, dk, dn, dT, dB, dR)) else (sd_b1 (mf_Desk_isRegister F vK) fun r => (if r = 0 then (some ((-1 : Int32), ds, cRg, dk, dn, dT, dB, dR)) else (sd_b1 (mf_Desk_isRegister F vI) fun r_1 => (if r_1 = 0 then (some ((-1 : Int32), ds, cRg, dk, dn, dT, dB, dR)) else (sd_b1 (mf_Desk_isRegister F vJ) fun r_2 => (if r_2 = 0 then (some ((-1 : Int32), ds, cRg, dk, dn, dT, dB, dR)) else (sd_b6 (if vOp = (2 : Int32) then (sd_g (sd_ix vI 8) (sd_g (sd_ix vJ 8) (sd_b6 (mf_Sum_becomeProducts F dk dn dT dB dR xk xn xT xB xR yk yn yT yB yR) fun r_4 uds_4 uds_5 udat_2 udab_2 udar_2 => (some (r_4, uds_4, uds_5, udat_2, udab_2, udar_2))))) else (sd_g (sd_ix vI 8) (sd_g (sd_ix vJ 8) (sd_b1 (if vOp = (1 : Int32) then (some ((-1 : Int32))) else (some ((1 : Int32)))) fun y => (sd_b6 (mf_Sum_becomeSum F y dk dn dT dB dR xk xn xT xB xR yk yn yT yB yR) fun r_3 uds_2 uds_3 udat_1 udab_1 udar_1 => (some (r_3, uds_2, uds_3, udat_1, udab_1, udar_1))))))) fun x5 uds uds_1 udat udab udar => (sd_b3 (if x5 = 0 then (some ((-3 : Int32), ds, cRg)) else (sd_b3 (mf_Desk_keepDraft F vK cRg uds uds_1 ds os) fun r_5 uzd_1 urg_1 => (some (r_5, uzd_1, urg_1)))) fun y_1 uzd urg => (some (y_1, uzd, urg, uds, uds_1, udat, udab, udar))))))))))))
abbrev rm_Desk_reckon : Room := { frames := 6, cells := 0, slots := 0, locals := 232 }
set_option maxHeartbeats 4000000 in
set_option maxRecDepth 100000 in
theorem ct_Desk_reckon (l : Launch) (D : va_G) (g : G4) (zd : Nat) (rg : Nat) (iv : Nat) (fe : Nat) (c1 : Nat) (c2 : Nat) (pg : Nat) (zl : Nat) (zh : Nat) (ds : Nat) (dat : Nat) (dab : Nat) (dar : Nat) (dal : Nat) (dah : Nat) (xs : Nat) (xat : Nat) (xab : Nat) (xar : Nat) (xal : Nat) (xah : Nat) (ys : Nat) (yat : Nat) (yab : Nat) (yar : Nat) (yal : Nat) (yah : Nat) (os : Nat) (sz : Nat) (vOp : Int32) (vK : Int32) (vI : Int32) (vJ : Int32) (cRg : Nat → Option Nat) (dk : Int32) (dn : Int32) (dT : Nat → Int64) (dB : Nat → Int64) (dR : Nat → Int64) (xk : Int32) (xn : Int32) (xT : Nat → Int64) (xB : Nat → Int64) (xR : Nat → Int64) (yk : Int32) (yn : Int32) (yT : Nat → Int64) (yB : Nat → Int64) (yR : Nat → Int64) (F : Nat) (res : Int32 × Nat × (Nat → Option Nat) × Int32 × Int32 × (Nat → Int64) × (Nat → Int64) × (Nat → Int64)) (hm : mf_Desk_reckon F vOp vK vI vJ cRg dk dn dT dB dR xk xn xT xB xR yk yn yT yB yR ds os = some res) (hKk : sd_ix vK 8 = true → cRg vK.toNatClampNeg = some os) (hI : sd_ix vI 8 = true → cRg vI.toNatClampNeg = some xs) (hJ : sd_ix vJ 8 = true → cRg vJ.toNatClampNeg = some ys) : Met l y_Desk_reckon (.code y_Desk_reckon b_Desk_reckon 6 (some .int) :: sd_tb) rm_Desk_reckon (sd_PW D g [.ref zd, .int vOp, .int vK, .int vI, .int vJ] sz [(zd, .inr (4, [.ref rg, .ref iv, .ref fe, .ref c1, .ref c2, .ref pg, .ref zl, .ref zh, .ref ds])), (rg, aQ g 8 cRg), (ds, .inr (0, [.ref dat, .ref dab, .ref dar, .ref dal, .ref dah, .int dk, .int dn])), (dat, aJ g 8 dT), (dab, aJ g 8 dB), (dar, aJ g 8 dR), (xs, .inr (0, [.ref xat, .ref xab, .ref xar, .ref xal, .ref xah, .int xk, .int xn])), (xat, aJ g 8 xT), (xab, aJ g 8 xB), (xar, aJ g 8 xR), (ys, .inr (0, [.ref yat, .ref yab, .ref yar, .ref yal, .ref yah, .int yk, .int yn])), (yat, aJ g 8 yT), (yab, aJ g 8 yB), (yar, aJ g 8 yR)]) (sd_Qi1 D g res (fun u : Nat × (Nat → Option Nat) × Int32 × Int32 × (Nat → Int64) × (Nat → Int64) × (Nat → Int64) => [(zd, .inr (4, [.ref rg, .ref iv, .ref fe, .ref c1, .ref c2, .ref pg, .ref zl, .ref zh, .ref (u.1)])), (rg, aQ g 8 (u.2.1)), (ds, .inr (0, [.ref dat, .ref dab, .ref dar, .ref dal, .ref dah, .int (u.2.2.1), .int (u.2.2.2.1)])), (dat, aJ g 8 (u.2.2.2.2.1)), (dab, aJ g 8 (u.2.2.2.2.2.1)), (dar, aJ g 8 (u.2.2.2.2.2.2)), (xs, .inr (0, [.ref xat, .ref xab, .ref xar, .ref xal, .ref xah, .int xk, .int xn])), (xat, aJ g 8 xT), (xab, aJ g 8 xB), (xar, aJ g 8 xR), (ys, .inr (0, [.ref yat, .ref yab, .ref yar, .ref yal, .ref yah, .int yk, .int yn])), (yat, aJ g 8 yT), (yab, aJ g 8 yB), (yar, aJ g 8 yR)]) (va_A [(zd, .inr (4, [.ref rg, .ref iv, .ref fe, .ref c1, .ref c2, .ref pg, .ref zl, .ref zh, .ref ds])), (rg, aQ g 8 cRg), (ds, .inr (0, [.ref dat, .ref dab, .ref dar, .ref dal, .ref dah, .int dk, .int dn])), (dat, aJ g 8 dT), (dab, aJ g 8 dB), (dar, aJ g 8 dR), (xs, .inr (0, [.ref xat, .ref xab, .ref xar, .ref xal, .ref xah, .int xk, .int xn])), (xat, aJ g 8 xT), (xab, aJ g 8 xB), (xar, aJ g 8 xR), (ys, .inr (0, [.ref yat, .ref yab, .ref yar, .ref yal, .ref yah, .int yk, .int yn])), (yat, aJ g 8 yT), (yab, aJ g 8 yB), (yar, aJ g 8 yR)] sz)) 0 0 (va_A [(zd, .inr (4, [.ref rg, .ref iv, .ref fe, .ref c1, .ref c2, .ref pg, .ref zl, .ref zh, .ref ds])), (rg, aQ g 8 cRg), (ds, .inr (0, [.ref dat, .ref dab, .ref dar, .ref dal, .ref dah, .int dk, .int dn])), (dat, aJ g 8 dT), (dab, aJ g 8 dB), (dar, aJ g 8 dR), (xs, .inr (0, [.ref xat, .ref xab, .ref xar, .ref xal, .ref xah, .int xk, .int xn])), (xat, aJ g 8 xT), (xab, aJ g 8 xB), (xar, aJ g 8 xR), (ys, .inr (0, [.ref yat, .ref yab, .ref yar, .ref yal, .ref yah, .int yk, .int yn])), (yat, aJ g 8 yT), (yab, aJ g 8 yB), (yar, aJ g 8 yR)] sz) := by
  refine sd_met (Qf := fun A => sd_Qi1 D g res (fun u : Nat × (Nat → Option Nat) × Int32 × Int32 × (Nat → Int64) × (Nat → Int64) × (Nat → Int64) => [(zd, .inr (4, [.ref rg, .ref iv, .ref fe, .ref c1, .ref c2, .ref pg, .ref zl, .ref zh, .ref (u.1)])), (rg, aQ g 8 (u.2.1)), (ds, .inr (0, [.ref dat, .ref dab, .ref dar, .ref dal, .ref dah, .int (u.2.2.1), .int (u.2.2.2.1)])), (dat, aJ g 8 (u.2.2.2.2.1)), (dab, aJ g 8 (u.2.2.2.2.2.1)), (dar, aJ g 8 (u.2.2.2.2.2.2)), (xs, .inr (0, [.ref xat, .ref xab, .ref xar, .ref xal, .ref xah, .int xk, .int xn])), (xat, aJ g 8 xT), (xab, aJ g 8 xB), (xar, aJ g 8 xR), (ys, .inr (0, [.ref yat, .ref yab, .ref yar, .ref yal, .ref yah, .int yk, .int yn])), (yat, aJ g 8 yT), (yab, aJ g 8 yB), (yar, aJ g 8 yR)]) A) (own := R_Desk) (by decide +kernel) rfl (Nat.le_of_ble_eq_true rfl) ?_
  intro p e s m args below meth c S hr hlk hK A hA Q hQ H locs hP hD hS ls hl
  have hx := S.1
  have hb := S.2.1
  have hml := S.2.2.1
  have hown := S.2.2.2.1
  have htt := sd_tt S
  replace hl : lv_has ls 6 [(0, .ref zd), (1, .int vOp), (2, .int vK), (3, .int vI), (4, .int vJ)] := hl
  unfold mf_Desk_reckon at hm
  refine lv_iload_n hx hb d_Desk_reckon_0 rfl (lv_at hl 1 rfl) ?_
  refine lv_if_lt (tgt := 31) hx hb d_Desk_reckon_1 (by decide) (fun hc => ?_) (fun hc => ?_)
  · have hm := sd_mt hc hm
    refine lv_iconst (v := (-1 : Int32)) hx hb d_Desk_reckon_31 (by decide) ?_
    exact sd_i1ret (u := (ds, cRg, dk, dn, dT, dB, dR)) hQ hx hb hr hlk hK (hP.sub [0, 1, 2, 3, 4, 5, 6, 7, 8, 9, 10, 11, 12, 13] rfl) (hD.sub [0, 1, 2, 3, 4, 5, 6, 7, 8, 9, 10, 11, 12, 13] (by decide) rfl) hS (Option.some.inj hm).symm d_Desk_reckon_32
  · have hm := sd_mf hc hm
    refine lv_iload_n hx hb d_Desk_reckon_4 rfl (lv_at hl 1 rfl) ?_
    refine lv_iconst (v := (2 : Int32)) hx hb d_Desk_reckon_5 (by decide) ?_
    refine lv_icmp_gt (tgt := 31) hx hb d_Desk_reckon_6 (by decide) (fun hc => ?_) (fun hc => ?_)
    · have hm := sd_mt hc hm
      refine lv_iconst (v := (-1 : Int32)) hx hb d_Desk_reckon_31 (by decide) ?_
      exact sd_i1ret (u := (ds, cRg, dk, dn, dT, dB, dR)) hQ hx hb hr hlk hK (hP.sub [0, 1, 2, 3, 4, 5, 6, 7, 8, 9, 10, 11, 12, 13] rfl) (hD.sub [0, 1, 2, 3, 4, 5, 6, 7, 8, 9, 10, 11, 12, 13] (by decide) rfl) hS (Option.some.inj hm).symm d_Desk_reckon_32
    · have hm := sd_mf hc hm
      refine lv_iload_n hx hb d_Desk_reckon_9 rfl (lv_at hl 2 rfl) ?_
      obtain ⟨r, hc, hm⟩ := sd_mb1 hm
      refine sd_ci0 (wr := [(zd, .inr (4, [.ref rg, .ref iv, .ref fe, .ref c1, .ref c2, .ref pg, .ref zl, .ref zh, .ref ds])), (rg, aQ g 8 cRg), (ds, .inr (0, [.ref dat, .ref dab, .ref dar, .ref dal, .ref dah, .int dk, .int dn])), (dat, aJ g 8 dT), (dab, aJ g 8 dB), (dar, aJ g 8 dR), (xs, .inr (0, [.ref xat, .ref xab, .ref xar, .ref xal, .ref xah, .int xk, .int xn])), (xat, aJ g 8 xT), (xab, aJ g 8 xB), (xar, aJ g 8 xR), (ys, .inr (0, [.ref yat, .ref yab, .ref yar, .ref yal, .ref yah, .int yk, .int yn])), (yat, aJ g 8 yT), (yab, aJ g 8 yB), (yar, aJ g 8 yR)]) (w2 := [(zd, .inr (4, [.ref rg, .ref iv, .ref fe, .ref c1, .ref c2, .ref pg, .ref zl, .ref zh, .ref ds])), (rg, aQ g 8 cRg), (ds, .inr (0, [.ref dat, .ref dab, .ref dar, .ref dal, .ref dah, .int dk, .int dn])), (dat, aJ g 8 dT), (dab, aJ g 8 dB), (dar, aJ g 8 dR), (xs, .inr (0, [.ref xat, .ref xab, .ref xar, .ref xal, .ref xah, .int xk, .int xn])), (xat, aJ g 8 xT), (xab, aJ g 8 xB), (xar, aJ g 8 xR), (ys, .inr (0, [.ref yat, .ref yab, .ref yar, .ref yal, .ref yah, .int yk, .int yn])), (yat, aJ g 8 yT), (yab, aJ g 8 yB), (yar, aJ g 8 yR)]) (sd_runS (rest := []) (As := [.int vK]) S (ct_Desk_isRegister l D g (H.size) vK F (r) hc) kl_Desk_56 (by decide) (by decide) hK hP hD [] rfl (by decide) rfl hl d_Desk_reckon_10 rfl (Nat.le_of_ble_eq_true rfl) ⟨Nat.zero_le _, Nat.zero_le _⟩) hP hD hS hA [] [0, 1, 2, 3, 4, 5, 6, 7, 8, 9, 10, 11, 12, 13] rfl rfl (by decide) (by decide) rfl (fun H locs hP hD hS => ?_)
      refine W.eq (g2 := F0 m 13 ls [.int r]) rfl ?_
      refine lv_if_eq (tgt := 31) hx hb d_Desk_reckon_13 (by decide) (fun hc => ?_) (fun hc => ?_)
      · have hm := sd_mt hc hm
        refine lv_iconst (v := (-1 : Int32)) hx hb d_Desk_reckon_31 (by decide) ?_
        exact sd_i1ret (u := (ds, cRg, dk, dn, dT, dB, dR)) hQ hx hb hr hlk hK (hP.sub [0, 1, 2, 3, 4, 5, 6, 7, 8, 9, 10, 11, 12, 13] rfl) (hD.sub [0, 1, 2, 3, 4, 5, 6, 7, 8, 9, 10, 11, 12, 13] (by decide) rfl) hS (Option.some.inj hm).symm d_Desk_reckon_32
      · have hm := sd_mf hc hm
        refine lv_iload_n hx hb d_Desk_reckon_16 rfl (lv_at hl 3 rfl) ?_
        obtain ⟨r_1, hc, hm⟩ := sd_mb1 hm
        refine sd_ci0 (wr := [(zd, .inr (4, [.ref rg, .ref iv, .ref fe, .ref c1, .ref c2, .ref pg, .ref zl, .ref zh, .ref ds])), (rg, aQ g 8 cRg), (ds, .inr (0, [.ref dat, .ref dab, .ref dar, .ref dal, .ref dah, .int dk, .int dn])), (dat, aJ g 8 dT), (dab, aJ g 8 dB), (dar, aJ g 8 dR), (xs, .inr (0, [.ref xat, .ref xab, .ref xar, .ref xal, .ref xah, .int xk, .int xn])), (xat, aJ g 8 xT), (xab, aJ g 8 xB), (xar, aJ g 8 xR), (ys, .inr (0, [.ref yat, .ref yab, .ref yar, .ref yal, .ref yah, .int yk, .int yn])), (yat, aJ g 8 yT), (yab, aJ g 8 yB), (yar, aJ g 8 yR)]) (w2 := [(zd, .inr (4, [.ref rg, .ref iv, .ref fe, .ref c1, .ref c2, .ref pg, .ref zl, .ref zh, .ref ds])), (rg, aQ g 8 cRg), (ds, .inr (0, [.ref dat, .ref dab, .ref dar, .ref dal, .ref dah, .int dk, .int dn])), (dat, aJ g 8 dT), (dab, aJ g 8 dB), (dar, aJ g 8 dR), (xs, .inr (0, [.ref xat, .ref xab, .ref xar, .ref xal, .ref xah, .int xk, .int xn])), (xat, aJ g 8 xT), (xab, aJ g 8 xB), (xar, aJ g 8 xR), (ys, .inr (0, [.ref yat, .ref yab, .ref yar, .ref yal, .ref yah, .int yk, .int yn])), (yat, aJ g 8 yT), (yab, aJ g 8 yB), (yar, aJ g 8 yR)]) (sd_runS (rest := []) (As := [.int vI]) S (ct_Desk_isRegister l D g (H.size) vI F (r_1) hc) kl_Desk_56 (by decide) (by decide) hK hP hD [] rfl (by decide) rfl hl d_Desk_reckon_17 rfl (Nat.le_of_ble_eq_true rfl) ⟨Nat.zero_le _, Nat.zero_le _⟩) hP hD hS hA [] [0, 1, 2, 3, 4, 5, 6, 7, 8, 9, 10, 11, 12, 13] rfl rfl (by decide) (by decide) rfl (fun H locs hP hD hS => ?_)
        refine W.eq (g2 := F0 m 20 ls [.int r_1]) rfl ?_
        refine lv_if_eq (tgt := 31) hx hb d_Desk_reckon_20 (by decide) (fun hc => ?_) (fun hc => ?_)
        · have hm := sd_mt hc hm
          refine lv_iconst (v := (-1 : Int32)) hx hb d_Desk_reckon_31 (by decide) ?_
          exact sd_i1ret (u := (ds, cRg, dk, dn, dT, dB, dR)) hQ hx hb hr hlk hK (hP.sub [0, 1, 2, 3, 4, 5, 6, 7, 8, 9, 10, 11, 12, 13] rfl) (hD.sub [0, 1, 2, 3, 4, 5, 6, 7, 8, 9, 10, 11, 12, 13] (by decide) rfl) hS (Option.some.inj hm).symm d_Desk_reckon_32
        · have hm := sd_mf hc hm
          refine lv_iload hx hb d_Desk_reckon_23 (lv_at hl 4 rfl) ?_
          obtain ⟨r_2, hc, hm⟩ := sd_mb1 hm
          refine sd_ci0 (wr := [(zd, .inr (4, [.ref rg, .ref iv, .ref fe, .ref c1, .ref c2, .ref pg, .ref zl, .ref zh, .ref ds])), (rg, aQ g 8 cRg), (ds, .inr (0, [.ref dat, .ref dab, .ref dar, .ref dal, .ref dah, .int dk, .int dn])), (dat, aJ g 8 dT), (dab, aJ g 8 dB), (dar, aJ g 8 dR), (xs, .inr (0, [.ref xat, .ref xab, .ref xar, .ref xal, .ref xah, .int xk, .int xn])), (xat, aJ g 8 xT), (xab, aJ g 8 xB), (xar, aJ g 8 xR), (ys, .inr (0, [.ref yat, .ref yab, .ref yar, .ref yal, .ref yah, .int yk, .int yn])), (yat, aJ g 8 yT), (yab, aJ g 8 yB), (yar, aJ g 8 yR)]) (w2 := [(zd, .inr (4, [.ref rg, .ref iv, .ref fe, .ref c1, .ref c2, .ref pg, .ref zl, .ref zh, .ref ds])), (rg, aQ g 8 cRg), (ds, .inr (0, [.ref dat, .ref dab, .ref dar, .ref dal, .ref dah, .int dk, .int dn])), (dat, aJ g 8 dT), (dab, aJ g 8 dB), (dar, aJ g 8 dR), (xs, .inr (0, [.ref xat, .ref xab, .ref xar, .ref xal, .ref xah, .int xk, .int xn])), (xat, aJ g 8 xT), (xab, aJ g 8 xB), (xar, aJ g 8 xR), (ys, .inr (0, [.ref yat, .ref yab, .ref yar, .ref yal, .ref yah, .int yk, .int yn])), (yat, aJ g 8 yT), (yab, aJ g 8 yB), (yar, aJ g 8 yR)]) (sd_runS (rest := []) (As := [.int vJ]) S (ct_Desk_isRegister l D g (H.size) vJ F (r_2) hc) kl_Desk_56 (by decide) (by decide) hK hP hD [] rfl (by decide) rfl hl d_Desk_reckon_25 rfl (Nat.le_of_ble_eq_true rfl) ⟨Nat.zero_le _, Nat.zero_le _⟩) hP hD hS hA [] [0, 1, 2, 3, 4, 5, 6, 7, 8, 9, 10, 11, 12, 13] rfl rfl (by decide) (by decide) rfl (fun H locs hP hD hS => ?_)
          refine W.eq (g2 := F0 m 28 ls [.int r_2]) rfl ?_
          refine lv_if_ne (tgt := 33) hx hb d_Desk_reckon_28 (by decide) (fun hc => ?_) (fun hc => ?_)
          · have hm := sd_mf hc hm
            refine lv_iload_n hx hb d_Desk_reckon_33 rfl (lv_at hl 1 rfl) ?_
            refine lv_iconst (v := (2 : Int32)) hx hb d_Desk_reckon_34 (by decide) ?_
            obtain ⟨x5, uds, uds_1, udat, udab, udar, hv, hm⟩ := sd_mb6 hm
            have J95_1 : ∀ (H : Heap) (locs : List Loc) (ls : Array Slot), va_P D classes [(zd, .inr (4, [.ref rg, .ref iv, .ref fe, .ref c1, .ref c2, .ref pg, .ref zl, .ref zh, .ref ds])), (rg, aQ g 8 cRg), (ds, .inr (0, [.ref dat, .ref dab, .ref dar, .ref dal, .ref dah, .int uds, .int uds_1])), (dat, aJ g 8 udat), (dab, aJ g 8 udab), (dar, aJ g 8 udar), (xs, .inr (0, [.ref xat, .ref xab, .ref xar, .ref xal, .ref xah, .int xk, .int xn])), (xat, aJ g 8 xT), (xab, aJ g 8 xB), (xar, aJ g 8 xR), (ys, .inr (0, [.ref yat, .ref yab, .ref yar, .ref yal, .ref yah, .int yk, .int yn])), (yat, aJ g 8 yT), (yab, aJ g 8 yB), (yar, aJ g 8 yR)] H → va_D A [(zd, .inr (4, [.ref rg, .ref iv, .ref fe, .ref c1, .ref c2, .ref pg, .ref zl, .ref zh, .ref ds])), (rg, aQ g 8 cRg), (ds, .inr (0, [.ref dat, .ref dab, .ref dar, .ref dal, .ref dah, .int uds, .int uds_1])), (dat, aJ g 8 udat), (dab, aJ g 8 udab), (dar, aJ g 8 udar), (xs, .inr (0, [.ref xat, .ref xab, .ref xar, .ref xal, .ref xah, .int xk, .int xn])), (xat, aJ g 8 xT), (xab, aJ g 8 xB), (xar, aJ g 8 xR), (ys, .inr (0, [.ref yat, .ref yab, .ref yar, .ref yal, .ref yah, .int yk, .int yn])), (yat, aJ g 8 yT), (yab, aJ g 8 yB), (yar, aJ g 8 yR)] → va_S A s.heap H locs → lv_has ls 6 [(0, .ref zd), (2, .int vK), (5, .int x5)] → W p l e rm_Desk_reckon s m args below meth c H locs 0 0 Q (F0 m 95 ls []) := by
              intro H locs ls hP hD hS hl
              refine lv_iload hx hb d_Desk_reckon_95 (lv_at hl 2 rfl) ?_
              obtain ⟨y_1, uzd, urg, hv, hm⟩ := sd_mb3 hm
              have J110_7 : ∀ (H : Heap) (locs : List Loc) (ls : Array Slot), va_P D classes [(zd, .inr (4, [.ref rg, .ref iv, .ref fe, .ref c1, .ref c2, .ref pg, .ref zl, .ref zh, .ref uzd])), (rg, aQ g 8 urg), (ds, .inr (0, [.ref dat, .ref dab, .ref dar, .ref dal, .ref dah, .int uds, .int uds_1])), (dat, aJ g 8 udat), (dab, aJ g 8 udab), (dar, aJ g 8 udar), (xs, .inr (0, [.ref xat, .ref xab, .ref xar, .ref xal, .ref xah, .int xk, .int xn])), (xat, aJ g 8 xT), (xab, aJ g 8 xB), (xar, aJ g 8 xR), (ys, .inr (0, [.ref yat, .ref yab, .ref yar, .ref yal, .ref yah, .int yk, .int yn])), (yat, aJ g 8 yT), (yab, aJ g 8 yB), (yar, aJ g 8 yR)] H → va_D A [(zd, .inr (4, [.ref rg, .ref iv, .ref fe, .ref c1, .ref c2, .ref pg, .ref zl, .ref zh, .ref uzd])), (rg, aQ g 8 urg), (ds, .inr (0, [.ref dat, .ref dab, .ref dar, .ref dal, .ref dah, .int uds, .int uds_1])), (dat, aJ g 8 udat), (dab, aJ g 8 udab), (dar, aJ g 8 udar), (xs, .inr (0, [.ref xat, .ref xab, .ref xar, .ref xal, .ref xah, .int xk, .int xn])), (xat, aJ g 8 xT), (xab, aJ g 8 xB), (xar, aJ g 8 xR), (ys, .inr (0, [.ref yat, .ref yab, .ref yar, .ref yal, .ref yah, .int yk, .int yn])), (yat, aJ g 8 yT), (yab, aJ g 8 yB), (yar, aJ g 8 yR)] → va_S A s.heap H locs → lv_has ls 6 [] → W p l e rm_Desk_reckon s m args below meth c H locs 0 0 Q (F0 m 110 ls [.int y_1]) := by
                intro H locs ls hP hD hS hl
                exact sd_i1ret (u := (uzd, urg, uds, uds_1, udat, udab, udar)) hQ hx hb hr hlk hK (hP.sub [0, 1, 2, 3, 4, 5, 6, 7, 8, 9, 10, 11, 12, 13] rfl) (hD.sub [0, 1, 2, 3, 4, 5, 6, 7, 8, 9, 10, 11, 12, 13] (by decide) rfl) hS (Option.some.inj hm).symm d_Desk_reckon_110
              replace hm := hv
              refine lv_if_eq (tgt := 108) hx hb d_Desk_reckon_97 (by decide) (fun hc => ?_) (fun hc => ?_)
              · have hm := sd_mt hc hm
                refine lv_bipush (v := (-3 : Int32)) hx hb d_Desk_reckon_108 (by decide) ?_
                cases hm
                exact J110_7 H locs ls (hP.sub [0, 1, 2, 3, 4, 5, 6, 7, 8, 9, 10, 11, 12, 13] rfl) (hD.sub [0, 1, 2, 3, 4, 5, 6, 7, 8, 9, 10, 11, 12, 13] (by decide) rfl) hS (lv_sub hl [] rfl)
              · have hm := sd_mf hc hm
                refine lv_aload_n hx hb d_Desk_reckon_100 rfl (lv_at hl 0 rfl) ?_
                refine lv_iload_n hx hb d_Desk_reckon_101 rfl (lv_at hl 1 rfl) ?_
                obtain ⟨r_5, uzd_1, urg_1, hc, hm⟩ := sd_mb3 hm
                refine sd_ci1 (wr := [(dat, aJ g 8 udat), (dab, aJ g 8 udab), (dar, aJ g 8 udar), (xs, .inr (0, [.ref xat, .ref xab, .ref xar, .ref xal, .ref xah, .int xk, .int xn])), (xat, aJ g 8 xT), (xab, aJ g 8 xB), (xar, aJ g 8 xR), (ys, .inr (0, [.ref yat, .ref yab, .ref yar, .ref yal, .ref yah, .int yk, .int yn])), (yat, aJ g 8 yT), (yab, aJ g 8 yB), (yar, aJ g 8 yR)]) (w2 := [(dat, aJ g 8 udat), (dab, aJ g 8 udab), (dar, aJ g 8 udar), (xs, .inr (0, [.ref xat, .ref xab, .ref xar, .ref xal, .ref xah, .int xk, .int xn])), (xat, aJ g 8 xT), (xab, aJ g 8 xB), (xar, aJ g 8 xR), (ys, .inr (0, [.ref yat, .ref yab, .ref yar, .ref yal, .ref yah, .int yk, .int yn])), (yat, aJ g 8 yT), (yab, aJ g 8 yB), (yar, aJ g 8 yR), (zd, .inr (4, [.ref rg, .ref iv, .ref fe, .ref c1, .ref c2, .ref pg, .ref zl, .ref zh, .ref uzd_1])), (rg, aQ g 8 urg_1), (ds, .inr (0, [.ref dat, .ref dab, .ref dar, .ref dal, .ref dah, .int uds, .int uds_1]))]) (sd_runV (rest := []) (As := [.int vK]) S (ct_Desk_keepDraft l D g zd rg iv fe c1 c2 pg zl zh ds dat dab dar dal dah os (H.size) vK cRg uds uds_1 F (r_5, uzd_1, urg_1) hc hKk) kl_Desk_102 (by decide) (by decide) hK hP hD [0, 1, 2] rfl (by decide) rfl hl d_Desk_reckon_102 rfl (Nat.le_of_ble_eq_true rfl) ⟨Nat.zero_le _, Nat.zero_le _⟩ 0 rfl rfl) hP hD hS hA [0, 1, 2] [3, 4, 5, 6, 7, 8, 9, 10, 11, 12, 13] rfl rfl (by decide) (by decide) rfl (fun H locs hP hD hS => ?_)
                refine W.eq (g2 := F0 m 105 ls [.int r_5]) rfl ?_
                refine lv_goto (tgt := 110) hx hb d_Desk_reckon_105 (by decide) ?_
                cases hm
                exact J110_7 H locs ls (hP.sub [11, 12, 13, 0, 1, 2, 3, 4, 5, 6, 7, 8, 9, 10] rfl) (hD.sub [11, 12, 13, 0, 1, 2, 3, 4, 5, 6, 7, 8, 9, 10] (by decide) rfl) hS (lv_sub hl [] rfl)
            replace hm := hv
            refine lv_icmp_ne (tgt := 63) hx hb d_Desk_reckon_35 (by decide) (fun hc => ?_) (fun hc => ?_)
            · have hm := sd_mf hc hm
              refine lv_aload_n hx hb d_Desk_reckon_63 rfl (lv_at hl 0 rfl) ?_
              refine va_get (D := D) (ci := 4) (v := .ref ds) (C := R_Desk) (T := F_Desk) (N := 9) hx hb htt i_Desk hown hK hP 0 rfl rfl 8 (by decide) (htt _ kf_Desk_53) (fun _ h9 => h9) rfl d_Desk_reckon_64 ?_
              refine lv_aload_n hx hb d_Desk_reckon_67 rfl (lv_at hl 0 rfl) ?_
              refine va_get (D := D) (ci := 4) (v := .ref rg) (C := R_Desk) (T := F_Desk) (N := 9) hx hb htt i_Desk hown hK hP 0 rfl rfl 0 (by decide) (htt _ kf_Desk_11) (fun _ h9 => h9) rfl d_Desk_reckon_68 ?_
              refine lv_iload_n hx hb d_Desk_reckon_71 rfl (lv_at hl 3 rfl) ?_
              obtain ⟨h_2, hm⟩ := sd_mg hm
              refine sd_aald hx hb hK hP 1 rfl h_2 d_Desk_reckon_72 ?_
              refine sd_topq (hI h_2) ?_
              refine lv_aload_n hx hb d_Desk_reckon_73 rfl (lv_at hl 0 rfl) ?_
              refine va_get (D := D) (ci := 4) (v := .ref rg) (C := R_Desk) (T := F_Desk) (N := 9) hx hb htt i_Desk hown hK hP 0 rfl rfl 0 (by decide) (htt _ kf_Desk_11) (fun _ h9 => h9) rfl d_Desk_reckon_74 ?_
              refine lv_iload hx hb d_Desk_reckon_77 (lv_at hl 4 rfl) ?_
              obtain ⟨h_3, hm⟩ := sd_mg hm
              refine sd_aald hx hb hK hP 1 rfl h_3 d_Desk_reckon_79 ?_
              refine sd_topq (hJ h_3) ?_
              refine lv_iload_n hx hb d_Desk_reckon_80 rfl (lv_at hl 1 rfl) ?_
              refine lv_iconst (v := (1 : Int32)) hx hb d_Desk_reckon_81 (by decide) ?_
              obtain ⟨y, hv, hm⟩ := sd_mb1 hm
              have J90_4 : ∀ (H : Heap) (locs : List Loc) (ls : Array Slot), va_P D classes [(zd, .inr (4, [.ref rg, .ref iv, .ref fe, .ref c1, .ref c2, .ref pg, .ref zl, .ref zh, .ref ds])), (rg, aQ g 8 cRg), (ds, .inr (0, [.ref dat, .ref dab, .ref dar, .ref dal, .ref dah, .int dk, .int dn])), (dat, aJ g 8 dT), (dab, aJ g 8 dB), (dar, aJ g 8 dR), (xs, .inr (0, [.ref xat, .ref xab, .ref xar, .ref xal, .ref xah, .int xk, .int xn])), (xat, aJ g 8 xT), (xab, aJ g 8 xB), (xar, aJ g 8 xR), (ys, .inr (0, [.ref yat, .ref yab, .ref yar, .ref yal, .ref yah, .int yk, .int yn])), (yat, aJ g 8 yT), (yab, aJ g 8 yB), (yar, aJ g 8 yR)] H → va_D A [(zd, .inr (4, [.ref rg, .ref iv, .ref fe, .ref c1, .ref c2, .ref pg, .ref zl, .ref zh, .ref ds])), (rg, aQ g 8 cRg), (ds, .inr (0, [.ref dat, .ref dab, .ref dar, .ref dal, .ref dah, .int dk, .int dn])), (dat, aJ g 8 dT), (dab, aJ g 8 dB), (dar, aJ g 8 dR), (xs, .inr (0, [.ref xat, .ref xab, .ref xar, .ref xal, .ref xah, .int xk, .int xn])), (xat, aJ g 8 xT), (xab, aJ g 8 xB), (xar, aJ g 8 xR), (ys, .inr (0, [.ref yat, .ref yab, .ref yar, .ref yal, .ref yah, .int yk, .int yn])), (yat, aJ g 8 yT), (yab, aJ g 8 yB), (yar, aJ g 8 yR)] → va_S A s.heap H locs → lv_has ls 6 [(0, .ref zd), (2, .int vK)] → W p l e rm_Desk_reckon s m args below meth c H locs 0 0 Q (F0 m 90 ls [.int y, .ref ys, .ref xs, .ref ds]) := by
                intro H locs ls hP hD hS hl
                obtain ⟨r_3, uds_2, uds_3, udat_1, udab_1, udar_1, hc, hm⟩ := sd_mb6 hm
                refine sd_ci1 (wr := [(zd, .inr (4, [.ref rg, .ref iv, .ref fe, .ref c1, .ref c2, .ref pg, .ref zl, .ref zh, .ref ds])), (rg, aQ g 8 cRg)]) (w2 := [(zd, .inr (4, [.ref rg, .ref iv, .ref fe, .ref c1, .ref c2, .ref pg, .ref zl, .ref zh, .ref ds])), (rg, aQ g 8 cRg), (ds, .inr (0, [.ref dat, .ref dab, .ref dar, .ref dal, .ref dah, .int uds_2, .int uds_3])), (dat, aJ g 8 udat_1), (dab, aJ g 8 udab_1), (dar, aJ g 8 udar_1), (xs, .inr (0, [.ref xat, .ref xab, .ref xar, .ref xal, .ref xah, .int xk, .int xn])), (xat, aJ g 8 xT), (xab, aJ g 8 xB), (xar, aJ g 8 xR), (ys, .inr (0, [.ref yat, .ref yab, .ref yar, .ref yal, .ref yah, .int yk, .int yn])), (yat, aJ g 8 yT), (yab, aJ g 8 yB), (yar, aJ g 8 yR)]) (sd_runV (rest := []) (As := [.ref xs, .ref ys, .int y]) S (ct_Sum_becomeSum l D g ds dat dab dar dal dah xs xat xab xar xal xah ys yat yab yar yal yah (H.size) y dk dn dT dB dR xk xn xT xB xR yk yn yT yB yR F (r_3, uds_2, uds_3, udat_1, udab_1, udar_1) hc) kl_Desk_98 (by decide) (by decide) hK hP hD [2, 3, 4, 5, 6, 7, 8, 9, 10, 11, 12, 13] rfl (by decide) rfl hl d_Desk_reckon_90 rfl (Nat.le_of_ble_eq_true rfl) ⟨Nat.zero_le _, Nat.zero_le _⟩ 2 rfl rfl) hP hD hS hA [2, 3, 4, 5, 6, 7, 8, 9, 10, 11, 12, 13] [0, 1] rfl rfl (by decide) (by decide) rfl (fun H locs hP hD hS => ?_)
                refine W.eq (g2 := F0 m 93 ls [.int r_3]) rfl ?_
                refine lv_istore (lv' := [(5, .int r_3), (0, .ref zd), (2, .int vK)]) hx hb d_Desk_reckon_93 hl (by decide) rfl (fun ls hl => ?_)
                cases hm
                exact J95_1 H locs ls (hP.sub [0, 1, 2, 3, 4, 5, 6, 7, 8, 9, 10, 11, 12, 13] rfl) (hD.sub [0, 1, 2, 3, 4, 5, 6, 7, 8, 9, 10, 11, 12, 13] (by decide) rfl) hS (lv_sub hl [1, 2, 0] rfl)
              replace hm := hv
              refine lv_icmp_ne (tgt := 89) hx hb d_Desk_reckon_82 (by decide) (fun hc => ?_) (fun hc => ?_)
              · have hm := sd_mf hc hm
                refine lv_iconst (v := (1 : Int32)) hx hb d_Desk_reckon_89 (by decide) ?_
                cases hm
                exact J90_4 H locs ls (hP.sub [0, 1, 2, 3, 4, 5, 6, 7, 8, 9, 10, 11, 12, 13] rfl) (hD.sub [0, 1, 2, 3, 4, 5, 6, 7, 8, 9, 10, 11, 12, 13] (by decide) rfl) hS (lv_sub hl [0, 2] rfl)
              · have hm := sd_mt hc hm
                refine lv_iconst (v := (-1 : Int32)) hx hb d_Desk_reckon_85 (by decide) ?_
                refine lv_goto (tgt := 90) hx hb d_Desk_reckon_86 (by decide) ?_
                cases hm
                exact J90_4 H locs ls (hP.sub [0, 1, 2, 3, 4, 5, 6, 7, 8, 9, 10, 11, 12, 13] rfl) (hD.sub [0, 1, 2, 3, 4, 5, 6, 7, 8, 9, 10, 11, 12, 13] (by decide) rfl) hS (lv_sub hl [0, 2] rfl)
            · have hm := sd_mt hc hm
              refine lv_aload_n hx hb d_Desk_reckon_38 rfl (lv_at hl 0 rfl) ?_
              refine va_get (D := D) (ci := 4) (v := .ref ds) (C := R_Desk) (T := F_Desk) (N := 9) hx hb htt i_Desk hown hK hP 0 rfl rfl 8 (by decide) (htt _ kf_Desk_53) (fun _ h9 => h9) rfl d_Desk_reckon_39 ?_
              refine lv_aload_n hx hb d_Desk_reckon_42 rfl (lv_at hl 0 rfl) ?_
              refine va_get (D := D) (ci := 4) (v := .ref rg) (C := R_Desk) (T := F_Desk) (N := 9) hx hb htt i_Desk hown hK hP 0 rfl rfl 0 (by decide) (htt _ kf_Desk_11) (fun _ h9 => h9) rfl d_Desk_reckon_43 ?_
              refine lv_iload_n hx hb d_Desk_reckon_46 rfl (lv_at hl 3 rfl) ?_
              obtain ⟨h_5, hm⟩ := sd_mg hm
              refine sd_aald hx hb hK hP 1 rfl h_5 d_Desk_reckon_47 ?_
              refine sd_topq (hI h_5) ?_
              refine lv_aload_n hx hb d_Desk_reckon_48 rfl (lv_at hl 0 rfl) ?_
              refine va_get (D := D) (ci := 4) (v := .ref rg) (C := R_Desk) (T := F_Desk) (N := 9) hx hb htt i_Desk hown hK hP 0 rfl rfl 0 (by decide) (htt _ kf_Desk_11) (fun _ h9 => h9) rfl d_Desk_reckon_49 ?_
              refine lv_iload hx hb d_Desk_reckon_52 (lv_at hl 4 rfl) ?_
              obtain ⟨h_6, hm⟩ := sd_mg hm
              refine sd_aald hx hb hK hP 1 rfl h_6 d_Desk_reckon_54 ?_
              refine sd_topq (hJ h_6) ?_
              obtain ⟨r_4, uds_4, uds_5, udat_2, udab_2, udar_2, hc, hm⟩ := sd_mb6 hm
              refine sd_ci1 (wr := [(zd, .inr (4, [.ref rg, .ref iv, .ref fe, .ref c1, .ref c2, .ref pg, .ref zl, .ref zh, .ref ds])), (rg, aQ g 8 cRg)]) (w2 := [(zd, .inr (4, [.ref rg, .ref iv, .ref fe, .ref c1, .ref c2, .ref pg, .ref zl, .ref zh, .ref ds])), (rg, aQ g 8 cRg), (ds, .inr (0, [.ref dat, .ref dab, .ref dar, .ref dal, .ref dah, .int uds_4, .int uds_5])), (dat, aJ g 8 udat_2), (dab, aJ g 8 udab_2), (dar, aJ g 8 udar_2), (xs, .inr (0, [.ref xat, .ref xab, .ref xar, .ref xal, .ref xah, .int xk, .int xn])), (xat, aJ g 8 xT), (xab, aJ g 8 xB), (xar, aJ g 8 xR), (ys, .inr (0, [.ref yat, .ref yab, .ref yar, .ref yal, .ref yah, .int yk, .int yn])), (yat, aJ g 8 yT), (yab, aJ g 8 yB), (yar, aJ g 8 yR)]) (sd_runV (rest := []) (As := [.ref xs, .ref ys]) S (ct_Sum_becomeProducts l D g ds dat dab dar dal dah xs xat xab xar xal xah ys yat yab yar yal yah (H.size) dk dn dT dB dR xk xn xT xB xR yk yn yT yB yR F (r_4, uds_4, uds_5, udat_2, udab_2, udar_2) hc) kl_Desk_94 (by decide) (by decide) hK hP hD [2, 3, 4, 5, 6, 7, 8, 9, 10, 11, 12, 13] rfl (by decide) rfl hl d_Desk_reckon_55 rfl (Nat.le_of_ble_eq_true rfl) ⟨Nat.zero_le _, Nat.zero_le _⟩ 2 rfl rfl) hP hD hS hA [2, 3, 4, 5, 6, 7, 8, 9, 10, 11, 12, 13] [0, 1] rfl rfl (by decide) (by decide) rfl (fun H locs hP hD hS => ?_)
              refine W.eq (g2 := F0 m 58 ls [.int r_4]) rfl ?_
              refine lv_istore (lv' := [(5, .int r_4), (0, .ref zd), (1, .int vOp), (2, .int vK), (3, .int vI), (4, .int vJ)]) hx hb d_Desk_reckon_58 hl (by decide) rfl (fun ls hl => ?_)
              refine lv_goto (tgt := 95) hx hb d_Desk_reckon_60 (by decide) ?_
              cases hm
              exact J95_1 H locs ls (hP.sub [0, 1, 2, 3, 4, 5, 6, 7, 8, 9, 10, 11, 12, 13] rfl) (hD.sub [0, 1, 2, 3, 4, 5, 6, 7, 8, 9, 10, 11, 12, 13] (by decide) rfl) hS (lv_sub hl [1, 3, 0] rfl)
          · have hm := sd_mt hc hm
            refine lv_iconst (v := (-1 : Int32)) hx hb d_Desk_reckon_31 (by decide) ?_
            exact sd_i1ret (u := (ds, cRg, dk, dn, dT, dB, dR)) hQ hx hb hr hlk hK (hP.sub [0, 1, 2, 3, 4, 5, 6, 7, 8, 9, 10, 11, 12, 13] rfl) (hD.sub [0, 1, 2, 3, 4, 5, 6, 7, 8, 9, 10, 11, 12, 13] (by decide) rfl) hS (Option.some.inj hm).symm d_Desk_reckon_32
abbrev rm_Desk_reckon2 : Room := { frames := 6, cells := 0, slots := 0, locals := 232 }
set_option maxHeartbeats 4000000 in
set_option maxRecDepth 100000 in
theorem ct_Desk_reckon2 (l : Launch) (D : va_G) (g : G4) (zd : Nat) (rg : Nat) (iv : Nat) (fe : Nat) (c1 : Nat) (c2 : Nat) (pg : Nat) (zl : Nat) (zh : Nat) (ds : Nat) (dat : Nat) (dab : Nat) (dar : Nat) (dal : Nat) (dah : Nat) (xs : Nat) (xat : Nat) (xab : Nat) (xar : Nat) (xal : Nat) (xah : Nat) (os : Nat) (sz : Nat) (vOp : Int32) (vK : Int32) (vI : Int32) (vJ : Int32) (cRg : Nat → Option Nat) (dk : Int32) (dn : Int32) (dT : Nat → Int64) (dB : Nat → Int64) (dR : Nat → Int64) (xk : Int32) (xn : Int32) (xT : Nat → Int64) (xB : Nat → Int64) (xR : Nat → Int64) (F : Nat) (res : Int32 × Nat × (Nat → Option Nat) × Int32 × Int32 × (Nat → Int64) × (Nat → Int64) × (Nat → Int64)) (hm : mf_Desk_reckon F vOp vK vI vJ cRg dk dn dT dB dR xk xn xT xB xR xk xn xT xB xR ds os = some res) (hKk : sd_ix vK 8 = true → cRg vK.toNatClampNeg = some os) (hI : sd_ix vI 8 = true → cRg vI.toNatClampNeg = some xs) (hJ : sd_ix vJ 8 = true → cRg vJ.toNatClampNeg = some xs) : Met l y_Desk_reckon (.code y_Desk_reckon b_Desk_reckon 6 (some .int) :: sd_tb) rm_Desk_reckon2 (sd_PW D g [.ref zd, .int vOp, .int vK, .int vI, .int vJ] sz [(zd, .inr (4, [.ref rg, .ref iv, .ref fe, .ref c1, .ref c2, .ref pg, .ref zl, .ref zh, .ref ds])), (rg, aQ g 8 cRg), (ds, .inr (0, [.ref dat, .ref dab, .ref dar, .ref dal, .ref dah, .int dk, .int dn])), (dat, aJ g 8 dT), (dab, aJ g 8 dB), (dar, aJ g 8 dR), (xs, .inr (0, [.ref xat, .ref xab, .ref xar, .ref xal, .ref xah, .int xk, .int xn])), (xat, aJ g 8 xT), (xab, aJ g 8 xB), (xar, aJ g 8 xR)]) (sd_Qi1 D g res (fun u : Nat × (Nat → Option Nat) × Int32 × Int32 × (Nat → Int64) × (Nat → Int64) × (Nat → Int64) => [(zd, .inr (4, [.ref rg, .ref iv, .ref fe, .ref c1, .ref c2, .ref pg, .ref zl, .ref zh, .ref (u.1)])), (rg, aQ g 8 (u.2.1)), (ds, .inr (0, [.ref dat, .ref dab, .ref dar, .ref dal, .ref dah, .int (u.2.2.1), .int (u.2.2.2.1)])), (dat, aJ g 8 (u.2.2.2.2.1)), (dab, aJ g 8 (u.2.2.2.2.2.1)), (dar, aJ g 8 (u.2.2.2.2.2.2)), (xs, .inr (0, [.ref xat, .ref xab, .ref xar, .ref xal, .ref xah, .int xk, .int xn])), (xat, aJ g 8 xT), (xab, aJ g 8 xB), (xar, aJ g 8 xR)]) (va_A [(zd, .inr (4, [.ref rg, .ref iv, .ref fe, .ref c1, .ref c2, .ref pg, .ref zl, .ref zh, .ref ds])), (rg, aQ g 8 cRg), (ds, .inr (0, [.ref dat, .ref dab, .ref dar, .ref dal, .ref dah, .int dk, .int dn])), (dat, aJ g 8 dT), (dab, aJ g 8 dB), (dar, aJ g 8 dR), (xs, .inr (0, [.ref xat, .ref xab, .ref xar, .ref xal, .ref xah, .int xk, .int xn])), (xat, aJ g 8 xT), (xab, aJ g 8 xB), (xar, aJ g 8 xR)] sz)) 0 0 (va_A [(zd, .inr (4, [.ref rg, .ref iv, .ref fe, .ref c1, .ref c2, .ref pg, .ref zl, .ref zh, .ref ds])), (rg, aQ g 8 cRg), (ds, .inr (0, [.ref dat, .ref dab, .ref dar, .ref dal, .ref dah, .int dk, .int dn])), (dat, aJ g 8 dT), (dab, aJ g 8 dB), (dar, aJ g 8 dR), (xs, .inr (0, [.ref xat, .ref xab, .ref xar, .ref xal, .ref xah, .int xk, .int xn])), (xat, aJ g 8 xT), (xab, aJ g 8 xB), (xar, aJ g 8 xR)] sz) := by
  refine sd_met (Qf := fun A => sd_Qi1 D g res (fun u : Nat × (Nat → Option Nat) × Int32 × Int32 × (Nat → Int64) × (Nat → Int64) × (Nat → Int64) => [(zd, .inr (4, [.ref rg, .ref iv, .ref fe, .ref c1, .ref c2, .ref pg, .ref zl, .ref zh, .ref (u.1)])), (rg, aQ g 8 (u.2.1)), (ds, .inr (0, [.ref dat, .ref dab, .ref dar, .ref dal, .ref dah, .int (u.2.2.1), .int (u.2.2.2.1)])), (dat, aJ g 8 (u.2.2.2.2.1)), (dab, aJ g 8 (u.2.2.2.2.2.1)), (dar, aJ g 8 (u.2.2.2.2.2.2)), (xs, .inr (0, [.ref xat, .ref xab, .ref xar, .ref xal, .ref xah, .int xk, .int xn])), (xat, aJ g 8 xT), (xab, aJ g 8 xB), (xar, aJ g 8 xR)]) A) (own := R_Desk) (by decide +kernel) rfl (Nat.le_of_ble_eq_true rfl) ?_
  intro p e s m args below meth c S hr hlk hK A hA Q hQ H locs hP hD hS ls hl
  have hx := S.1
  have hb := S.2.1
  have hml := S.2.2.1
  have hown := S.2.2.2.1
  have htt := sd_tt S
  replace hl : lv_has ls 6 [(0, .ref zd), (1, .int vOp), (2, .int vK), (3, .int vI), (4, .int vJ)] := hl
  unfold mf_Desk_reckon at hm
  refine lv_iload_n hx hb d_Desk_reckon_0 rfl (lv_at hl 1 rfl) ?_
  refine lv_if_lt (tgt := 31) hx hb d_Desk_reckon_1 (by decide) (fun hc => ?_) (fun hc => ?_)
  · have hm := sd_mt hc hm
    refine lv_iconst (v := (-1 : Int32)) hx hb d_Desk_reckon_31 (by decide) ?_
    exact sd_i1ret (u := (ds, cRg, dk, dn, dT, dB, dR)) hQ hx hb hr hlk hK (hP.sub [0, 1, 2, 3, 4, 5, 6, 7, 8, 9] rfl) (hD.sub [0, 1, 2, 3, 4, 5, 6, 7, 8, 9] (by decide) rfl) hS (Option.some.inj hm).symm d_Desk_reckon_32
  · have hm := sd_mf hc hm
    refine lv_iload_n hx hb d_Desk_reckon_4 rfl (lv_at hl 1 rfl) ?_
    refine lv_iconst (v := (2 : Int32)) hx hb d_Desk_reckon_5 (by decide) ?_
    refine lv_icmp_gt (tgt := 31) hx hb d_Desk_reckon_6 (by decide) (fun hc => ?_) (fun hc => ?_)
    · have hm := sd_mt hc hm
      refine lv_iconst (v := (-1 : Int32)) hx hb d_Desk_reckon_31 (by decide) ?_
      exact sd_i1ret (u := (ds, cRg, dk, dn, dT, dB, dR)) hQ hx hb hr hlk hK (hP.sub [0, 1, 2, 3, 4, 5, 6, 7, 8, 9] rfl) (hD.sub [0, 1, 2, 3, 4, 5, 6, 7, 8, 9] (by decide) rfl) hS (Option.some.inj hm).symm d_Desk_reckon_32
    · have hm := sd_mf hc hm
      refine lv_iload_n hx hb d_Desk_reckon_9 rfl (lv_at hl 2 rfl) ?_
      obtain ⟨r, hc, hm⟩ := sd_mb1 hm
      refine sd_ci0 (wr := [(zd, .inr (4, [.ref rg, .ref iv, .ref fe, .ref c1, .ref c2, .ref pg, .ref zl, .ref zh, .ref ds])), (rg, aQ g 8 cRg), (ds, .inr (0, [.ref dat, .ref dab, .ref dar, .ref dal, .ref dah, .int dk, .int dn])), (dat, aJ g 8 dT), (dab, aJ g 8 dB), (dar, aJ g 8 dR), (xs, .inr (0, [.ref xat, .ref xab, .ref xar, .ref xal, .ref xah, .int xk, .int xn])), (xat, aJ g 8 xT), (xab, aJ g 8 xB), (xar, aJ g 8 xR)]) (w2 := [(zd, .inr (4, [.ref rg, .ref iv, .ref fe, .ref c1, .ref c2, .ref pg, .ref zl, .ref zh, .ref ds])), (rg, aQ g 8 cRg), (ds, .inr (0, [.ref dat, .ref dab, .ref dar, .ref dal, .ref dah, .int dk, .int dn])), (dat, aJ g 8 dT), (dab, aJ g 8 dB), (dar, aJ g 8 dR), (xs, .inr (0, [.ref xat, .ref xab, .ref xar, .ref xal, .ref xah, .int xk, .int xn])), (xat, aJ g 8 xT), (xab, aJ g 8 xB), (xar, aJ g 8 xR)]) (sd_runS (rest := []) (As := [.int vK]) S (ct_Desk_isRegister l D g (H.size) vK F (r) hc) kl_Desk_56 (by decide) (by decide) hK hP hD [] rfl (by decide) rfl hl d_Desk_reckon_10 rfl (Nat.le_of_ble_eq_true rfl) ⟨Nat.zero_le _, Nat.zero_le _⟩) hP hD hS hA [] [0, 1, 2, 3, 4, 5, 6, 7, 8, 9] rfl rfl (by decide) (by decide) rfl (fun H locs hP hD hS => ?_)
      refine W.eq (g2 := F0 m 13 ls [.int r]) rfl ?_
      refine lv_if_eq (tgt := 31) hx hb d_Desk_reckon_13 (by decide) (fun hc => ?_) (fun hc => ?_)
      · have hm := sd_mt hc hm
        refine lv_iconst (v := (-1 : Int32)) hx hb d_Desk_reckon_31 (by decide) ?_
        exact sd_i1ret (u := (ds, cRg, dk, dn, dT, dB, dR)) hQ hx hb hr hlk hK (hP.sub [0, 1, 2, 3, 4, 5, 6, 7, 8, 9] rfl) (hD.sub [0, 1, 2, 3, 4, 5, 6, 7, 8, 9] (by decide) rfl) hS (Option.some.inj hm).symm d_Desk_reckon_32
      · have hm := sd_mf hc hm
        refine lv_iload_n hx hb d_Desk_reckon_16 rfl (lv_at hl 3 rfl) ?_
        obtain ⟨r_1, hc, hm⟩ := sd_mb1 hm
        refine sd_ci0 (wr := [(zd, .inr (4, [.ref rg, .ref iv, .ref fe, .ref c1, .ref c2, .ref pg, .ref zl, .ref zh, .ref ds])), (rg, aQ g 8 cRg), (ds, .inr (0, [.ref dat, .ref dab, .ref dar, .ref dal, .ref dah, .int dk, .int dn])), (dat, aJ g 8 dT), (dab, aJ g 8 dB), (dar, aJ g 8 dR), (xs, .inr (0, [.ref xat, .ref xab, .ref xar, .ref xal, .ref xah, .int xk, .int xn])), (xat, aJ g 8 xT), (xab, aJ g 8 xB), (xar, aJ g 8 xR)]) (w2 := [(zd, .inr (4, [.ref rg, .ref iv, .ref fe, .ref c1, .ref c2, .ref pg, .ref zl, .ref zh, .ref ds])), (rg, aQ g 8 cRg), (ds, .inr (0, [.ref dat, .ref dab, .ref dar, .ref dal, .ref dah, .int dk, .int dn])), (dat, aJ g 8 dT), (dab, aJ g 8 dB), (dar, aJ g 8 dR), (xs, .inr (0, [.ref xat, .ref xab, .ref xar, .ref xal, .ref xah, .int xk, .int xn])), (xat, aJ g 8 xT), (xab, aJ g 8 xB), (xar, aJ g 8 xR)]) (sd_runS (rest := []) (As := [.int vI]) S (ct_Desk_isRegister l D g (H.size) vI F (r_1) hc) kl_Desk_56 (by decide) (by decide) hK hP hD [] rfl (by decide) rfl hl d_Desk_reckon_17 rfl (Nat.le_of_ble_eq_true rfl) ⟨Nat.zero_le _, Nat.zero_le _⟩) hP hD hS hA [] [0, 1, 2, 3, 4, 5, 6, 7, 8, 9] rfl rfl (by decide) (by decide) rfl (fun H locs hP hD hS => ?_)
        refine W.eq (g2 := F0 m 20 ls [.int r_1]) rfl ?_
        refine lv_if_eq (tgt := 31) hx hb d_Desk_reckon_20 (by decide) (fun hc => ?_) (fun hc => ?_)
        · have hm := sd_mt hc hm
          refine lv_iconst (v := (-1 : Int32)) hx hb d_Desk_reckon_31 (by decide) ?_
          exact sd_i1ret (u := (ds, cRg, dk, dn, dT, dB, dR)) hQ hx hb hr hlk hK (hP.sub [0, 1, 2, 3, 4, 5, 6, 7, 8, 9] rfl) (hD.sub [0, 1, 2, 3, 4, 5, 6, 7, 8, 9] (by decide) rfl) hS (Option.some.inj hm).symm d_Desk_reckon_32
        · have hm := sd_mf hc hm
          refine lv_iload hx hb d_Desk_reckon_23 (lv_at hl 4 rfl) ?_
          obtain ⟨r_2, hc, hm⟩ := sd_mb1 hm
          refine sd_ci0 (wr := [(zd, .inr (4, [.ref rg, .ref iv, .ref fe, .ref c1, .ref c2, .ref pg, .ref zl, .ref zh, .ref ds])), (rg, aQ g 8 cRg), (ds, .inr (0, [.ref dat, .ref dab, .ref dar, .ref dal, .ref dah, .int dk, .int dn])), (dat, aJ g 8 dT), (dab, aJ g 8 dB), (dar, aJ g 8 dR), (xs, .inr (0, [.ref xat, .ref xab, .ref xar, .ref xal, .ref xah, .int xk, .int xn])), (xat, aJ g 8 xT), (xab, aJ g 8 xB), (xar, aJ g 8 xR)]) (w2 := [(zd, .inr (4, [.ref rg, .ref iv, .ref fe, .ref c1, .ref c2, .ref pg, .ref zl, .ref zh, .ref ds])), (rg, aQ g 8 cRg), (ds, .inr (0, [.ref dat, .ref dab, .ref dar, .ref dal, .ref dah, .int dk, .int dn])), (dat, aJ g 8 dT), (dab, aJ g 8 dB), (dar, aJ g 8 dR), (xs, .inr (0, [.ref xat, .ref xab, .ref xar, .ref xal, .ref xah, .int xk, .int xn])), (xat, aJ g 8 xT), (xab, aJ g 8 xB), (xar, aJ g 8 xR)]) (sd_runS (rest := []) (As := [.int vJ]) S (ct_Desk_isRegister l D g (H.size) vJ F (r_2) hc) kl_Desk_56 (by decide) (by decide) hK hP hD [] rfl (by decide) rfl hl d_Desk_reckon_25 rfl (Nat.le_of_ble_eq_true rfl) ⟨Nat.zero_le _, Nat.zero_le _⟩) hP hD hS hA [] [0, 1, 2, 3, 4, 5, 6, 7, 8, 9] rfl rfl (by decide) (by decide) rfl (fun H locs hP hD hS => ?_)
          refine W.eq (g2 := F0 m 28 ls [.int r_2]) rfl ?_
          refine lv_if_ne (tgt := 33) hx hb d_Desk_reckon_28 (by decide) (fun hc => ?_) (fun hc => ?_)
          · have hm := sd_mf hc hm
            refine lv_iload_n hx hb d_Desk_reckon_33 rfl (lv_at hl 1 rfl) ?_
            refine lv_iconst (v := (2 : Int32)) hx hb d_Desk_reckon_34 (by decide) ?_
            obtain ⟨x5, uds, uds_1, udat, udab, udar, hv, hm⟩ := sd_mb6 hm
            have J95_1 : ∀ (H : Heap) (locs : List Loc) (ls : Array Slot), va_P D classes [(zd, .inr (4, [.ref rg, .ref iv, .ref fe, .ref c1, .ref c2, .ref pg, .ref zl, .ref zh, .ref ds])), (rg, aQ g 8 cRg), (ds, .inr (0, [.ref dat, .ref dab, .ref dar, .ref dal, .ref dah, .int uds, .int uds_1])), (dat, aJ g 8 udat), (dab, aJ g 8 udab), (dar, aJ g 8 udar), (xs, .inr (0, [.ref xat, .ref xab, .ref xar, .ref xal, .ref xah, .int xk, .int xn])), (xat, aJ g 8 xT), (xab, aJ g 8 xB), (xar, aJ g 8 xR)] H → va_D A [(zd, .inr (4, [.ref rg, .ref iv, .ref fe, .ref c1, .ref c2, .ref pg, .ref zl, .ref zh, .ref ds])), (rg, aQ g 8 cRg), (ds, .inr (0, [.ref dat, .ref dab, .ref dar, .ref dal, .ref dah, .int uds, .int uds_1])), (dat, aJ g 8 udat), (dab, aJ g 8 udab), (dar, aJ g 8 udar), (xs, .inr (0, [.ref xat, .ref xab, .ref xar, .ref xal, .ref xah, .int xk, .int xn])), (xat, aJ g 8 xT), (xab, aJ g 8 xB), (xar, aJ g 8 xR)] → va_S A s.heap H locs → lv_has ls 6 [(0, .ref zd), (2, .int vK), (5, .int x5)] → W p l e rm_Desk_reckon2 s m args below meth c H locs 0 0 Q (F0 m 95 ls []) := by
              intro H locs ls hP hD hS hl
              refine lv_iload hx hb d_Desk_reckon_95 (lv_at hl 2 rfl) ?_
              obtain ⟨y_1, uzd, urg, hv, hm⟩ := sd_mb3 hm
              have J110_7 : ∀ (H : Heap) (locs : List Loc) (ls : Array Slot), va_P D classes [(zd, .inr (4, [.ref rg, .ref iv, .ref fe, .ref c1, .ref c2, .ref pg, .ref zl, .ref zh, .ref uzd])), (rg, aQ g 8 urg), (ds, .inr (0, [.ref dat, .ref dab, .ref dar, .ref dal, .ref dah, .int uds, .int uds_1])), (dat, aJ g 8 udat), (dab, aJ g 8 udab), (dar, aJ g 8 udar), (xs, .inr (0, [.ref xat, .ref xab, .ref xar, .ref xal, .ref xah, .int xk, .int xn])), (xat, aJ g 8 xT), (xab, aJ g 8 xB), (xar, aJ g 8 xR)] H → va_D A [(zd, .inr (4, [.ref rg, .ref iv, .ref fe, .ref c1, .ref c2, .ref pg, .ref zl, .ref zh, .ref uzd])), (rg, aQ g 8 urg), (ds, .inr (0, [.ref dat, .ref dab, .ref dar, .ref dal, .ref dah, .int uds, .int uds_1])), (dat, aJ g 8 udat), (dab, aJ g 8 udab), (dar, aJ g 8 udar), (xs, .inr (0, [.ref xat, .ref xab, .ref xar, .ref xal, .ref xah, .int xk, .int xn])), (xat, aJ g 8 xT), (xab, aJ g 8 xB), (xar, aJ g 8 xR)] → va_S A s.heap H locs → lv_has ls 6 [] → W p l e rm_Desk_reckon2 s m args below meth c H locs 0 0 Q (F0 m 110 ls [.int y_1]) := by
                intro H locs ls hP hD hS hl
                exact sd_i1ret (u := (uzd, urg, uds, uds_1, udat, udab, udar)) hQ hx hb hr hlk hK (hP.sub [0, 1, 2, 3, 4, 5, 6, 7, 8, 9] rfl) (hD.sub [0, 1, 2, 3, 4, 5, 6, 7, 8, 9] (by decide) rfl) hS (Option.some.inj hm).symm d_Desk_reckon_110
              replace hm := hv
              refine lv_if_eq (tgt := 108) hx hb d_Desk_reckon_97 (by decide) (fun hc => ?_) (fun hc => ?_)
              · have hm := sd_mt hc hm
                refine lv_bipush (v := (-3 : Int32)) hx hb d_Desk_reckon_108 (by decide) ?_
                cases hm
                exact J110_7 H locs ls (hP.sub [0, 1, 2, 3, 4, 5, 6, 7, 8, 9] rfl) (hD.sub [0, 1, 2, 3, 4, 5, 6, 7, 8, 9] (by decide) rfl) hS (lv_sub hl [] rfl)
              · have hm := sd_mf hc hm
                refine lv_aload_n hx hb d_Desk_reckon_100 rfl (lv_at hl 0 rfl) ?_
                refine lv_iload_n hx hb d_Desk_reckon_101 rfl (lv_at hl 1 rfl) ?_
                obtain ⟨r_5, uzd_1, urg_1, hc, hm⟩ := sd_mb3 hm
                refine sd_ci1 (wr := [(dat, aJ g 8 udat), (dab, aJ g 8 udab), (dar, aJ g 8 udar), (xs, .inr (0, [.ref xat, .ref xab, .ref xar, .ref xal, .ref xah, .int xk, .int xn])), (xat, aJ g 8 xT), (xab, aJ g 8 xB), (xar, aJ g 8 xR)]) (w2 := [(dat, aJ g 8 udat), (dab, aJ g 8 udab), (dar, aJ g 8 udar), (xs, .inr (0, [.ref xat, .ref xab, .ref xar, .ref xal, .ref xah, .int xk, .int xn])), (xat, aJ g 8 xT), (xab, aJ g 8 xB), (xar, aJ g 8 xR), (zd, .inr (4, [.ref rg, .ref iv, .ref fe, .ref c1, .ref c2, .ref pg, .ref zl, .ref zh, .ref uzd_1])), (rg, aQ g 8 urg_1), (ds, .inr (0, [.ref dat, .ref dab, .ref dar, .ref dal, .ref dah, .int uds, .int uds_1]))]) (sd_runV (rest := []) (As := [.int vK]) S (ct_Desk_keepDraft l D g zd rg iv fe c1 c2 pg zl zh ds dat dab dar dal dah os (H.size) vK cRg uds uds_1 F (r_5, uzd_1, urg_1) hc hKk) kl_Desk_102 (by decide) (by decide) hK hP hD [0, 1, 2] rfl (by decide) rfl hl d_Desk_reckon_102 rfl (Nat.le_of_ble_eq_true rfl) ⟨Nat.zero_le _, Nat.zero_le _⟩ 0 rfl rfl) hP hD hS hA [0, 1, 2] [3, 4, 5, 6, 7, 8, 9] rfl rfl (by decide) (by decide) rfl (fun H locs hP hD hS => ?_)
                refine W.eq (g2 := F0 m 105 ls [.int r_5]) rfl ?_
                refine lv_goto (tgt := 110) hx hb d_Desk_reckon_105 (by decide) ?_
                cases hm
                exact J110_7 H locs ls (hP.sub [7, 8, 9, 0, 1, 2, 3, 4, 5, 6] rfl) (hD.sub [7, 8, 9, 0, 1, 2, 3, 4, 5, 6] (by decide) rfl) hS (lv_sub hl [] rfl)
            replace hm := hv
            refine lv_icmp_ne (tgt := 63) hx hb d_Desk_reckon_35 (by decide) (fun hc => ?_) (fun hc => ?_)
            · have hm := sd_mf hc hm
              refine lv_aload_n hx hb d_Desk_reckon_63 rfl (lv_at hl 0 rfl) ?_
              refine va_get (D := D) (ci := 4) (v := .ref ds) (C := R_Desk) (T := F_Desk) (N := 9) hx hb htt i_Desk hown hK hP 0 rfl rfl 8 (by decide) (htt _ kf_Desk_53) (fun _ h9 => h9) rfl d_Desk_reckon_64 ?_
              refine lv_aload_n hx hb d_Desk_reckon_67 rfl (lv_at hl 0 rfl) ?_
              refine va_get (D := D) (ci := 4) (v := .ref rg) (C := R_Desk) (T := F_Desk) (N := 9) hx hb htt i_Desk hown hK hP 0 rfl rfl 0 (by decide) (htt _ kf_Desk_11) (fun _ h9 => h9) rfl d_Desk_reckon_68 ?_
              refine lv_iload_n hx hb d_Desk_reckon_71 rfl (lv_at hl 3 rfl) ?_
              obtain ⟨h_2, hm⟩ := sd_mg hm
              refine sd_aald hx hb hK hP 1 rfl h_2 d_Desk_reckon_72 ?_
              refine sd_topq (hI h_2) ?_
              refine lv_aload_n hx hb d_Desk_reckon_73 rfl (lv_at hl 0 rfl) ?_
              refine va_get (D := D) (ci := 4) (v := .ref rg) (C := R_Desk) (T := F_Desk) (N := 9) hx hb htt i_Desk hown hK hP 0 rfl rfl 0 (by decide) (htt _ kf_Desk_11) (fun _ h9 => h9) rfl d_Desk_reckon_74 ?_
              refine lv_iload hx hb d_Desk_reckon_77 (lv_at hl 4 rfl) ?_
              obtain ⟨h_3, hm⟩ := sd_mg hm
              refine sd_aald hx hb hK hP 1 rfl h_3 d_Desk_reckon_79 ?_
              refine sd_topq (hJ h_3) ?_
              refine lv_iload_n hx hb d_Desk_reckon_80 rfl (lv_at hl 1 rfl) ?_
              refine lv_iconst (v := (1 : Int32)) hx hb d_Desk_reckon_81 (by decide) ?_
              obtain ⟨y, hv, hm⟩ := sd_mb1 hm
              have J90_4 : ∀ (H : Heap) (locs : List Loc) (ls : Array Slot), va_P D classes [(zd, .inr (4, [.ref rg, .ref iv, .ref fe, .ref c1, .ref c2, .ref pg, .ref zl, .ref zh, .ref ds])), (rg, aQ g 8 cRg), (ds, .inr (0, [.ref dat, .ref dab, .ref dar, .ref dal, .ref dah, .int dk, .int dn])), (dat, aJ g 8 dT), (dab, aJ g 8 dB), (dar, aJ g 8 dR), (xs, .inr (0, [.ref xat, .ref xab, .ref xar, .ref xal, .ref xah, .int xk, .int xn])), (xat, aJ g 8 xT), (xab, aJ g 8 xB), (xar, aJ g 8 xR)] H → va_D A [(zd, .inr (4, [.ref rg, .ref iv, .ref fe, .ref c1, .ref c2, .ref pg, .ref zl, .ref zh, .ref ds])), (rg, aQ g 8 cRg), (ds, .inr (0, [.ref dat, .ref dab, .ref dar, .ref dal, .ref dah, .int dk, .int dn])), (dat, aJ g 8 dT), (dab, aJ g 8 dB), (dar, aJ g 8 dR), (xs, .inr (0, [.ref xat, .ref xab, .ref xar, .ref xal, .ref xah, .int xk, .int xn])), (xat, aJ g 8 xT), (xab, aJ g 8 xB), (xar, aJ g 8 xR)] → va_S A s.heap H locs → lv_has ls 6 [(0, .ref zd), (2, .int vK)] → W p l e rm_Desk_reckon2 s m args below meth c H locs 0 0 Q (F0 m 90 ls [.int y, .ref xs, .ref xs, .ref ds]) := by
                intro H locs ls hP hD hS hl
                obtain ⟨r_3, uds_2, uds_3, udat_1, udab_1, udar_1, hc, hm⟩ := sd_mb6 hm
                refine sd_ci1 (wr := [(zd, .inr (4, [.ref rg, .ref iv, .ref fe, .ref c1, .ref c2, .ref pg, .ref zl, .ref zh, .ref ds])), (rg, aQ g 8 cRg)]) (w2 := [(zd, .inr (4, [.ref rg, .ref iv, .ref fe, .ref c1, .ref c2, .ref pg, .ref zl, .ref zh, .ref ds])), (rg, aQ g 8 cRg), (ds, .inr (0, [.ref dat, .ref dab, .ref dar, .ref dal, .ref dah, .int uds_2, .int uds_3])), (dat, aJ g 8 udat_1), (dab, aJ g 8 udab_1), (dar, aJ g 8 udar_1), (xs, .inr (0, [.ref xat, .ref xab, .ref xar, .ref xal, .ref xah, .int xk, .int xn])), (xat, aJ g 8 xT), (xab, aJ g 8 xB), (xar, aJ g 8 xR)]) (sd_runV (rest := []) (As := [.ref xs, .ref xs, .int y]) S (ct_Sum_becomeSum2 l D g ds dat dab dar dal dah xs xat xab xar xal xah (H.size) y dk dn dT dB dR xk xn xT xB xR F (r_3, uds_2, uds_3, udat_1, udab_1, udar_1) hc) kl_Desk_98 (by decide) (by decide) hK hP hD [2, 3, 4, 5, 6, 7, 8, 9] rfl (by decide) rfl hl d_Desk_reckon_90 rfl (Nat.le_of_ble_eq_true rfl) ⟨Nat.zero_le _, Nat.zero_le _⟩ 2 rfl rfl) hP hD hS hA [2, 3, 4, 5, 6, 7, 8, 9] [0, 1] rfl rfl (by decide) (by decide) rfl (fun H locs hP hD hS => ?_)
                refine W.eq (g2 := F0 m 93 ls [.int r_3]) rfl ?_
                refine lv_istore (lv' := [(5, .int r_3), (0, .ref zd), (2, .int vK)]) hx hb d_Desk_reckon_93 hl (by decide) rfl (fun ls hl => ?_)
                cases hm
                exact J95_1 H locs ls (hP.sub [0, 1, 2, 3, 4, 5, 6, 7, 8, 9] rfl) (hD.sub [0, 1, 2, 3, 4, 5, 6, 7, 8, 9] (by decide) rfl) hS (lv_sub hl [1, 2, 0] rfl)
              replace hm := hv
              refine lv_icmp_ne (tgt := 89) hx hb d_Desk_reckon_82 (by decide) (fun hc => ?_) (fun hc => ?_)
              · have hm := sd_mf hc hm
                refine lv_iconst (v := (1 : Int32)) hx hb d_Desk_reckon_89 (by decide) ?_
                cases hm
                exact J90_4 H locs ls (hP.sub [0, 1, 2, 3, 4, 5, 6, 7, 8, 9] rfl) (hD.sub [0, 1, 2, 3, 4, 5, 6, 7, 8, 9] (by decide) rfl) hS (lv_sub hl [0, 2] rfl)
              · have hm := sd_mt hc hm
                refine lv_iconst (v := (-1 : Int32)) hx hb d_Desk_reckon_85 (by decide) ?_
                refine lv_goto (tgt := 90) hx hb d_Desk_reckon_86 (by decide) ?_
                cases hm
                exact J90_4 H locs ls (hP.sub [0, 1, 2, 3, 4, 5, 6, 7, 8, 9] rfl) (hD.sub [0, 1, 2, 3, 4, 5, 6, 7, 8, 9] (by decide) rfl) hS (lv_sub hl [0, 2] rfl)
            · have hm := sd_mt hc hm
              refine lv_aload_n hx hb d_Desk_reckon_38 rfl (lv_at hl 0 rfl) ?_
              refine va_get (D := D) (ci := 4) (v := .ref ds) (C := R_Desk) (T := F_Desk) (N := 9) hx hb htt i_Desk hown hK hP 0 rfl rfl 8 (by decide) (htt _ kf_Desk_53) (fun _ h9 => h9) rfl d_Desk_reckon_39 ?_
              refine lv_aload_n hx hb d_Desk_reckon_42 rfl (lv_at hl 0 rfl) ?_
              refine va_get (D := D) (ci := 4) (v := .ref rg) (C := R_Desk) (T := F_Desk) (N := 9) hx hb htt i_Desk hown hK hP 0 rfl rfl 0 (by decide) (htt _ kf_Desk_11) (fun _ h9 => h9) rfl d_Desk_reckon_43 ?_
              refine lv_iload_n hx hb d_Desk_reckon_46 rfl (lv_at hl 3 rfl) ?_
              obtain ⟨h_5, hm⟩ := sd_mg hm
              refine sd_aald hx hb hK hP 1 rfl h_5 d_Desk_reckon_47 ?_
              refine sd_topq (hI h_5) ?_
              refine lv_aload_n hx hb d_Desk_reckon_48 rfl (lv_at hl 0 rfl) ?_
              refine va_get (D := D) (ci := 4) (v := .ref rg) (C := R_Desk) (T := F_Desk) (N := 9) hx hb htt i_Desk hown hK hP 0 rfl rfl 0 (by decide) (htt _ kf_Desk_11) (fun _ h9 => h9) rfl d_Desk_reckon_49 ?_
              refine lv_iload hx hb d_Desk_reckon_52 (lv_at hl 4 rfl) ?_
              obtain ⟨h_6, hm⟩ := sd_mg hm
              refine sd_aald hx hb hK hP 1 rfl h_6 d_Desk_reckon_54 ?_
              refine sd_topq (hJ h_6) ?_
              obtain ⟨r_4, uds_4, uds_5, udat_2, udab_2, udar_2, hc, hm⟩ := sd_mb6 hm
              refine sd_ci1 (wr := [(zd, .inr (4, [.ref rg, .ref iv, .ref fe, .ref c1, .ref c2, .ref pg, .ref zl, .ref zh, .ref ds])), (rg, aQ g 8 cRg)]) (w2 := [(zd, .inr (4, [.ref rg, .ref iv, .ref fe, .ref c1, .ref c2, .ref pg, .ref zl, .ref zh, .ref ds])), (rg, aQ g 8 cRg), (ds, .inr (0, [.ref dat, .ref dab, .ref dar, .ref dal, .ref dah, .int uds_4, .int uds_5])), (dat, aJ g 8 udat_2), (dab, aJ g 8 udab_2), (dar, aJ g 8 udar_2), (xs, .inr (0, [.ref xat, .ref xab, .ref xar, .ref xal, .ref xah, .int xk, .int xn])), (xat, aJ g 8 xT), (xab, aJ g 8 xB), (xar, aJ g 8 xR)]) (sd_runV (rest := []) (As := [.ref xs, .ref xs]) S (ct_Sum_becomeProducts2 l D g ds dat dab dar dal dah xs xat xab xar xal xah (H.size) dk dn dT dB dR xk xn xT xB xR F (r_4, uds_4, uds_5, udat_2, udab_2, udar_2) hc) kl_Desk_94 (by decide) (by decide) hK hP hD [2, 3, 4, 5, 6, 7, 8, 9] rfl (by decide) rfl hl d_Desk_reckon_55 rfl (Nat.le_of_ble_eq_true rfl) ⟨Nat.zero_le _, Nat.zero_le _⟩ 2 rfl rfl) hP hD hS hA [2, 3, 4, 5, 6, 7, 8, 9] [0, 1] rfl rfl (by decide) (by decide) rfl (fun H locs hP hD hS => ?_)
              refine W.eq (g2 := F0 m 58 ls [.int r_4]) rfl ?_
              refine lv_istore (lv' := [(5, .int r_4), (0, .ref zd), (1, .int vOp), (2, .int vK), (3, .int vI), (4, .int vJ)]) hx hb d_Desk_reckon_58 hl (by decide) rfl (fun ls hl => ?_)
              refine lv_goto (tgt := 95) hx hb d_Desk_reckon_60 (by decide) ?_
              cases hm
              exact J95_1 H locs ls (hP.sub [0, 1, 2, 3, 4, 5, 6, 7, 8, 9] rfl) (hD.sub [0, 1, 2, 3, 4, 5, 6, 7, 8, 9] (by decide) rfl) hS (lv_sub hl [1, 3, 0] rfl)
          · have hm := sd_mt hc hm
            refine lv_iconst (v := (-1 : Int32)) hx hb d_Desk_reckon_31 (by decide) ?_
            exact sd_i1ret (u := (ds, cRg, dk, dn, dT, dB, dR)) hQ hx hb hr hlk hK (hP.sub [0, 1, 2, 3, 4, 5, 6, 7, 8, 9] rfl) (hD.sub [0, 1, 2, 3, 4, 5, 6, 7, 8, 9] (by decide) rfl) hS (Option.some.inj hm).symm d_Desk_reckon_32
theorem d_Desk_divide_0 : decode b_Desk_divide 0 = .ok (.iload_n 1, 1) := by decide +kernel
theorem d_Desk_divide_1 : decode b_Desk_divide 1 = .ok (.invokestatic 56, 3) := by decide +kernel
theorem d_Desk_divide_4 : decode b_Desk_divide 4 = .ok (.ifCond .eq 17, 3) := by decide +kernel
theorem d_Desk_divide_7 : decode b_Desk_divide 7 = .ok (.iload_n 2, 1) := by decide +kernel
theorem d_Desk_divide_8 : decode b_Desk_divide 8 = .ok (.invokestatic 56, 3) := by decide +kernel
theorem d_Desk_divide_11 : decode b_Desk_divide 11 = .ok (.ifCond .eq 10, 3) := by decide +kernel
theorem d_Desk_divide_14 : decode b_Desk_divide 14 = .ok (.iload_n 3, 1) := by decide +kernel
theorem d_Desk_divide_15 : decode b_Desk_divide 15 = .ok (.invokestatic 56, 3) := by decide +kernel
theorem d_Desk_divide_18 : decode b_Desk_divide 18 = .ok (.ifCond .ne 5, 3) := by decide +kernel
theorem d_Desk_divide_21 : decode b_Desk_divide 21 = .ok (.iconst (-1), 1) := by decide +kernel
theorem d_Desk_divide_22 : decode b_Desk_divide 22 = .ok (.ireturn, 1) := by decide +kernel
theorem d_Desk_divide_23 : decode b_Desk_divide 23 = .ok (.aload_n 0, 1) := by decide +kernel
theorem d_Desk_divide_24 : decode b_Desk_divide 24 = .ok (.getfield 11, 3) := by decide +kernel
theorem d_Desk_divide_27 : decode b_Desk_divide 27 = .ok (.iload_n 3, 1) := by decide +kernel
theorem d_Desk_divide_28 : decode b_Desk_divide 28 = .ok (.aaload, 1) := by decide +kernel
theorem d_Desk_divide_29 : decode b_Desk_divide 29 = .ok (.invokevirtual 106, 3) := by decide +kernel
theorem d_Desk_divide_32 : decode b_Desk_divide 32 = .ok (.iconst 1, 1) := by decide +kernel
theorem d_Desk_divide_33 : decode b_Desk_divide 33 = .ok (.if_icmp .eq 6, 3) := by decide +kernel
theorem d_Desk_divide_36 : decode b_Desk_divide 36 = .ok (.bipush (-2), 2) := by decide +kernel
theorem d_Desk_divide_38 : decode b_Desk_divide 38 = .ok (.ireturn, 1) := by decide +kernel
theorem d_Desk_divide_39 : decode b_Desk_divide 39 = .ok (.aload_n 0, 1) := by decide +kernel
theorem d_Desk_divide_40 : decode b_Desk_divide 40 = .ok (.getfield 16, 3) := by decide +kernel
theorem d_Desk_divide_43 : decode b_Desk_divide 43 = .ok (.aload_n 0, 1) := by decide +kernel
theorem d_Desk_divide_44 : decode b_Desk_divide 44 = .ok (.getfield 11, 3) := by decide +kernel
theorem d_Desk_divide_47 : decode b_Desk_divide 47 = .ok (.iload_n 3, 1) := by decide +kernel
theorem d_Desk_divide_48 : decode b_Desk_divide 48 = .ok (.aaload, 1) := by decide +kernel
theorem d_Desk_divide_49 : decode b_Desk_divide 49 = .ok (.invokevirtual 110, 3) := by decide +kernel
theorem d_Desk_divide_52 : decode b_Desk_divide 52 = .ok (.ifCond .eq 27, 3) := by decide +kernel
theorem d_Desk_divide_55 : decode b_Desk_divide 55 = .ok (.aload_n 0, 1) := by decide +kernel
theorem d_Desk_divide_56 : decode b_Desk_divide 56 = .ok (.getfield 53, 3) := by decide +kernel
theorem d_Desk_divide_59 : decode b_Desk_divide 59 = .ok (.aload_n 0, 1) := by decide +kernel
theorem d_Desk_divide_60 : decode b_Desk_divide 60 = .ok (.getfield 11, 3) := by decide +kernel
theorem d_Desk_divide_63 : decode b_Desk_divide 63 = .ok (.iload_n 2, 1) := by decide +kernel
theorem d_Desk_divide_64 : decode b_Desk_divide 64 = .ok (.aaload, 1) := by decide +kernel
theorem d_Desk_divide_65 : decode b_Desk_divide 65 = .ok (.aload_n 0, 1) := by decide +kernel
theorem d_Desk_divide_66 : decode b_Desk_divide 66 = .ok (.getfield 16, 3) := by decide +kernel
theorem d_Desk_divide_69 : decode b_Desk_divide 69 = .ok (.invokevirtual 94, 3) := by decide +kernel
theorem d_Desk_divide_72 : decode b_Desk_divide 72 = .ok (.ifCond .eq 7, 3) := by decide +kernel
theorem d_Desk_divide_75 : decode b_Desk_divide 75 = .ok (.iconst 1, 1) := by decide +kernel
theorem d_Desk_divide_76 : decode b_Desk_divide 76 = .ok (.goto 4, 3) := by decide +kernel
theorem d_Desk_divide_79 : decode b_Desk_divide 79 = .ok (.iconst 0, 1) := by decide +kernel
theorem d_Desk_divide_80 : decode b_Desk_divide 80 = .ok (.istore 4, 2) := by decide +kernel
theorem d_Desk_divide_82 : decode b_Desk_divide 82 = .ok (.iload 4, 2) := by decide +kernel
theorem d_Desk_divide_84 : decode b_Desk_divide 84 = .ok (.ifCond .eq 11, 3) := by decide +kernel
theorem d_Desk_divide_87 : decode b_Desk_divide 87 = .ok (.aload_n 0, 1) := by decide +kernel
theorem d_Desk_divide_88 : decode b_Desk_divide 88 = .ok (.iload_n 1, 1) := by decide +kernel
theorem d_Desk_divide_89 : decode b_Desk_divide 89 = .ok (.invokevirtual 102, 3) := by decide +kernel
theorem d_Desk_divide_92 : decode b_Desk_divide 92 = .ok (.goto 5, 3) := by decide +kernel
theorem d_Desk_divide_95 : decode b_Desk_divide 95 = .ok (.bipush (-3), 2) := by decide +kernel
theorem d_Desk_divide_97 : decode b_Desk_divide 97 = .ok (.ireturn, 1) := by decide +kernel
def mf_Desk_divide (F : Nat) (vK : Int32) (vI : Int32) (vJ : Int32) (cRg : Nat → Option Nat) (dk : Int32) (dn : Int32) (dT : Nat → Int64) (dB : Nat → Int64) (dR : Nat → Int64) (jk : Int32) (jn : Int32) (jT : Nat → Int64) (jB : Nat → Int64) (jR : Nat → Int64) (xk : Int32) (xn : Int32) (xT : Nat → Int64) (xB : Nat → Int64) (xR : Nat → Int64) (yk : Int32) (yn : Int32) (yT : Nat → Int64) (yB : Nat → Int64) (yR : Nat → Int64) (ds : Nat) (os : Nat) : Option (Int32 × Nat × (Nat → Option Nat) × Int32 × Int32 × (Nat → Int64) × (Nat → Int64) × (Nat → Int64) × Int32 × Int32 × (Nat → Int64) × (Nat → Int64) × (Nat → Int64)) :=
  (sd_b1 (mf_Desk_isRegister F vK) fun r => (if r = 0 then (some ((-1 : Int32), ds, cRg, dk, dn, dT, dB, dR, jk, jn, jT, jB, jR)) else (sd_b1 (mf_Desk_isRegister F vI) fun r_1 => (if r_1 = 0 then (some ((-1 : Int32), ds, cRg, dk, dn, dT, dB, dR, jk, jn, jT, jB, jR)) else (sd_b1 (mf_Desk_isRegister F vJ) fun r_2 => (if r_2 = 0 then (some ((-1 : Int32), ds, cRg, dk, dn, dT, dB, dR, jk, jn, jT, jB, jR)) else (sd_g (sd_ix vJ 8) (sd_b1 (mf_Sum_count F yk yn) fun r_3 => (if r_3 = (1 : Int32) then (sd_g (sd_ix vJ 8) (sd_b6 (mf_Sum_becomeInverse F jk jn jT jB jR yk yn yT yB yR) fun r_4 ujs ujs_1 ujat ujab ujar => (sd_b6 (if r_4 = 0 then (some ((0 : Int32), dk, dn, dT, dB, dR)) else (sd_g (sd_ix vI 8) (sd_b6 (mf_Sum_becomeProducts F dk dn dT dB dR xk xn xT xB xR ujs ujs_1 ujat ujab ujar) fun r_5 uds_2 uds_3 udat_1 udab_1 udar_1 => (if r_5 = 0 then (some ((0 : Int32), uds_2, uds_3, udat_1, udab_1, udar_1)) else (some ((1 : Int32), uds_2, uds_3, udat_1, udab_1, udar_1)))))) fun y uds uds_1 udat udab udar => (sd_b3 (if y = 0 then (some ((-3 : Int32), ds, cRg)) else (sd_b3 (mf_Desk_keepDraft F vK cRg uds uds_1 ds os) fun r_6 uzd_1 urg_1 => (some (r_6, uzd_1, urg_1)))) fun y_1 uzd urg => (some (y_1, uzd, urg, uds, uds_1, udat, udab, udar, ujs, ujs_1, ujat, ujab, ujar)))))) else (some ((-2 : Int32), ds, cRg, dk, dn, dT, dB, dR, jk, jn, jT, jB, jR)))))))))))
abbrev rm_Desk_divide : Room := { frames := 6, cells := 0, slots := 0, locals := 232 }
set_option maxHeartbeats 4000000 in
set_option maxRecDepth 100000 in
theorem ct_Desk_divide (l : Launch) (D : va_G) (g : G4) (zd : Nat) (rg : Nat) (js : Nat) (fe : Nat) (c1 : Nat) (c2 : Nat) (pg : Nat) (zl : Nat) (zh : Nat) (ds : Nat) (dat : Nat) (dab : Nat) (dar : Nat) (dal : Nat) (dah : Nat) (jat : Nat) (jab : Nat) (jar : Nat) (jal : Nat) (jah : Nat) (xs : Nat) (xat : Nat) (xab : Nat) (xar : Nat) (xal : Nat) (xah : Nat) (ys : Nat) (yat : Nat) (yab : Nat) (yar : Nat) (yal : Nat) (yah : Nat) (os : Nat) (sz : Nat) (vK : Int32) (vI : Int32) (vJ : Int32) (cRg : Nat → Option Nat) (dk : Int32) (dn : Int32) (dT : Nat → Int64) (dB : Nat → Int64) (dR : Nat → Int64) (jk : Int32) (jn : Int32) (jT : Nat → Int64) (jB : Nat → Int64) (jR : Nat → Int64) (xk : Int32) (xn : Int32) (xT : Nat → Int64) (xB : Nat → Int64) (xR : Nat → Int64) (yk : Int32) (yn : Int32) (yT : Nat → Int64) (yB : Nat → Int64) (yR : Nat → Int64) (F : Nat) (res : Int32 × Nat × (Nat → Option Nat) × Int32 × Int32 × (Nat → Int64) × (Nat → Int64) × (Nat → Int64) × Int32 × Int32 × (Nat → Int64) × (Nat → Int64) × (Nat → Int64)) (hm : mf_Desk_divide F vK vI vJ cRg dk dn dT dB dR jk jn jT jB jR xk xn xT xB xR yk yn yT yB yR ds os = some res) (hKk : sd_ix vK 8 = true → cRg vK.toNatClampNeg = some os) (hI : sd_ix vI 8 = true → cRg vI.toNatClampNeg = some xs) (hJ : sd_ix vJ 8 = true → cRg vJ.toNatClampNeg = some ys) : Met l y_Desk_divide (.code y_Desk_divide b_Desk_divide 5 (some .int) :: sd_tb) rm_Desk_divide (sd_PW D g [.ref zd, .int vK, .int vI, .int vJ] sz [(zd, .inr (4, [.ref rg, .ref js, .ref fe, .ref c1, .ref c2, .ref pg, .ref zl, .ref zh, .ref ds])), (rg, aQ g 8 cRg), (ds, .inr (0, [.ref dat, .ref dab, .ref dar, .ref dal, .ref dah, .int dk, .int dn])), (dat, aJ g 8 dT), (dab, aJ g 8 dB), (dar, aJ g 8 dR), (js, .inr (0, [.ref jat, .ref jab, .ref jar, .ref jal, .ref jah, .int jk, .int jn])), (jat, aJ g 8 jT), (jab, aJ g 8 jB), (jar, aJ g 8 jR), (xs, .inr (0, [.ref xat, .ref xab, .ref xar, .ref xal, .ref xah, .int xk, .int xn])), (xat, aJ g 8 xT), (xab, aJ g 8 xB), (xar, aJ g 8 xR), (ys, .inr (0, [.ref yat, .ref yab, .ref yar, .ref yal, .ref yah, .int yk, .int yn])), (yat, aJ g 8 yT), (yab, aJ g 8 yB), (yar, aJ g 8 yR)]) (sd_Qi1 D g res (fun u : Nat × (Nat → Option Nat) × Int32 × Int32 × (Nat → Int64) × (Nat → Int64) × (Nat → Int64) × Int32 × Int32 × (Nat → Int64) × (Nat → Int64) × (Nat → Int64) => [(zd, .inr (4, [.ref rg, .ref js, .ref fe, .ref c1, .ref c2, .ref pg, .ref zl, .ref zh, .ref (u.1)])), (rg, aQ g 8 (u.2.1)), (ds, .inr (0, [.ref dat, .ref dab, .ref dar, .ref dal, .ref dah, .int (u.2.2.1), .int (u.2.2.2.1)])), (dat, aJ g 8 (u.2.2.2.2.1)), (dab, aJ g 8 (u.2.2.2.2.2.1)), (dar, aJ g 8 (u.2.2.2.2.2.2.1)), (js, .inr (0, [.ref jat, .ref jab, .ref jar, .ref jal, .ref jah, .int (u.2.2.2.2.2.2.2.1), .int (u.2.2.2.2.2.2.2.2.1)])), (jat, aJ g 8 (u.2.2.2.2.2.2.2.2.2.1)), (jab, aJ g 8 (u.2.2.2.2.2.2.2.2.2.2.1)), (jar, aJ g 8 (u.2.2.2.2.2.2.2.2.2.2.2)), (xs, .inr (0, [.ref xat, .ref xab, .ref xar, .ref xal, .ref xah, .int xk, .int xn])), (xat, aJ g 8 xT), (xab, aJ g 8 xB), (xar, aJ g 8 xR), (ys, .inr (0, [.ref yat, .ref yab, .ref yar, .ref yal, .ref yah, .int yk, .int yn])), (yat, aJ g 8 yT), (yab, aJ g 8 yB), (yar, aJ g 8 yR)]) (va_A [(zd, .inr (4, [.ref rg, .ref js, .ref fe, .ref c1, .ref c2, .ref pg, .ref zl, .ref zh, .ref ds])), (rg, aQ g 8 cRg), (ds, .inr (0, [.ref dat, .ref dab, .ref dar, .ref dal, .ref dah, .int dk, .int dn])), (dat, aJ g 8 dT), (dab, aJ g 8 dB), (dar, aJ g 8 dR), (js, .inr (0, [.ref jat, .ref jab, .ref jar, .ref jal, .ref jah, .int jk, .int jn])), (jat, aJ g 8 jT), (jab, aJ g 8 jB), (jar, aJ g 8 jR), (xs, .inr (0, [.ref xat, .ref xab, .ref xar, .ref xal, .ref xah, .int xk, .int xn])), (xat, aJ g 8 xT), (xab, aJ g 8 xB), (xar, aJ g 8 xR), (ys, .inr (0, [.ref yat, .ref yab, .ref yar, .ref yal, .ref yah, .int yk, .int yn])), (yat, aJ g 8 yT), (yab, aJ g 8 yB), (yar, aJ g 8 yR)] sz)) 0 0 (va_A [(zd, .inr (4, [.ref rg, .ref js, .ref fe, .ref c1, .ref c2, .ref pg, .ref zl, .ref zh, .ref ds])), (rg, aQ g 8 cRg), (ds, .inr (0, [.ref dat, .ref dab, .ref dar, .ref dal, .ref dah, .int dk, .int dn])), (dat, aJ g 8 dT), (dab, aJ g 8 dB), (dar, aJ g 8 dR), (js, .inr (0, [.ref jat, .ref jab, .ref jar, .ref jal, .ref jah, .int jk, .int jn])), (jat, aJ g 8 jT), (jab, aJ g 8 jB), (jar, aJ g 8 jR), (xs, .inr (0, [.ref xat, .ref xab, .ref xar, .ref xal, .ref xah, .int xk, .int xn])), (xat, aJ g 8 xT), (xab, aJ g 8 xB), (xar, aJ g 8 xR), (ys, .inr (0, [.ref yat, .ref yab, .ref yar, .ref yal, .ref yah, .int yk, .int yn])), (yat, aJ g 8 yT), (yab, aJ g 8 yB), (yar, aJ g 8 yR)] sz) := by
  refine sd_met (Qf := fun A => sd_Qi1 D g res (fun u : Nat × (Nat → Option Nat) × Int32 × Int32 × (Nat → Int64) × (Nat → Int64) × (Nat → Int64) × Int32 × Int32 × (Nat → Int64) × (Nat → Int64) × (Nat → Int64) => [(zd, .inr (4, [.ref rg, .ref js, .ref fe, .ref c1, .ref c2, .ref pg, .ref zl, .ref zh, .ref (u.1)])), (rg, aQ g 8 (u.2.1)), (ds, .inr (0, [.ref dat, .ref dab, .ref dar, .ref dal, .ref dah, .int (u.2.2.1), .int (u.2.2.2.1)])), (dat, aJ g 8 (u.2.2.2.2.1)), (dab, aJ g 8 (u.2.2.2.2.2.1)), (dar, aJ g 8 (u.2.2.2.2.2.2.1)), (js, .inr (0, [.ref jat, .ref jab, .ref jar, .ref jal, .ref jah, .int (u.2.2.2.2.2.2.2.1), .int (u.2.2.2.2.2.2.2.2.1)])), (jat, aJ g 8 (u.2.2.2.2.2.2.2.2.2.1)), (jab, aJ g 8 (u.2.2.2.2.2.2.2.2.2.2.1)), (jar, aJ g 8 (u.2.2.2.2.2.2.2.2.2.2.2)), (xs, .inr (0, [.ref xat, .ref xab, .ref xar, .ref xal, .ref xah, .int xk, .int xn])), (xat, aJ g 8 xT), (xab, aJ g 8 xB), (xar, aJ g 8 xR), (ys, .inr (0, [.ref yat, .ref yab, .ref yar, .ref yal, .ref yah, .int yk, .int yn])), (yat, aJ g 8 yT), (yab, aJ g 8 yB), (yar, aJ g 8 yR)]) A) (own := R_Desk) (by decide +kernel) rfl (Nat.le_of_ble_eq_true rfl) ?_
  intro p e s m args below meth c S hr hlk hK A hA Q hQ H locs hP hD hS ls hl
  have hx := S.1
  have hb := S.2.1
  have hml := S.2.2.1
  have hown := S.2.2.2.1
  have htt := sd_tt S
  replace hl : lv_has ls 5 [(0, .ref zd), (1, .int vK), (2, .int vI), (3, .int vJ)] := hl
  unfold mf_Desk_divide at hm
  refine lv_iload_n hx hb d_Desk_divide_0 rfl (lv_at hl 1 rfl) ?_
  obtain ⟨r, hc, hm⟩ := sd_mb1 hm
  refine sd_ci0 (wr := [(zd, .inr (4, [.ref rg, .ref js, .ref fe, .ref c1, .ref c2, .ref pg, .ref zl, .ref zh, .ref ds])), (rg, aQ g 8 cRg), (ds, .inr (0, [.ref dat, .ref dab, .ref dar, .ref dal, .ref dah, .int dk, .int dn])), (dat, aJ g 8 dT), (dab, aJ g 8 dB), (dar, aJ g 8 dR), (js, .inr (0, [.ref jat, .ref jab, .ref jar, .ref jal, .ref jah, .int jk, .int jn])), (jat, aJ g 8 jT), (jab, aJ g 8 jB), (jar, aJ g 8 jR), (xs, .inr (0, [.ref xat, .ref xab, .ref xar, .ref xal, .ref xah, .int xk, .int xn])), (xat, aJ g 8 xT), (xab, aJ g 8 xB), (xar, aJ g 8 xR), (ys, .inr (0, [.ref yat, .ref yab, .ref yar, .ref yal, .ref yah, .int yk, .int yn])), (yat, aJ g 8 yT), (yab, aJ g 8 yB), (yar, aJ g 8 yR)]) (w2 := [(zd, .inr (4, [.ref rg, .ref js, .ref fe, .ref c1, .ref c2, .ref pg, .ref zl, .ref zh, .ref ds])), (rg, aQ g 8 cRg), (ds, .inr (0, [.ref dat, .ref dab, .ref dar, .ref dal, .ref dah, .int dk, .int dn])), (dat, aJ g 8 dT), (dab, aJ g 8 dB), (dar, aJ g 8 dR), (js, .inr (0, [.ref jat, .ref jab, .ref jar, .ref jal, .ref jah, .int jk, .int jn])), (jat, aJ g 8 jT), (jab, aJ g 8 jB), (jar, aJ g 8 jR), (xs, .inr (0, [.ref xat, .ref xab, .ref xar, .ref xal, .ref xah, .int xk, .int xn])), (xat, aJ g 8 xT), (xab, aJ g 8 xB), (xar, aJ g 8 xR), (ys, .inr (0, [.ref yat, .ref yab, .ref yar, .ref yal, .ref yah, .int yk, .int yn])), (yat, aJ g 8 yT), (yab, aJ g 8 yB), (yar, aJ g 8 yR)]) (sd_runS (rest := []) (As := [.int vK]) S (ct_Desk_isRegister l D g (H.size) vK F (r) hc) kl_Desk_56 (by decide) (by decide) hK hP hD [] rfl (by decide) rfl hl d_Desk_divide_1 rfl (Nat.le_of_ble_eq_true rfl) ⟨Nat.zero_le _, Nat.zero_le _⟩) hP hD hS hA [] [0, 1, 2, 3, 4, 5, 6, 7, 8, 9, 10, 11, 12, 13, 14, 15, 16, 17] rfl rfl (by decide) (by decide) rfl (fun H locs hP hD hS => ?_)
  refine W.eq (g2 := F0 m 4 ls [.int r]) rfl ?_
  refine lv_if_eq (tgt := 21) hx hb d_Desk_divide_4 (by decide) (fun hc => ?_) (fun hc => ?_)
  · have hm := sd_mt hc hm
    refine lv_iconst (v := (-1 : Int32)) hx hb d_Desk_divide_21 (by decide) ?_
    exact sd_i1ret (u := (ds, cRg, dk, dn, dT, dB, dR, jk, jn, jT, jB, jR)) hQ hx hb hr hlk hK (hP.sub [0, 1, 2, 3, 4, 5, 6, 7, 8, 9, 10, 11, 12, 13, 14, 15, 16, 17] rfl) (hD.sub [0, 1, 2, 3, 4, 5, 6, 7, 8, 9, 10, 11, 12, 13, 14, 15, 16, 17] (by decide) rfl) hS (Option.some.inj hm).symm d_Desk_divide_22
  · have hm := sd_mf hc hm
    refine lv_iload_n hx hb d_Desk_divide_7 rfl (lv_at hl 2 rfl) ?_
    obtain ⟨r_1, hc, hm⟩ := sd_mb1 hm
    refine sd_ci0 (wr := [(zd, .inr (4, [.ref rg, .ref js, .ref fe, .ref c1, .ref c2, .ref pg, .ref zl, .ref zh, .ref ds])), (rg, aQ g 8 cRg), (ds, .inr (0, [.ref dat, .ref dab, .ref dar, .ref dal, .ref dah, .int dk, .int dn])), (dat, aJ g 8 dT), (dab, aJ g 8 dB), (dar, aJ g 8 dR), (js, .inr (0, [.ref jat, .ref jab, .ref jar, .ref jal, .ref jah, .int jk, .int jn])), (jat, aJ g 8 jT), (jab, aJ g 8 jB), (jar, aJ g 8 jR), (xs, .inr (0, [.ref xat, .ref xab, .ref xar, .ref xal, .ref xah, .int xk, .int xn])), (xat, aJ g 8 xT), (xab, aJ g 8 xB), (xar, aJ g 8 xR), (ys, .inr (0, [.ref yat, .ref yab, .ref yar, .ref yal, .ref yah, .int yk, .int yn])), (yat, aJ g 8 yT), (yab, aJ g 8 yB), (yar, aJ g 8 yR)]) (w2 := [(zd, .inr (4, [.ref rg, .ref js, .ref fe, .ref c1, .ref c2, .ref pg, .ref zl, .ref zh, .ref ds])), (rg, aQ g 8 cRg), (ds, .inr (0, [.ref dat, .ref dab, .ref dar, .ref dal, .ref dah, .int dk, .int dn])), (dat, aJ g 8 dT), (dab, aJ g 8 dB), (dar, aJ g 8 dR), (js, .inr (0, [.ref jat, .ref jab, .ref jar, .ref jal, .ref jah, .int jk, .int jn])), (jat, aJ g 8 jT), (jab, aJ g 8 jB), (jar, aJ g 8 jR), (xs, .inr (0, [.ref xat, .ref xab, .ref xar, .ref xal, .ref xah, .int xk, .int xn])), (xat, aJ g 8 xT), (xab, aJ g 8 xB), (xar, aJ g 8 xR), (ys, .inr (0, [.ref yat, .ref yab, .ref yar, .ref yal, .ref yah, .int yk, .int yn])), (yat, aJ g 8 yT), (yab, aJ g 8 yB), (yar, aJ g 8 yR)]) (sd_runS (rest := []) (As := [.int vI]) S (ct_Desk_isRegister l D g (H.size) vI F (r_1) hc) kl_Desk_56 (by decide) (by decide) hK hP hD [] rfl (by decide) rfl hl d_Desk_divide_8 rfl (Nat.le_of_ble_eq_true rfl) ⟨Nat.zero_le _, Nat.zero_le _⟩) hP hD hS hA [] [0, 1, 2, 3, 4, 5, 6, 7, 8, 9, 10, 11, 12, 13, 14, 15, 16, 17] rfl rfl (by decide) (by decide) rfl (fun H locs hP hD hS => ?_)
    refine W.eq (g2 := F0 m 11 ls [.int r_1]) rfl ?_
    refine lv_if_eq (tgt := 21) hx hb d_Desk_divide_11 (by decide) (fun hc => ?_) (fun hc => ?_)
    · have hm := sd_mt hc hm
      refine lv_iconst (v := (-1 : Int32)) hx hb d_Desk_divide_21 (by decide) ?_
      exact sd_i1ret (u := (ds, cRg, dk, dn, dT, dB, dR, jk, jn, jT, jB, jR)) hQ hx hb hr hlk hK (hP.sub [0, 1, 2, 3, 4, 5, 6, 7, 8, 9, 10, 11, 12, 13, 14, 15, 16, 17] rfl) (hD.sub [0, 1, 2, 3, 4, 5, 6, 7, 8, 9, 10, 11, 12, 13, 14, 15, 16, 17] (by decide) rfl) hS (Option.some.inj hm).symm d_Desk_divide_22
    · have hm := sd_mf hc hm
      refine lv_iload_n hx hb d_Desk_divide_14 rfl (lv_at hl 3 rfl) ?_
      obtain ⟨r_2, hc, hm⟩ := sd_mb1 hm
      refine sd_ci0 (wr := [(zd, .inr (4, [.ref rg, .ref js, .ref fe, .ref c1, .ref c2, .ref pg, .ref zl, .ref zh, .ref ds])), (rg, aQ g 8 cRg), (ds, .inr (0, [.ref dat, .ref dab, .ref dar, .ref dal, .ref dah, .int dk, .int dn])), (dat, aJ g 8 dT), (dab, aJ g 8 dB), (dar, aJ g 8 dR), (js, .inr (0, [.ref jat, .ref jab, .ref jar, .ref jal, .ref jah, .int jk, .int jn])), (jat, aJ g 8 jT), (jab, aJ g 8 jB), (jar, aJ g 8 jR), (xs, .inr (0, [.ref xat, .ref xab, .ref xar, .ref xal, .ref xah, .int xk, .int xn])), (xat, aJ g 8 xT), (xab, aJ g 8 xB), (xar, aJ g 8 xR), (ys, .inr (0, [.ref yat, .ref yab, .ref yar, .ref yal, .ref yah, .int yk, .int yn])), (yat, aJ g 8 yT), (yab, aJ g 8 yB), (yar, aJ g 8 yR)]) (w2 := [(zd, .inr (4, [.ref rg, .ref js, .ref fe, .ref c1, .ref c2, .ref pg, .ref zl, .ref zh, .ref ds])), (rg, aQ g 8 cRg), (ds, .inr (0, [.ref dat, .ref dab, .ref dar, .ref dal, .ref dah, .int dk, .int dn])), (dat, aJ g 8 dT), (dab, aJ g 8 dB), (dar, aJ g 8 dR), (js, .inr (0, [.ref jat, .ref jab, .ref jar, .ref jal, .ref jah, .int jk, .int jn])), (jat, aJ g 8 jT), (jab, aJ g 8 jB), (jar, aJ g 8 jR), (xs, .inr (0, [.ref xat, .ref xab, .ref xar, .ref xal, .ref xah, .int xk, .int xn])), (xat, aJ g 8 xT), (xab, aJ g 8 xB), (xar, aJ g 8 xR), (ys, .inr (0, [.ref yat, .ref yab, .ref yar, .ref yal, .ref yah, .int yk, .int yn])), (yat, aJ g 8 yT), (yab, aJ g 8 yB), (yar, aJ g 8 yR)]) (sd_runS (rest := []) (As := [.int vJ]) S (ct_Desk_isRegister l D g (H.size) vJ F (r_2) hc) kl_Desk_56 (by decide) (by decide) hK hP hD [] rfl (by decide) rfl hl d_Desk_divide_15 rfl (Nat.le_of_ble_eq_true rfl) ⟨Nat.zero_le _, Nat.zero_le _⟩) hP hD hS hA [] [0, 1, 2, 3, 4, 5, 6, 7, 8, 9, 10, 11, 12, 13, 14, 15, 16, 17] rfl rfl (by decide) (by decide) rfl (fun H locs hP hD hS => ?_)
      refine W.eq (g2 := F0 m 18 ls [.int r_2]) rfl ?_
      refine lv_if_ne (tgt := 23) hx hb d_Desk_divide_18 (by decide) (fun hc => ?_) (fun hc => ?_)
      · have hm := sd_mf hc hm
        refine lv_aload_n hx hb d_Desk_divide_23 rfl (lv_at hl 0 rfl) ?_
        refine va_get (D := D) (ci := 4) (v := .ref rg) (C := R_Desk) (T := F_Desk) (N := 9) hx hb htt i_Desk hown hK hP 0 rfl rfl 0 (by decide) (htt _ kf_Desk_11) (fun _ h9 => h9) rfl d_Desk_divide_24 ?_
        refine lv_iload_n hx hb d_Desk_divide_27 rfl (lv_at hl 3 rfl) ?_
        obtain ⟨h_1, hm⟩ := sd_mg hm
        refine sd_aald hx hb hK hP 1 rfl h_1 d_Desk_divide_28 ?_
        refine sd_topq (hJ h_1) ?_
        obtain ⟨r_3, hc, hm⟩ := sd_mb1 hm
        refine sd_ci0 (wr := [(zd, .inr (4, [.ref rg, .ref js, .ref fe, .ref c1, .ref c2, .ref pg, .ref zl, .ref zh, .ref ds])), (rg, aQ g 8 cRg), (ds, .inr (0, [.ref dat, .ref dab, .ref dar, .ref dal, .ref dah, .int dk, .int dn])), (dat, aJ g 8 dT), (dab, aJ g 8 dB), (dar, aJ g 8 dR), (js, .inr (0, [.ref jat, .ref jab, .ref jar, .ref jal, .ref jah, .int jk, .int jn])), (jat, aJ g 8 jT), (jab, aJ g 8 jB), (jar, aJ g 8 jR), (xs, .inr (0, [.ref xat, .ref xab, .ref xar, .ref xal, .ref xah, .int xk, .int xn])), (xat, aJ g 8 xT), (xab, aJ g 8 xB), (xar, aJ g 8 xR), (yat, aJ g 8 yT), (yab, aJ g 8 yB), (yar, aJ g 8 yR)]) (w2 := [(zd, .inr (4, [.ref rg, .ref js, .ref fe, .ref c1, .ref c2, .ref pg, .ref zl, .ref zh, .ref ds])), (rg, aQ g 8 cRg), (ds, .inr (0, [.ref dat, .ref dab, .ref dar, .ref dal, .ref dah, .int dk, .int dn])), (dat, aJ g 8 dT), (dab, aJ g 8 dB), (dar, aJ g 8 dR), (js, .inr (0, [.ref jat, .ref jab, .ref jar, .ref jal, .ref jah, .int jk, .int jn])), (jat, aJ g 8 jT), (jab, aJ g 8 jB), (jar, aJ g 8 jR), (xs, .inr (0, [.ref xat, .ref xab, .ref xar, .ref xal, .ref xah, .int xk, .int xn])), (xat, aJ g 8 xT), (xab, aJ g 8 xB), (xar, aJ g 8 xR), (yat, aJ g 8 yT), (yab, aJ g 8 yB), (yar, aJ g 8 yR), (ys, .inr (0, [.ref yat, .ref yab, .ref yar, .ref yal, .ref yah, .int yk, .int yn]))]) (sd_runV (rest := []) (As := []) S (ct_Sum_count l D g ys yat yab yar yal yah (H.size) yk yn F (r_3) hc) kl_Desk_106 (by decide) (by decide) hK hP hD [14] rfl (by decide) rfl hl d_Desk_divide_29 rfl (Nat.le_of_ble_eq_true rfl) ⟨Nat.zero_le _, Nat.zero_le _⟩ 14 rfl rfl) hP hD hS hA [14] [0, 1, 2, 3, 4, 5, 6, 7, 8, 9, 10, 11, 12, 13, 15, 16, 17] rfl rfl (by decide) (by decide) rfl (fun H locs hP hD hS => ?_)
        refine W.eq (g2 := F0 m 32 ls [.int r_3]) rfl ?_
        refine lv_iconst (v := (1 : Int32)) hx hb d_Desk_divide_32 (by decide) ?_
        refine lv_icmp_eq (tgt := 39) hx hb d_Desk_divide_33 (by decide) (fun hc => ?_) (fun hc => ?_)
        · have hm := sd_mt hc hm
          refine lv_aload_n hx hb d_Desk_divide_39 rfl (lv_at hl 0 rfl) ?_
          refine va_get (D := D) (ci := 4) (v := .ref js) (C := R_Desk) (T := F_Desk) (N := 9) hx hb htt i_Desk hown hK hP 0 rfl rfl 1 (by decide) (htt _ kf_Desk_16) (fun _ h9 => h9) rfl d_Desk_divide_40 ?_
          refine lv_aload_n hx hb d_Desk_divide_43 rfl (lv_at hl 0 rfl) ?_
          refine va_get (D := D) (ci := 4) (v := .ref rg) (C := R_Desk) (T := F_Desk) (N := 9) hx hb htt i_Desk hown hK hP 0 rfl rfl 0 (by decide) (htt _ kf_Desk_11) (fun _ h9 => h9) rfl d_Desk_divide_44 ?_
          refine lv_iload_n hx hb d_Desk_divide_47 rfl (lv_at hl 3 rfl) ?_
          obtain ⟨h_2, hm⟩ := sd_mg hm
          refine sd_aald hx hb hK hP 1 rfl h_2 d_Desk_divide_48 ?_
          refine sd_topq (hJ h_2) ?_
          obtain ⟨r_4, ujs, ujs_1, ujat, ujab, ujar, hc, hm⟩ := sd_mb6 hm
          refine sd_ci1 (wr := [(zd, .inr (4, [.ref rg, .ref js, .ref fe, .ref c1, .ref c2, .ref pg, .ref zl, .ref zh, .ref ds])), (rg, aQ g 8 cRg), (ds, .inr (0, [.ref dat, .ref dab, .ref dar, .ref dal, .ref dah, .int dk, .int dn])), (dat, aJ g 8 dT), (dab, aJ g 8 dB), (dar, aJ g 8 dR), (xs, .inr (0, [.ref xat, .ref xab, .ref xar, .ref xal, .ref xah, .int xk, .int xn])), (xat, aJ g 8 xT), (xab, aJ g 8 xB), (xar, aJ g 8 xR)]) (w2 := [(zd, .inr (4, [.ref rg, .ref js, .ref fe, .ref c1, .ref c2, .ref pg, .ref zl, .ref zh, .ref ds])), (rg, aQ g 8 cRg), (ds, .inr (0, [.ref dat, .ref dab, .ref dar, .ref dal, .ref dah, .int dk, .int dn])), (dat, aJ g 8 dT), (dab, aJ g 8 dB), (dar, aJ g 8 dR), (xs, .inr (0, [.ref xat, .ref xab, .ref xar, .ref xal, .ref xah, .int xk, .int xn])), (xat, aJ g 8 xT), (xab, aJ g 8 xB), (xar, aJ g 8 xR), (js, .inr (0, [.ref jat, .ref jab, .ref jar, .ref jal, .ref jah, .int ujs, .int ujs_1])), (jat, aJ g 8 ujat), (jab, aJ g 8 ujab), (jar, aJ g 8 ujar), (ys, .inr (0, [.ref yat, .ref yab, .ref yar, .ref yal, .ref yah, .int yk, .int yn])), (yat, aJ g 8 yT), (yab, aJ g 8 yB), (yar, aJ g 8 yR)]) (sd_runV (rest := []) (As := [.ref ys]) S (ct_Sum_becomeInverse l D g js jat jab jar jal jah ys yat yab yar yal yah (H.size) jk jn jT jB jR yk yn yT yB yR F (r_4, ujs, ujs_1, ujat, ujab, ujar) hc) kl_Desk_110 (by decide) (by decide) hK hP hD [6, 7, 8, 9, 17, 14, 15, 16] rfl (by decide) rfl hl d_Desk_divide_49 rfl (Nat.le_of_ble_eq_true rfl) ⟨Nat.zero_le _, Nat.zero_le _⟩ 6 rfl rfl) hP hD hS hA [6, 7, 8, 9, 17, 14, 15, 16] [0, 1, 2, 3, 4, 5, 10, 11, 12, 13] rfl rfl (by decide) (by decide) rfl (fun H locs hP hD hS => ?_)
          refine W.eq (g2 := F0 m 52 ls [.int r_4]) rfl ?_
          obtain ⟨y, uds, uds_1, udat, udab, udar, hv, hm⟩ := sd_mb6 hm
          have J80_3 : ∀ (H : Heap) (locs : List Loc) (ls : Array Slot), va_P D classes [(zd, .inr (4, [.ref rg, .ref js, .ref fe, .ref c1, .ref c2, .ref pg, .ref zl, .ref zh, .ref ds])), (rg, aQ g 8 cRg), (ds, .inr (0, [.ref dat, .ref dab, .ref dar, .ref dal, .ref dah, .int uds, .int uds_1])), (dat, aJ g 8 udat), (dab, aJ g 8 udab), (dar, aJ g 8 udar), (xs, .inr (0, [.ref xat, .ref xab, .ref xar, .ref xal, .ref xah, .int xk, .int xn])), (xat, aJ g 8 xT), (xab, aJ g 8 xB), (xar, aJ g 8 xR), (js, .inr (0, [.ref jat, .ref jab, .ref jar, .ref jal, .ref jah, .int ujs, .int ujs_1])), (jat, aJ g 8 ujat), (jab, aJ g 8 ujab), (jar, aJ g 8 ujar), (ys, .inr (0, [.ref yat, .ref yab, .ref yar, .ref yal, .ref yah, .int yk, .int yn])), (yat, aJ g 8 yT), (yab, aJ g 8 yB), (yar, aJ g 8 yR)] H → va_D A [(zd, .inr (4, [.ref rg, .ref js, .ref fe, .ref c1, .ref c2, .ref pg, .ref zl, .ref zh, .ref ds])), (rg, aQ g 8 cRg), (ds, .inr (0, [.ref dat, .ref dab, .ref dar, .ref dal, .ref dah, .int uds, .int uds_1])), (dat, aJ g 8 udat), (dab, aJ g 8 udab), (dar, aJ g 8 udar), (xs, .inr (0, [.ref xat, .ref xab, .ref xar, .ref xal, .ref xah, .int xk, .int xn])), (xat, aJ g 8 xT), (xab, aJ g 8 xB), (xar, aJ g 8 xR), (js, .inr (0, [.ref jat, .ref jab, .ref jar, .ref jal, .ref jah, .int ujs, .int ujs_1])), (jat, aJ g 8 ujat), (jab, aJ g 8 ujab), (jar, aJ g 8 ujar), (ys, .inr (0, [.ref yat, .ref yab, .ref yar, .ref yal, .ref yah, .int yk, .int yn])), (yat, aJ g 8 yT), (yab, aJ g 8 yB), (yar, aJ g 8 yR)] → va_S A s.heap H locs → lv_has ls 5 [(0, .ref zd), (1, .int vK)] → W p l e rm_Desk_divide s m args below meth c H locs 0 0 Q (F0 m 80 ls [.int y]) := by
            intro H locs ls hP hD hS hl
            refine lv_istore (lv' := [(4, .int y), (0, .ref zd), (1, .int vK)]) hx hb d_Desk_divide_80 hl (by decide) rfl (fun ls hl => ?_)
            refine lv_iload hx hb d_Desk_divide_82 (lv_at hl 0 rfl) ?_
            obtain ⟨y_1, uzd, urg, hv, hm⟩ := sd_mb3 hm
            have J97_5 : ∀ (H : Heap) (locs : List Loc) (ls : Array Slot), va_P D classes [(zd, .inr (4, [.ref rg, .ref js, .ref fe, .ref c1, .ref c2, .ref pg, .ref zl, .ref zh, .ref uzd])), (rg, aQ g 8 urg), (ds, .inr (0, [.ref dat, .ref dab, .ref dar, .ref dal, .ref dah, .int uds, .int uds_1])), (dat, aJ g 8 udat), (dab, aJ g 8 udab), (dar, aJ g 8 udar), (xs, .inr (0, [.ref xat, .ref xab, .ref xar, .ref xal, .ref xah, .int xk, .int xn])), (xat, aJ g 8 xT), (xab, aJ g 8 xB), (xar, aJ g 8 xR), (js, .inr (0, [.ref jat, .ref jab, .ref jar, .ref jal, .ref jah, .int ujs, .int ujs_1])), (jat, aJ g 8 ujat), (jab, aJ g 8 ujab), (jar, aJ g 8 ujar), (ys, .inr (0, [.ref yat, .ref yab, .ref yar, .ref yal, .ref yah, .int yk, .int yn])), (yat, aJ g 8 yT), (yab, aJ g 8 yB), (yar, aJ g 8 yR)] H → va_D A [(zd, .inr (4, [.ref rg, .ref js, .ref fe, .ref c1, .ref c2, .ref pg, .ref zl, .ref zh, .ref uzd])), (rg, aQ g 8 urg), (ds, .inr (0, [.ref dat, .ref dab, .ref dar, .ref dal, .ref dah, .int uds, .int uds_1])), (dat, aJ g 8 udat), (dab, aJ g 8 udab), (dar, aJ g 8 udar), (xs, .inr (0, [.ref xat, .ref xab, .ref xar, .ref xal, .ref xah, .int xk, .int xn])), (xat, aJ g 8 xT), (xab, aJ g 8 xB), (xar, aJ g 8 xR), (js, .inr (0, [.ref jat, .ref jab, .ref jar, .ref jal, .ref jah, .int ujs, .int ujs_1])), (jat, aJ g 8 ujat), (jab, aJ g 8 ujab), (jar, aJ g 8 ujar), (ys, .inr (0, [.ref yat, .ref yab, .ref yar, .ref yal, .ref yah, .int yk, .int yn])), (yat, aJ g 8 yT), (yab, aJ g 8 yB), (yar, aJ g 8 yR)] → va_S A s.heap H locs → lv_has ls 5 [] → W p l e rm_Desk_divide s m args below meth c H locs 0 0 Q (F0 m 97 ls [.int y_1]) := by
              intro H locs ls hP hD hS hl
              exact sd_i1ret (u := (uzd, urg, uds, uds_1, udat, udab, udar, ujs, ujs_1, ujat, ujab, ujar)) hQ hx hb hr hlk hK (hP.sub [0, 1, 2, 3, 4, 5, 10, 11, 12, 13, 6, 7, 8, 9, 14, 15, 16, 17] rfl) (hD.sub [0, 1, 2, 3, 4, 5, 10, 11, 12, 13, 6, 7, 8, 9, 14, 15, 16, 17] (by decide) rfl) hS (Option.some.inj hm).symm d_Desk_divide_97
            replace hm := hv
            refine lv_if_eq (tgt := 95) hx hb d_Desk_divide_84 (by decide) (fun hc => ?_) (fun hc => ?_)
            · have hm := sd_mt hc hm
              refine lv_bipush (v := (-3 : Int32)) hx hb d_Desk_divide_95 (by decide) ?_
              cases hm
              exact J97_5 H locs ls (hP.sub [0, 1, 2, 3, 4, 5, 6, 7, 8, 9, 10, 11, 12, 13, 14, 15, 16, 17] rfl) (hD.sub [0, 1, 2, 3, 4, 5, 6, 7, 8, 9, 10, 11, 12, 13, 14, 15, 16, 17] (by decide) rfl) hS (lv_sub hl [] rfl)
            · have hm := sd_mf hc hm
              refine lv_aload_n hx hb d_Desk_divide_87 rfl (lv_at hl 1 rfl) ?_
              refine lv_iload_n hx hb d_Desk_divide_88 rfl (lv_at hl 2 rfl) ?_
              obtain ⟨r_6, uzd_1, urg_1, hc, hm⟩ := sd_mb3 hm
              refine sd_ci1 (wr := [(dat, aJ g 8 udat), (dab, aJ g 8 udab), (dar, aJ g 8 udar), (xs, .inr (0, [.ref xat, .ref xab, .ref xar, .ref xal, .ref xah, .int xk, .int xn])), (xat, aJ g 8 xT), (xab, aJ g 8 xB), (xar, aJ g 8 xR), (js, .inr (0, [.ref jat, .ref jab, .ref jar, .ref jal, .ref jah, .int ujs, .int ujs_1])), (jat, aJ g 8 ujat), (jab, aJ g 8 ujab), (jar, aJ g 8 ujar), (ys, .inr (0, [.ref yat, .ref yab, .ref yar, .ref yal, .ref yah, .int yk, .int yn])), (yat, aJ g 8 yT), (yab, aJ g 8 yB), (yar, aJ g 8 yR)]) (w2 := [(dat, aJ g 8 udat), (dab, aJ g 8 udab), (dar, aJ g 8 udar), (xs, .inr (0, [.ref xat, .ref xab, .ref xar, .ref xal, .ref xah, .int xk, .int xn])), (xat, aJ g 8 xT), (xab, aJ g 8 xB), (xar, aJ g 8 xR), (js, .inr (0, [.ref jat, .ref jab, .ref jar, .ref jal, .ref jah, .int ujs, .int ujs_1])), (jat, aJ g 8 ujat), (jab, aJ g 8 ujab), (jar, aJ g 8 ujar), (ys, .inr (0, [.ref yat, .ref yab, .ref yar, .ref yal, .ref yah, .int yk, .int yn])), (yat, aJ g 8 yT), (yab, aJ g 8 yB), (yar, aJ g 8 yR), (zd, .inr (4, [.ref rg, .ref js, .ref fe, .ref c1, .ref c2, .ref pg, .ref zl, .ref zh, .ref uzd_1])), (rg, aQ g 8 urg_1), (ds, .inr (0, [.ref dat, .ref dab, .ref dar, .ref dal, .ref dah, .int uds, .int uds_1]))]) (sd_runV (rest := []) (As := [.int vK]) S (ct_Desk_keepDraft l D g zd rg js fe c1 c2 pg zl zh ds dat dab dar dal dah os (H.size) vK cRg uds uds_1 F (r_6, uzd_1, urg_1) hc hKk) kl_Desk_102 (by decide) (by decide) hK hP hD [0, 1, 2] rfl (by decide) rfl hl d_Desk_divide_89 rfl (Nat.le_of_ble_eq_true rfl) ⟨Nat.zero_le _, Nat.zero_le _⟩ 0 rfl rfl) hP hD hS hA [0, 1, 2] [3, 4, 5, 6, 7, 8, 9, 10, 11, 12, 13, 14, 15, 16, 17] rfl rfl (by decide) (by decide) rfl (fun H locs hP hD hS => ?_)
              refine W.eq (g2 := F0 m 92 ls [.int r_6]) rfl ?_
              refine lv_goto (tgt := 97) hx hb d_Desk_divide_92 (by decide) ?_
              cases hm
              exact J97_5 H locs ls (hP.sub [15, 16, 17, 0, 1, 2, 3, 4, 5, 6, 7, 8, 9, 10, 11, 12, 13, 14] rfl) (hD.sub [15, 16, 17, 0, 1, 2, 3, 4, 5, 6, 7, 8, 9, 10, 11, 12, 13, 14] (by decide) rfl) hS (lv_sub hl [] rfl)
          replace hm := hv
          refine lv_if_eq (tgt := 79) hx hb d_Desk_divide_52 (by decide) (fun hc => ?_) (fun hc => ?_)
          · have hm := sd_mt hc hm
            refine lv_iconst (v := (0 : Int32)) hx hb d_Desk_divide_79 (by decide) ?_
            cases hm
            exact J80_3 H locs ls (hP.sub [0, 1, 2, 3, 4, 5, 6, 7, 8, 9, 10, 11, 12, 13, 14, 15, 16, 17] rfl) (hD.sub [0, 1, 2, 3, 4, 5, 6, 7, 8, 9, 10, 11, 12, 13, 14, 15, 16, 17] (by decide) rfl) hS (lv_sub hl [0, 1] rfl)
          · have hm := sd_mf hc hm
            refine lv_aload_n hx hb d_Desk_divide_55 rfl (lv_at hl 0 rfl) ?_
            refine va_get (D := D) (ci := 4) (v := .ref ds) (C := R_Desk) (T := F_Desk) (N := 9) hx hb htt i_Desk hown hK hP 0 rfl rfl 8 (by decide) (htt _ kf_Desk_53) (fun _ h9 => h9) rfl d_Desk_divide_56 ?_
            refine lv_aload_n hx hb d_Desk_divide_59 rfl (lv_at hl 0 rfl) ?_
            refine va_get (D := D) (ci := 4) (v := .ref rg) (C := R_Desk) (T := F_Desk) (N := 9) hx hb htt i_Desk hown hK hP 0 rfl rfl 0 (by decide) (htt _ kf_Desk_11) (fun _ h9 => h9) rfl d_Desk_divide_60 ?_
            refine lv_iload_n hx hb d_Desk_divide_63 rfl (lv_at hl 2 rfl) ?_
            obtain ⟨h_4, hm⟩ := sd_mg hm
            refine sd_aald hx hb hK hP 1 rfl h_4 d_Desk_divide_64 ?_
            refine sd_topq (hI h_4) ?_
            refine lv_aload_n hx hb d_Desk_divide_65 rfl (lv_at hl 0 rfl) ?_
            refine va_get (D := D) (ci := 4) (v := .ref js) (C := R_Desk) (T := F_Desk) (N := 9) hx hb htt i_Desk hown hK hP 0 rfl rfl 1 (by decide) (htt _ kf_Desk_16) (fun _ h9 => h9) rfl d_Desk_divide_66 ?_
            obtain ⟨r_5, uds_2, uds_3, udat_1, udab_1, udar_1, hc, hm⟩ := sd_mb6 hm
            refine sd_ci1 (wr := [(zd, .inr (4, [.ref rg, .ref js, .ref fe, .ref c1, .ref c2, .ref pg, .ref zl, .ref zh, .ref ds])), (rg, aQ g 8 cRg), (ys, .inr (0, [.ref yat, .ref yab, .ref yar, .ref yal, .ref yah, .int yk, .int yn])), (yat, aJ g 8 yT), (yab, aJ g 8 yB), (yar, aJ g 8 yR)]) (w2 := [(zd, .inr (4, [.ref rg, .ref js, .ref fe, .ref c1, .ref c2, .ref pg, .ref zl, .ref zh, .ref ds])), (rg, aQ g 8 cRg), (ys, .inr (0, [.ref yat, .ref yab, .ref yar, .ref yal, .ref yah, .int yk, .int yn])), (yat, aJ g 8 yT), (yab, aJ g 8 yB), (yar, aJ g 8 yR), (ds, .inr (0, [.ref dat, .ref dab, .ref dar, .ref dal, .ref dah, .int uds_2, .int uds_3])), (dat, aJ g 8 udat_1), (dab, aJ g 8 udab_1), (dar, aJ g 8 udar_1), (xs, .inr (0, [.ref xat, .ref xab, .ref xar, .ref xal, .ref xah, .int xk, .int xn])), (xat, aJ g 8 xT), (xab, aJ g 8 xB), (xar, aJ g 8 xR), (js, .inr (0, [.ref jat, .ref jab, .ref jar, .ref jal, .ref jah, .int ujs, .int ujs_1])), (jat, aJ g 8 ujat), (jab, aJ g 8 ujab), (jar, aJ g 8 ujar)]) (sd_runV (rest := []) (As := [.ref xs, .ref js]) S (ct_Sum_becomeProducts l D g ds dat dab dar dal dah xs xat xab xar xal xah js jat jab jar jal jah (H.size) dk dn dT dB dR xk xn xT xB xR ujs ujs_1 ujat ujab ujar F (r_5, uds_2, uds_3, udat_1, udab_1, udar_1) hc) kl_Desk_94 (by decide) (by decide) hK hP hD [2, 3, 4, 5, 6, 7, 8, 9, 10, 11, 12, 13] rfl (by decide) rfl hl d_Desk_divide_69 rfl (Nat.le_of_ble_eq_true rfl) ⟨Nat.zero_le _, Nat.zero_le _⟩ 2 rfl rfl) hP hD hS hA [2, 3, 4, 5, 6, 7, 8, 9, 10, 11, 12, 13] [0, 1, 14, 15, 16, 17] rfl rfl (by decide) (by decide) rfl (fun H locs hP hD hS => ?_)
            refine W.eq (g2 := F0 m 72 ls [.int r_5]) rfl ?_
            refine lv_if_eq (tgt := 79) hx hb d_Desk_divide_72 (by decide) (fun hc => ?_) (fun hc => ?_)
            · have hm := sd_mt hc hm
              refine lv_iconst (v := (0 : Int32)) hx hb d_Desk_divide_79 (by decide) ?_
              cases hm
              exact J80_3 H locs ls (hP.sub [0, 1, 6, 7, 8, 9, 10, 11, 12, 13, 14, 15, 16, 17, 2, 3, 4, 5] rfl) (hD.sub [0, 1, 6, 7, 8, 9, 10, 11, 12, 13, 14, 15, 16, 17, 2, 3, 4, 5] (by decide) rfl) hS (lv_sub hl [0, 1] rfl)
            · have hm := sd_mf hc hm
              refine lv_iconst (v := (1 : Int32)) hx hb d_Desk_divide_75 (by decide) ?_
              refine lv_goto (tgt := 80) hx hb d_Desk_divide_76 (by decide) ?_
              cases hm
              exact J80_3 H locs ls (hP.sub [0, 1, 6, 7, 8, 9, 10, 11, 12, 13, 14, 15, 16, 17, 2, 3, 4, 5] rfl) (hD.sub [0, 1, 6, 7, 8, 9, 10, 11, 12, 13, 14, 15, 16, 17, 2, 3, 4, 5] (by decide) rfl) hS (lv_sub hl [0, 1] rfl)
        · have hm := sd_mf hc hm
          refine lv_bipush (v := (-2 : Int32)) hx hb d_Desk_divide_36 (by decide) ?_
          exact sd_i1ret (u := (ds, cRg, dk, dn, dT, dB, dR, jk, jn, jT, jB, jR)) hQ hx hb hr hlk hK (hP.sub [0, 1, 2, 3, 4, 5, 6, 7, 8, 9, 10, 11, 12, 13, 17, 14, 15, 16] rfl) (hD.sub [0, 1, 2, 3, 4, 5, 6, 7, 8, 9, 10, 11, 12, 13, 17, 14, 15, 16] (by decide) rfl) hS (Option.some.inj hm).symm d_Desk_divide_38
      · have hm := sd_mt hc hm
        refine lv_iconst (v := (-1 : Int32)) hx hb d_Desk_divide_21 (by decide) ?_
        exact sd_i1ret (u := (ds, cRg, dk, dn, dT, dB, dR, jk, jn, jT, jB, jR)) hQ hx hb hr hlk hK (hP.sub [0, 1, 2, 3, 4, 5, 6, 7, 8, 9, 10, 11, 12, 13, 14, 15, 16, 17] rfl) (hD.sub [0, 1, 2, 3, 4, 5, 6, 7, 8, 9, 10, 11, 12, 13, 14, 15, 16, 17] (by decide) rfl) hS (Option.some.inj hm).symm d_Desk_divide_22
abbrev rm_Desk_divide2 : Room := { frames := 6, cells := 0, slots := 0, locals := 232 }
set_option maxHeartbeats 4000000 in
set_option maxRecDepth 100000 in
theorem ct_Desk_divide2 (l : Launch) (D : va_G) (g : G4) (zd : Nat) (rg : Nat) (js : Nat) (fe : Nat) (c1 : Nat) (c2 : Nat) (pg : Nat) (zl : Nat) (zh : Nat) (ds : Nat) (dat : Nat) (dab : Nat) (dar : Nat) (dal : Nat) (dah : Nat) (jat : Nat) (jab : Nat) (jar : Nat) (jal : Nat) (jah : Nat) (xs : Nat) (xat : Nat) (xab : Nat) (xar : Nat) (xal : Nat) (xah : Nat) (os : Nat) (sz : Nat) (vK : Int32) (vI : Int32) (vJ : Int32) (cRg : Nat → Option Nat) (dk : Int32) (dn : Int32) (dT : Nat → Int64) (dB : Nat → Int64) (dR : Nat → Int64) (jk : Int32) (jn : Int32) (jT : Nat → Int64) (jB : Nat → Int64) (jR : Nat → Int64) (xk : Int32) (xn : Int32) (xT : Nat → Int64) (xB : Nat → Int64) (xR : Nat → Int64) (F : Nat) (res : Int32 × Nat × (Nat → Option Nat) × Int32 × Int32 × (Nat → Int64) × (Nat → Int64) × (Nat → Int64) × Int32 × Int32 × (Nat → Int64) × (Nat → Int64) × (Nat → Int64)) (hm : mf_Desk_divide F vK vI vJ cRg dk dn dT dB dR jk jn jT jB jR xk xn xT xB xR xk xn xT xB xR ds os = some res) (hKk : sd_ix vK 8 = true → cRg vK.toNatClampNeg = some os) (hI : sd_ix vI 8 = true → cRg vI.toNatClampNeg = some xs) (hJ : sd_ix vJ 8 = true → cRg vJ.toNatClampNeg = some xs) : Met l y_Desk_divide (.code y_Desk_divide b_Desk_divide 5 (some .int) :: sd_tb) rm_Desk_divide2 (sd_PW D g [.ref zd, .int vK, .int vI, .int vJ] sz [(zd, .inr (4, [.ref rg, .ref js, .ref fe, .ref c1, .ref c2, .ref pg, .ref zl, .ref zh, .ref ds])), (rg, aQ g 8 cRg), (ds, .inr (0, [.ref dat, .ref dab, .ref dar, .ref dal, .ref dah, .int dk, .int dn])), (dat, aJ g 8 dT), (dab, aJ g 8 dB), (dar, aJ g 8 dR), (js, .inr (0, [.ref jat, .ref jab, .ref jar, .ref jal, .ref jah, .int jk, .int jn])), (jat, aJ g 8 jT), (jab, aJ g 8 jB), (jar, aJ g 8 jR), (xs, .inr (0, [.ref xat, .ref xab, .ref xar, .ref xal, .ref xah, .int xk, .int xn])), (xat, aJ g 8 xT), (xab, aJ g 8 xB), (xar, aJ g 8 xR)]) (sd_Qi1 D g res (fun u : Nat × (Nat → Option Nat) × Int32 × Int32 × (Nat → Int64) × (Nat → Int64) × (Nat → Int64) × Int32 × Int32 × (Nat → Int64) × (Nat → Int64) × (Nat → Int64) => [(zd, .inr (4, [.ref rg, .ref js, .ref fe, .ref c1, .ref c2, .ref pg, .ref zl, .ref zh, .ref (u.1)])), (rg, aQ g 8 (u.2.1)), (ds, .inr (0, [.ref dat, .ref dab, .ref dar, .ref dal, .ref dah, .int (u.2.2.1), .int (u.2.2.2.1)])), (dat, aJ g 8 (u.2.2.2.2.1)), (dab, aJ g 8 (u.2.2.2.2.2.1)), (dar, aJ g 8 (u.2.2.2.2.2.2.1)), (js, .inr (0, [.ref jat, .ref jab, .ref jar, .ref jal, .ref jah, .int (u.2.2.2.2.2.2.2.1), .int (u.2.2.2.2.2.2.2.2.1)])), (jat, aJ g 8 (u.2.2.2.2.2.2.2.2.2.1)), (jab, aJ g 8 (u.2.2.2.2.2.2.2.2.2.2.1)), (jar, aJ g 8 (u.2.2.2.2.2.2.2.2.2.2.2)), (xs, .inr (0, [.ref xat, .ref xab, .ref xar, .ref xal, .ref xah, .int xk, .int xn])), (xat, aJ g 8 xT), (xab, aJ g 8 xB), (xar, aJ g 8 xR)]) (va_A [(zd, .inr (4, [.ref rg, .ref js, .ref fe, .ref c1, .ref c2, .ref pg, .ref zl, .ref zh, .ref ds])), (rg, aQ g 8 cRg), (ds, .inr (0, [.ref dat, .ref dab, .ref dar, .ref dal, .ref dah, .int dk, .int dn])), (dat, aJ g 8 dT), (dab, aJ g 8 dB), (dar, aJ g 8 dR), (js, .inr (0, [.ref jat, .ref jab, .ref jar, .ref jal, .ref jah, .int jk, .int jn])), (jat, aJ g 8 jT), (jab, aJ g 8 jB), (jar, aJ g 8 jR), (xs, .inr (0, [.ref xat, .ref xab, .ref xar, .ref xal, .ref xah, .int xk, .int xn])), (xat, aJ g 8 xT), (xab, aJ g 8 xB), (xar, aJ g 8 xR)] sz)) 0 0 (va_A [(zd, .inr (4, [.ref rg, .ref js, .ref fe, .ref c1, .ref c2, .ref pg, .ref zl, .ref zh, .ref ds])), (rg, aQ g 8 cRg), (ds, .inr (0, [.ref dat, .ref dab, .ref dar, .ref dal, .ref dah, .int dk, .int dn])), (dat, aJ g 8 dT), (dab, aJ g 8 dB), (dar, aJ g 8 dR), (js, .inr (0, [.ref jat, .ref jab, .ref jar, .ref jal, .ref jah, .int jk, .int jn])), (jat, aJ g 8 jT), (jab, aJ g 8 jB), (jar, aJ g 8 jR), (xs, .inr (0, [.ref xat, .ref xab, .ref xar, .ref xal, .ref xah, .int xk, .int xn])), (xat, aJ g 8 xT), (xab, aJ g 8 xB), (xar, aJ g 8 xR)] sz) := by
  refine sd_met (Qf := fun A => sd_Qi1 D g res (fun u : Nat × (Nat → Option Nat) × Int32 × Int32 × (Nat → Int64) × (Nat → Int64) × (Nat → Int64) × Int32 × Int32 × (Nat → Int64) × (Nat → Int64) × (Nat → Int64) => [(zd, .inr (4, [.ref rg, .ref js, .ref fe, .ref c1, .ref c2, .ref pg, .ref zl, .ref zh, .ref (u.1)])), (rg, aQ g 8 (u.2.1)), (ds, .inr (0, [.ref dat, .ref dab, .ref dar, .ref dal, .ref dah, .int (u.2.2.1), .int (u.2.2.2.1)])), (dat, aJ g 8 (u.2.2.2.2.1)), (dab, aJ g 8 (u.2.2.2.2.2.1)), (dar, aJ g 8 (u.2.2.2.2.2.2.1)), (js, .inr (0, [.ref jat, .ref jab, .ref jar, .ref jal, .ref jah, .int (u.2.2.2.2.2.2.2.1), .int (u.2.2.2.2.2.2.2.2.1)])), (jat, aJ g 8 (u.2.2.2.2.2.2.2.2.2.1)), (jab, aJ g 8 (u.2.2.2.2.2.2.2.2.2.2.1)), (jar, aJ g 8 (u.2.2.2.2.2.2.2.2.2.2.2)), (xs, .inr (0, [.ref xat, .ref xab, .ref xar, .ref xal, .ref xah, .int xk, .int xn])), (xat, aJ g 8 xT), (xab, aJ g 8 xB), (xar, aJ g 8 xR)]) A) (own := R_Desk) (by decide +kernel) rfl (Nat.le_of_ble_eq_true rfl) ?_
  intro p e s m args below meth c S hr hlk hK A hA Q hQ H locs hP hD hS ls hl
  have hx := S.1
  have hb := S.2.1
  have hml := S.2.2.1
  have hown := S.2.2.2.1
  have htt := sd_tt S
  replace hl : lv_has ls 5 [(0, .ref zd), (1, .int vK), (2, .int vI), (3, .int vJ)] := hl
  unfold mf_Desk_divide at hm
  refine lv_iload_n hx hb d_Desk_divide_0 rfl (lv_at hl 1 rfl) ?_
  obtain ⟨r, hc, hm⟩ := sd_mb1 hm
  refine sd_ci0 (wr := [(zd, .inr (4, [.ref rg, .ref js, .ref fe, .ref c1, .ref c2, .ref pg, .ref zl, .ref zh, .ref ds])), (rg, aQ g 8 cRg), (ds, .inr (0, [.ref dat, .ref dab, .ref dar, .ref dal, .ref dah, .int dk, .int dn])), (dat, aJ g 8 dT), (dab, aJ g 8 dB), (dar, aJ g 8 dR), (js, .inr (0, [.ref jat, .ref jab, .ref jar, .ref jal, .ref jah, .int jk, .int jn])), (jat, aJ g 8 jT), (jab, aJ g 8 jB), (jar, aJ g 8 jR), (xs, .inr (0, [.ref xat, .ref xab, .ref xar, .ref xal, .ref xah, .int xk, .int xn])), (xat, aJ g 8 xT), (xab, aJ g 8 xB), (xar, aJ g 8 xR)]) (w2 := [(zd, .inr (4, [.ref rg, .ref js, .ref fe, .ref c1, .ref c2, .ref pg, .ref zl, .ref zh, .ref ds])), (rg, aQ g 8 cRg), (ds, .inr (0, [.ref dat, .ref dab, .ref dar, .ref dal, .ref dah, .int dk, .int dn])), (dat, aJ g 8 dT), (dab, aJ g 8 dB), (dar, aJ g 8 dR), (js, .inr (0, [.ref jat, .ref jab, .ref jar, .ref jal, .ref jah, .int jk, .int jn])), (jat, aJ g 8 jT), (jab, aJ g 8 jB), (jar, aJ g 8 jR), (xs, .inr (0, [.ref xat, .ref xab, .ref xar, .ref xal, .ref xah, .int xk, .int xn])), (xat, aJ g 8 xT), (xab, aJ g 8 xB), (xar, aJ g 8 xR)]) (sd_runS (rest := []) (As := [.int vK]) S (ct_Desk_isRegister l D g (H.size) vK F (r) hc) kl_Desk_56 (by decide) (by decide) hK hP hD [] rfl (by decide) rfl hl d_Desk_divide_1 rfl (Nat.le_of_ble_eq_true rfl) ⟨Nat.zero_le _, Nat.zero_le _⟩) hP hD hS hA [] [0, 1, 2, 3, 4, 5, 6, 7, 8, 9, 10, 11, 12, 13] rfl rfl (by decide) (by decide) rfl (fun H locs hP hD hS => ?_)
  refine W.eq (g2 := F0 m 4 ls [.int r]) rfl ?_
  refine lv_if_eq (tgt := 21) hx hb d_Desk_divide_4 (by decide) (fun hc => ?_) (fun hc => ?_)
  · have hm := sd_mt hc hm
    refine lv_iconst (v := (-1 : Int32)) hx hb d_Desk_divide_21 (by decide) ?_
    exact sd_i1ret (u := (ds, cRg, dk, dn, dT, dB, dR, jk, jn, jT, jB, jR)) hQ hx hb hr hlk hK (hP.sub [0, 1, 2, 3, 4, 5, 6, 7, 8, 9, 10, 11, 12, 13] rfl) (hD.sub [0, 1, 2, 3, 4, 5, 6, 7, 8, 9, 10, 11, 12, 13] (by decide) rfl) hS (Option.some.inj hm).symm d_Desk_divide_22
  · have hm := sd_mf hc hm
    refine lv_iload_n hx hb d_Desk_divide_7 rfl (lv_at hl 2 rfl) ?_
    obtain ⟨r_1, hc, hm⟩ := sd_mb1 hm
    refine sd_ci0 (wr := [(zd, .inr (4, [.ref rg, .ref js, .ref fe, .ref c1, .ref c2, .ref pg, .ref zl, .ref zh, .ref ds])), (rg, aQ g 8 cRg), (ds, .inr (0, [.ref dat, .ref dab, .ref dar, .ref dal, .ref dah, .int dk, .int dn])), (dat, aJ g 8 dT), (dab, aJ g 8 dB), (dar, aJ g 8 dR), (js, .inr (0, [.ref jat, .ref jab, .ref jar, .ref jal, .ref jah, .int jk, .int jn])), (jat, aJ g 8 jT), (jab, aJ g 8 jB), (jar, aJ g 8 jR), (xs, .inr (0, [.ref xat, .ref xab, .ref xar, .ref xal, .ref xah, .int xk, .int xn])), (xat, aJ g 8 xT), (xab, aJ g 8 xB), (xar, aJ g 8 xR)]) (w2 := [(zd, .inr (4, [.ref rg, .ref js, .ref fe, .ref c1, .ref c2, .ref pg, .ref zl, .ref zh, .ref ds])), (rg, aQ g 8 cRg), (ds, .inr (0, [.ref dat, .ref dab, .ref dar, .ref dal, .ref dah, .int dk, .int dn])), (dat, aJ g 8 dT), (dab, aJ g 8 dB), (dar, aJ g 8 dR), (js, .inr (0, [.ref jat, .ref jab, .ref jar, .ref jal, .ref jah, .int jk, .int jn])), (jat, aJ g 8 jT), (jab, aJ g 8 jB), (jar, aJ g 8 jR), (xs, .inr (0, [.ref xat, .ref xab, .ref xar, .ref xal, .ref xah, .int xk, .int xn])), (xat, aJ g 8 xT), (xab, aJ g 8 xB), (xar, aJ g 8 xR)]) (sd_runS (rest := []) (As := [.int vI]) S (ct_Desk_isRegister l D g (H.size) vI F (r_1) hc) kl_Desk_56 (by decide) (by decide) hK hP hD [] rfl (by decide) rfl hl d_Desk_divide_8 rfl (Nat.le_of_ble_eq_true rfl) ⟨Nat.zero_le _, Nat.zero_le _⟩) hP hD hS hA [] [0, 1, 2, 3, 4, 5, 6, 7, 8, 9, 10, 11, 12, 13] rfl rfl (by decide) (by decide) rfl (fun H locs hP hD hS => ?_)
    refine W.eq (g2 := F0 m 11 ls [.int r_1]) rfl ?_
    refine lv_if_eq (tgt := 21) hx hb d_Desk_divide_11 (by decide) (fun hc => ?_) (fun hc => ?_)
    · have hm := sd_mt hc hm
      refine lv_iconst (v := (-1 : Int32)) hx hb d_Desk_divide_21 (by decide) ?_
      exact sd_i1ret (u := (ds, cRg, dk, dn, dT, dB, dR, jk, jn, jT, jB, jR)) hQ hx hb hr hlk hK (hP.sub [0, 1, 2, 3, 4, 5, 6, 7, 8, 9, 10, 11, 12, 13] rfl) (hD.sub [0, 1, 2, 3, 4, 5, 6, 7, 8, 9, 10, 11, 12, 13] (by decide) rfl) hS (Option.some.inj hm).symm d_Desk_divide_22
    · have hm := sd_mf hc hm
      refine lv_iload_n hx hb d_Desk_divide_14 rfl (lv_at hl 3 rfl) ?_
      obtain ⟨r_2, hc, hm⟩ := sd_mb1 hm
      refine sd_ci0 (wr := [(zd, .inr (4, [.ref rg, .ref js, .ref fe, .ref c1, .ref c2, .ref pg, .ref zl, .ref zh, .ref ds])), (rg, aQ g 8 cRg), (ds, .inr (0, [.ref dat, .ref dab, .ref dar, .ref dal, .ref dah, .int dk, .int dn])), (dat, aJ g 8 dT), (dab, aJ g 8 dB), (dar, aJ g 8 dR), (js, .inr (0, [.ref jat, .ref jab, .ref jar, .ref jal, .ref jah, .int jk, .int jn])), (jat, aJ g 8 jT), (jab, aJ g 8 jB), (jar, aJ g 8 jR), (xs, .inr (0, [.ref xat, .ref xab, .ref xar, .ref xal, .ref xah, .int xk, .int xn])), (xat, aJ g 8 xT), (xab, aJ g 8 xB), (xar, aJ g 8 xR)]) (w2 := [(zd, .inr (4, [.ref rg, .ref js, .ref fe, .ref c1, .ref c2, .ref pg, .ref zl, .ref zh, .ref ds])), (rg, aQ g 8 cRg), (ds, .inr (0, [.ref dat, .ref dab, .ref dar, .ref dal, .ref dah, .int dk, .int dn])), (dat, aJ g 8 dT), (dab, aJ g 8 dB), (dar, aJ g 8 dR), (js, .inr (0, [.ref jat, .ref jab, .ref jar, .ref jal, .ref jah, .int jk, .int jn])), (jat, aJ g 8 jT), (jab, aJ g 8 jB), (jar, aJ g 8 jR), (xs, .inr (0, [.ref xat, .ref xab, .ref xar, .ref xal, .ref xah, .int xk, .int xn])), (xat, aJ g 8 xT), (xab, aJ g 8 xB), (xar, aJ g 8 xR)]) (sd_runS (rest := []) (As := [.int vJ]) S (ct_Desk_isRegister l D g (H.size) vJ F (r_2) hc) kl_Desk_56 (by decide) (by decide) hK hP hD [] rfl (by decide) rfl hl d_Desk_divide_15 rfl (Nat.le_of_ble_eq_true rfl) ⟨Nat.zero_le _, Nat.zero_le _⟩) hP hD hS hA [] [0, 1, 2, 3, 4, 5, 6, 7, 8, 9, 10, 11, 12, 13] rfl rfl (by decide) (by decide) rfl (fun H locs hP hD hS => ?_)
      refine W.eq (g2 := F0 m 18 ls [.int r_2]) rfl ?_
      refine lv_if_ne (tgt := 23) hx hb d_Desk_divide_18 (by decide) (fun hc => ?_) (fun hc => ?_)
      · have hm := sd_mf hc hm
        refine lv_aload_n hx hb d_Desk_divide_23 rfl (lv_at hl 0 rfl) ?_
        refine va_get (D := D) (ci := 4) (v := .ref rg) (C := R_Desk) (T := F_Desk) (N := 9) hx hb htt i_Desk hown hK hP 0 rfl rfl 0 (by decide) (htt _ kf_Desk_11) (fun _ h9 => h9) rfl d_Desk_divide_24 ?_
        refine lv_iload_n hx hb d_Desk_divide_27 rfl (lv_at hl 3 rfl) ?_
        obtain ⟨h_1, hm⟩ := sd_mg hm
        refine sd_aald hx hb hK hP 1 rfl h_1 d_Desk_divide_28 ?_
        refine sd_topq (hJ h_1) ?_
        obtain ⟨r_3, hc, hm⟩ := sd_mb1 hm
        refine sd_ci0 (wr := [(zd, .inr (4, [.ref rg, .ref js, .ref fe, .ref c1, .ref c2, .ref pg, .ref zl, .ref zh, .ref ds])), (rg, aQ g 8 cRg), (ds, .inr (0, [.ref dat, .ref dab, .ref dar, .ref dal, .ref dah, .int dk, .int dn])), (dat, aJ g 8 dT), (dab, aJ g 8 dB), (dar, aJ g 8 dR), (js, .inr (0, [.ref jat, .ref jab, .ref jar, .ref jal, .ref jah, .int jk, .int jn])), (jat, aJ g 8 jT), (jab, aJ g 8 jB), (jar, aJ g 8 jR), (xat, aJ g 8 xT), (xab, aJ g 8 xB), (xar, aJ g 8 xR)]) (w2 := [(zd, .inr (4, [.ref rg, .ref js, .ref fe, .ref c1, .ref c2, .ref pg, .ref zl, .ref zh, .ref ds])), (rg, aQ g 8 cRg), (ds, .inr (0, [.ref dat, .ref dab, .ref dar, .ref dal, .ref dah, .int dk, .int dn])), (dat, aJ g 8 dT), (dab, aJ g 8 dB), (dar, aJ g 8 dR), (js, .inr (0, [.ref jat, .ref jab, .ref jar, .ref jal, .ref jah, .int jk, .int jn])), (jat, aJ g 8 jT), (jab, aJ g 8 jB), (jar, aJ g 8 jR), (xat, aJ g 8 xT), (xab, aJ g 8 xB), (xar, aJ g 8 xR), (xs, .inr (0, [.ref xat, .ref xab, .ref xar, .ref xal, .ref xah, .int xk, .int xn]))]) (sd_runV (rest := []) (As := []) S (ct_Sum_count l D g xs xat xab xar xal xah (H.size) xk xn F (r_3) hc) kl_Desk_106 (by decide) (by decide) hK hP hD [10] rfl (by decide) rfl hl d_Desk_divide_29 rfl (Nat.le_of_ble_eq_true rfl) ⟨Nat.zero_le _, Nat.zero_le _⟩ 10 rfl rfl) hP hD hS hA [10] [0, 1, 2, 3, 4, 5, 6, 7, 8, 9, 11, 12, 13] rfl rfl (by decide) (by decide) rfl (fun H locs hP hD hS => ?_)
        refine W.eq (g2 := F0 m 32 ls [.int r_3]) rfl ?_
        refine lv_iconst (v := (1 : Int32)) hx hb d_Desk_divide_32 (by decide) ?_
        refine lv_icmp_eq (tgt := 39) hx hb d_Desk_divide_33 (by decide) (fun hc => ?_) (fun hc => ?_)
        · have hm := sd_mt hc hm
          refine lv_aload_n hx hb d_Desk_divide_39 rfl (lv_at hl 0 rfl) ?_
          refine va_get (D := D) (ci := 4) (v := .ref js) (C := R_Desk) (T := F_Desk) (N := 9) hx hb htt i_Desk hown hK hP 0 rfl rfl 1 (by decide) (htt _ kf_Desk_16) (fun _ h9 => h9) rfl d_Desk_divide_40 ?_
          refine lv_aload_n hx hb d_Desk_divide_43 rfl (lv_at hl 0 rfl) ?_
          refine va_get (D := D) (ci := 4) (v := .ref rg) (C := R_Desk) (T := F_Desk) (N := 9) hx hb htt i_Desk hown hK hP 0 rfl rfl 0 (by decide) (htt _ kf_Desk_11) (fun _ h9 => h9) rfl d_Desk_divide_44 ?_
          refine lv_iload_n hx hb d_Desk_divide_47 rfl (lv_at hl 3 rfl) ?_
          obtain ⟨h_2, hm⟩ := sd_mg hm
          refine sd_aald hx hb hK hP 1 rfl h_2 d_Desk_divide_48 ?_
          refine sd_topq (hJ h_2) ?_
          obtain ⟨r_4, ujs, ujs_1, ujat, ujab, ujar, hc, hm⟩ := sd_mb6 hm
          refine sd_ci1 (wr := [(zd, .inr (4, [.ref rg, .ref js, .ref fe, .ref c1, .ref c2, .ref pg, .ref zl, .ref zh, .ref ds])), (rg, aQ g 8 cRg), (ds, .inr (0, [.ref dat, .ref dab, .ref dar, .ref dal, .ref dah, .int dk, .int dn])), (dat, aJ g 8 dT), (dab, aJ g 8 dB), (dar, aJ g 8 dR)]) (w2 := [(zd, .inr (4, [.ref rg, .ref js, .ref fe, .ref c1, .ref c2, .ref pg, .ref zl, .ref zh, .ref ds])), (rg, aQ g 8 cRg), (ds, .inr (0, [.ref dat, .ref dab, .ref dar, .ref dal, .ref dah, .int dk, .int dn])), (dat, aJ g 8 dT), (dab, aJ g 8 dB), (dar, aJ g 8 dR), (js, .inr (0, [.ref jat, .ref jab, .ref jar, .ref jal, .ref jah, .int ujs, .int ujs_1])), (jat, aJ g 8 ujat), (jab, aJ g 8 ujab), (jar, aJ g 8 ujar), (xs, .inr (0, [.ref xat, .ref xab, .ref xar, .ref xal, .ref xah, .int xk, .int xn])), (xat, aJ g 8 xT), (xab, aJ g 8 xB), (xar, aJ g 8 xR)]) (sd_runV (rest := []) (As := [.ref xs]) S (ct_Sum_becomeInverse l D g js jat jab jar jal jah xs xat xab xar xal xah (H.size) jk jn jT jB jR xk xn xT xB xR F (r_4, ujs, ujs_1, ujat, ujab, ujar) hc) kl_Desk_110 (by decide) (by decide) hK hP hD [6, 7, 8, 9, 13, 10, 11, 12] rfl (by decide) rfl hl d_Desk_divide_49 rfl (Nat.le_of_ble_eq_true rfl) ⟨Nat.zero_le _, Nat.zero_le _⟩ 6 rfl rfl) hP hD hS hA [6, 7, 8, 9, 13, 10, 11, 12] [0, 1, 2, 3, 4, 5] rfl rfl (by decide) (by decide) rfl (fun H locs hP hD hS => ?_)
          refine W.eq (g2 := F0 m 52 ls [.int r_4]) rfl ?_
          obtain ⟨y, uds, uds_1, udat, udab, udar, hv, hm⟩ := sd_mb6 hm
          have J80_3 : ∀ (H : Heap) (locs : List Loc) (ls : Array Slot), va_P D classes [(zd, .inr (4, [.ref rg, .ref js, .ref fe, .ref c1, .ref c2, .ref pg, .ref zl, .ref zh, .ref ds])), (rg, aQ g 8 cRg), (ds, .inr (0, [.ref dat, .ref dab, .ref dar, .ref dal, .ref dah, .int uds, .int uds_1])), (dat, aJ g 8 udat), (dab, aJ g 8 udab), (dar, aJ g 8 udar), (js, .inr (0, [.ref jat, .ref jab, .ref jar, .ref jal, .ref jah, .int ujs, .int ujs_1])), (jat, aJ g 8 ujat), (jab, aJ g 8 ujab), (jar, aJ g 8 ujar), (xs, .inr (0, [.ref xat, .ref xab, .ref xar, .ref xal, .ref xah, .int xk, .int xn])), (xat, aJ g 8 xT), (xab, aJ g 8 xB), (xar, aJ g 8 xR)] H → va_D A [(zd, .inr (4, [.ref rg, .ref js, .ref fe, .ref c1, .ref c2, .ref pg, .ref zl, .ref zh, .ref ds])), (rg, aQ g 8 cRg), (ds, .inr (0, [.ref dat, .ref dab, .ref dar, .ref dal, .ref dah, .int uds, .int uds_1])), (dat, aJ g 8 udat), (dab, aJ g 8 udab), (dar, aJ g 8 udar), (js, .inr (0, [.ref jat, .ref jab, .ref jar, .ref jal, .ref jah, .int ujs, .int ujs_1])), (jat, aJ g 8 ujat), (jab, aJ g 8 ujab), (jar, aJ g 8 ujar), (xs, .inr (0, [.ref xat, .ref xab, .ref xar, .ref xal, .ref xah, .int xk, .int xn])), (xat, aJ g 8 xT), (xab, aJ g 8 xB), (xar, aJ g 8 xR)] → va_S A s.heap H locs → lv_has ls 5 [(0, .ref zd), (1, .int vK)] → W p l e rm_Desk_divide2 s m args below meth c H locs 0 0 Q (F0 m 80 ls [.int y]) := by
            intro H locs ls hP hD hS hl
            refine lv_istore (lv' := [(4, .int y), (0, .ref zd), (1, .int vK)]) hx hb d_Desk_divide_80 hl (by decide) rfl (fun ls hl => ?_)
            refine lv_iload hx hb d_Desk_divide_82 (lv_at hl 0 rfl) ?_
            obtain ⟨y_1, uzd, urg, hv, hm⟩ := sd_mb3 hm
            have J97_5 : ∀ (H : Heap) (locs : List Loc) (ls : Array Slot), va_P D classes [(zd, .inr (4, [.ref rg, .ref js, .ref fe, .ref c1, .ref c2, .ref pg, .ref zl, .ref zh, .ref uzd])), (rg, aQ g 8 urg), (ds, .inr (0, [.ref dat, .ref dab, .ref dar, .ref dal, .ref dah, .int uds, .int uds_1])), (dat, aJ g 8 udat), (dab, aJ g 8 udab), (dar, aJ g 8 udar), (js, .inr (0, [.ref jat, .ref jab, .ref jar, .ref jal, .ref jah, .int ujs, .int ujs_1])), (jat, aJ g 8 ujat), (jab, aJ g 8 ujab), (jar, aJ g 8 ujar), (xs, .inr (0, [.ref xat, .ref xab, .ref xar, .ref xal, .ref xah, .int xk, .int xn])), (xat, aJ g 8 xT), (xab, aJ g 8 xB), (xar, aJ g 8 xR)] H → va_D A [(zd, .inr (4, [.ref rg, .ref js, .ref fe, .ref c1, .ref c2, .ref pg, .ref zl, .ref zh, .ref uzd])), (rg, aQ g 8 urg), (ds, .inr (0, [.ref dat, .ref dab, .ref dar, .ref dal, .ref dah, .int uds, .int uds_1])), (dat, aJ g 8 udat), (dab, aJ g 8 udab), (dar, aJ g 8 udar), (js, .inr (0, [.ref jat, .ref jab, .ref jar, .ref jal, .ref jah, .int ujs, .int ujs_1])), (jat, aJ g 8 ujat), (jab, aJ g 8 ujab), (jar, aJ g 8 ujar), (xs, .inr (0, [.ref xat, .ref xab, .ref xar, .ref xal, .ref xah, .int xk, .int xn])), (xat, aJ g 8 xT), (xab, aJ g 8 xB), (xar, aJ g 8 xR)] → va_S A s.heap H locs → lv_has ls 5 [] → W p l e rm_Desk_divide2 s m args below meth c H locs 0 0 Q (F0 m 97 ls [.int y_1]) := by
              intro H locs ls hP hD hS hl
              exact sd_i1ret (u := (uzd, urg, uds, uds_1, udat, udab, udar, ujs, ujs_1, ujat, ujab, ujar)) hQ hx hb hr hlk hK (hP.sub [0, 1, 2, 3, 4, 5, 6, 7, 8, 9, 10, 11, 12, 13] rfl) (hD.sub [0, 1, 2, 3, 4, 5, 6, 7, 8, 9, 10, 11, 12, 13] (by decide) rfl) hS (Option.some.inj hm).symm d_Desk_divide_97
            replace hm := hv
            refine lv_if_eq (tgt := 95) hx hb d_Desk_divide_84 (by decide) (fun hc => ?_) (fun hc => ?_)
            · have hm := sd_mt hc hm
              refine lv_bipush (v := (-3 : Int32)) hx hb d_Desk_divide_95 (by decide) ?_
              cases hm
              exact J97_5 H locs ls (hP.sub [0, 1, 2, 3, 4, 5, 6, 7, 8, 9, 10, 11, 12, 13] rfl) (hD.sub [0, 1, 2, 3, 4, 5, 6, 7, 8, 9, 10, 11, 12, 13] (by decide) rfl) hS (lv_sub hl [] rfl)
            · have hm := sd_mf hc hm
              refine lv_aload_n hx hb d_Desk_divide_87 rfl (lv_at hl 1 rfl) ?_
              refine lv_iload_n hx hb d_Desk_divide_88 rfl (lv_at hl 2 rfl) ?_
              obtain ⟨r_6, uzd_1, urg_1, hc, hm⟩ := sd_mb3 hm
              refine sd_ci1 (wr := [(dat, aJ g 8 udat), (dab, aJ g 8 udab), (dar, aJ g 8 udar), (js, .inr (0, [.ref jat, .ref jab, .ref jar, .ref jal, .ref jah, .int ujs, .int ujs_1])), (jat, aJ g 8 ujat), (jab, aJ g 8 ujab), (jar, aJ g 8 ujar), (xs, .inr (0, [.ref xat, .ref xab, .ref xar, .ref xal, .ref xah, .int xk, .int xn])), (xat, aJ g 8 xT), (xab, aJ g 8 xB), (xar, aJ g 8 xR)]) (w2 := [(dat, aJ g 8 udat), (dab, aJ g 8 udab), (dar, aJ g 8 udar), (js, .inr (0, [.ref jat, .ref jab, .ref jar, .ref jal, .ref jah, .int ujs, .int ujs_1])), (jat, aJ g 8 ujat), (jab, aJ g 8 ujab), (jar, aJ g 8 ujar), (xs, .inr (0, [.ref xat, .ref xab, .ref xar, .ref xal, .ref xah, .int xk, .int xn])), (xat, aJ g 8 xT), (xab, aJ g 8 xB), (xar, aJ g 8 xR), (zd, .inr (4, [.ref rg, .ref js, .ref fe, .ref c1, .ref c2, .ref pg, .ref zl, .ref zh, .ref uzd_1])), (rg, aQ g 8 urg_1), (ds, .inr (0, [.ref dat, .ref dab, .ref dar, .ref dal, .ref dah, .int uds, .int uds_1]))]) (sd_runV (rest := []) (As := [.int vK]) S (ct_Desk_keepDraft l D g zd rg js fe c1 c2 pg zl zh ds dat dab dar dal dah os (H.size) vK cRg uds uds_1 F (r_6, uzd_1, urg_1) hc hKk) kl_Desk_102 (by decide) (by decide) hK hP hD [0, 1, 2] rfl (by decide) rfl hl d_Desk_divide_89 rfl (Nat.le_of_ble_eq_true rfl) ⟨Nat.zero_le _, Nat.zero_le _⟩ 0 rfl rfl) hP hD hS hA [0, 1, 2] [3, 4, 5, 6, 7, 8, 9, 10, 11, 12, 13] rfl rfl (by decide) (by decide) rfl (fun H locs hP hD hS => ?_)
              refine W.eq (g2 := F0 m 92 ls [.int r_6]) rfl ?_
              refine lv_goto (tgt := 97) hx hb d_Desk_divide_92 (by decide) ?_
              cases hm
              exact J97_5 H locs ls (hP.sub [11, 12, 13, 0, 1, 2, 3, 4, 5, 6, 7, 8, 9, 10] rfl) (hD.sub [11, 12, 13, 0, 1, 2, 3, 4, 5, 6, 7, 8, 9, 10] (by decide) rfl) hS (lv_sub hl [] rfl)
          replace hm := hv
          refine lv_if_eq (tgt := 79) hx hb d_Desk_divide_52 (by decide) (fun hc => ?_) (fun hc => ?_)
          · have hm := sd_mt hc hm
            refine lv_iconst (v := (0 : Int32)) hx hb d_Desk_divide_79 (by decide) ?_
            cases hm
            exact J80_3 H locs ls (hP.sub [0, 1, 2, 3, 4, 5, 6, 7, 8, 9, 10, 11, 12, 13] rfl) (hD.sub [0, 1, 2, 3, 4, 5, 6, 7, 8, 9, 10, 11, 12, 13] (by decide) rfl) hS (lv_sub hl [0, 1] rfl)
          · have hm := sd_mf hc hm
            refine lv_aload_n hx hb d_Desk_divide_55 rfl (lv_at hl 0 rfl) ?_
            refine va_get (D := D) (ci := 4) (v := .ref ds) (C := R_Desk) (T := F_Desk) (N := 9) hx hb htt i_Desk hown hK hP 0 rfl rfl 8 (by decide) (htt _ kf_Desk_53) (fun _ h9 => h9) rfl d_Desk_divide_56 ?_
            refine lv_aload_n hx hb d_Desk_divide_59 rfl (lv_at hl 0 rfl) ?_
            refine va_get (D := D) (ci := 4) (v := .ref rg) (C := R_Desk) (T := F_Desk) (N := 9) hx hb htt i_Desk hown hK hP 0 rfl rfl 0 (by decide) (htt _ kf_Desk_11) (fun _ h9 => h9) rfl d_Desk_divide_60 ?_
            refine lv_iload_n hx hb d_Desk_divide_63 rfl (lv_at hl 2 rfl) ?_
            obtain ⟨h_4, hm⟩ := sd_mg hm
            refine sd_aald hx hb hK hP 1 rfl h_4 d_Desk_divide_64 ?_
            refine sd_topq (hI h_4) ?_
            refine lv_aload_n hx hb d_Desk_divide_65 rfl (lv_at hl 0 rfl) ?_
            refine va_get (D := D) (ci := 4) (v := .ref js) (C := R_Desk) (T := F_Desk) (N := 9) hx hb htt i_Desk hown hK hP 0 rfl rfl 1 (by decide) (htt _ kf_Desk_16) (fun _ h9 => h9) rfl d_Desk_divide_66 ?_
            obtain ⟨r_5, uds_2, uds_3, udat_1, udab_1, udar_1, hc, hm⟩ := sd_mb6 hm
            refine sd_ci1 (wr := [(zd, .inr (4, [.ref rg, .ref js, .ref fe, .ref c1, .ref c2, .ref pg, .ref zl, .ref zh, .ref ds])), (rg, aQ g 8 cRg)]) (w2 := [(zd, .inr (4, [.ref rg, .ref js, .ref fe, .ref c1, .ref c2, .ref pg, .ref zl, .ref zh, .ref ds])), (rg, aQ g 8 cRg), (ds, .inr (0, [.ref dat, .ref dab, .ref dar, .ref dal, .ref dah, .int uds_2, .int uds_3])), (dat, aJ g 8 udat_1), (dab, aJ g 8 udab_1), (dar, aJ g 8 udar_1), (xs, .inr (0, [.ref xat, .ref xab, .ref xar, .ref xal, .ref xah, .int xk, .int xn])), (xat, aJ g 8 xT), (xab, aJ g 8 xB), (xar, aJ g 8 xR), (js, .inr (0, [.ref jat, .ref jab, .ref jar, .ref jal, .ref jah, .int ujs, .int ujs_1])), (jat, aJ g 8 ujat), (jab, aJ g 8 ujab), (jar, aJ g 8 ujar)]) (sd_runV (rest := []) (As := [.ref xs, .ref js]) S (ct_Sum_becomeProducts l D g ds dat dab dar dal dah xs xat xab xar xal xah js jat jab jar jal jah (H.size) dk dn dT dB dR xk xn xT xB xR ujs ujs_1 ujat ujab ujar F (r_5, uds_2, uds_3, udat_1, udab_1, udar_1) hc) kl_Desk_94 (by decide) (by decide) hK hP hD [2, 3, 4, 5, 10, 11, 12, 13, 6, 7, 8, 9] rfl (by decide) rfl hl d_Desk_divide_69 rfl (Nat.le_of_ble_eq_true rfl) ⟨Nat.zero_le _, Nat.zero_le _⟩ 2 rfl rfl) hP hD hS hA [2, 3, 4, 5, 10, 11, 12, 13, 6, 7, 8, 9] [0, 1] rfl rfl (by decide) (by decide) rfl (fun H locs hP hD hS => ?_)
            refine W.eq (g2 := F0 m 72 ls [.int r_5]) rfl ?_
            refine lv_if_eq (tgt := 79) hx hb d_Desk_divide_72 (by decide) (fun hc => ?_) (fun hc => ?_)
            · have hm := sd_mt hc hm
              refine lv_iconst (v := (0 : Int32)) hx hb d_Desk_divide_79 (by decide) ?_
              cases hm
              exact J80_3 H locs ls (hP.sub [0, 1, 2, 3, 4, 5, 10, 11, 12, 13, 6, 7, 8, 9] rfl) (hD.sub [0, 1, 2, 3, 4, 5, 10, 11, 12, 13, 6, 7, 8, 9] (by decide) rfl) hS (lv_sub hl [0, 1] rfl)
            · have hm := sd_mf hc hm
              refine lv_iconst (v := (1 : Int32)) hx hb d_Desk_divide_75 (by decide) ?_
              refine lv_goto (tgt := 80) hx hb d_Desk_divide_76 (by decide) ?_
              cases hm
              exact J80_3 H locs ls (hP.sub [0, 1, 2, 3, 4, 5, 10, 11, 12, 13, 6, 7, 8, 9] rfl) (hD.sub [0, 1, 2, 3, 4, 5, 10, 11, 12, 13, 6, 7, 8, 9] (by decide) rfl) hS (lv_sub hl [0, 1] rfl)
        · have hm := sd_mf hc hm
          refine lv_bipush (v := (-2 : Int32)) hx hb d_Desk_divide_36 (by decide) ?_
          exact sd_i1ret (u := (ds, cRg, dk, dn, dT, dB, dR, jk, jn, jT, jB, jR)) hQ hx hb hr hlk hK (hP.sub [0, 1, 2, 3, 4, 5, 6, 7, 8, 9, 13, 10, 11, 12] rfl) (hD.sub [0, 1, 2, 3, 4, 5, 6, 7, 8, 9, 13, 10, 11, 12] (by decide) rfl) hS (Option.some.inj hm).symm d_Desk_divide_38
      · have hm := sd_mt hc hm
        refine lv_iconst (v := (-1 : Int32)) hx hb d_Desk_divide_21 (by decide) ?_
        exact sd_i1ret (u := (ds, cRg, dk, dn, dT, dB, dR, jk, jn, jT, jB, jR)) hQ hx hb hr hlk hK (hP.sub [0, 1, 2, 3, 4, 5, 6, 7, 8, 9, 10, 11, 12, 13] rfl) (hD.sub [0, 1, 2, 3, 4, 5, 6, 7, 8, 9, 10, 11, 12, 13] (by decide) rfl) hS (Option.some.inj hm).symm d_Desk_divide_22
