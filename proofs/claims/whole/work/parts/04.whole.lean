/-! Whole_isTooGreat, Whole_belowZero, Whole_commonDivisor, Whole_wholeRoot, Whole_sideOfGreatestSquare, Math_floorDiv, Math_floorMod, Integer_nlz, Long_nlz -/
theorem kl_Long_308 : sd_LS R_Long 308 y_Integer_nlz b_Integer_nlz 2 (some .int) 1 := ⟨(sd_in (List.mem_of_getElem? (i := 717) (by decide +kernel)) rfl), (sd_in (List.mem_of_getElem? (i := 718) (by decide +kernel)) rfl), (sd_in (List.mem_of_getElem? (i := 48) (by decide +kernel)) rfl), (sd_in (List.mem_of_getElem? (i := 719) (by decide +kernel)) rfl), by decide +kernel, by decide +kernel, by decide +kernel⟩
theorem kl_Whole_11 : sd_LS R_Whole 11 y_Whole_belowZero b_Whole_belowZero 2 (some .long) 1 := ⟨(sd_in (List.mem_of_getElem? (i := 198) (by decide +kernel)) rfl), (sd_in (List.mem_of_getElem? (i := 199) (by decide +kernel)) rfl), (sd_in (List.mem_of_getElem? (i := 41) (by decide +kernel)) rfl), (sd_in (List.mem_of_getElem? (i := 200) (by decide +kernel)) rfl), by decide +kernel, by decide +kernel, by decide +kernel⟩
theorem kl_Whole_17 : sd_LS R_Whole 17 y_Whole_wholeRoot b_Whole_wholeRoot 6 (some .long) 1 := ⟨(sd_in (List.mem_of_getElem? (i := 239) (by decide +kernel)) rfl), (sd_in (List.mem_of_getElem? (i := 240) (by decide +kernel)) rfl), (sd_in (List.mem_of_getElem? (i := 41) (by decide +kernel)) rfl), (sd_in (List.mem_of_getElem? (i := 241) (by decide +kernel)) rfl), by decide +kernel, by decide +kernel, by decide +kernel⟩
theorem km_Integer_264 : Cond.constant R_Integer 264 (65536 : Int32) ∈ sd_tb := (sd_in (List.mem_of_getElem? (i := 720) (by decide +kernel)) rfl)
theorem km_Whole_15 : Cond.constantLong R_Whole 15 (2 : Int64) ∈ sd_tb := (sd_in (List.mem_of_getElem? (i := 238) (by decide +kernel)) rfl)
theorem km_Whole_20 : Cond.constantLong R_Whole 20 (8192 : Int64) ∈ sd_tb := (sd_in (List.mem_of_getElem? (i := 242) (by decide +kernel)) rfl)
theorem km_Whole_9 : Cond.constantLong R_Whole 9 (1000000000 : Int64) ∈ sd_tb := (sd_in (List.mem_of_getElem? (i := 205) (by decide +kernel)) rfl)
theorem d_Whole_isTooGreat_0 : decode b_Whole_isTooGreat 0 = .ok (.lload_n 0, 1) := by decide +kernel
theorem d_Whole_isTooGreat_1 : decode b_Whole_isTooGreat 1 = .ok (.lconst 0, 1) := by decide +kernel
theorem d_Whole_isTooGreat_2 : decode b_Whole_isTooGreat 2 = .ok (.lcmp, 1) := by decide +kernel
theorem d_Whole_isTooGreat_3 : decode b_Whole_isTooGreat 3 = .ok (.ifCond .lt 11, 3) := by decide +kernel
theorem d_Whole_isTooGreat_6 : decode b_Whole_isTooGreat 6 = .ok (.lload_n 0, 1) := by decide +kernel
theorem d_Whole_isTooGreat_7 : decode b_Whole_isTooGreat 7 = .ok (.ldc2_w 9, 3) := by decide +kernel
theorem d_Whole_isTooGreat_10 : decode b_Whole_isTooGreat 10 = .ok (.lcmp, 1) := by decide +kernel
theorem d_Whole_isTooGreat_11 : decode b_Whole_isTooGreat 11 = .ok (.ifCond .le 7, 3) := by decide +kernel
theorem d_Whole_isTooGreat_14 : decode b_Whole_isTooGreat 14 = .ok (.iconst 1, 1) := by decide +kernel
theorem d_Whole_isTooGreat_15 : decode b_Whole_isTooGreat 15 = .ok (.goto 4, 3) := by decide +kernel
theorem d_Whole_isTooGreat_18 : decode b_Whole_isTooGreat 18 = .ok (.iconst 0, 1) := by decide +kernel
theorem d_Whole_isTooGreat_19 : decode b_Whole_isTooGreat 19 = .ok (.ireturn, 1) := by decide +kernel
def mf_Whole_isTooGreat (F : Nat) (vA : Int64) : Option (Int32) :=
  (sd_b1 (if vA < (0 : Int64) then (some ((1 : Int32))) else (if vA ≤ (1000000000 : Int64) then (some ((0 : Int32))) else (some ((1 : Int32))))) fun y => (sd_g (sd_b01 y) (some (y))))
abbrev rm_Whole_isTooGreat : Room := { frames := 0, cells := 0, slots := 0, locals := 0 }
set_option maxHeartbeats 4000000 in
set_option maxRecDepth 100000 in
theorem ct_Whole_isTooGreat (l : Launch) (D : va_G) (g : G4) (sz : Nat) (vA : Int64) (F : Nat) (res : Int32) (hm : mf_Whole_isTooGreat F vA = some res) : Met l y_Whole_isTooGreat (.code y_Whole_isTooGreat b_Whole_isTooGreat 2 (some .boolean) :: sd_tb) rm_Whole_isTooGreat (sd_PW D g [.long vA] sz []) (sd_Qi0 D g res [] (va_A [] sz)) 0 0 (va_A [] sz) := by
  refine sd_met (Qf := fun A => sd_Qi0 D g res [] A) (own := R_Whole) (by decide +kernel) rfl (Nat.le_of_ble_eq_true rfl) ?_
  intro p e s m args below meth c S hr hlk hK A hA Q hQ H locs hP hD hS ls hl
  have hx := S.1
  have hb := S.2.1
  have hml := S.2.2.1
  have hown := S.2.2.2.1
  have htt := sd_tt S
  replace hl : lv_has ls 2 [(0, .long vA)] := hl
  unfold mf_Whole_isTooGreat at hm
  refine lv_lload_n hx hb d_Whole_isTooGreat_0 rfl (lv_at hl 0 rfl) ?_
  refine lv_lconst (v := (0 : Int64)) hx hb d_Whole_isTooGreat_1 (by decide) ?_
  obtain ⟨y, hv, hm⟩ := sd_mb1 hm
  have J19_1 : ∀ (H : Heap) (locs : List Loc) (ls : Array Slot), va_P D classes [] H → va_D A [] → va_S A s.heap H locs → lv_has ls 2 [] → W p l e rm_Whole_isTooGreat s m args below meth c H locs 0 0 Q (F0 m 19 ls [.int y]) := by
    intro H locs ls hP hD hS hl
    obtain ⟨h_2, hm⟩ := sd_mg hm
    exact sd_z0ret hQ hx hb hr hlk (sd_zb h_2) hK (hP.sub [] rfl) (hD.sub [] (by decide) rfl) hS (Option.some.inj hm).symm d_Whole_isTooGreat_19
  replace hm := hv
  refine sd_llt (tgt := 14) hx hb d_Whole_isTooGreat_2 d_Whole_isTooGreat_3 (by decide) (fun hc => ?_) (fun hc => ?_)
  · have hm := sd_mt hc hm
    refine lv_iconst (v := (1 : Int32)) hx hb d_Whole_isTooGreat_14 (by decide) ?_
    refine lv_goto (tgt := 19) hx hb d_Whole_isTooGreat_15 (by decide) ?_
    cases hm
    exact J19_1 H locs ls (hP.sub [] rfl) (hD.sub [] (by decide) rfl) hS (lv_sub hl [] rfl)
  · have hm := sd_mf hc hm
    refine lv_lload_n hx hb d_Whole_isTooGreat_6 rfl (lv_at hl 0 rfl) ?_
    refine sd_ldc2 (v := (1000000000 : Int64)) hx hb hown (htt _ km_Whole_9) d_Whole_isTooGreat_7 ?_
    refine sd_lle (tgt := 18) hx hb d_Whole_isTooGreat_10 d_Whole_isTooGreat_11 (by decide) (fun hc => ?_) (fun hc => ?_)
    · have hm := sd_mt hc hm
      refine lv_iconst (v := (0 : Int32)) hx hb d_Whole_isTooGreat_18 (by decide) ?_
      cases hm
      exact J19_1 H locs ls (hP.sub [] rfl) (hD.sub [] (by decide) rfl) hS (lv_sub hl [] rfl)
    · have hm := sd_mf hc hm
      refine lv_iconst (v := (1 : Int32)) hx hb d_Whole_isTooGreat_14 (by decide) ?_
      refine lv_goto (tgt := 19) hx hb d_Whole_isTooGreat_15 (by decide) ?_
      cases hm
      exact J19_1 H locs ls (hP.sub [] rfl) (hD.sub [] (by decide) rfl) hS (lv_sub hl [] rfl)
theorem d_Whole_belowZero_0 : decode b_Whole_belowZero 0 = .ok (.lload_n 0, 1) := by decide +kernel
theorem d_Whole_belowZero_1 : decode b_Whole_belowZero 1 = .ok (.lconst 0, 1) := by decide +kernel
theorem d_Whole_belowZero_2 : decode b_Whole_belowZero 2 = .ok (.lcmp, 1) := by decide +kernel
theorem d_Whole_belowZero_3 : decode b_Whole_belowZero 3 = .ok (.ifCond .le 8, 3) := by decide +kernel
theorem d_Whole_belowZero_6 : decode b_Whole_belowZero 6 = .ok (.lload_n 0, 1) := by decide +kernel
theorem d_Whole_belowZero_7 : decode b_Whole_belowZero 7 = .ok (.lneg, 1) := by decide +kernel
theorem d_Whole_belowZero_8 : decode b_Whole_belowZero 8 = .ok (.goto 4, 3) := by decide +kernel
theorem d_Whole_belowZero_11 : decode b_Whole_belowZero 11 = .ok (.lload_n 0, 1) := by decide +kernel
theorem d_Whole_belowZero_12 : decode b_Whole_belowZero 12 = .ok (.lreturn, 1) := by decide +kernel
def mf_Whole_belowZero (F : Nat) (vA : Int64) : Option (Int64) :=
  (sd_b1 (if vA ≤ (0 : Int64) then (some (vA)) else (some ((-vA)))) fun y => (some (y)))
abbrev rm_Whole_belowZero : Room := { frames := 0, cells := 0, slots := 0, locals := 0 }
set_option maxHeartbeats 4000000 in
set_option maxRecDepth 100000 in
theorem ct_Whole_belowZero (l : Launch) (D : va_G) (g : G4) (sz : Nat) (vA : Int64) (F : Nat) (res : Int64) (hm : mf_Whole_belowZero F vA = some res) : Met l y_Whole_belowZero (.code y_Whole_belowZero b_Whole_belowZero 2 (some .long) :: sd_tb) rm_Whole_belowZero (sd_PW D g [.long vA] sz []) (sd_Ql0 D g res [] (va_A [] sz)) 0 0 (va_A [] sz) := by
  refine sd_met (Qf := fun A => sd_Ql0 D g res [] A) (own := R_Whole) (by decide +kernel) rfl (Nat.le_of_ble_eq_true rfl) ?_
  intro p e s m args below meth c S hr hlk hK A hA Q hQ H locs hP hD hS ls hl
  have hx := S.1
  have hb := S.2.1
  have hml := S.2.2.1
  have hown := S.2.2.2.1
  have htt := sd_tt S
  replace hl : lv_has ls 2 [(0, .long vA)] := hl
  unfold mf_Whole_belowZero at hm
  refine lv_lload_n hx hb d_Whole_belowZero_0 rfl (lv_at hl 0 rfl) ?_
  refine lv_lconst (v := (0 : Int64)) hx hb d_Whole_belowZero_1 (by decide) ?_
  obtain ⟨y, hv, hm⟩ := sd_mb1 hm
  have J12_1 : ∀ (H : Heap) (locs : List Loc) (ls : Array Slot), va_P D classes [] H → va_D A [] → va_S A s.heap H locs → lv_has ls 2 [] → W p l e rm_Whole_belowZero s m args below meth c H locs 0 0 Q (F0 m 12 ls [.long y]) := by
    intro H locs ls hP hD hS hl
    exact sd_l0ret hQ hx hb hr hlk hK (hP.sub [] rfl) (hD.sub [] (by decide) rfl) hS (Option.some.inj hm).symm d_Whole_belowZero_12
  replace hm := hv
  refine sd_lle (tgt := 11) hx hb d_Whole_belowZero_2 d_Whole_belowZero_3 (by decide) (fun hc => ?_) (fun hc => ?_)
  · have hm := sd_mt hc hm
    refine lv_lload_n hx hb d_Whole_belowZero_11 rfl (lv_at hl 0 rfl) ?_
    cases hm
    exact J12_1 H locs ls (hP.sub [] rfl) (hD.sub [] (by decide) rfl) hS (lv_sub hl [] rfl)
  · have hm := sd_mf hc hm
    refine lv_lload_n hx hb d_Whole_belowZero_6 rfl (lv_at hl 0 rfl) ?_
    refine lv_lneg hx hb d_Whole_belowZero_7 ?_
    refine lv_goto (tgt := 12) hx hb d_Whole_belowZero_8 (by decide) ?_
    cases hm
    exact J12_1 H locs ls (hP.sub [] rfl) (hD.sub [] (by decide) rfl) hS (lv_sub hl [] rfl)
theorem d_Whole_commonDivisor_0 : decode b_Whole_commonDivisor 0 = .ok (.lload_n 0, 1) := by decide +kernel
theorem d_Whole_commonDivisor_1 : decode b_Whole_commonDivisor 1 = .ok (.invokestatic 11, 3) := by decide +kernel
theorem d_Whole_commonDivisor_4 : decode b_Whole_commonDivisor 4 = .ok (.lstore 4, 2) := by decide +kernel
theorem d_Whole_commonDivisor_6 : decode b_Whole_commonDivisor 6 = .ok (.lload_n 2, 1) := by decide +kernel
theorem d_Whole_commonDivisor_7 : decode b_Whole_commonDivisor 7 = .ok (.invokestatic 11, 3) := by decide +kernel
theorem d_Whole_commonDivisor_10 : decode b_Whole_commonDivisor 10 = .ok (.lstore 6, 2) := by decide +kernel
theorem d_Whole_commonDivisor_12 : decode b_Whole_commonDivisor 12 = .ok (.iconst 0, 1) := by decide +kernel
theorem d_Whole_commonDivisor_13 : decode b_Whole_commonDivisor 13 = .ok (.istore 8, 2) := by decide +kernel
theorem d_Whole_commonDivisor_15 : decode b_Whole_commonDivisor 15 = .ok (.iload 8, 2) := by decide +kernel
theorem d_Whole_commonDivisor_17 : decode b_Whole_commonDivisor 17 = .ok (.sipush 200, 3) := by decide +kernel
theorem d_Whole_commonDivisor_20 : decode b_Whole_commonDivisor 20 = .ok (.if_icmp .ge 31, 3) := by decide +kernel
theorem d_Whole_commonDivisor_23 : decode b_Whole_commonDivisor 23 = .ok (.lload 6, 2) := by decide +kernel
theorem d_Whole_commonDivisor_25 : decode b_Whole_commonDivisor 25 = .ok (.lconst 0, 1) := by decide +kernel
theorem d_Whole_commonDivisor_26 : decode b_Whole_commonDivisor 26 = .ok (.lcmp, 1) := by decide +kernel
theorem d_Whole_commonDivisor_27 : decode b_Whole_commonDivisor 27 = .ok (.ifCond .eq 24, 3) := by decide +kernel
theorem d_Whole_commonDivisor_30 : decode b_Whole_commonDivisor 30 = .ok (.lload 4, 2) := by decide +kernel
theorem d_Whole_commonDivisor_32 : decode b_Whole_commonDivisor 32 = .ok (.lload 6, 2) := by decide +kernel
theorem d_Whole_commonDivisor_34 : decode b_Whole_commonDivisor 34 = .ok (.lrem, 1) := by decide +kernel
theorem d_Whole_commonDivisor_35 : decode b_Whole_commonDivisor 35 = .ok (.lstore 9, 2) := by decide +kernel
theorem d_Whole_commonDivisor_37 : decode b_Whole_commonDivisor 37 = .ok (.lload 6, 2) := by decide +kernel
theorem d_Whole_commonDivisor_39 : decode b_Whole_commonDivisor 39 = .ok (.lstore 4, 2) := by decide +kernel
theorem d_Whole_commonDivisor_41 : decode b_Whole_commonDivisor 41 = .ok (.lload 9, 2) := by decide +kernel
theorem d_Whole_commonDivisor_43 : decode b_Whole_commonDivisor 43 = .ok (.lstore 6, 2) := by decide +kernel
theorem d_Whole_commonDivisor_45 : decode b_Whole_commonDivisor 45 = .ok (.iinc 8 1, 3) := by decide +kernel
theorem d_Whole_commonDivisor_48 : decode b_Whole_commonDivisor 48 = .ok (.goto (-33), 3) := by decide +kernel
theorem d_Whole_commonDivisor_51 : decode b_Whole_commonDivisor 51 = .ok (.lload 4, 2) := by decide +kernel
theorem d_Whole_commonDivisor_53 : decode b_Whole_commonDivisor 53 = .ok (.lconst 0, 1) := by decide +kernel
theorem d_Whole_commonDivisor_54 : decode b_Whole_commonDivisor 54 = .ok (.lcmp, 1) := by decide +kernel
theorem d_Whole_commonDivisor_55 : decode b_Whole_commonDivisor 55 = .ok (.ifCond .ne 7, 3) := by decide +kernel
theorem d_Whole_commonDivisor_58 : decode b_Whole_commonDivisor 58 = .ok (.lconst 1, 1) := by decide +kernel
theorem d_Whole_commonDivisor_59 : decode b_Whole_commonDivisor 59 = .ok (.goto 6, 3) := by decide +kernel
theorem d_Whole_commonDivisor_62 : decode b_Whole_commonDivisor 62 = .ok (.lload 4, 2) := by decide +kernel
theorem d_Whole_commonDivisor_64 : decode b_Whole_commonDivisor 64 = .ok (.lneg, 1) := by decide +kernel
theorem d_Whole_commonDivisor_65 : decode b_Whole_commonDivisor 65 = .ok (.lreturn, 1) := by decide +kernel
def mf_Whole_commonDivisor_L15  : Nat → Int64 → Int64 → Int32 → Option (Int64)
  | 0, _, _, _ => none
  | fu + 1, x4, x6, x8 => (if (200 : Int32) ≤ x8 then (some (x4)) else (if x6 = (0 : Int64) then (some (x4)) else (sd_g (sd_zJ x6) (sd_let ((x4 - x4 / x6 * x6)) fun x9 => (sd_let (x8 + (1 : Int32)) fun x8_1 => ((mf_Whole_commonDivisor_L15  fu) x6 x9 x8_1))))))
def mf_Whole_commonDivisor (F : Nat) (vA : Int64) (vB : Int64) : Option (Int64) :=
  (sd_b1 (mf_Whole_belowZero F vA) fun r => (sd_b1 (mf_Whole_belowZero F vB) fun r_1 => (sd_b1 (mf_Whole_commonDivisor_L15  F r r_1 (0 : Int32)) fun rx4 => (sd_b1 (if rx4 = (0 : Int64) then (some ((1 : Int64))) else (some ((-rx4)))) fun y => (some (y))))))
abbrev rm_Whole_commonDivisor : Room := { frames := 1, cells := 0, slots := 0, locals := 21 }
set_option maxHeartbeats 4000000 in
set_option maxRecDepth 100000 in
theorem ct_Whole_commonDivisor (l : Launch) (D : va_G) (g : G4) (sz : Nat) (vA : Int64) (vB : Int64) (F : Nat) (res : Int64) (hm : mf_Whole_commonDivisor F vA vB = some res) : Met l y_Whole_commonDivisor (.code y_Whole_commonDivisor b_Whole_commonDivisor 11 (some .long) :: sd_tb) rm_Whole_commonDivisor (sd_PW D g [.long vA, .long vB] sz []) (sd_Ql0 D g res [] (va_A [] sz)) 0 0 (va_A [] sz) := by
  refine sd_met (Qf := fun A => sd_Ql0 D g res [] A) (own := R_Whole) (by decide +kernel) rfl (Nat.le_of_ble_eq_true rfl) ?_
  intro p e s m args below meth c S hr hlk hK A hA Q hQ H locs hP hD hS ls hl
  have hx := S.1
  have hb := S.2.1
  have hml := S.2.2.1
  have hown := S.2.2.2.1
  have htt := sd_tt S
  replace hl : lv_has ls 11 [(0, .long vA), (2, .long vB)] := hl
  unfold mf_Whole_commonDivisor at hm
  refine lv_lload_n hx hb d_Whole_commonDivisor_0 rfl (lv_at hl 0 rfl) ?_
  obtain ⟨r, hc, hm⟩ := sd_mb1 hm
  refine sd_cl0 (wr := []) (w2 := []) (sd_runS (rest := []) (As := [.long vA]) S (ct_Whole_belowZero l D g (H.size) vA F (r) hc) kl_Whole_11 (by decide) (by decide) hK hP hD [] rfl (by decide) rfl hl d_Whole_commonDivisor_1 rfl (Nat.le_of_ble_eq_true rfl) ⟨Nat.zero_le _, Nat.zero_le _⟩) hP hD hS hA [] [] rfl rfl (by decide) (by decide) rfl (fun H locs hP hD hS => ?_)
  refine W.eq (g2 := F0 m 4 ls [.long r]) rfl ?_
  refine lv_lstore (lv' := [(4, .long r), (0, .long vA), (2, .long vB)]) hx hb d_Whole_commonDivisor_4 hl (by decide) rfl (fun ls hl => ?_)
  refine lv_lload_n hx hb d_Whole_commonDivisor_6 rfl (lv_at hl 2 rfl) ?_
  obtain ⟨r_1, hc, hm⟩ := sd_mb1 hm
  refine sd_cl0 (wr := []) (w2 := []) (sd_runS (rest := []) (As := [.long vB]) S (ct_Whole_belowZero l D g (H.size) vB F (r_1) hc) kl_Whole_11 (by decide) (by decide) hK hP hD [] rfl (by decide) rfl hl d_Whole_commonDivisor_7 rfl (Nat.le_of_ble_eq_true rfl) ⟨Nat.zero_le _, Nat.zero_le _⟩) hP hD hS hA [] [] rfl rfl (by decide) (by decide) rfl (fun H locs hP hD hS => ?_)
  refine W.eq (g2 := F0 m 10 ls [.long r_1]) rfl ?_
  refine lv_lstore (lv' := [(6, .long r_1), (4, .long r), (0, .long vA), (2, .long vB)]) hx hb d_Whole_commonDivisor_10 hl (by decide) rfl (fun ls hl => ?_)
  refine lv_iconst (v := (0 : Int32)) hx hb d_Whole_commonDivisor_12 (by decide) ?_
  refine lv_istore (lv' := [(8, .int (0 : Int32)), (6, .long r_1), (4, .long r), (0, .long vA), (2, .long vB)]) hx hb d_Whole_commonDivisor_13 hl (by decide) rfl (fun ls hl => ?_)
  have L15 : ∀ (fu : Nat) (x4 : Int64) (x6 : Int64) (x8 : Int32) (rx4 : Int64), mf_Whole_commonDivisor_L15  fu x4 x6 x8 = some (rx4) → ∀ (H : Heap) (locs : List Loc) (ls : Array Slot), va_P D classes [] H → va_D A [] → va_S A s.heap H locs → lv_has ls 11 [(4, .long x4), (6, .long x6), (8, .int x8)] → (∀ (H : Heap) (locs : List Loc) (ls : Array Slot), va_P D classes [] H → va_D A [] → va_S A s.heap H locs → lv_has ls 11 [(4, .long rx4)] → W p l e rm_Whole_commonDivisor s m args below meth c H locs 0 0 Q (F0 m 51 ls [])) → W p l e rm_Whole_commonDivisor s m args below meth c H locs 0 0 Q (F0 m 15 ls []) := by
    intro fu
    induction fu with
    | zero => intro x4 x6 x8 rx4 hm; exact absurd (show (none : Option (Int64)) = some (rx4) from hm) (fun h => nomatch h)
    | succ fu ih =>
      intro x4 x6 x8 rx4 hm H locs ls hP hD hS hl kx51
      rw [mf_Whole_commonDivisor_L15] at hm
      refine lv_iload hx hb d_Whole_commonDivisor_15 (lv_at hl 2 rfl) ?_
      refine lv_sipush (v := (200 : Int32)) hx hb d_Whole_commonDivisor_17 (by decide) ?_
      refine lv_icmp_ge (tgt := 51) hx hb d_Whole_commonDivisor_20 (by decide) (fun hc => ?_) (fun hc => ?_)
      · have hm := sd_mt hc hm
        cases hm
        exact kx51 H locs ls (hP.sub [] rfl) (hD.sub [] (by decide) rfl) hS (lv_sub hl [0] rfl)
      · have hm := sd_mf hc hm
        refine lv_lload hx hb d_Whole_commonDivisor_23 (lv_at hl 1 rfl) ?_
        refine lv_lconst (v := (0 : Int64)) hx hb d_Whole_commonDivisor_25 (by decide) ?_
        refine sd_leq (tgt := 51) hx hb d_Whole_commonDivisor_26 d_Whole_commonDivisor_27 (by decide) (fun hc => ?_) (fun hc => ?_)
        · have hm := sd_mt hc hm
          cases hm
          exact kx51 H locs ls (hP.sub [] rfl) (hD.sub [] (by decide) rfl) hS (lv_sub hl [0] rfl)
        · have hm := sd_mf hc hm
          refine lv_lload hx hb d_Whole_commonDivisor_30 (lv_at hl 0 rfl) ?_
          refine lv_lload hx hb d_Whole_commonDivisor_32 (lv_at hl 1 rfl) ?_
          obtain ⟨h_1, hm⟩ := sd_mg hm
          refine lv_lrem hx hb d_Whole_commonDivisor_34 (sd_nzJ h_1) ?_
          obtain ⟨x9, ex9, hm⟩ := sd_mlet hm
          refine sd_topj ex9 ?_
          refine lv_lstore (lv' := [(9, .long x9), (4, .long x4), (6, .long x6), (8, .int x8)]) hx hb d_Whole_commonDivisor_35 hl (by decide) rfl (fun ls hl => ?_)
          refine lv_lload hx hb d_Whole_commonDivisor_37 (lv_at hl 2 rfl) ?_
          refine lv_lstore (lv' := [(4, .long x6), (9, .long x9), (6, .long x6), (8, .int x8)]) hx hb d_Whole_commonDivisor_39 hl (by decide) rfl (fun ls hl => ?_)
          refine lv_lload hx hb d_Whole_commonDivisor_41 (lv_at hl 1 rfl) ?_
          refine lv_lstore (lv' := [(6, .long x9), (4, .long x6), (9, .long x9), (8, .int x8)]) hx hb d_Whole_commonDivisor_43 hl (by decide) rfl (fun ls hl => ?_)
          obtain ⟨x8_1, ex8_1, hm⟩ := sd_mlet hm
          refine lv_iinc (v := x8_1) (lv' := [(8, .int x8_1), (6, .long x9), (4, .long x6), (9, .long x9)]) hx hb d_Whole_commonDivisor_45 hl (k := 3) rfl (by rw [ex8_1]; rfl) (by decide) rfl (fun ls hl => ?_)
          refine lv_goto (tgt := 15) hx hb d_Whole_commonDivisor_48 (by decide) ?_
          exact ih x6 x9 x8_1 rx4 hm H locs ls (hP.sub [] rfl) (hD.sub [] (by decide) rfl) hS (lv_sub hl [2, 1, 0] rfl) kx51
  obtain ⟨rx4, hc, hm⟩ := sd_mb1 hm
  refine L15 F r r_1 (0 : Int32) rx4 hc H locs ls (hP.sub [] rfl) (hD.sub [] (by decide) rfl) hS (lv_sub hl [2, 1, 0] rfl) ?_
  intro H locs ls hP hD hS hl
  refine lv_lload hx hb d_Whole_commonDivisor_51 (lv_at hl 0 rfl) ?_
  refine lv_lconst (v := (0 : Int64)) hx hb d_Whole_commonDivisor_53 (by decide) ?_
  obtain ⟨y, hv, hm⟩ := sd_mb1 hm
  have J65_2 : ∀ (H : Heap) (locs : List Loc) (ls : Array Slot), va_P D classes [] H → va_D A [] → va_S A s.heap H locs → lv_has ls 11 [] → W p l e rm_Whole_commonDivisor s m args below meth c H locs 0 0 Q (F0 m 65 ls [.long y]) := by
    intro H locs ls hP hD hS hl
    exact sd_l0ret hQ hx hb hr hlk hK (hP.sub [] rfl) (hD.sub [] (by decide) rfl) hS (Option.some.inj hm).symm d_Whole_commonDivisor_65
  replace hm := hv
  refine sd_lne (tgt := 62) hx hb d_Whole_commonDivisor_54 d_Whole_commonDivisor_55 (by decide) (fun hc => ?_) (fun hc => ?_)
  · have hm := sd_mf hc hm
    refine lv_lload hx hb d_Whole_commonDivisor_62 (lv_at hl 0 rfl) ?_
    refine lv_lneg hx hb d_Whole_commonDivisor_64 ?_
    cases hm
    exact J65_2 H locs ls (hP.sub [] rfl) (hD.sub [] (by decide) rfl) hS (lv_sub hl [] rfl)
  · have hm := sd_mt hc hm
    refine lv_lconst (v := (1 : Int64)) hx hb d_Whole_commonDivisor_58 (by decide) ?_
    refine lv_goto (tgt := 65) hx hb d_Whole_commonDivisor_59 (by decide) ?_
    cases hm
    exact J65_2 H locs ls (hP.sub [] rfl) (hD.sub [] (by decide) rfl) hS (lv_sub hl [] rfl)
theorem d_Whole_wholeRoot_0 : decode b_Whole_wholeRoot 0 = .ok (.lconst 0, 1) := by decide +kernel
theorem d_Whole_wholeRoot_1 : decode b_Whole_wholeRoot 1 = .ok (.lstore_n 2, 1) := by decide +kernel
theorem d_Whole_wholeRoot_2 : decode b_Whole_wholeRoot 2 = .ok (.ldc2_w 20, 3) := by decide +kernel
theorem d_Whole_wholeRoot_5 : decode b_Whole_wholeRoot 5 = .ok (.lstore 4, 2) := by decide +kernel
theorem d_Whole_wholeRoot_7 : decode b_Whole_wholeRoot 7 = .ok (.lload 4, 2) := by decide +kernel
theorem d_Whole_wholeRoot_9 : decode b_Whole_wholeRoot 9 = .ok (.lconst 0, 1) := by decide +kernel
theorem d_Whole_wholeRoot_10 : decode b_Whole_wholeRoot 10 = .ok (.lcmp, 1) := by decide +kernel
theorem d_Whole_wholeRoot_11 : decode b_Whole_wholeRoot 11 = .ok (.ifCond .le 33, 3) := by decide +kernel
theorem d_Whole_wholeRoot_14 : decode b_Whole_wholeRoot 14 = .ok (.lload_n 2, 1) := by decide +kernel
theorem d_Whole_wholeRoot_15 : decode b_Whole_wholeRoot 15 = .ok (.lload 4, 2) := by decide +kernel
theorem d_Whole_wholeRoot_17 : decode b_Whole_wholeRoot 17 = .ok (.ladd, 1) := by decide +kernel
theorem d_Whole_wholeRoot_18 : decode b_Whole_wholeRoot 18 = .ok (.lload_n 2, 1) := by decide +kernel
theorem d_Whole_wholeRoot_19 : decode b_Whole_wholeRoot 19 = .ok (.lload 4, 2) := by decide +kernel
theorem d_Whole_wholeRoot_21 : decode b_Whole_wholeRoot 21 = .ok (.ladd, 1) := by decide +kernel
theorem d_Whole_wholeRoot_22 : decode b_Whole_wholeRoot 22 = .ok (.lmul, 1) := by decide +kernel
theorem d_Whole_wholeRoot_23 : decode b_Whole_wholeRoot 23 = .ok (.lload_n 0, 1) := by decide +kernel
theorem d_Whole_wholeRoot_24 : decode b_Whole_wholeRoot 24 = .ok (.lcmp, 1) := by decide +kernel
theorem d_Whole_wholeRoot_25 : decode b_Whole_wholeRoot 25 = .ok (.ifCond .gt 8, 3) := by decide +kernel
theorem d_Whole_wholeRoot_28 : decode b_Whole_wholeRoot 28 = .ok (.lload_n 2, 1) := by decide +kernel
theorem d_Whole_wholeRoot_29 : decode b_Whole_wholeRoot 29 = .ok (.lload 4, 2) := by decide +kernel
theorem d_Whole_wholeRoot_31 : decode b_Whole_wholeRoot 31 = .ok (.ladd, 1) := by decide +kernel
theorem d_Whole_wholeRoot_32 : decode b_Whole_wholeRoot 32 = .ok (.lstore_n 2, 1) := by decide +kernel
theorem d_Whole_wholeRoot_33 : decode b_Whole_wholeRoot 33 = .ok (.lload 4, 2) := by decide +kernel
theorem d_Whole_wholeRoot_35 : decode b_Whole_wholeRoot 35 = .ok (.ldc2_w 15, 3) := by decide +kernel
theorem d_Whole_wholeRoot_38 : decode b_Whole_wholeRoot 38 = .ok (.ldiv, 1) := by decide +kernel
theorem d_Whole_wholeRoot_39 : decode b_Whole_wholeRoot 39 = .ok (.lstore 4, 2) := by decide +kernel
theorem d_Whole_wholeRoot_41 : decode b_Whole_wholeRoot 41 = .ok (.goto (-34), 3) := by decide +kernel
theorem d_Whole_wholeRoot_44 : decode b_Whole_wholeRoot 44 = .ok (.lload_n 2, 1) := by decide +kernel
theorem d_Whole_wholeRoot_45 : decode b_Whole_wholeRoot 45 = .ok (.lreturn, 1) := by decide +kernel
def mf_Whole_wholeRoot_L7 (vM : Int64) : Nat → Int64 → Int64 → Option (Int64)
  | 0, _, _ => none
  | fu + 1, x2, x4 => (if x4 ≤ (0 : Int64) then (some (x2)) else (sd_b1 (if vM < ((x2 + x4) * (x2 + x4)) then (some (x2)) else (sd_let ((x2 + x4)) fun x2_2 => (some (x2_2)))) fun x2_1 => (sd_let ((x4 / (2 : Int64))) fun x4_1 => ((mf_Whole_wholeRoot_L7 vM fu) x2_1 x4_1))))
def mf_Whole_wholeRoot (F : Nat) (vM : Int64) : Option (Int64) :=
  (sd_b1 (mf_Whole_wholeRoot_L7 vM F (0 : Int64) (8192 : Int64)) fun rx2 => (some (rx2)))
abbrev rm_Whole_wholeRoot : Room := { frames := 0, cells := 0, slots := 0, locals := 0 }
set_option maxHeartbeats 4000000 in
set_option maxRecDepth 100000 in
theorem ct_Whole_wholeRoot (l : Launch) (D : va_G) (g : G4) (sz : Nat) (vM : Int64) (F : Nat) (res : Int64) (hm : mf_Whole_wholeRoot F vM = some res) : Met l y_Whole_wholeRoot (.code y_Whole_wholeRoot b_Whole_wholeRoot 6 (some .long) :: sd_tb) rm_Whole_wholeRoot (sd_PW D g [.long vM] sz []) (sd_Ql0 D g res [] (va_A [] sz)) 0 0 (va_A [] sz) := by
  refine sd_met (Qf := fun A => sd_Ql0 D g res [] A) (own := R_Whole) (by decide +kernel) rfl (Nat.le_of_ble_eq_true rfl) ?_
  intro p e s m args below meth c S hr hlk hK A hA Q hQ H locs hP hD hS ls hl
  have hx := S.1
  have hb := S.2.1
  have hml := S.2.2.1
  have hown := S.2.2.2.1
  have htt := sd_tt S
  replace hl : lv_has ls 6 [(0, .long vM)] := hl
  unfold mf_Whole_wholeRoot at hm
  refine lv_lconst (v := (0 : Int64)) hx hb d_Whole_wholeRoot_0 (by decide) ?_
  refine lv_lstore_n (lv' := [(2, .long (0 : Int64)), (0, .long vM)]) hx hb d_Whole_wholeRoot_1 rfl hl (by decide) rfl (fun ls hl => ?_)
  refine sd_ldc2 (v := (8192 : Int64)) hx hb hown (htt _ km_Whole_20) d_Whole_wholeRoot_2 ?_
  refine lv_lstore (lv' := [(4, .long (8192 : Int64)), (2, .long (0 : Int64)), (0, .long vM)]) hx hb d_Whole_wholeRoot_5 hl (by decide) rfl (fun ls hl => ?_)
  have L7 : ∀ (fu : Nat) (x2 : Int64) (x4 : Int64) (rx2 : Int64), mf_Whole_wholeRoot_L7 vM fu x2 x4 = some (rx2) → ∀ (H : Heap) (locs : List Loc) (ls : Array Slot), va_P D classes [] H → va_D A [] → va_S A s.heap H locs → lv_has ls 6 [(0, .long vM), (2, .long x2), (4, .long x4)] → (∀ (H : Heap) (locs : List Loc) (ls : Array Slot), va_P D classes [] H → va_D A [] → va_S A s.heap H locs → lv_has ls 6 [(2, .long rx2)] → W p l e rm_Whole_wholeRoot s m args below meth c H locs 0 0 Q (F0 m 44 ls [])) → W p l e rm_Whole_wholeRoot s m args below meth c H locs 0 0 Q (F0 m 7 ls []) := by
    intro fu
    induction fu with
    | zero => intro x2 x4 rx2 hm; exact absurd (show (none : Option (Int64)) = some (rx2) from hm) (fun h => nomatch h)
    | succ fu ih =>
      intro x2 x4 rx2 hm H locs ls hP hD hS hl kx44
      rw [mf_Whole_wholeRoot_L7] at hm
      refine lv_lload hx hb d_Whole_wholeRoot_7 (lv_at hl 2 rfl) ?_
      refine lv_lconst (v := (0 : Int64)) hx hb d_Whole_wholeRoot_9 (by decide) ?_
      refine sd_lle (tgt := 44) hx hb d_Whole_wholeRoot_10 d_Whole_wholeRoot_11 (by decide) (fun hc => ?_) (fun hc => ?_)
      · have hm := sd_mt hc hm
        cases hm
        exact kx44 H locs ls (hP.sub [] rfl) (hD.sub [] (by decide) rfl) hS (lv_sub hl [1] rfl)
      · have hm := sd_mf hc hm
        refine lv_lload_n hx hb d_Whole_wholeRoot_14 rfl (lv_at hl 1 rfl) ?_
        refine lv_lload hx hb d_Whole_wholeRoot_15 (lv_at hl 2 rfl) ?_
        refine lv_ladd hx hb d_Whole_wholeRoot_17 ?_
        refine lv_lload_n hx hb d_Whole_wholeRoot_18 rfl (lv_at hl 1 rfl) ?_
        refine lv_lload hx hb d_Whole_wholeRoot_19 (lv_at hl 2 rfl) ?_
        refine lv_ladd hx hb d_Whole_wholeRoot_21 ?_
        refine lv_lmul hx hb d_Whole_wholeRoot_22 ?_
        refine lv_lload_n hx hb d_Whole_wholeRoot_23 rfl (lv_at hl 0 rfl) ?_
        obtain ⟨x2_1, hv, hm⟩ := sd_mb1 hm
        have J33_1 : ∀ (H : Heap) (locs : List Loc) (ls : Array Slot), va_P D classes [] H → va_D A [] → va_S A s.heap H locs → lv_has ls 6 [(0, .long vM), (2, .long x2_1), (4, .long x4)] → W p l e rm_Whole_wholeRoot s m args below meth c H locs 0 0 Q (F0 m 33 ls []) := by
          intro H locs ls hP hD hS hl
          refine lv_lload hx hb d_Whole_wholeRoot_33 (lv_at hl 2 rfl) ?_
          refine sd_ldc2 (v := (2 : Int64)) hx hb hown (htt _ km_Whole_15) d_Whole_wholeRoot_35 ?_
          refine lv_ldiv hx hb d_Whole_wholeRoot_38 (by decide) ?_
          obtain ⟨x4_1, ex4_1, hm⟩ := sd_mlet hm
          refine sd_topj ex4_1 ?_
          refine lv_lstore (lv' := [(4, .long x4_1), (0, .long vM), (2, .long x2_1)]) hx hb d_Whole_wholeRoot_39 hl (by decide) rfl (fun ls hl => ?_)
          refine lv_goto (tgt := 7) hx hb d_Whole_wholeRoot_41 (by decide) ?_
          exact ih x2_1 x4_1 rx2 hm H locs ls (hP.sub [] rfl) (hD.sub [] (by decide) rfl) hS (lv_sub hl [1, 2, 0] rfl) kx44
        replace hm := hv
        refine sd_lgt (tgt := 33) hx hb d_Whole_wholeRoot_24 d_Whole_wholeRoot_25 (by decide) (fun hc => ?_) (fun hc => ?_)
        · have hm := sd_mt hc hm
          cases hm
          exact J33_1 H locs ls (hP.sub [] rfl) (hD.sub [] (by decide) rfl) hS (lv_sub hl [0, 1, 2] rfl)
        · have hm := sd_mf hc hm
          refine lv_lload_n hx hb d_Whole_wholeRoot_28 rfl (lv_at hl 1 rfl) ?_
          refine lv_lload hx hb d_Whole_wholeRoot_29 (lv_at hl 2 rfl) ?_
          refine lv_ladd hx hb d_Whole_wholeRoot_31 ?_
          obtain ⟨x2_2, ex2_2, hm⟩ := sd_mlet hm
          refine sd_topj ex2_2 ?_
          refine lv_lstore_n (lv' := [(2, .long x2_2), (0, .long vM), (4, .long x4)]) hx hb d_Whole_wholeRoot_32 rfl hl (by decide) rfl (fun ls hl => ?_)
          cases hm
          exact J33_1 H locs ls (hP.sub [] rfl) (hD.sub [] (by decide) rfl) hS (lv_sub hl [1, 0, 2] rfl)
  obtain ⟨rx2, hc, hm⟩ := sd_mb1 hm
  refine L7 F (0 : Int64) (8192 : Int64) rx2 hc H locs ls (hP.sub [] rfl) (hD.sub [] (by decide) rfl) hS (lv_sub hl [2, 1, 0] rfl) ?_
  intro H locs ls hP hD hS hl
  refine lv_lload_n hx hb d_Whole_wholeRoot_44 rfl (lv_at hl 0 rfl) ?_
  exact sd_l0ret hQ hx hb hr hlk hK (hP.sub [] rfl) (hD.sub [] (by decide) rfl) hS (Option.some.inj hm).symm d_Whole_wholeRoot_45
theorem d_Whole_sideOfGreatestSquare_0 : decode b_Whole_sideOfGreatestSquare 0 = .ok (.lload_n 0, 1) := by decide +kernel
theorem d_Whole_sideOfGreatestSquare_1 : decode b_Whole_sideOfGreatestSquare 1 = .ok (.lstore_n 2, 1) := by decide +kernel
theorem d_Whole_sideOfGreatestSquare_2 : decode b_Whole_sideOfGreatestSquare 2 = .ok (.lconst 1, 1) := by decide +kernel
theorem d_Whole_sideOfGreatestSquare_3 : decode b_Whole_sideOfGreatestSquare 3 = .ok (.lstore 4, 2) := by decide +kernel
theorem d_Whole_sideOfGreatestSquare_5 : decode b_Whole_sideOfGreatestSquare 5 = .ok (.ldc2_w 15, 3) := by decide +kernel
theorem d_Whole_sideOfGreatestSquare_8 : decode b_Whole_sideOfGreatestSquare 8 = .ok (.lstore 6, 2) := by decide +kernel
theorem d_Whole_sideOfGreatestSquare_10 : decode b_Whole_sideOfGreatestSquare 10 = .ok (.lload 6, 2) := by decide +kernel
theorem d_Whole_sideOfGreatestSquare_12 : decode b_Whole_sideOfGreatestSquare 12 = .ok (.lload 6, 2) := by decide +kernel
theorem d_Whole_sideOfGreatestSquare_14 : decode b_Whole_sideOfGreatestSquare 14 = .ok (.lmul, 1) := by decide +kernel
theorem d_Whole_sideOfGreatestSquare_15 : decode b_Whole_sideOfGreatestSquare 15 = .ok (.lload 6, 2) := by decide +kernel
theorem d_Whole_sideOfGreatestSquare_17 : decode b_Whole_sideOfGreatestSquare 17 = .ok (.lmul, 1) := by decide +kernel
theorem d_Whole_sideOfGreatestSquare_18 : decode b_Whole_sideOfGreatestSquare 18 = .ok (.lload_n 2, 1) := by decide +kernel
theorem d_Whole_sideOfGreatestSquare_19 : decode b_Whole_sideOfGreatestSquare 19 = .ok (.lcmp, 1) := by decide +kernel
theorem d_Whole_sideOfGreatestSquare_20 : decode b_Whole_sideOfGreatestSquare 20 = .ok (.ifCond .gt 63, 3) := by decide +kernel
theorem d_Whole_sideOfGreatestSquare_23 : decode b_Whole_sideOfGreatestSquare 23 = .ok (.iconst 0, 1) := by decide +kernel
theorem d_Whole_sideOfGreatestSquare_24 : decode b_Whole_sideOfGreatestSquare 24 = .ok (.istore 8, 2) := by decide +kernel
theorem d_Whole_sideOfGreatestSquare_26 : decode b_Whole_sideOfGreatestSquare 26 = .ok (.iload 8, 2) := by decide +kernel
theorem d_Whole_sideOfGreatestSquare_28 : decode b_Whole_sideOfGreatestSquare 28 = .ok (.bipush 32, 2) := by decide +kernel
theorem d_Whole_sideOfGreatestSquare_30 : decode b_Whole_sideOfGreatestSquare 30 = .ok (.if_icmp .ge 44, 3) := by decide +kernel
theorem d_Whole_sideOfGreatestSquare_33 : decode b_Whole_sideOfGreatestSquare 33 = .ok (.lload_n 2, 1) := by decide +kernel
theorem d_Whole_sideOfGreatestSquare_34 : decode b_Whole_sideOfGreatestSquare 34 = .ok (.lload 6, 2) := by decide +kernel
theorem d_Whole_sideOfGreatestSquare_36 : decode b_Whole_sideOfGreatestSquare 36 = .ok (.lrem, 1) := by decide +kernel
theorem d_Whole_sideOfGreatestSquare_37 : decode b_Whole_sideOfGreatestSquare 37 = .ok (.lconst 0, 1) := by decide +kernel
theorem d_Whole_sideOfGreatestSquare_38 : decode b_Whole_sideOfGreatestSquare 38 = .ok (.lcmp, 1) := by decide +kernel
theorem d_Whole_sideOfGreatestSquare_39 : decode b_Whole_sideOfGreatestSquare 39 = .ok (.ifCond .ne 35, 3) := by decide +kernel
theorem d_Whole_sideOfGreatestSquare_42 : decode b_Whole_sideOfGreatestSquare 42 = .ok (.lload_n 2, 1) := by decide +kernel
theorem d_Whole_sideOfGreatestSquare_43 : decode b_Whole_sideOfGreatestSquare 43 = .ok (.lload 6, 2) := by decide +kernel
theorem d_Whole_sideOfGreatestSquare_45 : decode b_Whole_sideOfGreatestSquare 45 = .ok (.ldiv, 1) := by decide +kernel
theorem d_Whole_sideOfGreatestSquare_46 : decode b_Whole_sideOfGreatestSquare 46 = .ok (.lstore_n 2, 1) := by decide +kernel
theorem d_Whole_sideOfGreatestSquare_47 : decode b_Whole_sideOfGreatestSquare 47 = .ok (.lload_n 2, 1) := by decide +kernel
theorem d_Whole_sideOfGreatestSquare_48 : decode b_Whole_sideOfGreatestSquare 48 = .ok (.lload 6, 2) := by decide +kernel
theorem d_Whole_sideOfGreatestSquare_50 : decode b_Whole_sideOfGreatestSquare 50 = .ok (.lrem, 1) := by decide +kernel
theorem d_Whole_sideOfGreatestSquare_51 : decode b_Whole_sideOfGreatestSquare 51 = .ok (.lconst 0, 1) := by decide +kernel
theorem d_Whole_sideOfGreatestSquare_52 : decode b_Whole_sideOfGreatestSquare 52 = .ok (.lcmp, 1) := by decide +kernel
theorem d_Whole_sideOfGreatestSquare_53 : decode b_Whole_sideOfGreatestSquare 53 = .ok (.ifCond .ne 15, 3) := by decide +kernel
theorem d_Whole_sideOfGreatestSquare_56 : decode b_Whole_sideOfGreatestSquare 56 = .ok (.lload_n 2, 1) := by decide +kernel
theorem d_Whole_sideOfGreatestSquare_57 : decode b_Whole_sideOfGreatestSquare 57 = .ok (.lload 6, 2) := by decide +kernel
theorem d_Whole_sideOfGreatestSquare_59 : decode b_Whole_sideOfGreatestSquare 59 = .ok (.ldiv, 1) := by decide +kernel
theorem d_Whole_sideOfGreatestSquare_60 : decode b_Whole_sideOfGreatestSquare 60 = .ok (.lstore_n 2, 1) := by decide +kernel
theorem d_Whole_sideOfGreatestSquare_61 : decode b_Whole_sideOfGreatestSquare 61 = .ok (.lload 4, 2) := by decide +kernel
theorem d_Whole_sideOfGreatestSquare_63 : decode b_Whole_sideOfGreatestSquare 63 = .ok (.lload 6, 2) := by decide +kernel
theorem d_Whole_sideOfGreatestSquare_65 : decode b_Whole_sideOfGreatestSquare 65 = .ok (.lmul, 1) := by decide +kernel
theorem d_Whole_sideOfGreatestSquare_66 : decode b_Whole_sideOfGreatestSquare 66 = .ok (.lstore 4, 2) := by decide +kernel
theorem d_Whole_sideOfGreatestSquare_68 : decode b_Whole_sideOfGreatestSquare 68 = .ok (.iinc 8 1, 3) := by decide +kernel
theorem d_Whole_sideOfGreatestSquare_71 : decode b_Whole_sideOfGreatestSquare 71 = .ok (.goto (-45), 3) := by decide +kernel
theorem d_Whole_sideOfGreatestSquare_74 : decode b_Whole_sideOfGreatestSquare 74 = .ok (.lload 6, 2) := by decide +kernel
theorem d_Whole_sideOfGreatestSquare_76 : decode b_Whole_sideOfGreatestSquare 76 = .ok (.lconst 1, 1) := by decide +kernel
theorem d_Whole_sideOfGreatestSquare_77 : decode b_Whole_sideOfGreatestSquare 77 = .ok (.ladd, 1) := by decide +kernel
theorem d_Whole_sideOfGreatestSquare_78 : decode b_Whole_sideOfGreatestSquare 78 = .ok (.lstore 6, 2) := by decide +kernel
theorem d_Whole_sideOfGreatestSquare_80 : decode b_Whole_sideOfGreatestSquare 80 = .ok (.goto (-70), 3) := by decide +kernel
theorem d_Whole_sideOfGreatestSquare_83 : decode b_Whole_sideOfGreatestSquare 83 = .ok (.lload_n 2, 1) := by decide +kernel
theorem d_Whole_sideOfGreatestSquare_84 : decode b_Whole_sideOfGreatestSquare 84 = .ok (.invokestatic 17, 3) := by decide +kernel
theorem d_Whole_sideOfGreatestSquare_87 : decode b_Whole_sideOfGreatestSquare 87 = .ok (.lstore 6, 2) := by decide +kernel
theorem d_Whole_sideOfGreatestSquare_89 : decode b_Whole_sideOfGreatestSquare 89 = .ok (.lload 6, 2) := by decide +kernel
theorem d_Whole_sideOfGreatestSquare_91 : decode b_Whole_sideOfGreatestSquare 91 = .ok (.lconst 0, 1) := by decide +kernel
theorem d_Whole_sideOfGreatestSquare_92 : decode b_Whole_sideOfGreatestSquare 92 = .ok (.lcmp, 1) := by decide +kernel
theorem d_Whole_sideOfGreatestSquare_93 : decode b_Whole_sideOfGreatestSquare 93 = .ok (.ifCond .le 21, 3) := by decide +kernel
theorem d_Whole_sideOfGreatestSquare_96 : decode b_Whole_sideOfGreatestSquare 96 = .ok (.lload 6, 2) := by decide +kernel
theorem d_Whole_sideOfGreatestSquare_98 : decode b_Whole_sideOfGreatestSquare 98 = .ok (.lload 6, 2) := by decide +kernel
theorem d_Whole_sideOfGreatestSquare_100 : decode b_Whole_sideOfGreatestSquare 100 = .ok (.lmul, 1) := by decide +kernel
theorem d_Whole_sideOfGreatestSquare_101 : decode b_Whole_sideOfGreatestSquare 101 = .ok (.lload_n 2, 1) := by decide +kernel
theorem d_Whole_sideOfGreatestSquare_102 : decode b_Whole_sideOfGreatestSquare 102 = .ok (.lcmp, 1) := by decide +kernel
theorem d_Whole_sideOfGreatestSquare_103 : decode b_Whole_sideOfGreatestSquare 103 = .ok (.ifCond .ne 11, 3) := by decide +kernel
theorem d_Whole_sideOfGreatestSquare_106 : decode b_Whole_sideOfGreatestSquare 106 = .ok (.lload 4, 2) := by decide +kernel
theorem d_Whole_sideOfGreatestSquare_108 : decode b_Whole_sideOfGreatestSquare 108 = .ok (.lload 6, 2) := by decide +kernel
theorem d_Whole_sideOfGreatestSquare_110 : decode b_Whole_sideOfGreatestSquare 110 = .ok (.lmul, 1) := by decide +kernel
theorem d_Whole_sideOfGreatestSquare_111 : decode b_Whole_sideOfGreatestSquare 111 = .ok (.goto 5, 3) := by decide +kernel
theorem d_Whole_sideOfGreatestSquare_114 : decode b_Whole_sideOfGreatestSquare 114 = .ok (.lload 4, 2) := by decide +kernel
theorem d_Whole_sideOfGreatestSquare_116 : decode b_Whole_sideOfGreatestSquare 116 = .ok (.lreturn, 1) := by decide +kernel
def mf_Whole_sideOfGreatestSquare_L26 (x6 : Int64) : Nat → Int64 → Int64 → Int32 → Option (Int64 × Int64)
  | 0, _, _, _ => none
  | fu + 1, x2_1, x4_1, x8 => (if (32 : Int32) ≤ x8 then (some (x2_1, x4_1)) else (sd_g (sd_zJ x6) (if (x2_1 - x2_1 / x6 * x6) = (0 : Int64) then (sd_g (sd_zJ x6) (sd_let ((x2_1 / x6)) fun x2_2 => (sd_g (sd_zJ x6) (sd_b2 (if (x2_2 - x2_2 / x6 * x6) = (0 : Int64) then (sd_g (sd_zJ x6) (sd_let ((x2_2 / x6)) fun x2_4 => (sd_let ((x4_1 * x6)) fun x4_3 => (some (x2_4, x4_3))))) else (some (x2_2, x4_1))) fun x2_3 x4_2 => (sd_let (x8 + (1 : Int32)) fun x8_1 => ((mf_Whole_sideOfGreatestSquare_L26 x6 fu) x2_3 x4_2 x8_1)))))) else (some (x2_1, x4_1)))))
def mf_Whole_sideOfGreatestSquare_L10 (F : Nat) : Nat → Int64 → Int64 → Int64 → Option (Int64 × Int64)
  | 0, _, _, _ => none
  | fu + 1, x2, x4, x6 => (if x2 < ((x6 * x6) * x6) then (some (x2, x4)) else (sd_b2 (mf_Whole_sideOfGreatestSquare_L26 x6 F x2 x4 (0 : Int32)) fun rx2_1 rx4_1 => (sd_let ((x6 + (1 : Int64))) fun x6_1 => ((mf_Whole_sideOfGreatestSquare_L10 F fu) rx2_1 rx4_1 x6_1))))
def mf_Whole_sideOfGreatestSquare (F : Nat) (vM : Int64) : Option (Int64) :=
  (sd_b2 (mf_Whole_sideOfGreatestSquare_L10 F F vM (1 : Int64) (2 : Int64)) fun rx2 rx4 => (sd_b1 (mf_Whole_wholeRoot F rx2) fun r => (sd_b1 (if r ≤ (0 : Int64) then (some (rx4)) else (if (r * r) = rx2 then (some ((rx4 * r))) else (some (rx4)))) fun y => (some (y)))))
abbrev rm_Whole_sideOfGreatestSquare : Room := { frames := 1, cells := 0, slots := 0, locals := 25 }
set_option maxHeartbeats 4000000 in
set_option maxRecDepth 100000 in
theorem ct_Whole_sideOfGreatestSquare (l : Launch) (D : va_G) (g : G4) (sz : Nat) (vM : Int64) (F : Nat) (res : Int64) (hm : mf_Whole_sideOfGreatestSquare F vM = some res) : Met l y_Whole_sideOfGreatestSquare (.code y_Whole_sideOfGreatestSquare b_Whole_sideOfGreatestSquare 9 (some .long) :: sd_tb) rm_Whole_sideOfGreatestSquare (sd_PW D g [.long vM] sz []) (sd_Ql0 D g res [] (va_A [] sz)) 0 0 (va_A [] sz) := by
  refine sd_met (Qf := fun A => sd_Ql0 D g res [] A) (own := R_Whole) (by decide +kernel) rfl (Nat.le_of_ble_eq_true rfl) ?_
  intro p e s m args below meth c S hr hlk hK A hA Q hQ H locs hP hD hS ls hl
  have hx := S.1
  have hb := S.2.1
  have hml := S.2.2.1
  have hown := S.2.2.2.1
  have htt := sd_tt S
  replace hl : lv_has ls 9 [(0, .long vM)] := hl
  unfold mf_Whole_sideOfGreatestSquare at hm
  refine lv_lload_n hx hb d_Whole_sideOfGreatestSquare_0 rfl (lv_at hl 0 rfl) ?_
  refine lv_lstore_n (lv' := [(2, .long vM), (0, .long vM)]) hx hb d_Whole_sideOfGreatestSquare_1 rfl hl (by decide) rfl (fun ls hl => ?_)
  refine lv_lconst (v := (1 : Int64)) hx hb d_Whole_sideOfGreatestSquare_2 (by decide) ?_
  refine lv_lstore (lv' := [(4, .long (1 : Int64)), (2, .long vM), (0, .long vM)]) hx hb d_Whole_sideOfGreatestSquare_3 hl (by decide) rfl (fun ls hl => ?_)
  refine sd_ldc2 (v := (2 : Int64)) hx hb hown (htt _ km_Whole_15) d_Whole_sideOfGreatestSquare_5 ?_
  refine lv_lstore (lv' := [(6, .long (2 : Int64)), (4, .long (1 : Int64)), (2, .long vM), (0, .long vM)]) hx hb d_Whole_sideOfGreatestSquare_8 hl (by decide) rfl (fun ls hl => ?_)
  have L10 : ∀ (fu : Nat) (x2 : Int64) (x4 : Int64) (x6 : Int64) (rx2 : Int64) (rx4 : Int64), mf_Whole_sideOfGreatestSquare_L10 F fu x2 x4 x6 = some (rx2, rx4) → ∀ (H : Heap) (locs : List Loc) (ls : Array Slot), va_P D classes [] H → va_D A [] → va_S A s.heap H locs → lv_has ls 9 [(2, .long x2), (4, .long x4), (6, .long x6)] → (∀ (H : Heap) (locs : List Loc) (ls : Array Slot), va_P D classes [] H → va_D A [] → va_S A s.heap H locs → lv_has ls 9 [(2, .long rx2), (4, .long rx4)] → W p l e rm_Whole_sideOfGreatestSquare s m args below meth c H locs 0 0 Q (F0 m 83 ls [])) → W p l e rm_Whole_sideOfGreatestSquare s m args below meth c H locs 0 0 Q (F0 m 10 ls []) := by
    intro fu
    induction fu with
    | zero => intro x2 x4 x6 rx2 rx4 hm; exact absurd (show (none : Option (Int64 × Int64)) = some (rx2, rx4) from hm) (fun h => nomatch h)
    | succ fu ih =>
      intro x2 x4 x6 rx2 rx4 hm H locs ls hP hD hS hl kx83
      rw [mf_Whole_sideOfGreatestSquare_L10] at hm
      refine lv_lload hx hb d_Whole_sideOfGreatestSquare_10 (lv_at hl 2 rfl) ?_
      refine lv_lload hx hb d_Whole_sideOfGreatestSquare_12 (lv_at hl 2 rfl) ?_
      refine lv_lmul hx hb d_Whole_sideOfGreatestSquare_14 ?_
      refine lv_lload hx hb d_Whole_sideOfGreatestSquare_15 (lv_at hl 2 rfl) ?_
      refine lv_lmul hx hb d_Whole_sideOfGreatestSquare_17 ?_
      refine lv_lload_n hx hb d_Whole_sideOfGreatestSquare_18 rfl (lv_at hl 0 rfl) ?_
      refine sd_lgt (tgt := 83) hx hb d_Whole_sideOfGreatestSquare_19 d_Whole_sideOfGreatestSquare_20 (by decide) (fun hc => ?_) (fun hc => ?_)
      · have hm := sd_mt hc hm
        cases hm
        exact kx83 H locs ls (hP.sub [] rfl) (hD.sub [] (by decide) rfl) hS (lv_sub hl [0, 1] rfl)
      · have hm := sd_mf hc hm
        refine lv_iconst (v := (0 : Int32)) hx hb d_Whole_sideOfGreatestSquare_23 (by decide) ?_
        refine lv_istore (lv' := [(8, .int (0 : Int32)), (2, .long x2), (4, .long x4), (6, .long x6)]) hx hb d_Whole_sideOfGreatestSquare_24 hl (by decide) rfl (fun ls hl => ?_)
        have L26 : ∀ (fu : Nat) (x2_1 : Int64) (x4_1 : Int64) (x8 : Int32) (rx2_1 : Int64) (rx4_1 : Int64), mf_Whole_sideOfGreatestSquare_L26 x6 fu x2_1 x4_1 x8 = some (rx2_1, rx4_1) → ∀ (H : Heap) (locs : List Loc) (ls : Array Slot), va_P D classes [] H → va_D A [] → va_S A s.heap H locs → lv_has ls 9 [(2, .long x2_1), (4, .long x4_1), (6, .long x6), (8, .int x8)] → (∀ (H : Heap) (locs : List Loc) (ls : Array Slot), va_P D classes [] H → va_D A [] → va_S A s.heap H locs → lv_has ls 9 [(2, .long rx2_1), (4, .long rx4_1), (6, .long x6)] → W p l e rm_Whole_sideOfGreatestSquare s m args below meth c H locs 0 0 Q (F0 m 74 ls [])) → W p l e rm_Whole_sideOfGreatestSquare s m args below meth c H locs 0 0 Q (F0 m 26 ls []) := by
          intro fu
          induction fu with
          | zero => intro x2_1 x4_1 x8 rx2_1 rx4_1 hm; exact absurd (show (none : Option (Int64 × Int64)) = some (rx2_1, rx4_1) from hm) (fun h => nomatch h)
          | succ fu ih =>
            intro x2_1 x4_1 x8 rx2_1 rx4_1 hm H locs ls hP hD hS hl kx74
            rw [mf_Whole_sideOfGreatestSquare_L26] at hm
            refine lv_iload hx hb d_Whole_sideOfGreatestSquare_26 (lv_at hl 3 rfl) ?_
            refine lv_bipush (v := (32 : Int32)) hx hb d_Whole_sideOfGreatestSquare_28 (by decide) ?_
            refine lv_icmp_ge (tgt := 74) hx hb d_Whole_sideOfGreatestSquare_30 (by decide) (fun hc => ?_) (fun hc => ?_)
            · have hm := sd_mt hc hm
              cases hm
              exact kx74 H locs ls (hP.sub [] rfl) (hD.sub [] (by decide) rfl) hS (lv_sub hl [0, 1, 2] rfl)
            · have hm := sd_mf hc hm
              refine lv_lload_n hx hb d_Whole_sideOfGreatestSquare_33 rfl (lv_at hl 0 rfl) ?_
              refine lv_lload hx hb d_Whole_sideOfGreatestSquare_34 (lv_at hl 2 rfl) ?_
              obtain ⟨h_1, hm⟩ := sd_mg hm
              refine lv_lrem hx hb d_Whole_sideOfGreatestSquare_36 (sd_nzJ h_1) ?_
              refine lv_lconst (v := (0 : Int64)) hx hb d_Whole_sideOfGreatestSquare_37 (by decide) ?_
              refine sd_lne (tgt := 74) hx hb d_Whole_sideOfGreatestSquare_38 d_Whole_sideOfGreatestSquare_39 (by decide) (fun hc => ?_) (fun hc => ?_)
              · have hm := sd_mf hc hm
                cases hm
                exact kx74 H locs ls (hP.sub [] rfl) (hD.sub [] (by decide) rfl) hS (lv_sub hl [0, 1, 2] rfl)
              · have hm := sd_mt hc hm
                refine lv_lload_n hx hb d_Whole_sideOfGreatestSquare_42 rfl (lv_at hl 0 rfl) ?_
                refine lv_lload hx hb d_Whole_sideOfGreatestSquare_43 (lv_at hl 2 rfl) ?_
                obtain ⟨h_2, hm⟩ := sd_mg hm
                refine lv_ldiv hx hb d_Whole_sideOfGreatestSquare_45 (sd_nzJ h_2) ?_
                obtain ⟨x2_2, ex2_2, hm⟩ := sd_mlet hm
                refine sd_topj ex2_2 ?_
                refine lv_lstore_n (lv' := [(2, .long x2_2), (4, .long x4_1), (6, .long x6), (8, .int x8)]) hx hb d_Whole_sideOfGreatestSquare_46 rfl hl (by decide) rfl (fun ls hl => ?_)
                refine lv_lload_n hx hb d_Whole_sideOfGreatestSquare_47 rfl (lv_at hl 0 rfl) ?_
                refine lv_lload hx hb d_Whole_sideOfGreatestSquare_48 (lv_at hl 2 rfl) ?_
                obtain ⟨h_3, hm⟩ := sd_mg hm
                refine lv_lrem hx hb d_Whole_sideOfGreatestSquare_50 (sd_nzJ h_3) ?_
                refine lv_lconst (v := (0 : Int64)) hx hb d_Whole_sideOfGreatestSquare_51 (by decide) ?_
                obtain ⟨x2_3, x4_2, hv, hm⟩ := sd_mb2 hm
                have J68_4 : ∀ (H : Heap) (locs : List Loc) (ls : Array Slot), va_P D classes [] H → va_D A [] → va_S A s.heap H locs → lv_has ls 9 [(2, .long x2_3), (4, .long x4_2), (6, .long x6), (8, .int x8)] → W p l e rm_Whole_sideOfGreatestSquare s m args below meth c H locs 0 0 Q (F0 m 68 ls []) := by
                  intro H locs ls hP hD hS hl
                  obtain ⟨x8_1, ex8_1, hm⟩ := sd_mlet hm
                  refine lv_iinc (v := x8_1) (lv' := [(8, .int x8_1), (2, .long x2_3), (4, .long x4_2), (6, .long x6)]) hx hb d_Whole_sideOfGreatestSquare_68 hl (k := 3) rfl (by rw [ex8_1]; rfl) (by decide) rfl (fun ls hl => ?_)
                  refine lv_goto (tgt := 26) hx hb d_Whole_sideOfGreatestSquare_71 (by decide) ?_
                  exact ih x2_3 x4_2 x8_1 rx2_1 rx4_1 hm H locs ls (hP.sub [] rfl) (hD.sub [] (by decide) rfl) hS (lv_sub hl [1, 2, 3, 0] rfl) kx74
                replace hm := hv
                refine sd_lne (tgt := 68) hx hb d_Whole_sideOfGreatestSquare_52 d_Whole_sideOfGreatestSquare_53 (by decide) (fun hc => ?_) (fun hc => ?_)
                · have hm := sd_mf hc hm
                  cases hm
                  exact J68_4 H locs ls (hP.sub [] rfl) (hD.sub [] (by decide) rfl) hS (lv_sub hl [0, 1, 2, 3] rfl)
                · have hm := sd_mt hc hm
                  refine lv_lload_n hx hb d_Whole_sideOfGreatestSquare_56 rfl (lv_at hl 0 rfl) ?_
                  refine lv_lload hx hb d_Whole_sideOfGreatestSquare_57 (lv_at hl 2 rfl) ?_
                  obtain ⟨h_5, hm⟩ := sd_mg hm
                  refine lv_ldiv hx hb d_Whole_sideOfGreatestSquare_59 (sd_nzJ h_5) ?_
                  obtain ⟨x2_4, ex2_4, hm⟩ := sd_mlet hm
                  refine sd_topj ex2_4 ?_
                  refine lv_lstore_n (lv' := [(2, .long x2_4), (4, .long x4_1), (6, .long x6), (8, .int x8)]) hx hb d_Whole_sideOfGreatestSquare_60 rfl hl (by decide) rfl (fun ls hl => ?_)
                  refine lv_lload hx hb d_Whole_sideOfGreatestSquare_61 (lv_at hl 1 rfl) ?_
                  refine lv_lload hx hb d_Whole_sideOfGreatestSquare_63 (lv_at hl 2 rfl) ?_
                  refine lv_lmul hx hb d_Whole_sideOfGreatestSquare_65 ?_
                  obtain ⟨x4_3, ex4_3, hm⟩ := sd_mlet hm
                  refine sd_topj ex4_3 ?_
                  refine lv_lstore (lv' := [(4, .long x4_3), (2, .long x2_4), (6, .long x6), (8, .int x8)]) hx hb d_Whole_sideOfGreatestSquare_66 hl (by decide) rfl (fun ls hl => ?_)
                  cases hm
                  exact J68_4 H locs ls (hP.sub [] rfl) (hD.sub [] (by decide) rfl) hS (lv_sub hl [1, 0, 2, 3] rfl)
        obtain ⟨rx2_1, rx4_1, hc, hm⟩ := sd_mb2 hm
        refine L26 F x2 x4 (0 : Int32) rx2_1 rx4_1 hc H locs ls (hP.sub [] rfl) (hD.sub [] (by decide) rfl) hS (lv_sub hl [1, 2, 3, 0] rfl) ?_
        intro H locs ls hP hD hS hl
        refine lv_lload hx hb d_Whole_sideOfGreatestSquare_74 (lv_at hl 2 rfl) ?_
        refine lv_lconst (v := (1 : Int64)) hx hb d_Whole_sideOfGreatestSquare_76 (by decide) ?_
        refine lv_ladd hx hb d_Whole_sideOfGreatestSquare_77 ?_
        obtain ⟨x6_1, ex6_1, hm⟩ := sd_mlet hm
        refine sd_topj ex6_1 ?_
        refine lv_lstore (lv' := [(6, .long x6_1), (2, .long rx2_1), (4, .long rx4_1)]) hx hb d_Whole_sideOfGreatestSquare_78 hl (by decide) rfl (fun ls hl => ?_)
        refine lv_goto (tgt := 10) hx hb d_Whole_sideOfGreatestSquare_80 (by decide) ?_
        exact ih rx2_1 rx4_1 x6_1 rx2 rx4 hm H locs ls (hP.sub [] rfl) (hD.sub [] (by decide) rfl) hS (lv_sub hl [1, 2, 0] rfl) kx83
  obtain ⟨rx2, rx4, hc, hm⟩ := sd_mb2 hm
  refine L10 F vM (1 : Int64) (2 : Int64) rx2 rx4 hc H locs ls (hP.sub [] rfl) (hD.sub [] (by decide) rfl) hS (lv_sub hl [2, 1, 0] rfl) ?_
  intro H locs ls hP hD hS hl
  refine lv_lload_n hx hb d_Whole_sideOfGreatestSquare_83 rfl (lv_at hl 0 rfl) ?_
  obtain ⟨r, hc, hm⟩ := sd_mb1 hm
  refine sd_cl0 (wr := []) (w2 := []) (sd_runS (rest := []) (As := [.long rx2]) S (ct_Whole_wholeRoot l D g (H.size) rx2 F (r) hc) kl_Whole_17 (by decide) (by decide) hK hP hD [] rfl (by decide) rfl hl d_Whole_sideOfGreatestSquare_84 rfl (Nat.le_of_ble_eq_true rfl) ⟨Nat.zero_le _, Nat.zero_le _⟩) hP hD hS hA [] [] rfl rfl (by decide) (by decide) rfl (fun H locs hP hD hS => ?_)
  refine W.eq (g2 := F0 m 87 ls [.long r]) rfl ?_
  refine lv_lstore (lv' := [(6, .long r), (2, .long rx2), (4, .long rx4)]) hx hb d_Whole_sideOfGreatestSquare_87 hl (by decide) rfl (fun ls hl => ?_)
  refine lv_lload hx hb d_Whole_sideOfGreatestSquare_89 (lv_at hl 0 rfl) ?_
  refine lv_lconst (v := (0 : Int64)) hx hb d_Whole_sideOfGreatestSquare_91 (by decide) ?_
  obtain ⟨y, hv, hm⟩ := sd_mb1 hm
  have J116_6 : ∀ (H : Heap) (locs : List Loc) (ls : Array Slot), va_P D classes [] H → va_D A [] → va_S A s.heap H locs → lv_has ls 9 [] → W p l e rm_Whole_sideOfGreatestSquare s m args below meth c H locs 0 0 Q (F0 m 116 ls [.long y]) := by
    intro H locs ls hP hD hS hl
    exact sd_l0ret hQ hx hb hr hlk hK (hP.sub [] rfl) (hD.sub [] (by decide) rfl) hS (Option.some.inj hm).symm d_Whole_sideOfGreatestSquare_116
  replace hm := hv
  refine sd_lle (tgt := 114) hx hb d_Whole_sideOfGreatestSquare_92 d_Whole_sideOfGreatestSquare_93 (by decide) (fun hc => ?_) (fun hc => ?_)
  · have hm := sd_mt hc hm
    refine lv_lload hx hb d_Whole_sideOfGreatestSquare_114 (lv_at hl 2 rfl) ?_
    cases hm
    exact J116_6 H locs ls (hP.sub [] rfl) (hD.sub [] (by decide) rfl) hS (lv_sub hl [] rfl)
  · have hm := sd_mf hc hm
    refine lv_lload hx hb d_Whole_sideOfGreatestSquare_96 (lv_at hl 0 rfl) ?_
    refine lv_lload hx hb d_Whole_sideOfGreatestSquare_98 (lv_at hl 0 rfl) ?_
    refine lv_lmul hx hb d_Whole_sideOfGreatestSquare_100 ?_
    refine lv_lload_n hx hb d_Whole_sideOfGreatestSquare_101 rfl (lv_at hl 1 rfl) ?_
    refine sd_lne (tgt := 114) hx hb d_Whole_sideOfGreatestSquare_102 d_Whole_sideOfGreatestSquare_103 (by decide) (fun hc => ?_) (fun hc => ?_)
    · have hm := sd_mf hc hm
      refine lv_lload hx hb d_Whole_sideOfGreatestSquare_114 (lv_at hl 2 rfl) ?_
      cases hm
      exact J116_6 H locs ls (hP.sub [] rfl) (hD.sub [] (by decide) rfl) hS (lv_sub hl [] rfl)
    · have hm := sd_mt hc hm
      refine lv_lload hx hb d_Whole_sideOfGreatestSquare_106 (lv_at hl 2 rfl) ?_
      refine lv_lload hx hb d_Whole_sideOfGreatestSquare_108 (lv_at hl 0 rfl) ?_
      refine lv_lmul hx hb d_Whole_sideOfGreatestSquare_110 ?_
      refine lv_goto (tgt := 116) hx hb d_Whole_sideOfGreatestSquare_111 (by decide) ?_
      cases hm
      exact J116_6 H locs ls (hP.sub [] rfl) (hD.sub [] (by decide) rfl) hS (lv_sub hl [] rfl)
theorem d_Math_floorDiv_0 : decode b_Math_floorDiv 0 = .ok (.lload_n 0, 1) := by decide +kernel
theorem d_Math_floorDiv_1 : decode b_Math_floorDiv 1 = .ok (.lload_n 2, 1) := by decide +kernel
theorem d_Math_floorDiv_2 : decode b_Math_floorDiv 2 = .ok (.ldiv, 1) := by decide +kernel
theorem d_Math_floorDiv_3 : decode b_Math_floorDiv 3 = .ok (.lstore 4, 2) := by decide +kernel
theorem d_Math_floorDiv_5 : decode b_Math_floorDiv 5 = .ok (.lload_n 0, 1) := by decide +kernel
theorem d_Math_floorDiv_6 : decode b_Math_floorDiv 6 = .ok (.lload_n 2, 1) := by decide +kernel
theorem d_Math_floorDiv_7 : decode b_Math_floorDiv 7 = .ok (.lxor, 1) := by decide +kernel
theorem d_Math_floorDiv_8 : decode b_Math_floorDiv 8 = .ok (.lconst 0, 1) := by decide +kernel
theorem d_Math_floorDiv_9 : decode b_Math_floorDiv 9 = .ok (.lcmp, 1) := by decide +kernel
theorem d_Math_floorDiv_10 : decode b_Math_floorDiv 10 = .ok (.ifCond .ge 17, 3) := by decide +kernel
theorem d_Math_floorDiv_13 : decode b_Math_floorDiv 13 = .ok (.lload 4, 2) := by decide +kernel
theorem d_Math_floorDiv_15 : decode b_Math_floorDiv 15 = .ok (.lload_n 2, 1) := by decide +kernel
theorem d_Math_floorDiv_16 : decode b_Math_floorDiv 16 = .ok (.lmul, 1) := by decide +kernel
theorem d_Math_floorDiv_17 : decode b_Math_floorDiv 17 = .ok (.lload_n 0, 1) := by decide +kernel
theorem d_Math_floorDiv_18 : decode b_Math_floorDiv 18 = .ok (.lcmp, 1) := by decide +kernel
theorem d_Math_floorDiv_19 : decode b_Math_floorDiv 19 = .ok (.ifCond .eq 8, 3) := by decide +kernel
theorem d_Math_floorDiv_22 : decode b_Math_floorDiv 22 = .ok (.lload 4, 2) := by decide +kernel
theorem d_Math_floorDiv_24 : decode b_Math_floorDiv 24 = .ok (.lconst 1, 1) := by decide +kernel
theorem d_Math_floorDiv_25 : decode b_Math_floorDiv 25 = .ok (.lsub, 1) := by decide +kernel
theorem d_Math_floorDiv_26 : decode b_Math_floorDiv 26 = .ok (.lreturn, 1) := by decide +kernel
theorem d_Math_floorDiv_27 : decode b_Math_floorDiv 27 = .ok (.lload 4, 2) := by decide +kernel
theorem d_Math_floorDiv_29 : decode b_Math_floorDiv 29 = .ok (.lreturn, 1) := by decide +kernel
def mf_Math_floorDiv (F : Nat) (vX : Int64) (vY : Int64) : Option (Int64) :=
  (sd_g (sd_zJ vY) (sd_let ((vX / vY)) fun x4 => (if (0 : Int64) ≤ (vX ^^^ vY) then (some (x4)) else (if (x4 * vY) = vX then (some (x4)) else (some ((x4 - (1 : Int64))))))))
abbrev rm_Math_floorDiv : Room := { frames := 0, cells := 0, slots := 0, locals := 0 }
set_option maxHeartbeats 4000000 in
set_option maxRecDepth 100000 in
theorem ct_Math_floorDiv (l : Launch) (D : va_G) (g : G4) (sz : Nat) (vX : Int64) (vY : Int64) (F : Nat) (res : Int64) (hm : mf_Math_floorDiv F vX vY = some res) : Met l y_Math_floorDiv (.code y_Math_floorDiv b_Math_floorDiv 6 (some .long) :: sd_tb) rm_Math_floorDiv (sd_PW D g [.long vX, .long vY] sz []) (sd_Ql0 D g res [] (va_A [] sz)) 0 0 (va_A [] sz) := by
  refine sd_met (Qf := fun A => sd_Ql0 D g res [] A) (own := R_Math) (by decide +kernel) rfl (Nat.le_of_ble_eq_true rfl) ?_
  intro p e s m args below meth c S hr hlk hK A hA Q hQ H locs hP hD hS ls hl
  have hx := S.1
  have hb := S.2.1
  have hml := S.2.2.1
  have hown := S.2.2.2.1
  have htt := sd_tt S
  replace hl : lv_has ls 6 [(0, .long vX), (2, .long vY)] := hl
  unfold mf_Math_floorDiv at hm
  refine lv_lload_n hx hb d_Math_floorDiv_0 rfl (lv_at hl 0 rfl) ?_
  refine lv_lload_n hx hb d_Math_floorDiv_1 rfl (lv_at hl 1 rfl) ?_
  obtain ⟨h_1, hm⟩ := sd_mg hm
  refine lv_ldiv hx hb d_Math_floorDiv_2 (sd_nzJ h_1) ?_
  obtain ⟨x4, ex4, hm⟩ := sd_mlet hm
  refine sd_topj ex4 ?_
  refine lv_lstore (lv' := [(4, .long x4), (0, .long vX), (2, .long vY)]) hx hb d_Math_floorDiv_3 hl (by decide) rfl (fun ls hl => ?_)
  refine lv_lload_n hx hb d_Math_floorDiv_5 rfl (lv_at hl 1 rfl) ?_
  refine lv_lload_n hx hb d_Math_floorDiv_6 rfl (lv_at hl 2 rfl) ?_
  refine lv_lxor hx hb d_Math_floorDiv_7 ?_
  refine lv_lconst (v := (0 : Int64)) hx hb d_Math_floorDiv_8 (by decide) ?_
  refine sd_lge (tgt := 27) hx hb d_Math_floorDiv_9 d_Math_floorDiv_10 (by decide) (fun hc => ?_) (fun hc => ?_)
  · have hm := sd_mt hc hm
    refine lv_lload hx hb d_Math_floorDiv_27 (lv_at hl 0 rfl) ?_
    exact sd_l0ret hQ hx hb hr hlk hK (hP.sub [] rfl) (hD.sub [] (by decide) rfl) hS (Option.some.inj hm).symm d_Math_floorDiv_29
  · have hm := sd_mf hc hm
    refine lv_lload hx hb d_Math_floorDiv_13 (lv_at hl 0 rfl) ?_
    refine lv_lload_n hx hb d_Math_floorDiv_15 rfl (lv_at hl 2 rfl) ?_
    refine lv_lmul hx hb d_Math_floorDiv_16 ?_
    refine lv_lload_n hx hb d_Math_floorDiv_17 rfl (lv_at hl 1 rfl) ?_
    refine sd_leq (tgt := 27) hx hb d_Math_floorDiv_18 d_Math_floorDiv_19 (by decide) (fun hc => ?_) (fun hc => ?_)
    · have hm := sd_mt hc hm
      refine lv_lload hx hb d_Math_floorDiv_27 (lv_at hl 0 rfl) ?_
      exact sd_l0ret hQ hx hb hr hlk hK (hP.sub [] rfl) (hD.sub [] (by decide) rfl) hS (Option.some.inj hm).symm d_Math_floorDiv_29
    · have hm := sd_mf hc hm
      refine lv_lload hx hb d_Math_floorDiv_22 (lv_at hl 0 rfl) ?_
      refine lv_lconst (v := (1 : Int64)) hx hb d_Math_floorDiv_24 (by decide) ?_
      refine lv_lsub hx hb d_Math_floorDiv_25 ?_
      exact sd_l0ret hQ hx hb hr hlk hK (hP.sub [] rfl) (hD.sub [] (by decide) rfl) hS (Option.some.inj hm).symm d_Math_floorDiv_26
theorem d_Math_floorMod_0 : decode b_Math_floorMod 0 = .ok (.lload_n 0, 1) := by decide +kernel
theorem d_Math_floorMod_1 : decode b_Math_floorMod 1 = .ok (.lload_n 2, 1) := by decide +kernel
theorem d_Math_floorMod_2 : decode b_Math_floorMod 2 = .ok (.lrem, 1) := by decide +kernel
theorem d_Math_floorMod_3 : decode b_Math_floorMod 3 = .ok (.lstore 4, 2) := by decide +kernel
theorem d_Math_floorMod_5 : decode b_Math_floorMod 5 = .ok (.lload_n 0, 1) := by decide +kernel
theorem d_Math_floorMod_6 : decode b_Math_floorMod 6 = .ok (.lload_n 2, 1) := by decide +kernel
theorem d_Math_floorMod_7 : decode b_Math_floorMod 7 = .ok (.lxor, 1) := by decide +kernel
theorem d_Math_floorMod_8 : decode b_Math_floorMod 8 = .ok (.lconst 0, 1) := by decide +kernel
theorem d_Math_floorMod_9 : decode b_Math_floorMod 9 = .ok (.lcmp, 1) := by decide +kernel
theorem d_Math_floorMod_10 : decode b_Math_floorMod 10 = .ok (.ifCond .ge 15, 3) := by decide +kernel
theorem d_Math_floorMod_13 : decode b_Math_floorMod 13 = .ok (.lload 4, 2) := by decide +kernel
theorem d_Math_floorMod_15 : decode b_Math_floorMod 15 = .ok (.lconst 0, 1) := by decide +kernel
theorem d_Math_floorMod_16 : decode b_Math_floorMod 16 = .ok (.lcmp, 1) := by decide +kernel
theorem d_Math_floorMod_17 : decode b_Math_floorMod 17 = .ok (.ifCond .eq 8, 3) := by decide +kernel
theorem d_Math_floorMod_20 : decode b_Math_floorMod 20 = .ok (.lload 4, 2) := by decide +kernel
theorem d_Math_floorMod_22 : decode b_Math_floorMod 22 = .ok (.lload_n 2, 1) := by decide +kernel
theorem d_Math_floorMod_23 : decode b_Math_floorMod 23 = .ok (.ladd, 1) := by decide +kernel
theorem d_Math_floorMod_24 : decode b_Math_floorMod 24 = .ok (.lreturn, 1) := by decide +kernel
theorem d_Math_floorMod_25 : decode b_Math_floorMod 25 = .ok (.lload 4, 2) := by decide +kernel
theorem d_Math_floorMod_27 : decode b_Math_floorMod 27 = .ok (.lreturn, 1) := by decide +kernel
def mf_Math_floorMod (F : Nat) (vX : Int64) (vY : Int64) : Option (Int64) :=
  (sd_g (sd_zJ vY) (sd_let ((vX - vX / vY * vY)) fun x4 => (if (0 : Int64) ≤ (vX ^^^ vY) then (some (x4)) else (if x4 = (0 : Int64) then (some (x4)) else (some ((x4 + vY)))))))
abbrev rm_Math_floorMod : Room := { frames := 0, cells := 0, slots := 0, locals := 0 }
set_option maxHeartbeats 4000000 in
set_option maxRecDepth 100000 in
theorem ct_Math_floorMod (l : Launch) (D : va_G) (g : G4) (sz : Nat) (vX : Int64) (vY : Int64) (F : Nat) (res : Int64) (hm : mf_Math_floorMod F vX vY = some res) : Met l y_Math_floorMod (.code y_Math_floorMod b_Math_floorMod 6 (some .long) :: sd_tb) rm_Math_floorMod (sd_PW D g [.long vX, .long vY] sz []) (sd_Ql0 D g res [] (va_A [] sz)) 0 0 (va_A [] sz) := by
  refine sd_met (Qf := fun A => sd_Ql0 D g res [] A) (own := R_Math) (by decide +kernel) rfl (Nat.le_of_ble_eq_true rfl) ?_
  intro p e s m args below meth c S hr hlk hK A hA Q hQ H locs hP hD hS ls hl
  have hx := S.1
  have hb := S.2.1
  have hml := S.2.2.1
  have hown := S.2.2.2.1
  have htt := sd_tt S
  replace hl : lv_has ls 6 [(0, .long vX), (2, .long vY)] := hl
  unfold mf_Math_floorMod at hm
  refine lv_lload_n hx hb d_Math_floorMod_0 rfl (lv_at hl 0 rfl) ?_
  refine lv_lload_n hx hb d_Math_floorMod_1 rfl (lv_at hl 1 rfl) ?_
  obtain ⟨h_1, hm⟩ := sd_mg hm
  refine lv_lrem hx hb d_Math_floorMod_2 (sd_nzJ h_1) ?_
  obtain ⟨x4, ex4, hm⟩ := sd_mlet hm
  refine sd_topj ex4 ?_
  refine lv_lstore (lv' := [(4, .long x4), (0, .long vX), (2, .long vY)]) hx hb d_Math_floorMod_3 hl (by decide) rfl (fun ls hl => ?_)
  refine lv_lload_n hx hb d_Math_floorMod_5 rfl (lv_at hl 1 rfl) ?_
  refine lv_lload_n hx hb d_Math_floorMod_6 rfl (lv_at hl 2 rfl) ?_
  refine lv_lxor hx hb d_Math_floorMod_7 ?_
  refine lv_lconst (v := (0 : Int64)) hx hb d_Math_floorMod_8 (by decide) ?_
  refine sd_lge (tgt := 25) hx hb d_Math_floorMod_9 d_Math_floorMod_10 (by decide) (fun hc => ?_) (fun hc => ?_)
  · have hm := sd_mt hc hm
    refine lv_lload hx hb d_Math_floorMod_25 (lv_at hl 0 rfl) ?_
    exact sd_l0ret hQ hx hb hr hlk hK (hP.sub [] rfl) (hD.sub [] (by decide) rfl) hS (Option.some.inj hm).symm d_Math_floorMod_27
  · have hm := sd_mf hc hm
    refine lv_lload hx hb d_Math_floorMod_13 (lv_at hl 0 rfl) ?_
    refine lv_lconst (v := (0 : Int64)) hx hb d_Math_floorMod_15 (by decide) ?_
    refine sd_leq (tgt := 25) hx hb d_Math_floorMod_16 d_Math_floorMod_17 (by decide) (fun hc => ?_) (fun hc => ?_)
    · have hm := sd_mt hc hm
      refine lv_lload hx hb d_Math_floorMod_25 (lv_at hl 0 rfl) ?_
      exact sd_l0ret hQ hx hb hr hlk hK (hP.sub [] rfl) (hD.sub [] (by decide) rfl) hS (Option.some.inj hm).symm d_Math_floorMod_27
    · have hm := sd_mf hc hm
      refine lv_lload hx hb d_Math_floorMod_20 (lv_at hl 0 rfl) ?_
      refine lv_lload_n hx hb d_Math_floorMod_22 rfl (lv_at hl 2 rfl) ?_
      refine lv_ladd hx hb d_Math_floorMod_23 ?_
      exact sd_l0ret hQ hx hb hr hlk hK (hP.sub [] rfl) (hD.sub [] (by decide) rfl) hS (Option.some.inj hm).symm d_Math_floorMod_24
theorem d_Integer_nlz_0 : decode b_Integer_nlz 0 = .ok (.iload_n 0, 1) := by decide +kernel
theorem d_Integer_nlz_1 : decode b_Integer_nlz 1 = .ok (.ifCond .gt 14, 3) := by decide +kernel
theorem d_Integer_nlz_4 : decode b_Integer_nlz 4 = .ok (.iload_n 0, 1) := by decide +kernel
theorem d_Integer_nlz_5 : decode b_Integer_nlz 5 = .ok (.ifCond .ne 8, 3) := by decide +kernel
theorem d_Integer_nlz_8 : decode b_Integer_nlz 8 = .ok (.bipush 32, 2) := by decide +kernel
theorem d_Integer_nlz_10 : decode b_Integer_nlz 10 = .ok (.goto 4, 3) := by decide +kernel
theorem d_Integer_nlz_13 : decode b_Integer_nlz 13 = .ok (.iconst 0, 1) := by decide +kernel
theorem d_Integer_nlz_14 : decode b_Integer_nlz 14 = .ok (.ireturn, 1) := by decide +kernel
theorem d_Integer_nlz_15 : decode b_Integer_nlz 15 = .ok (.bipush 31, 2) := by decide +kernel
theorem d_Integer_nlz_17 : decode b_Integer_nlz 17 = .ok (.istore_n 1, 1) := by decide +kernel
theorem d_Integer_nlz_18 : decode b_Integer_nlz 18 = .ok (.iload_n 0, 1) := by decide +kernel
theorem d_Integer_nlz_19 : decode b_Integer_nlz 19 = .ok (.ldc_w 264, 3) := by decide +kernel
theorem d_Integer_nlz_22 : decode b_Integer_nlz 22 = .ok (.if_icmp .lt 11, 3) := by decide +kernel
theorem d_Integer_nlz_25 : decode b_Integer_nlz 25 = .ok (.iinc 1 (-16), 3) := by decide +kernel
theorem d_Integer_nlz_28 : decode b_Integer_nlz 28 = .ok (.iload_n 0, 1) := by decide +kernel
theorem d_Integer_nlz_29 : decode b_Integer_nlz 29 = .ok (.bipush 16, 2) := by decide +kernel
theorem d_Integer_nlz_31 : decode b_Integer_nlz 31 = .ok (.iushr, 1) := by decide +kernel
theorem d_Integer_nlz_32 : decode b_Integer_nlz 32 = .ok (.istore_n 0, 1) := by decide +kernel
theorem d_Integer_nlz_33 : decode b_Integer_nlz 33 = .ok (.iload_n 0, 1) := by decide +kernel
theorem d_Integer_nlz_34 : decode b_Integer_nlz 34 = .ok (.sipush 256, 3) := by decide +kernel
theorem d_Integer_nlz_37 : decode b_Integer_nlz 37 = .ok (.if_icmp .lt 11, 3) := by decide +kernel
theorem d_Integer_nlz_40 : decode b_Integer_nlz 40 = .ok (.iinc 1 (-8), 3) := by decide +kernel
theorem d_Integer_nlz_43 : decode b_Integer_nlz 43 = .ok (.iload_n 0, 1) := by decide +kernel
theorem d_Integer_nlz_44 : decode b_Integer_nlz 44 = .ok (.bipush 8, 2) := by decide +kernel
theorem d_Integer_nlz_46 : decode b_Integer_nlz 46 = .ok (.iushr, 1) := by decide +kernel
theorem d_Integer_nlz_47 : decode b_Integer_nlz 47 = .ok (.istore_n 0, 1) := by decide +kernel
theorem d_Integer_nlz_48 : decode b_Integer_nlz 48 = .ok (.iload_n 0, 1) := by decide +kernel
theorem d_Integer_nlz_49 : decode b_Integer_nlz 49 = .ok (.bipush 16, 2) := by decide +kernel
theorem d_Integer_nlz_51 : decode b_Integer_nlz 51 = .ok (.if_icmp .lt 10, 3) := by decide +kernel
theorem d_Integer_nlz_54 : decode b_Integer_nlz 54 = .ok (.iinc 1 (-4), 3) := by decide +kernel
theorem d_Integer_nlz_57 : decode b_Integer_nlz 57 = .ok (.iload_n 0, 1) := by decide +kernel
theorem d_Integer_nlz_58 : decode b_Integer_nlz 58 = .ok (.iconst 4, 1) := by decide +kernel
theorem d_Integer_nlz_59 : decode b_Integer_nlz 59 = .ok (.iushr, 1) := by decide +kernel
theorem d_Integer_nlz_60 : decode b_Integer_nlz 60 = .ok (.istore_n 0, 1) := by decide +kernel
theorem d_Integer_nlz_61 : decode b_Integer_nlz 61 = .ok (.iload_n 0, 1) := by decide +kernel
theorem d_Integer_nlz_62 : decode b_Integer_nlz 62 = .ok (.iconst 4, 1) := by decide +kernel
theorem d_Integer_nlz_63 : decode b_Integer_nlz 63 = .ok (.if_icmp .lt 10, 3) := by decide +kernel
theorem d_Integer_nlz_66 : decode b_Integer_nlz 66 = .ok (.iinc 1 (-2), 3) := by decide +kernel
theorem d_Integer_nlz_69 : decode b_Integer_nlz 69 = .ok (.iload_n 0, 1) := by decide +kernel
theorem d_Integer_nlz_70 : decode b_Integer_nlz 70 = .ok (.iconst 2, 1) := by decide +kernel
theorem d_Integer_nlz_71 : decode b_Integer_nlz 71 = .ok (.iushr, 1) := by decide +kernel
theorem d_Integer_nlz_72 : decode b_Integer_nlz 72 = .ok (.istore_n 0, 1) := by decide +kernel
theorem d_Integer_nlz_73 : decode b_Integer_nlz 73 = .ok (.iload_n 1, 1) := by decide +kernel
theorem d_Integer_nlz_74 : decode b_Integer_nlz 74 = .ok (.iload_n 0, 1) := by decide +kernel
theorem d_Integer_nlz_75 : decode b_Integer_nlz 75 = .ok (.iconst 1, 1) := by decide +kernel
theorem d_Integer_nlz_76 : decode b_Integer_nlz 76 = .ok (.iushr, 1) := by decide +kernel
theorem d_Integer_nlz_77 : decode b_Integer_nlz 77 = .ok (.isub, 1) := by decide +kernel
theorem d_Integer_nlz_78 : decode b_Integer_nlz 78 = .ok (.ireturn, 1) := by decide +kernel
def mf_Integer_nlz (F : Nat) (vX : Int32) : Option (Int32) :=
  (if 0 < vX then (sd_b2 (if vX < (65536 : Int32) then (some (vX, (31 : Int32))) else (sd_let ((31 : Int32) + (-16 : Int32)) fun x1_1 => (sd_let (((vX.toUInt32 >>> ((16 : Int32).toUInt32 &&& Int32.toUInt32 31)).toInt32)) fun x0_1 => (some (x0_1, x1_1))))) fun x0 x1 => (sd_b2 (if x0 < (256 : Int32) then (some (x0, x1)) else (sd_let (x1 + (-8 : Int32)) fun x1_3 => (sd_let (((x0.toUInt32 >>> ((8 : Int32).toUInt32 &&& Int32.toUInt32 31)).toInt32)) fun x0_3 => (some (x0_3, x1_3))))) fun x0_2 x1_2 => (sd_b2 (if x0_2 < (16 : Int32) then (some (x0_2, x1_2)) else (sd_let (x1_2 + (-4 : Int32)) fun x1_5 => (sd_let (((x0_2.toUInt32 >>> ((4 : Int32).toUInt32 &&& Int32.toUInt32 31)).toInt32)) fun x0_5 => (some (x0_5, x1_5))))) fun x0_4 x1_4 => (sd_b2 (if x0_4 < (4 : Int32) then (some (x0_4, x1_4)) else (sd_let (x1_4 + (-2 : Int32)) fun x1_7 => (sd_let (((x0_4.toUInt32 >>> ((2 : Int32).toUInt32 &&& Int32.toUInt32 31)).toInt32)) fun x0_7 => (some (x0_7, x1_7))))) fun x0_6 x1_6 => (some ((x1_6 - ((x0_6.toUInt32 >>> ((1 : Int32).toUInt32 &&& Int32.toUInt32 31)).toInt32)))))))) else (sd_b1 (if vX = 0 then (some ((32 : Int32))) else (some ((0 : Int32)))) fun y => (some (y))))
abbrev rm_Integer_nlz : Room := { frames := 0, cells := 0, slots := 0, locals := 0 }
set_option maxHeartbeats 4000000 in
set_option maxRecDepth 100000 in
theorem ct_Integer_nlz (l : Launch) (D : va_G) (g : G4) (sz : Nat) (vX : Int32) (F : Nat) (res : Int32) (hm : mf_Integer_nlz F vX = some res) : Met l y_Integer_nlz (.code y_Integer_nlz b_Integer_nlz 2 (some .int) :: sd_tb) rm_Integer_nlz (sd_PW D g [.int vX] sz []) (sd_Qi0 D g res [] (va_A [] sz)) 0 0 (va_A [] sz) := by
  refine sd_met (Qf := fun A => sd_Qi0 D g res [] A) (own := R_Integer) (by decide +kernel) rfl (Nat.le_of_ble_eq_true rfl) ?_
  intro p e s m args below meth c S hr hlk hK A hA Q hQ H locs hP hD hS ls hl
  have hx := S.1
  have hb := S.2.1
  have hml := S.2.2.1
  have hown := S.2.2.2.1
  have htt := sd_tt S
  replace hl : lv_has ls 2 [(0, .int vX)] := hl
  unfold mf_Integer_nlz at hm
  refine lv_iload_n hx hb d_Integer_nlz_0 rfl (lv_at hl 0 rfl) ?_
  refine lv_if_gt (tgt := 15) hx hb d_Integer_nlz_1 (by decide) (fun hc => ?_) (fun hc => ?_)
  · have hm := sd_mt hc hm
    refine lv_bipush (v := (31 : Int32)) hx hb d_Integer_nlz_15 (by decide) ?_
    refine lv_istore_n (lv' := [(1, .int (31 : Int32)), (0, .int vX)]) hx hb d_Integer_nlz_17 rfl hl (by decide) rfl (fun ls hl => ?_)
    refine lv_iload_n hx hb d_Integer_nlz_18 rfl (lv_at hl 1 rfl) ?_
    refine lv_ldcw (v := (65536 : Int32)) hx hb hown (htt _ km_Integer_264) d_Integer_nlz_19 ?_
    obtain ⟨x0, x1, hv, hm⟩ := sd_mb2 hm
    have J33_1 : ∀ (H : Heap) (locs : List Loc) (ls : Array Slot), va_P D classes [] H → va_D A [] → va_S A s.heap H locs → lv_has ls 2 [(0, .int x0), (1, .int x1)] → W p l e rm_Integer_nlz s m args below meth c H locs 0 0 Q (F0 m 33 ls []) := by
      intro H locs ls hP hD hS hl
      refine lv_iload_n hx hb d_Integer_nlz_33 rfl (lv_at hl 0 rfl) ?_
      refine lv_sipush (v := (256 : Int32)) hx hb d_Integer_nlz_34 (by decide) ?_
      obtain ⟨x0_2, x1_2, hv, hm⟩ := sd_mb2 hm
      have J48_2 : ∀ (H : Heap) (locs : List Loc) (ls : Array Slot), va_P D classes [] H → va_D A [] → va_S A s.heap H locs → lv_has ls 2 [(0, .int x0_2), (1, .int x1_2)] → W p l e rm_Integer_nlz s m args below meth c H locs 0 0 Q (F0 m 48 ls []) := by
        intro H locs ls hP hD hS hl
        refine lv_iload_n hx hb d_Integer_nlz_48 rfl (lv_at hl 0 rfl) ?_
        refine lv_bipush (v := (16 : Int32)) hx hb d_Integer_nlz_49 (by decide) ?_
        obtain ⟨x0_4, x1_4, hv, hm⟩ := sd_mb2 hm
        have J61_3 : ∀ (H : Heap) (locs : List Loc) (ls : Array Slot), va_P D classes [] H → va_D A [] → va_S A s.heap H locs → lv_has ls 2 [(0, .int x0_4), (1, .int x1_4)] → W p l e rm_Integer_nlz s m args below meth c H locs 0 0 Q (F0 m 61 ls []) := by
          intro H locs ls hP hD hS hl
          refine lv_iload_n hx hb d_Integer_nlz_61 rfl (lv_at hl 0 rfl) ?_
          refine lv_iconst (v := (4 : Int32)) hx hb d_Integer_nlz_62 (by decide) ?_
          obtain ⟨x0_6, x1_6, hv, hm⟩ := sd_mb2 hm
          have J73_4 : ∀ (H : Heap) (locs : List Loc) (ls : Array Slot), va_P D classes [] H → va_D A [] → va_S A s.heap H locs → lv_has ls 2 [(0, .int x0_6), (1, .int x1_6)] → W p l e rm_Integer_nlz s m args below meth c H locs 0 0 Q (F0 m 73 ls []) := by
            intro H locs ls hP hD hS hl
            refine lv_iload_n hx hb d_Integer_nlz_73 rfl (lv_at hl 1 rfl) ?_
            refine lv_iload_n hx hb d_Integer_nlz_74 rfl (lv_at hl 0 rfl) ?_
            refine lv_iconst (v := (1 : Int32)) hx hb d_Integer_nlz_75 (by decide) ?_
            refine lv_iushr hx hb d_Integer_nlz_76 rfl ?_
            refine lv_isub hx hb d_Integer_nlz_77 ?_
            exact sd_i0ret hQ hx hb hr hlk hK (hP.sub [] rfl) (hD.sub [] (by decide) rfl) hS (Option.some.inj hm).symm d_Integer_nlz_78
          replace hm := hv
          refine lv_icmp_lt (tgt := 73) hx hb d_Integer_nlz_63 (by decide) (fun hc => ?_) (fun hc => ?_)
          · have hm := sd_mt hc hm
            cases hm
            exact J73_4 H locs ls (hP.sub [] rfl) (hD.sub [] (by decide) rfl) hS (lv_sub hl [0, 1] rfl)
          · have hm := sd_mf hc hm
            obtain ⟨x1_7, ex1_7, hm⟩ := sd_mlet hm
            refine lv_iinc (v := x1_7) (lv' := [(1, .int x1_7), (0, .int x0_4)]) hx hb d_Integer_nlz_66 hl (k := 1) rfl (by rw [ex1_7]; rfl) (by decide) rfl (fun ls hl => ?_)
            refine lv_iload_n hx hb d_Integer_nlz_69 rfl (lv_at hl 1 rfl) ?_
            refine lv_iconst (v := (2 : Int32)) hx hb d_Integer_nlz_70 (by decide) ?_
            refine lv_iushr hx hb d_Integer_nlz_71 rfl ?_
            obtain ⟨x0_7, ex0_7, hm⟩ := sd_mlet hm
            refine sd_topi ex0_7 ?_
            refine lv_istore_n (lv' := [(0, .int x0_7), (1, .int x1_7)]) hx hb d_Integer_nlz_72 rfl hl (by decide) rfl (fun ls hl => ?_)
            cases hm
            exact J73_4 H locs ls (hP.sub [] rfl) (hD.sub [] (by decide) rfl) hS (lv_sub hl [0, 1] rfl)
        replace hm := hv
        refine lv_icmp_lt (tgt := 61) hx hb d_Integer_nlz_51 (by decide) (fun hc => ?_) (fun hc => ?_)
        · have hm := sd_mt hc hm
          cases hm
          exact J61_3 H locs ls (hP.sub [] rfl) (hD.sub [] (by decide) rfl) hS (lv_sub hl [0, 1] rfl)
        · have hm := sd_mf hc hm
          obtain ⟨x1_5, ex1_5, hm⟩ := sd_mlet hm
          refine lv_iinc (v := x1_5) (lv' := [(1, .int x1_5), (0, .int x0_2)]) hx hb d_Integer_nlz_54 hl (k := 1) rfl (by rw [ex1_5]; rfl) (by decide) rfl (fun ls hl => ?_)
          refine lv_iload_n hx hb d_Integer_nlz_57 rfl (lv_at hl 1 rfl) ?_
          refine lv_iconst (v := (4 : Int32)) hx hb d_Integer_nlz_58 (by decide) ?_
          refine lv_iushr hx hb d_Integer_nlz_59 rfl ?_
          obtain ⟨x0_5, ex0_5, hm⟩ := sd_mlet hm
          refine sd_topi ex0_5 ?_
          refine lv_istore_n (lv' := [(0, .int x0_5), (1, .int x1_5)]) hx hb d_Integer_nlz_60 rfl hl (by decide) rfl (fun ls hl => ?_)
          cases hm
          exact J61_3 H locs ls (hP.sub [] rfl) (hD.sub [] (by decide) rfl) hS (lv_sub hl [0, 1] rfl)
      replace hm := hv
      refine lv_icmp_lt (tgt := 48) hx hb d_Integer_nlz_37 (by decide) (fun hc => ?_) (fun hc => ?_)
      · have hm := sd_mt hc hm
        cases hm
        exact J48_2 H locs ls (hP.sub [] rfl) (hD.sub [] (by decide) rfl) hS (lv_sub hl [0, 1] rfl)
      · have hm := sd_mf hc hm
        obtain ⟨x1_3, ex1_3, hm⟩ := sd_mlet hm
        refine lv_iinc (v := x1_3) (lv' := [(1, .int x1_3), (0, .int x0)]) hx hb d_Integer_nlz_40 hl (k := 1) rfl (by rw [ex1_3]; rfl) (by decide) rfl (fun ls hl => ?_)
        refine lv_iload_n hx hb d_Integer_nlz_43 rfl (lv_at hl 1 rfl) ?_
        refine lv_bipush (v := (8 : Int32)) hx hb d_Integer_nlz_44 (by decide) ?_
        refine lv_iushr hx hb d_Integer_nlz_46 rfl ?_
        obtain ⟨x0_3, ex0_3, hm⟩ := sd_mlet hm
        refine sd_topi ex0_3 ?_
        refine lv_istore_n (lv' := [(0, .int x0_3), (1, .int x1_3)]) hx hb d_Integer_nlz_47 rfl hl (by decide) rfl (fun ls hl => ?_)
        cases hm
        exact J48_2 H locs ls (hP.sub [] rfl) (hD.sub [] (by decide) rfl) hS (lv_sub hl [0, 1] rfl)
    replace hm := hv
    refine lv_icmp_lt (tgt := 33) hx hb d_Integer_nlz_22 (by decide) (fun hc => ?_) (fun hc => ?_)
    · have hm := sd_mt hc hm
      cases hm
      exact J33_1 H locs ls (hP.sub [] rfl) (hD.sub [] (by decide) rfl) hS (lv_sub hl [1, 0] rfl)
    · have hm := sd_mf hc hm
      obtain ⟨x1_1, ex1_1, hm⟩ := sd_mlet hm
      refine lv_iinc (v := x1_1) (lv' := [(1, .int x1_1), (0, .int vX)]) hx hb d_Integer_nlz_25 hl (k := 0) rfl (by rw [ex1_1]; rfl) (by decide) rfl (fun ls hl => ?_)
      refine lv_iload_n hx hb d_Integer_nlz_28 rfl (lv_at hl 1 rfl) ?_
      refine lv_bipush (v := (16 : Int32)) hx hb d_Integer_nlz_29 (by decide) ?_
      refine lv_iushr hx hb d_Integer_nlz_31 rfl ?_
      obtain ⟨x0_1, ex0_1, hm⟩ := sd_mlet hm
      refine sd_topi ex0_1 ?_
      refine lv_istore_n (lv' := [(0, .int x0_1), (1, .int x1_1)]) hx hb d_Integer_nlz_32 rfl hl (by decide) rfl (fun ls hl => ?_)
      cases hm
      exact J33_1 H locs ls (hP.sub [] rfl) (hD.sub [] (by decide) rfl) hS (lv_sub hl [0, 1] rfl)
  · have hm := sd_mf hc hm
    refine lv_iload_n hx hb d_Integer_nlz_4 rfl (lv_at hl 0 rfl) ?_
    obtain ⟨y, hv, hm⟩ := sd_mb1 hm
    have J14_5 : ∀ (H : Heap) (locs : List Loc) (ls : Array Slot), va_P D classes [] H → va_D A [] → va_S A s.heap H locs → lv_has ls 2 [] → W p l e rm_Integer_nlz s m args below meth c H locs 0 0 Q (F0 m 14 ls [.int y]) := by
      intro H locs ls hP hD hS hl
      exact sd_i0ret hQ hx hb hr hlk hK (hP.sub [] rfl) (hD.sub [] (by decide) rfl) hS (Option.some.inj hm).symm d_Integer_nlz_14
    replace hm := hv
    refine lv_if_ne (tgt := 13) hx hb d_Integer_nlz_5 (by decide) (fun hc => ?_) (fun hc => ?_)
    · have hm := sd_mf hc hm
      refine lv_iconst (v := (0 : Int32)) hx hb d_Integer_nlz_13 (by decide) ?_
      cases hm
      exact J14_5 H locs ls (hP.sub [] rfl) (hD.sub [] (by decide) rfl) hS (lv_sub hl [] rfl)
    · have hm := sd_mt hc hm
      refine lv_bipush (v := (32 : Int32)) hx hb d_Integer_nlz_8 (by decide) ?_
      refine lv_goto (tgt := 14) hx hb d_Integer_nlz_10 (by decide) ?_
      cases hm
      exact J14_5 H locs ls (hP.sub [] rfl) (hD.sub [] (by decide) rfl) hS (lv_sub hl [] rfl)
theorem d_Long_nlz_0 : decode b_Long_nlz 0 = .ok (.lload_n 0, 1) := by decide +kernel
theorem d_Long_nlz_1 : decode b_Long_nlz 1 = .ok (.bipush 32, 2) := by decide +kernel
theorem d_Long_nlz_3 : decode b_Long_nlz 3 = .ok (.lushr, 1) := by decide +kernel
theorem d_Long_nlz_4 : decode b_Long_nlz 4 = .ok (.l2i, 1) := by decide +kernel
theorem d_Long_nlz_5 : decode b_Long_nlz 5 = .ok (.istore_n 2, 1) := by decide +kernel
theorem d_Long_nlz_6 : decode b_Long_nlz 6 = .ok (.iload_n 2, 1) := by decide +kernel
theorem d_Long_nlz_7 : decode b_Long_nlz 7 = .ok (.ifCond .ne 14, 3) := by decide +kernel
theorem d_Long_nlz_10 : decode b_Long_nlz 10 = .ok (.bipush 32, 2) := by decide +kernel
theorem d_Long_nlz_12 : decode b_Long_nlz 12 = .ok (.lload_n 0, 1) := by decide +kernel
theorem d_Long_nlz_13 : decode b_Long_nlz 13 = .ok (.l2i, 1) := by decide +kernel
theorem d_Long_nlz_14 : decode b_Long_nlz 14 = .ok (.invokestatic 308, 3) := by decide +kernel
theorem d_Long_nlz_17 : decode b_Long_nlz 17 = .ok (.iadd, 1) := by decide +kernel
theorem d_Long_nlz_18 : decode b_Long_nlz 18 = .ok (.goto 7, 3) := by decide +kernel
theorem d_Long_nlz_21 : decode b_Long_nlz 21 = .ok (.iload_n 2, 1) := by decide +kernel
theorem d_Long_nlz_22 : decode b_Long_nlz 22 = .ok (.invokestatic 308, 3) := by decide +kernel
theorem d_Long_nlz_25 : decode b_Long_nlz 25 = .ok (.ireturn, 1) := by decide +kernel
def mf_Long_nlz (F : Nat) (vX : Int64) : Option (Int32) :=
  (sd_let ((((vX.toUInt64 >>> ((32 : Int32).toInt64.toUInt64 &&& Int64.toUInt64 63)).toInt64).toInt32)) fun x2 => (sd_b1 (if x2 = 0 then (sd_b1 (mf_Integer_nlz F (vX.toInt32)) fun r_1 => (some (((32 : Int32) + r_1)))) else (sd_b1 (mf_Integer_nlz F x2) fun r => (some (r)))) fun y => (some (y))))
abbrev rm_Long_nlz : Room := { frames := 1, cells := 0, slots := 0, locals := 21 }
set_option maxHeartbeats 4000000 in
set_option maxRecDepth 100000 in
theorem ct_Long_nlz (l : Launch) (D : va_G) (g : G4) (sz : Nat) (vX : Int64) (F : Nat) (res : Int32) (hm : mf_Long_nlz F vX = some res) : Met l y_Long_nlz (.code y_Long_nlz b_Long_nlz 3 (some .int) :: sd_tb) rm_Long_nlz (sd_PW D g [.long vX] sz []) (sd_Qi0 D g res [] (va_A [] sz)) 0 0 (va_A [] sz) := by
  refine sd_met (Qf := fun A => sd_Qi0 D g res [] A) (own := R_Long) (by decide +kernel) rfl (Nat.le_of_ble_eq_true rfl) ?_
  intro p e s m args below meth c S hr hlk hK A hA Q hQ H locs hP hD hS ls hl
  have hx := S.1
  have hb := S.2.1
  have hml := S.2.2.1
  have hown := S.2.2.2.1
  have htt := sd_tt S
  replace hl : lv_has ls 3 [(0, .long vX)] := hl
  unfold mf_Long_nlz at hm
  refine lv_lload_n hx hb d_Long_nlz_0 rfl (lv_at hl 0 rfl) ?_
  refine lv_bipush (v := (32 : Int32)) hx hb d_Long_nlz_1 (by decide) ?_
  refine lv_lushr hx hb d_Long_nlz_3 rfl ?_
  refine lv_l2i hx hb d_Long_nlz_4 rfl ?_
  obtain ⟨x2, ex2, hm⟩ := sd_mlet hm
  refine sd_topi ex2 ?_
  refine lv_istore_n (lv' := [(2, .int x2), (0, .long vX)]) hx hb d_Long_nlz_5 rfl hl (by decide) rfl (fun ls hl => ?_)
  refine lv_iload_n hx hb d_Long_nlz_6 rfl (lv_at hl 0 rfl) ?_
  obtain ⟨y, hv, hm⟩ := sd_mb1 hm
  have J25_1 : ∀ (H : Heap) (locs : List Loc) (ls : Array Slot), va_P D classes [] H → va_D A [] → va_S A s.heap H locs → lv_has ls 3 [] → W p l e rm_Long_nlz s m args below meth c H locs 0 0 Q (F0 m 25 ls [.int y]) := by
    intro H locs ls hP hD hS hl
    exact sd_i0ret hQ hx hb hr hlk hK (hP.sub [] rfl) (hD.sub [] (by decide) rfl) hS (Option.some.inj hm).symm d_Long_nlz_25
  replace hm := hv
  refine lv_if_ne (tgt := 21) hx hb d_Long_nlz_7 (by decide) (fun hc => ?_) (fun hc => ?_)
  · have hm := sd_mf hc hm
    refine lv_iload_n hx hb d_Long_nlz_21 rfl (lv_at hl 0 rfl) ?_
    obtain ⟨r, hc, hm⟩ := sd_mb1 hm
    refine sd_ci0 (wr := []) (w2 := []) (sd_runS (rest := []) (As := [.int x2]) S (ct_Integer_nlz l D g (H.size) x2 F (r) hc) kl_Long_308 (by decide) (by decide) hK hP hD [] rfl (by decide) rfl hl d_Long_nlz_22 rfl (Nat.le_of_ble_eq_true rfl) ⟨Nat.zero_le _, Nat.zero_le _⟩) hP hD hS hA [] [] rfl rfl (by decide) (by decide) rfl (fun H locs hP hD hS => ?_)
    refine W.eq (g2 := F0 m 25 ls [.int r]) rfl ?_
    cases hm
    exact J25_1 H locs ls (hP.sub [] rfl) (hD.sub [] (by decide) rfl) hS (lv_sub hl [] rfl)
  · have hm := sd_mt hc hm
    refine lv_bipush (v := (32 : Int32)) hx hb d_Long_nlz_10 (by decide) ?_
    refine lv_lload_n hx hb d_Long_nlz_12 rfl (lv_at hl 1 rfl) ?_
    refine lv_l2i hx hb d_Long_nlz_13 rfl ?_
    obtain ⟨r_1, hc, hm⟩ := sd_mb1 hm
    refine sd_ci0 (wr := []) (w2 := []) (sd_runS (rest := [.int (32 : Int32)]) (As := [.int (vX.toInt32)]) S (ct_Integer_nlz l D g (H.size) (vX.toInt32) F (r_1) hc) kl_Long_308 (by decide) (by decide) hK hP hD [] rfl (by decide) rfl hl d_Long_nlz_14 rfl (Nat.le_of_ble_eq_true rfl) ⟨Nat.zero_le _, Nat.zero_le _⟩) hP hD hS hA [] [] rfl rfl (by decide) (by decide) rfl (fun H locs hP hD hS => ?_)
    refine W.eq (g2 := F0 m 17 ls [.int r_1, .int (32 : Int32)]) rfl ?_
    refine lv_iadd hx hb d_Long_nlz_17 ?_
    refine lv_goto (tgt := 25) hx hb d_Long_nlz_18 (by decide) ?_
    cases hm
    exact J25_1 H locs ls (hP.sub [] rfl) (hD.sub [] (by decide) rfl) hS (lv_sub hl [] rfl)
