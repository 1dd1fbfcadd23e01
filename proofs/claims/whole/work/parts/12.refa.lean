/-! Model_is, Model_divisor, Model_fits, Model_addTerm, Model_keep, Model_load, Model_fraction, Model_root, Model_multiplyTerm, Model_reckon, Model_divide -/
theorem kf_Model_13 : Cond.fieldLink R_Model 13 "SurdDeskModel" "d" "[J" ∈ sd_tb := (sd_in (List.mem_of_getElem? (i := 536) (by decide +kernel)) rfl)
theorem kf_Model_16 : Cond.fieldLink R_Model 16 "SurdDeskModel" "\x72" "[J" ∈ sd_tb := (sd_in (List.mem_of_getElem? (i := 537) (by decide +kernel)) rfl)
theorem kf_Model_19 : Cond.fieldLink R_Model 19 "SurdDeskModel" "count" "[I" ∈ sd_tb := (sd_in (List.mem_of_getElem? (i := 538) (by decide +kernel)) rfl)
theorem kf_Model_23 : Cond.fieldLink R_Model 23 "SurdDeskModel" "newN" "[J" ∈ sd_tb := (sd_in (List.mem_of_getElem? (i := 539) (by decide +kernel)) rfl)
theorem kf_Model_26 : Cond.fieldLink R_Model 26 "SurdDeskModel" "newD" "[J" ∈ sd_tb := (sd_in (List.mem_of_getElem? (i := 540) (by decide +kernel)) rfl)
theorem kf_Model_29 : Cond.fieldLink R_Model 29 "SurdDeskModel" "newR" "[J" ∈ sd_tb := (sd_in (List.mem_of_getElem? (i := 541) (by decide +kernel)) rfl)
theorem kf_Model_9 : Cond.fieldLink R_Model 9 "SurdDeskModel" "n" "[J" ∈ sd_tb := (sd_in (List.mem_of_getElem? (i := 535) (by decide +kernel)) rfl)
theorem kf_Model_97 : Cond.fieldLink R_Model 97 "SurdDeskModel" "made" "I" ∈ sd_tb := (sd_in (List.mem_of_getElem? (i := 542) (by decide +kernel)) rfl)
theorem kl_Model_101 : sd_LS R_Model 101 y_Model_divisor b_Model_divisor 10 (some .long) 2 := ⟨(sd_in (List.mem_of_getElem? (i := 642) (by decide +kernel)) rfl), (sd_in (List.mem_of_getElem? (i := 643) (by decide +kernel)) rfl), (sd_in (List.mem_of_getElem? (i := 40) (by decide +kernel)) rfl), (sd_in (List.mem_of_getElem? (i := 644) (by decide +kernel)) rfl), by decide +kernel, by decide +kernel, by decide +kernel⟩
theorem kl_Model_105 : sd_LS R_Model 105 y_Model_fits b_Model_fits 4 (some .boolean) 2 := ⟨(sd_in (List.mem_of_getElem? (i := 645) (by decide +kernel)) rfl), (sd_in (List.mem_of_getElem? (i := 646) (by decide +kernel)) rfl), (sd_in (List.mem_of_getElem? (i := 40) (by decide +kernel)) rfl), (sd_in (List.mem_of_getElem? (i := 647) (by decide +kernel)) rfl), by decide +kernel, by decide +kernel, by decide +kernel⟩
theorem kl_Model_109 : sd_LS R_Model 109 y_Model_is b_Model_is 1 (some .boolean) 1 := ⟨(sd_in (List.mem_of_getElem? (i := 633) (by decide +kernel)) rfl), (sd_in (List.mem_of_getElem? (i := 634) (by decide +kernel)) rfl), (sd_in (List.mem_of_getElem? (i := 40) (by decide +kernel)) rfl), (sd_in (List.mem_of_getElem? (i := 635) (by decide +kernel)) rfl), by decide +kernel, by decide +kernel, by decide +kernel⟩
theorem kl_Model_113 : sd_LV R_Model 113 y_Model_addTerm b_Model_addTerm 16 (some .boolean) 3 := ⟨(sd_in (List.mem_of_getElem? (i := 638) (by decide +kernel)) rfl), (sd_in (List.mem_of_getElem? (i := 640) (by decide +kernel)) rfl), (sd_in (List.mem_of_getElem? (i := 16) (by decide +kernel)) rfl), (sd_in (List.mem_of_getElem? (i := 40) (by decide +kernel)) rfl), (sd_in (List.mem_of_getElem? (i := 641) (by decide +kernel)) rfl), by decide +kernel, by decide +kernel, by decide +kernel⟩
theorem kl_Model_117 : sd_LV R_Model 117 y_Model_keep b_Model_keep 3 (some .int) 1 := ⟨(sd_in (List.mem_of_getElem? (i := 648) (by decide +kernel)) rfl), (sd_in (List.mem_of_getElem? (i := 650) (by decide +kernel)) rfl), (sd_in (List.mem_of_getElem? (i := 17) (by decide +kernel)) rfl), (sd_in (List.mem_of_getElem? (i := 40) (by decide +kernel)) rfl), (sd_in (List.mem_of_getElem? (i := 651) (by decide +kernel)) rfl), by decide +kernel, by decide +kernel, by decide +kernel⟩
theorem kl_Model_121 : sd_LV R_Model 121 y_Model_fraction b_Model_fraction 2 (some .boolean) 1 := ⟨(sd_in (List.mem_of_getElem? (i := 656) (by decide +kernel)) rfl), (sd_in (List.mem_of_getElem? (i := 658) (by decide +kernel)) rfl), (sd_in (List.mem_of_getElem? (i := 18) (by decide +kernel)) rfl), (sd_in (List.mem_of_getElem? (i := 40) (by decide +kernel)) rfl), (sd_in (List.mem_of_getElem? (i := 659) (by decide +kernel)) rfl), by decide +kernel, by decide +kernel, by decide +kernel⟩
theorem kl_Model_128 : sd_LV R_Model 128 y_Model_multiplyTerm b_Model_multiplyTerm 32 (some .boolean) 4 := ⟨(sd_in (List.mem_of_getElem? (i := 666) (by decide +kernel)) rfl), (sd_in (List.mem_of_getElem? (i := 668) (by decide +kernel)) rfl), (sd_in (List.mem_of_getElem? (i := 19) (by decide +kernel)) rfl), (sd_in (List.mem_of_getElem? (i := 40) (by decide +kernel)) rfl), (sd_in (List.mem_of_getElem? (i := 669) (by decide +kernel)) rfl), by decide +kernel, by decide +kernel, by decide +kernel⟩
theorem kl_Model_132 : sd_LS R_Model 132 Lib.MathLoose.abs_long.x Lib.MathLoose.abs_long.code 2 (some .long) 1 := ⟨(sd_in (List.mem_of_getElem? (i := 674) (by decide +kernel)) rfl), (sd_in (List.mem_of_getElem? (i := 257) (by decide +kernel)) rfl), (sd_in (List.mem_of_getElem? (i := 42) (by decide +kernel)) rfl), (sd_in (List.mem_of_getElem? (i := 258) (by decide +kernel)) rfl), by decide +kernel, by decide +kernel, by decide +kernel⟩
theorem km_Model_124 : Cond.constantLong R_Model 124 (100000000 : Int64) ∈ sd_tb := (sd_in (List.mem_of_getElem? (i := 660) (by decide +kernel)) rfl)
theorem km_Model_126 : Cond.constantLong R_Model 126 (2 : Int64) ∈ sd_tb := (sd_in (List.mem_of_getElem? (i := 661) (by decide +kernel)) rfl)
theorem km_Model_93 : Cond.constantLong R_Model 93 (-1000000000 : Int64) ∈ sd_tb := (sd_in (List.mem_of_getElem? (i := 636) (by decide +kernel)) rfl)
theorem km_Model_95 : Cond.constantLong R_Model 95 (1000000000 : Int64) ∈ sd_tb := (sd_in (List.mem_of_getElem? (i := 637) (by decide +kernel)) rfl)
theorem d_Model_is_0 : decode b_Model_is 0 = .ok (.iload_n 0, 1) := by decide +kernel
theorem d_Model_is_1 : decode b_Model_is 1 = .ok (.ifCond .lt 13, 3) := by decide +kernel
theorem d_Model_is_4 : decode b_Model_is 4 = .ok (.iload_n 0, 1) := by decide +kernel
theorem d_Model_is_5 : decode b_Model_is 5 = .ok (.bipush 8, 2) := by decide +kernel
theorem d_Model_is_7 : decode b_Model_is 7 = .ok (.if_icmp .ge 7, 3) := by decide +kernel
theorem d_Model_is_10 : decode b_Model_is 10 = .ok (.iconst 1, 1) := by decide +kernel
theorem d_Model_is_11 : decode b_Model_is 11 = .ok (.goto 4, 3) := by decide +kernel
theorem d_Model_is_14 : decode b_Model_is 14 = .ok (.iconst 0, 1) := by decide +kernel
theorem d_Model_is_15 : decode b_Model_is 15 = .ok (.ireturn, 1) := by decide +kernel
def mf_Model_is (F : Nat) (vK : Int32) : Option (Int32) :=
  (sd_b1 (if vK < 0 then (some ((0 : Int32))) else (if (8 : Int32) ≤ vK then (some ((0 : Int32))) else (some ((1 : Int32))))) fun y => (sd_g (sd_b01 y) (some (y))))
abbrev rm_Model_is : Room := { frames := 0, cells := 0, slots := 0, locals := 0 }
set_option maxHeartbeats 4000000 in
set_option maxRecDepth 100000 in
theorem ct_Model_is (l : Launch) (D : va_G) (g : G4) (sz : Nat) (vK : Int32) (F : Nat) (res : Int32) (hm : mf_Model_is F vK = some res) : Met l y_Model_is (.code y_Model_is b_Model_is 1 (some .boolean) :: sd_tb) rm_Model_is (sd_PW D g [.int vK] sz []) (sd_Qi0 D g res [] (va_A [] sz)) 0 0 (va_A [] sz) := by
  refine sd_met (Qf := fun A => sd_Qi0 D g res [] A) (own := R_Model) (by decide +kernel) rfl (Nat.le_of_ble_eq_true rfl) ?_
  intro p e s m args below meth c S hr hlk hK A hA Q hQ H locs hP hD hS ls hl
  have hx := S.1
  have hb := S.2.1
  have hml := S.2.2.1
  have hown := S.2.2.2.1
  have htt := sd_tt S
  replace hl : lv_has ls 1 [(0, .int vK)] := hl
  unfold mf_Model_is at hm
  refine lv_iload_n hx hb d_Model_is_0 rfl (lv_at hl 0 rfl) ?_
  obtain ⟨y, hv, hm⟩ := sd_mb1 hm
  have J15_1 : ∀ (H : Heap) (locs : List Loc) (ls : Array Slot), va_P D classes [] H → va_D A [] → va_S A s.heap H locs → lv_has ls 1 [] → W p l e rm_Model_is s m args below meth c H locs 0 0 Q (F0 m 15 ls [.int y]) := by
    intro H locs ls hP hD hS hl
    obtain ⟨h_2, hm⟩ := sd_mg hm
    exact sd_z0ret hQ hx hb hr hlk (sd_zb h_2) hK (hP.sub [] rfl) (hD.sub [] (by decide) rfl) hS (Option.some.inj hm).symm d_Model_is_15
  replace hm := hv
  refine lv_if_lt (tgt := 14) hx hb d_Model_is_1 (by decide) (fun hc => ?_) (fun hc => ?_)
  · have hm := sd_mt hc hm
    refine lv_iconst (v := (0 : Int32)) hx hb d_Model_is_14 (by decide) ?_
    cases hm
    exact J15_1 H locs ls (hP.sub [] rfl) (hD.sub [] (by decide) rfl) hS (lv_sub hl [] rfl)
  · have hm := sd_mf hc hm
    refine lv_iload_n hx hb d_Model_is_4 rfl (lv_at hl 0 rfl) ?_
    refine lv_bipush (v := (8 : Int32)) hx hb d_Model_is_5 (by decide) ?_
    refine lv_icmp_ge (tgt := 14) hx hb d_Model_is_7 (by decide) (fun hc => ?_) (fun hc => ?_)
    · have hm := sd_mt hc hm
      refine lv_iconst (v := (0 : Int32)) hx hb d_Model_is_14 (by decide) ?_
      cases hm
      exact J15_1 H locs ls (hP.sub [] rfl) (hD.sub [] (by decide) rfl) hS (lv_sub hl [] rfl)
    · have hm := sd_mf hc hm
      refine lv_iconst (v := (1 : Int32)) hx hb d_Model_is_10 (by decide) ?_
      refine lv_goto (tgt := 15) hx hb d_Model_is_11 (by decide) ?_
      cases hm
      exact J15_1 H locs ls (hP.sub [] rfl) (hD.sub [] (by decide) rfl) hS (lv_sub hl [] rfl)
theorem d_Model_divisor_0 : decode b_Model_divisor 0 = .ok (.lload_n 0, 1) := by decide +kernel
theorem d_Model_divisor_1 : decode b_Model_divisor 1 = .ok (.lstore 4, 2) := by decide +kernel
theorem d_Model_divisor_3 : decode b_Model_divisor 3 = .ok (.lload_n 2, 1) := by decide +kernel
theorem d_Model_divisor_4 : decode b_Model_divisor 4 = .ok (.lstore 6, 2) := by decide +kernel
theorem d_Model_divisor_6 : decode b_Model_divisor 6 = .ok (.lload 6, 2) := by decide +kernel
theorem d_Model_divisor_8 : decode b_Model_divisor 8 = .ok (.lconst 0, 1) := by decide +kernel
theorem d_Model_divisor_9 : decode b_Model_divisor 9 = .ok (.lcmp, 1) := by decide +kernel
theorem d_Model_divisor_10 : decode b_Model_divisor 10 = .ok (.ifCond .eq 21, 3) := by decide +kernel
theorem d_Model_divisor_13 : decode b_Model_divisor 13 = .ok (.lload 4, 2) := by decide +kernel
theorem d_Model_divisor_15 : decode b_Model_divisor 15 = .ok (.lload 6, 2) := by decide +kernel
theorem d_Model_divisor_17 : decode b_Model_divisor 17 = .ok (.lrem, 1) := by decide +kernel
theorem d_Model_divisor_18 : decode b_Model_divisor 18 = .ok (.lstore 8, 2) := by decide +kernel
theorem d_Model_divisor_20 : decode b_Model_divisor 20 = .ok (.lload 6, 2) := by decide +kernel
theorem d_Model_divisor_22 : decode b_Model_divisor 22 = .ok (.lstore 4, 2) := by decide +kernel
theorem d_Model_divisor_24 : decode b_Model_divisor 24 = .ok (.lload 8, 2) := by decide +kernel
theorem d_Model_divisor_26 : decode b_Model_divisor 26 = .ok (.lstore 6, 2) := by decide +kernel
theorem d_Model_divisor_28 : decode b_Model_divisor 28 = .ok (.goto (-22), 3) := by decide +kernel
theorem d_Model_divisor_31 : decode b_Model_divisor 31 = .ok (.lload 4, 2) := by decide +kernel
theorem d_Model_divisor_33 : decode b_Model_divisor 33 = .ok (.lconst 0, 1) := by decide +kernel
theorem d_Model_divisor_34 : decode b_Model_divisor 34 = .ok (.lcmp, 1) := by decide +kernel
theorem d_Model_divisor_35 : decode b_Model_divisor 35 = .ok (.ifCond .ge 9, 3) := by decide +kernel
theorem d_Model_divisor_38 : decode b_Model_divisor 38 = .ok (.lload 4, 2) := by decide +kernel
theorem d_Model_divisor_40 : decode b_Model_divisor 40 = .ok (.lneg, 1) := by decide +kernel
theorem d_Model_divisor_41 : decode b_Model_divisor 41 = .ok (.goto 5, 3) := by decide +kernel
theorem d_Model_divisor_44 : decode b_Model_divisor 44 = .ok (.lload 4, 2) := by decide +kernel
theorem d_Model_divisor_46 : decode b_Model_divisor 46 = .ok (.lreturn, 1) := by decide +kernel
def mf_Model_divisor_L6  : Nat → Int64 → Int64 → Option (Int64)
  | 0, _, _ => none
  | fu + 1, x4, x6 => (if x6 = (0 : Int64) then (some (x4)) else (sd_g (sd_zJ x6) (sd_let ((x4 - x4 / x6 * x6)) fun x8 => ((mf_Model_divisor_L6  fu) x6 x8))))
def mf_Model_divisor (F : Nat) (vA : Int64) (vB : Int64) : Option (Int64) :=
  (sd_b1 (mf_Model_divisor_L6  F vA vB) fun rx4 => (sd_b1 (if (0 : Int64) ≤ rx4 then (some (rx4)) else (some ((-rx4)))) fun y => (some (y))))
abbrev rm_Model_divisor : Room := { frames := 0, cells := 0, slots := 0, locals := 0 }
set_option maxHeartbeats 4000000 in
set_option maxRecDepth 100000 in
theorem ct_Model_divisor (l : Launch) (D : va_G) (g : G4) (sz : Nat) (vA : Int64) (vB : Int64) (F : Nat) (res : Int64) (hm : mf_Model_divisor F vA vB = some res) : Met l y_Model_divisor (.code y_Model_divisor b_Model_divisor 10 (some .long) :: sd_tb) rm_Model_divisor (sd_PW D g [.long vA, .long vB] sz []) (sd_Ql0 D g res [] (va_A [] sz)) 0 0 (va_A [] sz) := by
  refine sd_met (Qf := fun A => sd_Ql0 D g res [] A) (own := R_Model) (by decide +kernel) rfl (Nat.le_of_ble_eq_true rfl) ?_
  intro p e s m args below meth c S hr hlk hK A hA Q hQ H locs hP hD hS ls hl
  have hx := S.1
  have hb := S.2.1
  have hml := S.2.2.1
  have hown := S.2.2.2.1
  have htt := sd_tt S
  replace hl : lv_has ls 10 [(0, .long vA), (2, .long vB)] := hl
  unfold mf_Model_divisor at hm
  refine lv_lload_n hx hb d_Model_divisor_0 rfl (lv_at hl 0 rfl) ?_
  refine lv_lstore (lv' := [(4, .long vA), (0, .long vA), (2, .long vB)]) hx hb d_Model_divisor_1 hl (by decide) rfl (fun ls hl => ?_)
  refine lv_lload_n hx hb d_Model_divisor_3 rfl (lv_at hl 2 rfl) ?_
  refine lv_lstore (lv' := [(6, .long vB), (4, .long vA), (0, .long vA), (2, .long vB)]) hx hb d_Model_divisor_4 hl (by decide) rfl (fun ls hl => ?_)
  have L6 : ∀ (fu : Nat) (x4 : Int64) (x6 : Int64) (rx4 : Int64), mf_Model_divisor_L6  fu x4 x6 = some (rx4) → ∀ (H : Heap) (locs : List Loc) (ls : Array Slot), va_P D classes [] H → va_D A [] → va_S A s.heap H locs → lv_has ls 10 [(4, .long x4), (6, .long x6)] → (∀ (H : Heap) (locs : List Loc) (ls : Array Slot), va_P D classes [] H → va_D A [] → va_S A s.heap H locs → lv_has ls 10 [(4, .long rx4)] → W p l e rm_Model_divisor s m args below meth c H locs 0 0 Q (F0 m 31 ls [])) → W p l e rm_Model_divisor s m args below meth c H locs 0 0 Q (F0 m 6 ls []) := by
    intro fu
    induction fu with
    | zero => intro x4 x6 rx4 hm; exact absurd (show (none : Option (Int64)) = some (rx4) from hm) (fun h => nomatch h)
    | succ fu ih =>
      intro x4 x6 rx4 hm H locs ls hP hD hS hl kx31
      rw [mf_Model_divisor_L6] at hm
      refine lv_lload hx hb d_Model_divisor_6 (lv_at hl 1 rfl) ?_
      refine lv_lconst (v := (0 : Int64)) hx hb d_Model_divisor_8 (by decide) ?_
      refine sd_leq (tgt := 31) hx hb d_Model_divisor_9 d_Model_divisor_10 (by decide) (fun hc => ?_) (fun hc => ?_)
      · have hm := sd_mt hc hm
        cases hm
        exact kx31 H locs ls (hP.sub [] rfl) (hD.sub [] (by decide) rfl) hS (lv_sub hl [0] rfl)
      · have hm := sd_mf hc hm
        refine lv_lload hx hb d_Model_divisor_13 (lv_at hl 0 rfl) ?_
        refine lv_lload hx hb d_Model_divisor_15 (lv_at hl 1 rfl) ?_
        obtain ⟨h_1, hm⟩ := sd_mg hm
        refine lv_lrem hx hb d_Model_divisor_17 (sd_nzJ h_1) ?_
        obtain ⟨x8, ex8, hm⟩ := sd_mlet hm
        refine sd_topj ex8 ?_
        refine lv_lstore (lv' := [(8, .long x8), (4, .long x4), (6, .long x6)]) hx hb d_Model_divisor_18 hl (by decide) rfl (fun ls hl => ?_)
        refine lv_lload hx hb d_Model_divisor_20 (lv_at hl 2 rfl) ?_
        refine lv_lstore (lv' := [(4, .long x6), (8, .long x8), (6, .long x6)]) hx hb d_Model_divisor_22 hl (by decide) rfl (fun ls hl => ?_)
        refine lv_lload hx hb d_Model_divisor_24 (lv_at hl 1 rfl) ?_
        refine lv_lstore (lv' := [(6, .long x8), (4, .long x6), (8, .long x8)]) hx hb d_Model_divisor_26 hl (by decide) rfl (fun ls hl => ?_)
        refine lv_goto (tgt := 6) hx hb d_Model_divisor_28 (by decide) ?_
        exact ih x6 x8 rx4 hm H locs ls (hP.sub [] rfl) (hD.sub [] (by decide) rfl) hS (lv_sub hl [1, 0] rfl) kx31
  obtain ⟨rx4, hc, hm⟩ := sd_mb1 hm
  refine L6 F vA vB rx4 hc H locs ls (hP.sub [] rfl) (hD.sub [] (by decide) rfl) hS (lv_sub hl [1, 0] rfl) ?_
  intro H locs ls hP hD hS hl
  refine lv_lload hx hb d_Model_divisor_31 (lv_at hl 0 rfl) ?_
  refine lv_lconst (v := (0 : Int64)) hx hb d_Model_divisor_33 (by decide) ?_
  obtain ⟨y, hv, hm⟩ := sd_mb1 hm
  have J46_2 : ∀ (H : Heap) (locs : List Loc) (ls : Array Slot), va_P D classes [] H → va_D A [] → va_S A s.heap H locs → lv_has ls 10 [] → W p l e rm_Model_divisor s m args below meth c H locs 0 0 Q (F0 m 46 ls [.long y]) := by
    intro H locs ls hP hD hS hl
    exact sd_l0ret hQ hx hb hr hlk hK (hP.sub [] rfl) (hD.sub [] (by decide) rfl) hS (Option.some.inj hm).symm d_Model_divisor_46
  replace hm := hv
  refine sd_lge (tgt := 44) hx hb d_Model_divisor_34 d_Model_divisor_35 (by decide) (fun hc => ?_) (fun hc => ?_)
  · have hm := sd_mt hc hm
    refine lv_lload hx hb d_Model_divisor_44 (lv_at hl 0 rfl) ?_
    cases hm
    exact J46_2 H locs ls (hP.sub [] rfl) (hD.sub [] (by decide) rfl) hS (lv_sub hl [] rfl)
  · have hm := sd_mf hc hm
    refine lv_lload hx hb d_Model_divisor_38 (lv_at hl 0 rfl) ?_
    refine lv_lneg hx hb d_Model_divisor_40 ?_
    refine lv_goto (tgt := 46) hx hb d_Model_divisor_41 (by decide) ?_
    cases hm
    exact J46_2 H locs ls (hP.sub [] rfl) (hD.sub [] (by decide) rfl) hS (lv_sub hl [] rfl)
theorem d_Model_fits_0 : decode b_Model_fits 0 = .ok (.lload_n 0, 1) := by decide +kernel
theorem d_Model_fits_1 : decode b_Model_fits 1 = .ok (.ldc2_w 93, 3) := by decide +kernel
theorem d_Model_fits_4 : decode b_Model_fits 4 = .ok (.lcmp, 1) := by decide +kernel
theorem d_Model_fits_5 : decode b_Model_fits 5 = .ok (.ifCond .lt 29, 3) := by decide +kernel
theorem d_Model_fits_8 : decode b_Model_fits 8 = .ok (.lload_n 0, 1) := by decide +kernel
theorem d_Model_fits_9 : decode b_Model_fits 9 = .ok (.ldc2_w 95, 3) := by decide +kernel
theorem d_Model_fits_12 : decode b_Model_fits 12 = .ok (.lcmp, 1) := by decide +kernel
theorem d_Model_fits_13 : decode b_Model_fits 13 = .ok (.ifCond .gt 21, 3) := by decide +kernel
theorem d_Model_fits_16 : decode b_Model_fits 16 = .ok (.lload_n 2, 1) := by decide +kernel
theorem d_Model_fits_17 : decode b_Model_fits 17 = .ok (.lconst 1, 1) := by decide +kernel
theorem d_Model_fits_18 : decode b_Model_fits 18 = .ok (.lcmp, 1) := by decide +kernel
theorem d_Model_fits_19 : decode b_Model_fits 19 = .ok (.ifCond .lt 15, 3) := by decide +kernel
theorem d_Model_fits_22 : decode b_Model_fits 22 = .ok (.lload_n 2, 1) := by decide +kernel
theorem d_Model_fits_23 : decode b_Model_fits 23 = .ok (.ldc2_w 95, 3) := by decide +kernel
theorem d_Model_fits_26 : decode b_Model_fits 26 = .ok (.lcmp, 1) := by decide +kernel
theorem d_Model_fits_27 : decode b_Model_fits 27 = .ok (.ifCond .gt 7, 3) := by decide +kernel
theorem d_Model_fits_30 : decode b_Model_fits 30 = .ok (.iconst 1, 1) := by decide +kernel
theorem d_Model_fits_31 : decode b_Model_fits 31 = .ok (.goto 4, 3) := by decide +kernel
theorem d_Model_fits_34 : decode b_Model_fits 34 = .ok (.iconst 0, 1) := by decide +kernel
theorem d_Model_fits_35 : decode b_Model_fits 35 = .ok (.ireturn, 1) := by decide +kernel
def mf_Model_fits (F : Nat) (vA : Int64) (vB : Int64) : Option (Int32) :=
  (sd_b1 (if vA < (-1000000000 : Int64) then (some ((0 : Int32))) else (if (1000000000 : Int64) < vA then (some ((0 : Int32))) else (if vB < (1 : Int64) then (some ((0 : Int32))) else (if (1000000000 : Int64) < vB then (some ((0 : Int32))) else (some ((1 : Int32))))))) fun y => (sd_g (sd_b01 y) (some (y))))
abbrev rm_Model_fits : Room := { frames := 0, cells := 0, slots := 0, locals := 0 }
set_option maxHeartbeats 4000000 in
set_option maxRecDepth 100000 in
theorem ct_Model_fits (l : Launch) (D : va_G) (g : G4) (sz : Nat) (vA : Int64) (vB : Int64) (F : Nat) (res : Int32) (hm : mf_Model_fits F vA vB = some res) : Met l y_Model_fits (.code y_Model_fits b_Model_fits 4 (some .boolean) :: sd_tb) rm_Model_fits (sd_PW D g [.long vA, .long vB] sz []) (sd_Qi0 D g res [] (va_A [] sz)) 0 0 (va_A [] sz) := by
  refine sd_met (Qf := fun A => sd_Qi0 D g res [] A) (own := R_Model) (by decide +kernel) rfl (Nat.le_of_ble_eq_true rfl) ?_
  intro p e s m args below meth c S hr hlk hK A hA Q hQ H locs hP hD hS ls hl
  have hx := S.1
  have hb := S.2.1
  have hml := S.2.2.1
  have hown := S.2.2.2.1
  have htt := sd_tt S
  replace hl : lv_has ls 4 [(0, .long vA), (2, .long vB)] := hl
  unfold mf_Model_fits at hm
  refine lv_lload_n hx hb d_Model_fits_0 rfl (lv_at hl 0 rfl) ?_
  refine sd_ldc2 (v := (-1000000000 : Int64)) hx hb hown (htt _ km_Model_93) d_Model_fits_1 ?_
  obtain ⟨y, hv, hm⟩ := sd_mb1 hm
  have J35_1 : ∀ (H : Heap) (locs : List Loc) (ls : Array Slot), va_P D classes [] H → va_D A [] → va_S A s.heap H locs → lv_has ls 4 [] → W p l e rm_Model_fits s m args below meth c H locs 0 0 Q (F0 m 35 ls [.int y]) := by
    intro H locs ls hP hD hS hl
    obtain ⟨h_2, hm⟩ := sd_mg hm
    exact sd_z0ret hQ hx hb hr hlk (sd_zb h_2) hK (hP.sub [] rfl) (hD.sub [] (by decide) rfl) hS (Option.some.inj hm).symm d_Model_fits_35
  replace hm := hv
  refine sd_llt (tgt := 34) hx hb d_Model_fits_4 d_Model_fits_5 (by decide) (fun hc => ?_) (fun hc => ?_)
  · have hm := sd_mt hc hm
    refine lv_iconst (v := (0 : Int32)) hx hb d_Model_fits_34 (by decide) ?_
    cases hm
    exact J35_1 H locs ls (hP.sub [] rfl) (hD.sub [] (by decide) rfl) hS (lv_sub hl [] rfl)
  · have hm := sd_mf hc hm
    refine lv_lload_n hx hb d_Model_fits_8 rfl (lv_at hl 0 rfl) ?_
    refine sd_ldc2 (v := (1000000000 : Int64)) hx hb hown (htt _ km_Model_95) d_Model_fits_9 ?_
    refine sd_lgt (tgt := 34) hx hb d_Model_fits_12 d_Model_fits_13 (by decide) (fun hc => ?_) (fun hc => ?_)
    · have hm := sd_mt hc hm
      refine lv_iconst (v := (0 : Int32)) hx hb d_Model_fits_34 (by decide) ?_
      cases hm
      exact J35_1 H locs ls (hP.sub [] rfl) (hD.sub [] (by decide) rfl) hS (lv_sub hl [] rfl)
    · have hm := sd_mf hc hm
      refine lv_lload_n hx hb d_Model_fits_16 rfl (lv_at hl 1 rfl) ?_
      refine lv_lconst (v := (1 : Int64)) hx hb d_Model_fits_17 (by decide) ?_
      refine sd_llt (tgt := 34) hx hb d_Model_fits_18 d_Model_fits_19 (by decide) (fun hc => ?_) (fun hc => ?_)
      · have hm := sd_mt hc hm
        refine lv_iconst (v := (0 : Int32)) hx hb d_Model_fits_34 (by decide) ?_
        cases hm
        exact J35_1 H locs ls (hP.sub [] rfl) (hD.sub [] (by decide) rfl) hS (lv_sub hl [] rfl)
      · have hm := sd_mf hc hm
        refine lv_lload_n hx hb d_Model_fits_22 rfl (lv_at hl 1 rfl) ?_
        refine sd_ldc2 (v := (1000000000 : Int64)) hx hb hown (htt _ km_Model_95) d_Model_fits_23 ?_
        refine sd_lgt (tgt := 34) hx hb d_Model_fits_26 d_Model_fits_27 (by decide) (fun hc => ?_) (fun hc => ?_)
        · have hm := sd_mt hc hm
          refine lv_iconst (v := (0 : Int32)) hx hb d_Model_fits_34 (by decide) ?_
          cases hm
          exact J35_1 H locs ls (hP.sub [] rfl) (hD.sub [] (by decide) rfl) hS (lv_sub hl [] rfl)
        · have hm := sd_mf hc hm
          refine lv_iconst (v := (1 : Int32)) hx hb d_Model_fits_30 (by decide) ?_
          refine lv_goto (tgt := 35) hx hb d_Model_fits_31 (by decide) ?_
          cases hm
          exact J35_1 H locs ls (hP.sub [] rfl) (hD.sub [] (by decide) rfl) hS (lv_sub hl [] rfl)
theorem d_Model_addTerm_0 : decode b_Model_addTerm 0 = .ok (.iconst 0, 1) := by decide +kernel
theorem d_Model_addTerm_1 : decode b_Model_addTerm 1 = .ok (.istore 7, 2) := by decide +kernel
theorem d_Model_addTerm_3 : decode b_Model_addTerm 3 = .ok (.iload 7, 2) := by decide +kernel
theorem d_Model_addTerm_5 : decode b_Model_addTerm 5 = .ok (.aload_n 0, 1) := by decide +kernel
theorem d_Model_addTerm_6 : decode b_Model_addTerm 6 = .ok (.getfield 97, 3) := by decide +kernel
theorem d_Model_addTerm_9 : decode b_Model_addTerm 9 = .ok (.if_icmp .ge 22, 3) := by decide +kernel
theorem d_Model_addTerm_12 : decode b_Model_addTerm 12 = .ok (.aload_n 0, 1) := by decide +kernel
theorem d_Model_addTerm_13 : decode b_Model_addTerm 13 = .ok (.getfield 29, 3) := by decide +kernel
theorem d_Model_addTerm_16 : decode b_Model_addTerm 16 = .ok (.iload 7, 2) := by decide +kernel
theorem d_Model_addTerm_18 : decode b_Model_addTerm 18 = .ok (.laload, 1) := by decide +kernel
theorem d_Model_addTerm_19 : decode b_Model_addTerm 19 = .ok (.lload 5, 2) := by decide +kernel
theorem d_Model_addTerm_21 : decode b_Model_addTerm 21 = .ok (.lcmp, 1) := by decide +kernel
theorem d_Model_addTerm_22 : decode b_Model_addTerm 22 = .ok (.ifCond .ge 9, 3) := by decide +kernel
theorem d_Model_addTerm_25 : decode b_Model_addTerm 25 = .ok (.iinc 7 1, 3) := by decide +kernel
theorem d_Model_addTerm_28 : decode b_Model_addTerm 28 = .ok (.goto (-25), 3) := by decide +kernel
theorem d_Model_addTerm_31 : decode b_Model_addTerm 31 = .ok (.iload 7, 2) := by decide +kernel
theorem d_Model_addTerm_33 : decode b_Model_addTerm 33 = .ok (.aload_n 0, 1) := by decide +kernel
theorem d_Model_addTerm_34 : decode b_Model_addTerm 34 = .ok (.getfield 97, 3) := by decide +kernel
theorem d_Model_addTerm_37 : decode b_Model_addTerm 37 = .ok (.if_icmp .ge 20, 3) := by decide +kernel
theorem d_Model_addTerm_40 : decode b_Model_addTerm 40 = .ok (.aload_n 0, 1) := by decide +kernel
theorem d_Model_addTerm_41 : decode b_Model_addTerm 41 = .ok (.getfield 29, 3) := by decide +kernel
theorem d_Model_addTerm_44 : decode b_Model_addTerm 44 = .ok (.iload 7, 2) := by decide +kernel
theorem d_Model_addTerm_46 : decode b_Model_addTerm 46 = .ok (.laload, 1) := by decide +kernel
theorem d_Model_addTerm_47 : decode b_Model_addTerm 47 = .ok (.lload 5, 2) := by decide +kernel
theorem d_Model_addTerm_49 : decode b_Model_addTerm 49 = .ok (.lcmp, 1) := by decide +kernel
theorem d_Model_addTerm_50 : decode b_Model_addTerm 50 = .ok (.ifCond .ne 7, 3) := by decide +kernel
theorem d_Model_addTerm_53 : decode b_Model_addTerm 53 = .ok (.iconst 1, 1) := by decide +kernel
theorem d_Model_addTerm_54 : decode b_Model_addTerm 54 = .ok (.goto 4, 3) := by decide +kernel
theorem d_Model_addTerm_57 : decode b_Model_addTerm 57 = .ok (.iconst 0, 1) := by decide +kernel
theorem d_Model_addTerm_58 : decode b_Model_addTerm 58 = .ok (.istore 8, 2) := by decide +kernel
theorem d_Model_addTerm_60 : decode b_Model_addTerm 60 = .ok (.iload 8, 2) := by decide +kernel
theorem d_Model_addTerm_62 : decode b_Model_addTerm 62 = .ok (.ifCond .eq 25, 3) := by decide +kernel
theorem d_Model_addTerm_65 : decode b_Model_addTerm 65 = .ok (.aload_n 0, 1) := by decide +kernel
theorem d_Model_addTerm_66 : decode b_Model_addTerm 66 = .ok (.getfield 23, 3) := by decide +kernel
theorem d_Model_addTerm_69 : decode b_Model_addTerm 69 = .ok (.iload 7, 2) := by decide +kernel
theorem d_Model_addTerm_71 : decode b_Model_addTerm 71 = .ok (.laload, 1) := by decide +kernel
theorem d_Model_addTerm_72 : decode b_Model_addTerm 72 = .ok (.lload_n 3, 1) := by decide +kernel
theorem d_Model_addTerm_73 : decode b_Model_addTerm 73 = .ok (.lmul, 1) := by decide +kernel
theorem d_Model_addTerm_74 : decode b_Model_addTerm 74 = .ok (.lload_n 1, 1) := by decide +kernel
theorem d_Model_addTerm_75 : decode b_Model_addTerm 75 = .ok (.aload_n 0, 1) := by decide +kernel
theorem d_Model_addTerm_76 : decode b_Model_addTerm 76 = .ok (.getfield 26, 3) := by decide +kernel
theorem d_Model_addTerm_79 : decode b_Model_addTerm 79 = .ok (.iload 7, 2) := by decide +kernel
theorem d_Model_addTerm_81 : decode b_Model_addTerm 81 = .ok (.laload, 1) := by decide +kernel
theorem d_Model_addTerm_82 : decode b_Model_addTerm 82 = .ok (.lmul, 1) := by decide +kernel
theorem d_Model_addTerm_83 : decode b_Model_addTerm 83 = .ok (.ladd, 1) := by decide +kernel
theorem d_Model_addTerm_84 : decode b_Model_addTerm 84 = .ok (.goto 4, 3) := by decide +kernel
theorem d_Model_addTerm_87 : decode b_Model_addTerm 87 = .ok (.lload_n 1, 1) := by decide +kernel
theorem d_Model_addTerm_88 : decode b_Model_addTerm 88 = .ok (.lstore 9, 2) := by decide +kernel
theorem d_Model_addTerm_90 : decode b_Model_addTerm 90 = .ok (.iload 8, 2) := by decide +kernel
theorem d_Model_addTerm_92 : decode b_Model_addTerm 92 = .ok (.ifCond .eq 15, 3) := by decide +kernel
theorem d_Model_addTerm_95 : decode b_Model_addTerm 95 = .ok (.aload_n 0, 1) := by decide +kernel
theorem d_Model_addTerm_96 : decode b_Model_addTerm 96 = .ok (.getfield 26, 3) := by decide +kernel
theorem d_Model_addTerm_99 : decode b_Model_addTerm 99 = .ok (.iload 7, 2) := by decide +kernel
theorem d_Model_addTerm_101 : decode b_Model_addTerm 101 = .ok (.laload, 1) := by decide +kernel
theorem d_Model_addTerm_102 : decode b_Model_addTerm 102 = .ok (.lload_n 3, 1) := by decide +kernel
theorem d_Model_addTerm_103 : decode b_Model_addTerm 103 = .ok (.lmul, 1) := by decide +kernel
theorem d_Model_addTerm_104 : decode b_Model_addTerm 104 = .ok (.goto 4, 3) := by decide +kernel
theorem d_Model_addTerm_107 : decode b_Model_addTerm 107 = .ok (.lload_n 3, 1) := by decide +kernel
theorem d_Model_addTerm_108 : decode b_Model_addTerm 108 = .ok (.lstore 11, 2) := by decide +kernel
theorem d_Model_addTerm_110 : decode b_Model_addTerm 110 = .ok (.lload 9, 2) := by decide +kernel
theorem d_Model_addTerm_112 : decode b_Model_addTerm 112 = .ok (.lconst 0, 1) := by decide +kernel
theorem d_Model_addTerm_113 : decode b_Model_addTerm 113 = .ok (.lcmp, 1) := by decide +kernel
theorem d_Model_addTerm_114 : decode b_Model_addTerm 114 = .ok (.ifCond .ne 82, 3) := by decide +kernel
theorem d_Model_addTerm_117 : decode b_Model_addTerm 117 = .ok (.aload_n 0, 1) := by decide +kernel
theorem d_Model_addTerm_118 : decode b_Model_addTerm 118 = .ok (.dup, 1) := by decide +kernel
theorem d_Model_addTerm_119 : decode b_Model_addTerm 119 = .ok (.getfield 97, 3) := by decide +kernel
theorem d_Model_addTerm_122 : decode b_Model_addTerm 122 = .ok (.iconst 1, 1) := by decide +kernel
theorem d_Model_addTerm_123 : decode b_Model_addTerm 123 = .ok (.isub, 1) := by decide +kernel
theorem d_Model_addTerm_124 : decode b_Model_addTerm 124 = .ok (.putfield 97, 3) := by decide +kernel
theorem d_Model_addTerm_127 : decode b_Model_addTerm 127 = .ok (.iload 7, 2) := by decide +kernel
theorem d_Model_addTerm_129 : decode b_Model_addTerm 129 = .ok (.istore 13, 2) := by decide +kernel
theorem d_Model_addTerm_131 : decode b_Model_addTerm 131 = .ok (.iload 13, 2) := by decide +kernel
theorem d_Model_addTerm_133 : decode b_Model_addTerm 133 = .ok (.aload_n 0, 1) := by decide +kernel
theorem d_Model_addTerm_134 : decode b_Model_addTerm 134 = .ok (.getfield 97, 3) := by decide +kernel
theorem d_Model_addTerm_137 : decode b_Model_addTerm 137 = .ok (.if_icmp .ge 57, 3) := by decide +kernel
theorem d_Model_addTerm_140 : decode b_Model_addTerm 140 = .ok (.aload_n 0, 1) := by decide +kernel
theorem d_Model_addTerm_141 : decode b_Model_addTerm 141 = .ok (.getfield 23, 3) := by decide +kernel
theorem d_Model_addTerm_144 : decode b_Model_addTerm 144 = .ok (.iload 13, 2) := by decide +kernel
theorem d_Model_addTerm_146 : decode b_Model_addTerm 146 = .ok (.aload_n 0, 1) := by decide +kernel
theorem d_Model_addTerm_147 : decode b_Model_addTerm 147 = .ok (.getfield 23, 3) := by decide +kernel
theorem d_Model_addTerm_150 : decode b_Model_addTerm 150 = .ok (.iload 13, 2) := by decide +kernel
theorem d_Model_addTerm_152 : decode b_Model_addTerm 152 = .ok (.iconst 1, 1) := by decide +kernel
theorem d_Model_addTerm_153 : decode b_Model_addTerm 153 = .ok (.iadd, 1) := by decide +kernel
theorem d_Model_addTerm_154 : decode b_Model_addTerm 154 = .ok (.laload, 1) := by decide +kernel
theorem d_Model_addTerm_155 : decode b_Model_addTerm 155 = .ok (.lastore, 1) := by decide +kernel
theorem d_Model_addTerm_156 : decode b_Model_addTerm 156 = .ok (.aload_n 0, 1) := by decide +kernel
theorem d_Model_addTerm_157 : decode b_Model_addTerm 157 = .ok (.getfield 26, 3) := by decide +kernel
theorem d_Model_addTerm_160 : decode b_Model_addTerm 160 = .ok (.iload 13, 2) := by decide +kernel
theorem d_Model_addTerm_162 : decode b_Model_addTerm 162 = .ok (.aload_n 0, 1) := by decide +kernel
theorem d_Model_addTerm_163 : decode b_Model_addTerm 163 = .ok (.getfield 26, 3) := by decide +kernel
theorem d_Model_addTerm_166 : decode b_Model_addTerm 166 = .ok (.iload 13, 2) := by decide +kernel
theorem d_Model_addTerm_168 : decode b_Model_addTerm 168 = .ok (.iconst 1, 1) := by decide +kernel
theorem d_Model_addTerm_169 : decode b_Model_addTerm 169 = .ok (.iadd, 1) := by decide +kernel
theorem d_Model_addTerm_170 : decode b_Model_addTerm 170 = .ok (.laload, 1) := by decide +kernel
theorem d_Model_addTerm_171 : decode b_Model_addTerm 171 = .ok (.lastore, 1) := by decide +kernel
theorem d_Model_addTerm_172 : decode b_Model_addTerm 172 = .ok (.aload_n 0, 1) := by decide +kernel
theorem d_Model_addTerm_173 : decode b_Model_addTerm 173 = .ok (.getfield 29, 3) := by decide +kernel
theorem d_Model_addTerm_176 : decode b_Model_addTerm 176 = .ok (.iload 13, 2) := by decide +kernel
theorem d_Model_addTerm_178 : decode b_Model_addTerm 178 = .ok (.aload_n 0, 1) := by decide +kernel
theorem d_Model_addTerm_179 : decode b_Model_addTerm 179 = .ok (.getfield 29, 3) := by decide +kernel
theorem d_Model_addTerm_182 : decode b_Model_addTerm 182 = .ok (.iload 13, 2) := by decide +kernel
theorem d_Model_addTerm_184 : decode b_Model_addTerm 184 = .ok (.iconst 1, 1) := by decide +kernel
theorem d_Model_addTerm_185 : decode b_Model_addTerm 185 = .ok (.iadd, 1) := by decide +kernel
theorem d_Model_addTerm_186 : decode b_Model_addTerm 186 = .ok (.laload, 1) := by decide +kernel
theorem d_Model_addTerm_187 : decode b_Model_addTerm 187 = .ok (.lastore, 1) := by decide +kernel
theorem d_Model_addTerm_188 : decode b_Model_addTerm 188 = .ok (.iinc 13 1, 3) := by decide +kernel
theorem d_Model_addTerm_191 : decode b_Model_addTerm 191 = .ok (.goto (-60), 3) := by decide +kernel
theorem d_Model_addTerm_194 : decode b_Model_addTerm 194 = .ok (.iconst 1, 1) := by decide +kernel
theorem d_Model_addTerm_195 : decode b_Model_addTerm 195 = .ok (.ireturn, 1) := by decide +kernel
theorem d_Model_addTerm_196 : decode b_Model_addTerm 196 = .ok (.lload 9, 2) := by decide +kernel
theorem d_Model_addTerm_198 : decode b_Model_addTerm 198 = .ok (.lload 11, 2) := by decide +kernel
theorem d_Model_addTerm_200 : decode b_Model_addTerm 200 = .ok (.invokestatic 101, 3) := by decide +kernel
theorem d_Model_addTerm_203 : decode b_Model_addTerm 203 = .ok (.lstore 13, 2) := by decide +kernel
theorem d_Model_addTerm_205 : decode b_Model_addTerm 205 = .ok (.lload 9, 2) := by decide +kernel
theorem d_Model_addTerm_207 : decode b_Model_addTerm 207 = .ok (.lload 13, 2) := by decide +kernel
theorem d_Model_addTerm_209 : decode b_Model_addTerm 209 = .ok (.ldiv, 1) := by decide +kernel
theorem d_Model_addTerm_210 : decode b_Model_addTerm 210 = .ok (.lload 11, 2) := by decide +kernel
theorem d_Model_addTerm_212 : decode b_Model_addTerm 212 = .ok (.lload 13, 2) := by decide +kernel
theorem d_Model_addTerm_214 : decode b_Model_addTerm 214 = .ok (.ldiv, 1) := by decide +kernel
theorem d_Model_addTerm_215 : decode b_Model_addTerm 215 = .ok (.invokestatic 105, 3) := by decide +kernel
theorem d_Model_addTerm_218 : decode b_Model_addTerm 218 = .ok (.ifCond .eq 17, 3) := by decide +kernel
theorem d_Model_addTerm_221 : decode b_Model_addTerm 221 = .ok (.iload 8, 2) := by decide +kernel
theorem d_Model_addTerm_223 : decode b_Model_addTerm 223 = .ok (.ifCond .ne 14, 3) := by decide +kernel
theorem d_Model_addTerm_226 : decode b_Model_addTerm 226 = .ok (.aload_n 0, 1) := by decide +kernel
theorem d_Model_addTerm_227 : decode b_Model_addTerm 227 = .ok (.getfield 97, 3) := by decide +kernel
theorem d_Model_addTerm_230 : decode b_Model_addTerm 230 = .ok (.bipush 8, 2) := by decide +kernel
theorem d_Model_addTerm_232 : decode b_Model_addTerm 232 = .ok (.if_icmp .ne 5, 3) := by decide +kernel
theorem d_Model_addTerm_235 : decode b_Model_addTerm 235 = .ok (.iconst 0, 1) := by decide +kernel
theorem d_Model_addTerm_236 : decode b_Model_addTerm 236 = .ok (.ireturn, 1) := by decide +kernel
theorem d_Model_addTerm_237 : decode b_Model_addTerm 237 = .ok (.iload 8, 2) := by decide +kernel
theorem d_Model_addTerm_239 : decode b_Model_addTerm 239 = .ok (.ifCond .ne 80, 3) := by decide +kernel
theorem d_Model_addTerm_242 : decode b_Model_addTerm 242 = .ok (.aload_n 0, 1) := by decide +kernel
theorem d_Model_addTerm_243 : decode b_Model_addTerm 243 = .ok (.getfield 97, 3) := by decide +kernel
theorem d_Model_addTerm_246 : decode b_Model_addTerm 246 = .ok (.istore 15, 2) := by decide +kernel
theorem d_Model_addTerm_248 : decode b_Model_addTerm 248 = .ok (.iload 15, 2) := by decide +kernel
theorem d_Model_addTerm_250 : decode b_Model_addTerm 250 = .ok (.iload 7, 2) := by decide +kernel
theorem d_Model_addTerm_252 : decode b_Model_addTerm 252 = .ok (.if_icmp .le 57, 3) := by decide +kernel
theorem d_Model_addTerm_255 : decode b_Model_addTerm 255 = .ok (.aload_n 0, 1) := by decide +kernel
theorem d_Model_addTerm_256 : decode b_Model_addTerm 256 = .ok (.getfield 23, 3) := by decide +kernel
theorem d_Model_addTerm_259 : decode b_Model_addTerm 259 = .ok (.iload 15, 2) := by decide +kernel
theorem d_Model_addTerm_261 : decode b_Model_addTerm 261 = .ok (.aload_n 0, 1) := by decide +kernel
theorem d_Model_addTerm_262 : decode b_Model_addTerm 262 = .ok (.getfield 23, 3) := by decide +kernel
theorem d_Model_addTerm_265 : decode b_Model_addTerm 265 = .ok (.iload 15, 2) := by decide +kernel
theorem d_Model_addTerm_267 : decode b_Model_addTerm 267 = .ok (.iconst 1, 1) := by decide +kernel
theorem d_Model_addTerm_268 : decode b_Model_addTerm 268 = .ok (.isub, 1) := by decide +kernel
theorem d_Model_addTerm_269 : decode b_Model_addTerm 269 = .ok (.laload, 1) := by decide +kernel
theorem d_Model_addTerm_270 : decode b_Model_addTerm 270 = .ok (.lastore, 1) := by decide +kernel
theorem d_Model_addTerm_271 : decode b_Model_addTerm 271 = .ok (.aload_n 0, 1) := by decide +kernel
theorem d_Model_addTerm_272 : decode b_Model_addTerm 272 = .ok (.getfield 26, 3) := by decide +kernel
theorem d_Model_addTerm_275 : decode b_Model_addTerm 275 = .ok (.iload 15, 2) := by decide +kernel
theorem d_Model_addTerm_277 : decode b_Model_addTerm 277 = .ok (.aload_n 0, 1) := by decide +kernel
theorem d_Model_addTerm_278 : decode b_Model_addTerm 278 = .ok (.getfield 26, 3) := by decide +kernel
theorem d_Model_addTerm_281 : decode b_Model_addTerm 281 = .ok (.iload 15, 2) := by decide +kernel
theorem d_Model_addTerm_283 : decode b_Model_addTerm 283 = .ok (.iconst 1, 1) := by decide +kernel
theorem d_Model_addTerm_284 : decode b_Model_addTerm 284 = .ok (.isub, 1) := by decide +kernel
theorem d_Model_addTerm_285 : decode b_Model_addTerm 285 = .ok (.laload, 1) := by decide +kernel
theorem d_Model_addTerm_286 : decode b_Model_addTerm 286 = .ok (.lastore, 1) := by decide +kernel
theorem d_Model_addTerm_287 : decode b_Model_addTerm 287 = .ok (.aload_n 0, 1) := by decide +kernel
theorem d_Model_addTerm_288 : decode b_Model_addTerm 288 = .ok (.getfield 29, 3) := by decide +kernel
theorem d_Model_addTerm_291 : decode b_Model_addTerm 291 = .ok (.iload 15, 2) := by decide +kernel
theorem d_Model_addTerm_293 : decode b_Model_addTerm 293 = .ok (.aload_n 0, 1) := by decide +kernel
theorem d_Model_addTerm_294 : decode b_Model_addTerm 294 = .ok (.getfield 29, 3) := by decide +kernel
theorem d_Model_addTerm_297 : decode b_Model_addTerm 297 = .ok (.iload 15, 2) := by decide +kernel
theorem d_Model_addTerm_299 : decode b_Model_addTerm 299 = .ok (.iconst 1, 1) := by decide +kernel
theorem d_Model_addTerm_300 : decode b_Model_addTerm 300 = .ok (.isub, 1) := by decide +kernel
theorem d_Model_addTerm_301 : decode b_Model_addTerm 301 = .ok (.laload, 1) := by decide +kernel
theorem d_Model_addTerm_302 : decode b_Model_addTerm 302 = .ok (.lastore, 1) := by decide +kernel
theorem d_Model_addTerm_303 : decode b_Model_addTerm 303 = .ok (.iinc 15 (-1), 3) := by decide +kernel
theorem d_Model_addTerm_306 : decode b_Model_addTerm 306 = .ok (.goto (-58), 3) := by decide +kernel
theorem d_Model_addTerm_309 : decode b_Model_addTerm 309 = .ok (.aload_n 0, 1) := by decide +kernel
theorem d_Model_addTerm_310 : decode b_Model_addTerm 310 = .ok (.dup, 1) := by decide +kernel
theorem d_Model_addTerm_311 : decode b_Model_addTerm 311 = .ok (.getfield 97, 3) := by decide +kernel
theorem d_Model_addTerm_314 : decode b_Model_addTerm 314 = .ok (.iconst 1, 1) := by decide +kernel
theorem d_Model_addTerm_315 : decode b_Model_addTerm 315 = .ok (.iadd, 1) := by decide +kernel
theorem d_Model_addTerm_316 : decode b_Model_addTerm 316 = .ok (.putfield 97, 3) := by decide +kernel
theorem d_Model_addTerm_319 : decode b_Model_addTerm 319 = .ok (.aload_n 0, 1) := by decide +kernel
theorem d_Model_addTerm_320 : decode b_Model_addTerm 320 = .ok (.getfield 23, 3) := by decide +kernel
theorem d_Model_addTerm_323 : decode b_Model_addTerm 323 = .ok (.iload 7, 2) := by decide +kernel
theorem d_Model_addTerm_325 : decode b_Model_addTerm 325 = .ok (.lload 9, 2) := by decide +kernel
theorem d_Model_addTerm_327 : decode b_Model_addTerm 327 = .ok (.lload 13, 2) := by decide +kernel
theorem d_Model_addTerm_329 : decode b_Model_addTerm 329 = .ok (.ldiv, 1) := by decide +kernel
theorem d_Model_addTerm_330 : decode b_Model_addTerm 330 = .ok (.lastore, 1) := by decide +kernel
theorem d_Model_addTerm_331 : decode b_Model_addTerm 331 = .ok (.aload_n 0, 1) := by decide +kernel
theorem d_Model_addTerm_332 : decode b_Model_addTerm 332 = .ok (.getfield 26, 3) := by decide +kernel
theorem d_Model_addTerm_335 : decode b_Model_addTerm 335 = .ok (.iload 7, 2) := by decide +kernel
theorem d_Model_addTerm_337 : decode b_Model_addTerm 337 = .ok (.lload 11, 2) := by decide +kernel
theorem d_Model_addTerm_339 : decode b_Model_addTerm 339 = .ok (.lload 13, 2) := by decide +kernel
theorem d_Model_addTerm_341 : decode b_Model_addTerm 341 = .ok (.ldiv, 1) := by decide +kernel
theorem d_Model_addTerm_342 : decode b_Model_addTerm 342 = .ok (.lastore, 1) := by decide +kernel
theorem d_Model_addTerm_343 : decode b_Model_addTerm 343 = .ok (.aload_n 0, 1) := by decide +kernel
theorem d_Model_addTerm_344 : decode b_Model_addTerm 344 = .ok (.getfield 29, 3) := by decide +kernel
theorem d_Model_addTerm_347 : decode b_Model_addTerm 347 = .ok (.iload 7, 2) := by decide +kernel
theorem d_Model_addTerm_349 : decode b_Model_addTerm 349 = .ok (.lload 5, 2) := by decide +kernel
theorem d_Model_addTerm_351 : decode b_Model_addTerm 351 = .ok (.lastore, 1) := by decide +kernel
theorem d_Model_addTerm_352 : decode b_Model_addTerm 352 = .ok (.iconst 1, 1) := by decide +kernel
theorem d_Model_addTerm_353 : decode b_Model_addTerm 353 = .ok (.ireturn, 1) := by decide +kernel
def mf_Model_addTerm_J319 (vRoot : Int64) (x7 : Int32) (x9 : Int64) (x11 : Int64) (x13 : Int64) (umo : Int32) (uanewN : Nat → Int64) (uanewD : Nat → Int64) (uanewR : Nat → Int64) : Option (Int32 × Int32 × (Nat → Int64) × (Nat → Int64) × (Nat → Int64)) :=
  (sd_g (sd_zJ x13) (sd_g (sd_ix x7 8) (sd_let (vp_updL uanewN x7.toNatClampNeg (x9 / x13)) fun uanewN_1 => (sd_g (sd_zJ x13) (sd_g (sd_ix x7 8) (sd_let (vp_updL uanewD x7.toNatClampNeg (x11 / x13)) fun uanewD_1 => (sd_g (sd_ix x7 8) (sd_let (vp_updL uanewR x7.toNatClampNeg vRoot) fun uanewR_1 => (some ((1 : Int32), umo, uanewN_1, uanewD_1, uanewR_1))))))))))
def mf_Model_addTerm_L248 (x7_1 : Int32) : Nat → Int32 → (Nat → Int64) → (Nat → Int64) → (Nat → Int64) → Option ((Nat → Int64) × (Nat → Int64) × (Nat → Int64))
  | 0, _, _, _, _ => none
  | fu + 1, x15, uanewN_3, uanewD_3, uanewR_3 => (if x15 ≤ x7_1 then (some (uanewN_3, uanewD_3, uanewR_3)) else (sd_g (sd_ix (x15 - (1 : Int32)) 8) (sd_g (sd_ix x15 8) (sd_let (vp_updL uanewN_3 x15.toNatClampNeg (uanewN_3 (x15 - (1 : Int32)).toNatClampNeg)) fun uanewN_4 => (sd_g (sd_ix (x15 - (1 : Int32)) 8) (sd_g (sd_ix x15 8) (sd_let (vp_updL uanewD_3 x15.toNatClampNeg (uanewD_3 (x15 - (1 : Int32)).toNatClampNeg)) fun uanewD_4 => (sd_g (sd_ix (x15 - (1 : Int32)) 8) (sd_g (sd_ix x15 8) (sd_let (vp_updL uanewR_3 x15.toNatClampNeg (uanewR_3 (x15 - (1 : Int32)).toNatClampNeg)) fun uanewR_4 => (sd_let (x15 + (-1 : Int32)) fun x15_1 => ((mf_Model_addTerm_L248 x7_1 fu) x15_1 uanewN_4 uanewD_4 uanewR_4))))))))))))
def mf_Model_addTerm_J237 (F : Nat) (vRoot : Int64) (x7_1 : Int32) (x8 : Int32) (x9_1 : Int64) (x11_1 : Int64) (x13_1 : Int64) (umo_1 : Int32) (uanewN_2 : Nat → Int64) (uanewD_2 : Nat → Int64) (uanewR_2 : Nat → Int64) : Option (Int32 × Int32 × (Nat → Int64) × (Nat → Int64) × (Nat → Int64)) :=
  (if x8 = 0 then (sd_b3 (mf_Model_addTerm_L248 x7_1 F umo_1 uanewN_2 uanewD_2 uanewR_2) fun ruanewN ruanewD ruanewR => (sd_let ((umo_1 + (1 : Int32))) fun umomade => (mf_Model_addTerm_J319 vRoot x7_1 x9_1 x11_1 x13_1 umomade ruanewN ruanewD ruanewR))) else (mf_Model_addTerm_J319 vRoot x7_1 x9_1 x11_1 x13_1 umo_1 uanewN_2 uanewD_2 uanewR_2))
def mf_Model_addTerm_L3 (m_made : Int32) (vRoot : Int64) (c_newR : Nat → Int64) : Nat → Int32 → Option (Int32)
  | 0, _ => none
  | fu + 1, x7_2 => (if m_made ≤ x7_2 then (some (x7_2)) else (sd_g (sd_ix x7_2 8) (if vRoot ≤ (c_newR x7_2.toNatClampNeg) then (some (x7_2)) else (sd_let (x7_2 + (1 : Int32)) fun x7_3 => ((mf_Model_addTerm_L3 m_made vRoot c_newR fu) x7_3)))))
def mf_Model_addTerm_L131 (umomade_1 : Int32) : Nat → Int32 → (Nat → Int64) → (Nat → Int64) → (Nat → Int64) → Option ((Nat → Int64) × (Nat → Int64) × (Nat → Int64))
  | 0, _, _, _, _ => none
  | fu + 1, x13_2, uanewN_5, uanewD_5, uanewR_5 => (if umomade_1 ≤ x13_2 then (some (uanewN_5, uanewD_5, uanewR_5)) else (sd_g (sd_ix (x13_2 + (1 : Int32)) 8) (sd_g (sd_ix x13_2 8) (sd_let (vp_updL uanewN_5 x13_2.toNatClampNeg (uanewN_5 (x13_2 + (1 : Int32)).toNatClampNeg)) fun uanewN_6 => (sd_g (sd_ix (x13_2 + (1 : Int32)) 8) (sd_g (sd_ix x13_2 8) (sd_let (vp_updL uanewD_5 x13_2.toNatClampNeg (uanewD_5 (x13_2 + (1 : Int32)).toNatClampNeg)) fun uanewD_6 => (sd_g (sd_ix (x13_2 + (1 : Int32)) 8) (sd_g (sd_ix x13_2 8) (sd_let (vp_updL uanewR_5 x13_2.toNatClampNeg (uanewR_5 (x13_2 + (1 : Int32)).toNatClampNeg)) fun uanewR_6 => (sd_let (x13_2 + (1 : Int32)) fun x13_3 => ((mf_Model_addTerm_L131 umomade_1 fu) x13_3 uanewN_6 uanewD_6 uanewR_6))))))))))))
def mf_Model_addTerm (F : Nat) (vA : Int64) (vB : Int64) (vRoot : Int64) (m_made : Int32) (m_outCount : Int32) (m_lowSign : Int32) (m_highSign : Int32) (c_newN : Nat → Int64) (c_newD : Nat → Int64) (c_newR : Nat → Int64) : Option (Int32 × Int32 × (Nat → Int64) × (Nat → Int64) × (Nat → Int64)) :=
  (sd_b1 (mf_Model_addTerm_L3 m_made vRoot c_newR F (0 : Int32)) fun rx7 => (sd_b1 (if m_made ≤ rx7 then (some ((0 : Int32))) else (sd_g (sd_ix rx7 8) (if (c_newR rx7.toNatClampNeg) = vRoot then (some ((1 : Int32))) else (some ((0 : Int32)))))) fun y => (sd_b1 (if y = 0 then (some (vA)) else (sd_g (sd_ix rx7 8) (sd_g (sd_ix rx7 8) (some ((((c_newN rx7.toNatClampNeg) * vB) + (vA * (c_newD rx7.toNatClampNeg)))))))) fun y_1 => (sd_b1 (if y = 0 then (some (vB)) else (sd_g (sd_ix rx7 8) (some (((c_newD rx7.toNatClampNeg) * vB))))) fun y_2 => (if y_1 = (0 : Int64) then (sd_let ((m_made - (1 : Int32))) fun umomade_1 => (sd_b3 (mf_Model_addTerm_L131 umomade_1 F rx7 c_newN c_newD c_newR) fun ruanewN_1 ruanewD_1 ruanewR_1 => (some ((1 : Int32), umomade_1, ruanewN_1, ruanewD_1, ruanewR_1)))) else (sd_b1 (mf_Model_divisor F y_1 y_2) fun r => (sd_g (sd_zJ r) (sd_g (sd_zJ r) (sd_b1 (mf_Model_fits F (y_1 / r) (y_2 / r)) fun r_1 => (if r_1 = 0 then (some ((0 : Int32), m_made, c_newN, c_newD, c_newR)) else (if y = 0 then (if m_made = (8 : Int32) then (some ((0 : Int32), m_made, c_newN, c_newD, c_newR)) else (mf_Model_addTerm_J237 F vRoot rx7 y y_1 y_2 r m_made c_newN c_newD c_newR)) else (mf_Model_addTerm_J237 F vRoot rx7 y y_1 y_2 r m_made c_newN c_newD c_newR))))))))))))
abbrev rm_Model_addTerm : Room := { frames := 1, cells := 0, slots := 0, locals := 29 }
set_option maxHeartbeats 4000000 in
set_option maxRecDepth 100000 in
theorem ct_Model_addTerm (l : Launch) (D : va_G) (g : G4) (mo : Nat) (a_n : Nat) (a_d : Nat) (a_r : Nat) (a_count : Nat) (a_newN : Nat) (a_newD : Nat) (a_newR : Nat) (a_out : Nat) (a_root : Nat) (a_rest : Nat) (a_square : Nat) (a_part : Nat) (a_plus : Nat) (a_minus : Nat) (a_low : Nat) (a_high : Nat) (a_one : Nat) (a_two : Nat) (a_otherLow : Nat) (a_otherHigh : Nat) (a_digit : Nat) (a_topA : Nat) (a_underA : Nat) (a_topB : Nat) (a_underB : Nat) (a_quotient : Nat) (a_otherQuotient : Nat) (sz : Nat) (vA : Int64) (vB : Int64) (vRoot : Int64) (m_made : Int32) (m_outCount : Int32) (m_lowSign : Int32) (m_highSign : Int32) (c_newN : Nat → Int64) (c_newD : Nat → Int64) (c_newR : Nat → Int64) (F : Nat) (res : Int32 × Int32 × (Nat → Int64) × (Nat → Int64) × (Nat → Int64)) (hm : mf_Model_addTerm F vA vB vRoot m_made m_outCount m_lowSign m_highSign c_newN c_newD c_newR = some res) : Met l y_Model_addTerm (.code y_Model_addTerm b_Model_addTerm 16 (some .boolean) :: sd_tb) rm_Model_addTerm (sd_PW D g [.ref mo, .long vA, .long vB, .long vRoot] sz [(mo, .inr (5, [.ref a_n, .ref a_d, .ref a_r, .ref a_count, .ref a_newN, .ref a_newD, .ref a_newR, .int m_made, .ref a_out, .int m_outCount, .ref a_root, .ref a_rest, .ref a_square, .ref a_part, .ref a_plus, .ref a_minus, .ref a_low, .ref a_high, .ref a_one, .ref a_two, .int m_lowSign, .int m_highSign, .ref a_otherLow, .ref a_otherHigh, .ref a_digit, .ref a_topA, .ref a_underA, .ref a_topB, .ref a_underB, .ref a_quotient, .ref a_otherQuotient])), (a_newN, aJ g 8 c_newN), (a_newD, aJ g 8 c_newD), (a_newR, aJ g 8 c_newR)]) (sd_Qi1 D g res (fun u : Int32 × (Nat → Int64) × (Nat → Int64) × (Nat → Int64) => [(mo, .inr (5, [.ref a_n, .ref a_d, .ref a_r, .ref a_count, .ref a_newN, .ref a_newD, .ref a_newR, .int (u.1), .ref a_out, .int m_outCount, .ref a_root, .ref a_rest, .ref a_square, .ref a_part, .ref a_plus, .ref a_minus, .ref a_low, .ref a_high, .ref a_one, .ref a_two, .int m_lowSign, .int m_highSign, .ref a_otherLow, .ref a_otherHigh, .ref a_digit, .ref a_topA, .ref a_underA, .ref a_topB, .ref a_underB, .ref a_quotient, .ref a_otherQuotient])), (a_newN, aJ g 8 (u.2.1)), (a_newD, aJ g 8 (u.2.2.1)), (a_newR, aJ g 8 (u.2.2.2))]) (va_A [(mo, .inr (5, [.ref a_n, .ref a_d, .ref a_r, .ref a_count, .ref a_newN, .ref a_newD, .ref a_newR, .int m_made, .ref a_out, .int m_outCount, .ref a_root, .ref a_rest, .ref a_square, .ref a_part, .ref a_plus, .ref a_minus, .ref a_low, .ref a_high, .ref a_one, .ref a_two, .int m_lowSign, .int m_highSign, .ref a_otherLow, .ref a_otherHigh, .ref a_digit, .ref a_topA, .ref a_underA, .ref a_topB, .ref a_underB, .ref a_quotient, .ref a_otherQuotient])), (a_newN, aJ g 8 c_newN), (a_newD, aJ g 8 c_newD), (a_newR, aJ g 8 c_newR)] sz)) 0 0 (va_A [(mo, .inr (5, [.ref a_n, .ref a_d, .ref a_r, .ref a_count, .ref a_newN, .ref a_newD, .ref a_newR, .int m_made, .ref a_out, .int m_outCount, .ref a_root, .ref a_rest, .ref a_square, .ref a_part, .ref a_plus, .ref a_minus, .ref a_low, .ref a_high, .ref a_one, .ref a_two, .int m_lowSign, .int m_highSign, .ref a_otherLow, .ref a_otherHigh, .ref a_digit, .ref a_topA, .ref a_underA, .ref a_topB, .ref a_underB, .ref a_quotient, .ref a_otherQuotient])), (a_newN, aJ g 8 c_newN), (a_newD, aJ g 8 c_newD), (a_newR, aJ g 8 c_newR)] sz) := by
  refine sd_met (Qf := fun A => sd_Qi1 D g res (fun u : Int32 × (Nat → Int64) × (Nat → Int64) × (Nat → Int64) => [(mo, .inr (5, [.ref a_n, .ref a_d, .ref a_r, .ref a_count, .ref a_newN, .ref a_newD, .ref a_newR, .int (u.1), .ref a_out, .int m_outCount, .ref a_root, .ref a_rest, .ref a_square, .ref a_part, .ref a_plus, .ref a_minus, .ref a_low, .ref a_high, .ref a_one, .ref a_two, .int m_lowSign, .int m_highSign, .ref a_otherLow, .ref a_otherHigh, .ref a_digit, .ref a_topA, .ref a_underA, .ref a_topB, .ref a_underB, .ref a_quotient, .ref a_otherQuotient])), (a_newN, aJ g 8 (u.2.1)), (a_newD, aJ g 8 (u.2.2.1)), (a_newR, aJ g 8 (u.2.2.2))]) A) (own := R_Model) (by decide +kernel) rfl (Nat.le_of_ble_eq_true rfl) ?_
  intro p e s m args below meth c S hr hlk hK A hA Q hQ H locs hP hD hS ls hl
  have hx := S.1
  have hb := S.2.1
  have hml := S.2.2.1
  have hown := S.2.2.2.1
  have htt := sd_tt S
  replace hl : lv_has ls 16 [(0, .ref mo), (1, .long vA), (3, .long vB), (5, .long vRoot)] := hl
  unfold mf_Model_addTerm at hm
  have J319 : ∀ (x7 : Int32) (x9 : Int64) (x11 : Int64) (x13 : Int64) (umo : Int32) (uanewN : Nat → Int64) (uanewD : Nat → Int64) (uanewR : Nat → Int64), mf_Model_addTerm_J319 vRoot x7 x9 x11 x13 umo uanewN uanewD uanewR = some res → ∀ (H : Heap) (locs : List Loc) (ls : Array Slot), va_P D classes [(mo, .inr (5, [.ref a_n, .ref a_d, .ref a_r, .ref a_count, .ref a_newN, .ref a_newD, .ref a_newR, .int umo, .ref a_out, .int m_outCount, .ref a_root, .ref a_rest, .ref a_square, .ref a_part, .ref a_plus, .ref a_minus, .ref a_low, .ref a_high, .ref a_one, .ref a_two, .int m_lowSign, .int m_highSign, .ref a_otherLow, .ref a_otherHigh, .ref a_digit, .ref a_topA, .ref a_underA, .ref a_topB, .ref a_underB, .ref a_quotient, .ref a_otherQuotient])), (a_newN, aJ g 8 uanewN), (a_newD, aJ g 8 uanewD), (a_newR, aJ g 8 uanewR)] H → va_D A [(mo, .inr (5, [.ref a_n, .ref a_d, .ref a_r, .ref a_count, .ref a_newN, .ref a_newD, .ref a_newR, .int umo, .ref a_out, .int m_outCount, .ref a_root, .ref a_rest, .ref a_square, .ref a_part, .ref a_plus, .ref a_minus, .ref a_low, .ref a_high, .ref a_one, .ref a_two, .int m_lowSign, .int m_highSign, .ref a_otherLow, .ref a_otherHigh, .ref a_digit, .ref a_topA, .ref a_underA, .ref a_topB, .ref a_underB, .ref a_quotient, .ref a_otherQuotient])), (a_newN, aJ g 8 uanewN), (a_newD, aJ g 8 uanewD), (a_newR, aJ g 8 uanewR)] → va_S A s.heap H locs → lv_has ls 16 [(0, .ref mo), (5, .long vRoot), (7, .int x7), (9, .long x9), (11, .long x11), (13, .long x13)] → W p l e rm_Model_addTerm s m args below meth c H locs 0 0 Q (F0 m 319 ls []) := by
    intro x7 x9 x11 x13 umo uanewN uanewD uanewR hm H locs ls hP hD hS hl
    unfold mf_Model_addTerm_J319 at hm
    refine lv_aload_n hx hb d_Model_addTerm_319 rfl (lv_at hl 0 rfl) ?_
    refine va_get (D := D) (ci := 5) (v := .ref a_newN) (C := R_Model) (T := F_Model) (N := 31) hx hb htt i_Model hown hK hP 0 rfl rfl 4 (by decide) (htt _ kf_Model_23) (fun _ h9 => h9) rfl d_Model_addTerm_320 ?_
    refine lv_iload hx hb d_Model_addTerm_323 (lv_at hl 2 rfl) ?_
    refine lv_lload hx hb d_Model_addTerm_325 (lv_at hl 3 rfl) ?_
    refine lv_lload hx hb d_Model_addTerm_327 (lv_at hl 5 rfl) ?_
    obtain ⟨h_1, hm⟩ := sd_mg hm
    refine lv_ldiv hx hb d_Model_addTerm_329 (sd_nzJ h_1) ?_
    obtain ⟨h_2, hm⟩ := sd_mg hm
    obtain ⟨uanewN_1, euanewN_1, hm⟩ := sd_mlet hm
    refine sd_last (f2 := uanewN_1) (ws2 := [(mo, .inr (5, [.ref a_n, .ref a_d, .ref a_r, .ref a_count, .ref a_newN, .ref a_newD, .ref a_newR, .int umo, .ref a_out, .int m_outCount, .ref a_root, .ref a_rest, .ref a_square, .ref a_part, .ref a_plus, .ref a_minus, .ref a_low, .ref a_high, .ref a_one, .ref a_two, .int m_lowSign, .int m_highSign, .ref a_otherLow, .ref a_otherHigh, .ref a_digit, .ref a_topA, .ref a_underA, .ref a_topB, .ref a_underB, .ref a_quotient, .ref a_otherQuotient])), (a_newN, aJ g 8 uanewN_1), (a_newD, aJ g 8 uanewD), (a_newR, aJ g 8 uanewR)]) hx hb hK hP hD hS 1 rfl h_2 euanewN_1 rfl d_Model_addTerm_330 (fun H locs hP hD hS => ?_)
    refine lv_aload_n hx hb d_Model_addTerm_331 rfl (lv_at hl 0 rfl) ?_
    refine va_get (D := D) (ci := 5) (v := .ref a_newD) (C := R_Model) (T := F_Model) (N := 31) hx hb htt i_Model hown hK hP 0 rfl rfl 5 (by decide) (htt _ kf_Model_26) (fun _ h9 => h9) rfl d_Model_addTerm_332 ?_
    refine lv_iload hx hb d_Model_addTerm_335 (lv_at hl 2 rfl) ?_
    refine lv_lload hx hb d_Model_addTerm_337 (lv_at hl 4 rfl) ?_
    refine lv_lload hx hb d_Model_addTerm_339 (lv_at hl 5 rfl) ?_
    obtain ⟨h_3, hm⟩ := sd_mg hm
    refine lv_ldiv hx hb d_Model_addTerm_341 (sd_nzJ h_3) ?_
    obtain ⟨h_4, hm⟩ := sd_mg hm
    obtain ⟨uanewD_1, euanewD_1, hm⟩ := sd_mlet hm
    refine sd_last (f2 := uanewD_1) (ws2 := [(mo, .inr (5, [.ref a_n, .ref a_d, .ref a_r, .ref a_count, .ref a_newN, .ref a_newD, .ref a_newR, .int umo, .ref a_out, .int m_outCount, .ref a_root, .ref a_rest, .ref a_square, .ref a_part, .ref a_plus, .ref a_minus, .ref a_low, .ref a_high, .ref a_one, .ref a_two, .int m_lowSign, .int m_highSign, .ref a_otherLow, .ref a_otherHigh, .ref a_digit, .ref a_topA, .ref a_underA, .ref a_topB, .ref a_underB, .ref a_quotient, .ref a_otherQuotient])), (a_newN, aJ g 8 uanewN_1), (a_newD, aJ g 8 uanewD_1), (a_newR, aJ g 8 uanewR)]) hx hb hK hP hD hS 2 rfl h_4 euanewD_1 rfl d_Model_addTerm_342 (fun H locs hP hD hS => ?_)
    refine lv_aload_n hx hb d_Model_addTerm_343 rfl (lv_at hl 0 rfl) ?_
    refine va_get (D := D) (ci := 5) (v := .ref a_newR) (C := R_Model) (T := F_Model) (N := 31) hx hb htt i_Model hown hK hP 0 rfl rfl 6 (by decide) (htt _ kf_Model_29) (fun _ h9 => h9) rfl d_Model_addTerm_344 ?_
    refine lv_iload hx hb d_Model_addTerm_347 (lv_at hl 2 rfl) ?_
    refine lv_lload hx hb d_Model_addTerm_349 (lv_at hl 1 rfl) ?_
    obtain ⟨h_5, hm⟩ := sd_mg hm
    obtain ⟨uanewR_1, euanewR_1, hm⟩ := sd_mlet hm
    refine sd_last (f2 := uanewR_1) (ws2 := [(mo, .inr (5, [.ref a_n, .ref a_d, .ref a_r, .ref a_count, .ref a_newN, .ref a_newD, .ref a_newR, .int umo, .ref a_out, .int m_outCount, .ref a_root, .ref a_rest, .ref a_square, .ref a_part, .ref a_plus, .ref a_minus, .ref a_low, .ref a_high, .ref a_one, .ref a_two, .int m_lowSign, .int m_highSign, .ref a_otherLow, .ref a_otherHigh, .ref a_digit, .ref a_topA, .ref a_underA, .ref a_topB, .ref a_underB, .ref a_quotient, .ref a_otherQuotient])), (a_newN, aJ g 8 uanewN_1), (a_newD, aJ g 8 uanewD_1), (a_newR, aJ g 8 uanewR_1)]) hx hb hK hP hD hS 3 rfl h_5 euanewR_1 rfl d_Model_addTerm_351 (fun H locs hP hD hS => ?_)
    refine lv_iconst (v := (1 : Int32)) hx hb d_Model_addTerm_352 (by decide) ?_
    exact sd_z1ret (u := (umo, uanewN_1, uanewD_1, uanewR_1)) hQ hx hb hr hlk rfl hK (hP.sub [0, 1, 2, 3] rfl) (hD.sub [0, 1, 2, 3] (by decide) rfl) hS (Option.some.inj hm).symm d_Model_addTerm_353
  have J237 : ∀ (x7_1 : Int32) (x8 : Int32) (x9_1 : Int64) (x11_1 : Int64) (x13_1 : Int64) (umo_1 : Int32) (uanewN_2 : Nat → Int64) (uanewD_2 : Nat → Int64) (uanewR_2 : Nat → Int64), mf_Model_addTerm_J237 F vRoot x7_1 x8 x9_1 x11_1 x13_1 umo_1 uanewN_2 uanewD_2 uanewR_2 = some res → ∀ (H : Heap) (locs : List Loc) (ls : Array Slot), va_P D classes [(mo, .inr (5, [.ref a_n, .ref a_d, .ref a_r, .ref a_count, .ref a_newN, .ref a_newD, .ref a_newR, .int umo_1, .ref a_out, .int m_outCount, .ref a_root, .ref a_rest, .ref a_square, .ref a_part, .ref a_plus, .ref a_minus, .ref a_low, .ref a_high, .ref a_one, .ref a_two, .int m_lowSign, .int m_highSign, .ref a_otherLow, .ref a_otherHigh, .ref a_digit, .ref a_topA, .ref a_underA, .ref a_topB, .ref a_underB, .ref a_quotient, .ref a_otherQuotient])), (a_newN, aJ g 8 uanewN_2), (a_newD, aJ g 8 uanewD_2), (a_newR, aJ g 8 uanewR_2)] H → va_D A [(mo, .inr (5, [.ref a_n, .ref a_d, .ref a_r, .ref a_count, .ref a_newN, .ref a_newD, .ref a_newR, .int umo_1, .ref a_out, .int m_outCount, .ref a_root, .ref a_rest, .ref a_square, .ref a_part, .ref a_plus, .ref a_minus, .ref a_low, .ref a_high, .ref a_one, .ref a_two, .int m_lowSign, .int m_highSign, .ref a_otherLow, .ref a_otherHigh, .ref a_digit, .ref a_topA, .ref a_underA, .ref a_topB, .ref a_underB, .ref a_quotient, .ref a_otherQuotient])), (a_newN, aJ g 8 uanewN_2), (a_newD, aJ g 8 uanewD_2), (a_newR, aJ g 8 uanewR_2)] → va_S A s.heap H locs → lv_has ls 16 [(0, .ref mo), (5, .long vRoot), (7, .int x7_1), (8, .int x8), (9, .long x9_1), (11, .long x11_1), (13, .long x13_1)] → W p l e rm_Model_addTerm s m args below meth c H locs 0 0 Q (F0 m 237 ls []) := by
    intro x7_1 x8 x9_1 x11_1 x13_1 umo_1 uanewN_2 uanewD_2 uanewR_2 hm H locs ls hP hD hS hl
    unfold mf_Model_addTerm_J237 at hm
    refine lv_iload hx hb d_Model_addTerm_237 (lv_at hl 3 rfl) ?_
    refine lv_if_ne (tgt := 319) hx hb d_Model_addTerm_239 (by decide) (fun hc => ?_) (fun hc => ?_)
    · have hm := sd_mf hc hm
      exact J319 x7_1 x9_1 x11_1 x13_1 umo_1 uanewN_2 uanewD_2 uanewR_2 hm H locs ls (hP.sub [0, 1, 2, 3] rfl) (hD.sub [0, 1, 2, 3] (by decide) rfl) hS (lv_sub hl [0, 1, 2, 4, 5, 6] rfl)
    · have hm := sd_mt hc hm
      refine lv_aload_n hx hb d_Model_addTerm_242 rfl (lv_at hl 0 rfl) ?_
      refine va_get (D := D) (ci := 5) (v := .int umo_1) (C := R_Model) (T := F_Model) (N := 31) hx hb htt i_Model hown hK hP 0 rfl rfl 7 (by decide) (htt _ kf_Model_97) (fun _ h9 => h9) rfl d_Model_addTerm_243 ?_
      refine lv_istore (lv' := [(15, .int umo_1), (0, .ref mo), (5, .long vRoot), (7, .int x7_1), (8, .int x8), (9, .long x9_1), (11, .long x11_1), (13, .long x13_1)]) hx hb d_Model_addTerm_246 hl (by decide) rfl (fun ls hl => ?_)
      have L248 : ∀ (fu : Nat) (x15 : Int32) (uanewN_3 : Nat → Int64) (uanewD_3 : Nat → Int64) (uanewR_3 : Nat → Int64) (ruanewN : Nat → Int64) (ruanewD : Nat → Int64) (ruanewR : Nat → Int64), mf_Model_addTerm_L248 x7_1 fu x15 uanewN_3 uanewD_3 uanewR_3 = some (ruanewN, ruanewD, ruanewR) → ∀ (H : Heap) (locs : List Loc) (ls : Array Slot), va_P D classes [(mo, .inr (5, [.ref a_n, .ref a_d, .ref a_r, .ref a_count, .ref a_newN, .ref a_newD, .ref a_newR, .int umo_1, .ref a_out, .int m_outCount, .ref a_root, .ref a_rest, .ref a_square, .ref a_part, .ref a_plus, .ref a_minus, .ref a_low, .ref a_high, .ref a_one, .ref a_two, .int m_lowSign, .int m_highSign, .ref a_otherLow, .ref a_otherHigh, .ref a_digit, .ref a_topA, .ref a_underA, .ref a_topB, .ref a_underB, .ref a_quotient, .ref a_otherQuotient])), (a_newN, aJ g 8 uanewN_3), (a_newD, aJ g 8 uanewD_3), (a_newR, aJ g 8 uanewR_3)] H → va_D A [(mo, .inr (5, [.ref a_n, .ref a_d, .ref a_r, .ref a_count, .ref a_newN, .ref a_newD, .ref a_newR, .int umo_1, .ref a_out, .int m_outCount, .ref a_root, .ref a_rest, .ref a_square, .ref a_part, .ref a_plus, .ref a_minus, .ref a_low, .ref a_high, .ref a_one, .ref a_two, .int m_lowSign, .int m_highSign, .ref a_otherLow, .ref a_otherHigh, .ref a_digit, .ref a_topA, .ref a_underA, .ref a_topB, .ref a_underB, .ref a_quotient, .ref a_otherQuotient])), (a_newN, aJ g 8 uanewN_3), (a_newD, aJ g 8 uanewD_3), (a_newR, aJ g 8 uanewR_3)] → va_S A s.heap H locs → lv_has ls 16 [(0, .ref mo), (5, .long vRoot), (7, .int x7_1), (9, .long x9_1), (11, .long x11_1), (13, .long x13_1), (15, .int x15)] → (∀ (H : Heap) (locs : List Loc) (ls : Array Slot), va_P D classes [(mo, .inr (5, [.ref a_n, .ref a_d, .ref a_r, .ref a_count, .ref a_newN, .ref a_newD, .ref a_newR, .int umo_1, .ref a_out, .int m_outCount, .ref a_root, .ref a_rest, .ref a_square, .ref a_part, .ref a_plus, .ref a_minus, .ref a_low, .ref a_high, .ref a_one, .ref a_two, .int m_lowSign, .int m_highSign, .ref a_otherLow, .ref a_otherHigh, .ref a_digit, .ref a_topA, .ref a_underA, .ref a_topB, .ref a_underB, .ref a_quotient, .ref a_otherQuotient])), (a_newN, aJ g 8 ruanewN), (a_newD, aJ g 8 ruanewD), (a_newR, aJ g 8 ruanewR)] H → va_D A [(mo, .inr (5, [.ref a_n, .ref a_d, .ref a_r, .ref a_count, .ref a_newN, .ref a_newD, .ref a_newR, .int umo_1, .ref a_out, .int m_outCount, .ref a_root, .ref a_rest, .ref a_square, .ref a_part, .ref a_plus, .ref a_minus, .ref a_low, .ref a_high, .ref a_one, .ref a_two, .int m_lowSign, .int m_highSign, .ref a_otherLow, .ref a_otherHigh, .ref a_digit, .ref a_topA, .ref a_underA, .ref a_topB, .ref a_underB, .ref a_quotient, .ref a_otherQuotient])), (a_newN, aJ g 8 ruanewN), (a_newD, aJ g 8 ruanewD), (a_newR, aJ g 8 ruanewR)] → va_S A s.heap H locs → lv_has ls 16 [(0, .ref mo), (5, .long vRoot), (7, .int x7_1), (9, .long x9_1), (11, .long x11_1), (13, .long x13_1)] → W p l e rm_Model_addTerm s m args below meth c H locs 0 0 Q (F0 m 309 ls [])) → W p l e rm_Model_addTerm s m args below meth c H locs 0 0 Q (F0 m 248 ls []) := by
        intro fu
        induction fu with
        | zero => intro x15 uanewN_3 uanewD_3 uanewR_3 ruanewN ruanewD ruanewR hm; exact absurd (show (none : Option ((Nat → Int64) × (Nat → Int64) × (Nat → Int64))) = some (ruanewN, ruanewD, ruanewR) from hm) (fun h => nomatch h)
        | succ fu ih =>
          intro x15 uanewN_3 uanewD_3 uanewR_3 ruanewN ruanewD ruanewR hm H locs ls hP hD hS hl kx309
          rw [mf_Model_addTerm_L248] at hm
          refine lv_iload hx hb d_Model_addTerm_248 (lv_at hl 6 rfl) ?_
          refine lv_iload hx hb d_Model_addTerm_250 (lv_at hl 2 rfl) ?_
          refine lv_icmp_le (tgt := 309) hx hb d_Model_addTerm_252 (by decide) (fun hc => ?_) (fun hc => ?_)
          · have hm := sd_mt hc hm
            cases hm
            exact kx309 H locs ls (hP.sub [0, 1, 2, 3] rfl) (hD.sub [0, 1, 2, 3] (by decide) rfl) hS (lv_sub hl [0, 1, 2, 3, 4, 5] rfl)
          · have hm := sd_mf hc hm
            refine lv_aload_n hx hb d_Model_addTerm_255 rfl (lv_at hl 0 rfl) ?_
            refine va_get (D := D) (ci := 5) (v := .ref a_newN) (C := R_Model) (T := F_Model) (N := 31) hx hb htt i_Model hown hK hP 0 rfl rfl 4 (by decide) (htt _ kf_Model_23) (fun _ h9 => h9) rfl d_Model_addTerm_256 ?_
            refine lv_iload hx hb d_Model_addTerm_259 (lv_at hl 6 rfl) ?_
            refine lv_aload_n hx hb d_Model_addTerm_261 rfl (lv_at hl 0 rfl) ?_
            refine va_get (D := D) (ci := 5) (v := .ref a_newN) (C := R_Model) (T := F_Model) (N := 31) hx hb htt i_Model hown hK hP 0 rfl rfl 4 (by decide) (htt _ kf_Model_23) (fun _ h9 => h9) rfl d_Model_addTerm_262 ?_
            refine lv_iload hx hb d_Model_addTerm_265 (lv_at hl 6 rfl) ?_
            refine lv_iconst (v := (1 : Int32)) hx hb d_Model_addTerm_267 (by decide) ?_
            refine lv_isub hx hb d_Model_addTerm_268 ?_
            obtain ⟨h_6, hm⟩ := sd_mg hm
            refine sd_lald hx hb hK hP 1 rfl h_6 d_Model_addTerm_269 ?_
            obtain ⟨h_7, hm⟩ := sd_mg hm
            obtain ⟨uanewN_4, euanewN_4, hm⟩ := sd_mlet hm
            refine sd_last (f2 := uanewN_4) (ws2 := [(mo, .inr (5, [.ref a_n, .ref a_d, .ref a_r, .ref a_count, .ref a_newN, .ref a_newD, .ref a_newR, .int umo_1, .ref a_out, .int m_outCount, .ref a_root, .ref a_rest, .ref a_square, .ref a_part, .ref a_plus, .ref a_minus, .ref a_low, .ref a_high, .ref a_one, .ref a_two, .int m_lowSign, .int m_highSign, .ref a_otherLow, .ref a_otherHigh, .ref a_digit, .ref a_topA, .ref a_underA, .ref a_topB, .ref a_underB, .ref a_quotient, .ref a_otherQuotient])), (a_newN, aJ g 8 uanewN_4), (a_newD, aJ g 8 uanewD_3), (a_newR, aJ g 8 uanewR_3)]) hx hb hK hP hD hS 1 rfl h_7 euanewN_4 rfl d_Model_addTerm_270 (fun H locs hP hD hS => ?_)
            refine lv_aload_n hx hb d_Model_addTerm_271 rfl (lv_at hl 0 rfl) ?_
            refine va_get (D := D) (ci := 5) (v := .ref a_newD) (C := R_Model) (T := F_Model) (N := 31) hx hb htt i_Model hown hK hP 0 rfl rfl 5 (by decide) (htt _ kf_Model_26) (fun _ h9 => h9) rfl d_Model_addTerm_272 ?_
            refine lv_iload hx hb d_Model_addTerm_275 (lv_at hl 6 rfl) ?_
            refine lv_aload_n hx hb d_Model_addTerm_277 rfl (lv_at hl 0 rfl) ?_
            refine va_get (D := D) (ci := 5) (v := .ref a_newD) (C := R_Model) (T := F_Model) (N := 31) hx hb htt i_Model hown hK hP 0 rfl rfl 5 (by decide) (htt _ kf_Model_26) (fun _ h9 => h9) rfl d_Model_addTerm_278 ?_
            refine lv_iload hx hb d_Model_addTerm_281 (lv_at hl 6 rfl) ?_
            refine lv_iconst (v := (1 : Int32)) hx hb d_Model_addTerm_283 (by decide) ?_
            refine lv_isub hx hb d_Model_addTerm_284 ?_
            obtain ⟨h_8, hm⟩ := sd_mg hm
            refine sd_lald hx hb hK hP 2 rfl h_8 d_Model_addTerm_285 ?_
            obtain ⟨h_9, hm⟩ := sd_mg hm
            obtain ⟨uanewD_4, euanewD_4, hm⟩ := sd_mlet hm
            refine sd_last (f2 := uanewD_4) (ws2 := [(mo, .inr (5, [.ref a_n, .ref a_d, .ref a_r, .ref a_count, .ref a_newN, .ref a_newD, .ref a_newR, .int umo_1, .ref a_out, .int m_outCount, .ref a_root, .ref a_rest, .ref a_square, .ref a_part, .ref a_plus, .ref a_minus, .ref a_low, .ref a_high, .ref a_one, .ref a_two, .int m_lowSign, .int m_highSign, .ref a_otherLow, .ref a_otherHigh, .ref a_digit, .ref a_topA, .ref a_underA, .ref a_topB, .ref a_underB, .ref a_quotient, .ref a_otherQuotient])), (a_newN, aJ g 8 uanewN_4), (a_newD, aJ g 8 uanewD_4), (a_newR, aJ g 8 uanewR_3)]) hx hb hK hP hD hS 2 rfl h_9 euanewD_4 rfl d_Model_addTerm_286 (fun H locs hP hD hS => ?_)
            refine lv_aload_n hx hb d_Model_addTerm_287 rfl (lv_at hl 0 rfl) ?_
            refine va_get (D := D) (ci := 5) (v := .ref a_newR) (C := R_Model) (T := F_Model) (N := 31) hx hb htt i_Model hown hK hP 0 rfl rfl 6 (by decide) (htt _ kf_Model_29) (fun _ h9 => h9) rfl d_Model_addTerm_288 ?_
            refine lv_iload hx hb d_Model_addTerm_291 (lv_at hl 6 rfl) ?_
            refine lv_aload_n hx hb d_Model_addTerm_293 rfl (lv_at hl 0 rfl) ?_
            refine va_get (D := D) (ci := 5) (v := .ref a_newR) (C := R_Model) (T := F_Model) (N := 31) hx hb htt i_Model hown hK hP 0 rfl rfl 6 (by decide) (htt _ kf_Model_29) (fun _ h9 => h9) rfl d_Model_addTerm_294 ?_
            refine lv_iload hx hb d_Model_addTerm_297 (lv_at hl 6 rfl) ?_
            refine lv_iconst (v := (1 : Int32)) hx hb d_Model_addTerm_299 (by decide) ?_
            refine lv_isub hx hb d_Model_addTerm_300 ?_
            obtain ⟨h_10, hm⟩ := sd_mg hm
            refine sd_lald hx hb hK hP 3 rfl h_10 d_Model_addTerm_301 ?_
            obtain ⟨h_11, hm⟩ := sd_mg hm
            obtain ⟨uanewR_4, euanewR_4, hm⟩ := sd_mlet hm
            refine sd_last (f2 := uanewR_4) (ws2 := [(mo, .inr (5, [.ref a_n, .ref a_d, .ref a_r, .ref a_count, .ref a_newN, .ref a_newD, .ref a_newR, .int umo_1, .ref a_out, .int m_outCount, .ref a_root, .ref a_rest, .ref a_square, .ref a_part, .ref a_plus, .ref a_minus, .ref a_low, .ref a_high, .ref a_one, .ref a_two, .int m_lowSign, .int m_highSign, .ref a_otherLow, .ref a_otherHigh, .ref a_digit, .ref a_topA, .ref a_underA, .ref a_topB, .ref a_underB, .ref a_quotient, .ref a_otherQuotient])), (a_newN, aJ g 8 uanewN_4), (a_newD, aJ g 8 uanewD_4), (a_newR, aJ g 8 uanewR_4)]) hx hb hK hP hD hS 3 rfl h_11 euanewR_4 rfl d_Model_addTerm_302 (fun H locs hP hD hS => ?_)
            obtain ⟨x15_1, ex15_1, hm⟩ := sd_mlet hm
            refine lv_iinc (v := x15_1) (lv' := [(15, .int x15_1), (0, .ref mo), (5, .long vRoot), (7, .int x7_1), (9, .long x9_1), (11, .long x11_1), (13, .long x13_1)]) hx hb d_Model_addTerm_303 hl (k := 6) rfl (by rw [ex15_1]; rfl) (by decide) rfl (fun ls hl => ?_)
            refine lv_goto (tgt := 248) hx hb d_Model_addTerm_306 (by decide) ?_
            exact ih x15_1 uanewN_4 uanewD_4 uanewR_4 ruanewN ruanewD ruanewR hm H locs ls (hP.sub [0, 1, 2, 3] rfl) (hD.sub [0, 1, 2, 3] (by decide) rfl) hS (lv_sub hl [1, 2, 3, 4, 5, 6, 0] rfl) kx309
      obtain ⟨ruanewN, ruanewD, ruanewR, hc, hm⟩ := sd_mb3 hm
      refine L248 F umo_1 uanewN_2 uanewD_2 uanewR_2 ruanewN ruanewD ruanewR hc H locs ls (hP.sub [0, 1, 2, 3] rfl) (hD.sub [0, 1, 2, 3] (by decide) rfl) hS (lv_sub hl [1, 2, 3, 5, 6, 7, 0] rfl) ?_
      intro H locs ls hP hD hS hl
      refine lv_aload_n hx hb d_Model_addTerm_309 rfl (lv_at hl 0 rfl) ?_
      refine lv_dup hx hb d_Model_addTerm_310 rfl ?_
      refine va_get (D := D) (ci := 5) (v := .int umo_1) (C := R_Model) (T := F_Model) (N := 31) hx hb htt i_Model hown hK hP 0 rfl rfl 7 (by decide) (htt _ kf_Model_97) (fun _ h9 => h9) rfl d_Model_addTerm_311 ?_
      refine lv_iconst (v := (1 : Int32)) hx hb d_Model_addTerm_314 (by decide) ?_
      refine lv_iadd hx hb d_Model_addTerm_315 ?_
      obtain ⟨umomade, eumomade, hm⟩ := sd_mlet hm
      refine sd_topi eumomade ?_
      refine sd_put (ci := 5) (v := .int umomade) (ty := .int) (C := R_Model) (T := F_Model) (N := 31) (ws2 := [(mo, .inr (5, [.ref a_n, .ref a_d, .ref a_r, .ref a_count, .ref a_newN, .ref a_newD, .ref a_newR, .int umomade, .ref a_out, .int m_outCount, .ref a_root, .ref a_rest, .ref a_square, .ref a_part, .ref a_plus, .ref a_minus, .ref a_low, .ref a_high, .ref a_one, .ref a_two, .int m_lowSign, .int m_highSign, .ref a_otherLow, .ref a_otherHigh, .ref a_digit, .ref a_topA, .ref a_underA, .ref a_topB, .ref a_underB, .ref a_quotient, .ref a_otherQuotient])), (a_newN, aJ g 8 ruanewN), (a_newD, aJ g 8 ruanewD), (a_newR, aJ g 8 ruanewR)]) hx hb htt i_Model t_Model t_Model_ok n_Model hown hK hP hD hS 0 rfl rfl 7 (by decide) kf_Model_97 (fun _ h9 => h9) rfl (by decide +kernel) rfl rfl (Nat.le_of_ble_eq_true rfl) rfl d_Model_addTerm_316 (fun H locs hP hD hS => ?_)
      exact J319 x7_1 x9_1 x11_1 x13_1 umomade ruanewN ruanewD ruanewR hm H locs ls (hP.sub [0, 1, 2, 3] rfl) (hD.sub [0, 1, 2, 3] (by decide) rfl) hS (lv_sub hl [0, 1, 2, 3, 4, 5] rfl)
  refine lv_iconst (v := (0 : Int32)) hx hb d_Model_addTerm_0 (by decide) ?_
  refine lv_istore (lv' := [(7, .int (0 : Int32)), (0, .ref mo), (1, .long vA), (3, .long vB), (5, .long vRoot)]) hx hb d_Model_addTerm_1 hl (by decide) rfl (fun ls hl => ?_)
  have L3 : ∀ (fu : Nat) (x7_2 : Int32) (rx7 : Int32), mf_Model_addTerm_L3 m_made vRoot c_newR fu x7_2 = some (rx7) → ∀ (H : Heap) (locs : List Loc) (ls : Array Slot), va_P D classes [(mo, .inr (5, [.ref a_n, .ref a_d, .ref a_r, .ref a_count, .ref a_newN, .ref a_newD, .ref a_newR, .int m_made, .ref a_out, .int m_outCount, .ref a_root, .ref a_rest, .ref a_square, .ref a_part, .ref a_plus, .ref a_minus, .ref a_low, .ref a_high, .ref a_one, .ref a_two, .int m_lowSign, .int m_highSign, .ref a_otherLow, .ref a_otherHigh, .ref a_digit, .ref a_topA, .ref a_underA, .ref a_topB, .ref a_underB, .ref a_quotient, .ref a_otherQuotient])), (a_newN, aJ g 8 c_newN), (a_newD, aJ g 8 c_newD), (a_newR, aJ g 8 c_newR)] H → va_D A [(mo, .inr (5, [.ref a_n, .ref a_d, .ref a_r, .ref a_count, .ref a_newN, .ref a_newD, .ref a_newR, .int m_made, .ref a_out, .int m_outCount, .ref a_root, .ref a_rest, .ref a_square, .ref a_part, .ref a_plus, .ref a_minus, .ref a_low, .ref a_high, .ref a_one, .ref a_two, .int m_lowSign, .int m_highSign, .ref a_otherLow, .ref a_otherHigh, .ref a_digit, .ref a_topA, .ref a_underA, .ref a_topB, .ref a_underB, .ref a_quotient, .ref a_otherQuotient])), (a_newN, aJ g 8 c_newN), (a_newD, aJ g 8 c_newD), (a_newR, aJ g 8 c_newR)] → va_S A s.heap H locs → lv_has ls 16 [(0, .ref mo), (1, .long vA), (3, .long vB), (5, .long vRoot), (7, .int x7_2)] → (∀ (H : Heap) (locs : List Loc) (ls : Array Slot), va_P D classes [(mo, .inr (5, [.ref a_n, .ref a_d, .ref a_r, .ref a_count, .ref a_newN, .ref a_newD, .ref a_newR, .int m_made, .ref a_out, .int m_outCount, .ref a_root, .ref a_rest, .ref a_square, .ref a_part, .ref a_plus, .ref a_minus, .ref a_low, .ref a_high, .ref a_one, .ref a_two, .int m_lowSign, .int m_highSign, .ref a_otherLow, .ref a_otherHigh, .ref a_digit, .ref a_topA, .ref a_underA, .ref a_topB, .ref a_underB, .ref a_quotient, .ref a_otherQuotient])), (a_newN, aJ g 8 c_newN), (a_newD, aJ g 8 c_newD), (a_newR, aJ g 8 c_newR)] H → va_D A [(mo, .inr (5, [.ref a_n, .ref a_d, .ref a_r, .ref a_count, .ref a_newN, .ref a_newD, .ref a_newR, .int m_made, .ref a_out, .int m_outCount, .ref a_root, .ref a_rest, .ref a_square, .ref a_part, .ref a_plus, .ref a_minus, .ref a_low, .ref a_high, .ref a_one, .ref a_two, .int m_lowSign, .int m_highSign, .ref a_otherLow, .ref a_otherHigh, .ref a_digit, .ref a_topA, .ref a_underA, .ref a_topB, .ref a_underB, .ref a_quotient, .ref a_otherQuotient])), (a_newN, aJ g 8 c_newN), (a_newD, aJ g 8 c_newD), (a_newR, aJ g 8 c_newR)] → va_S A s.heap H locs → lv_has ls 16 [(0, .ref mo), (1, .long vA), (3, .long vB), (5, .long vRoot), (7, .int rx7)] → W p l e rm_Model_addTerm s m args below meth c H locs 0 0 Q (F0 m 31 ls [])) → W p l e rm_Model_addTerm s m args below meth c H locs 0 0 Q (F0 m 3 ls []) := by
    intro fu
    induction fu with
    | zero => intro x7_2 rx7 hm; exact absurd (show (none : Option (Int32)) = some (rx7) from hm) (fun h => nomatch h)
    | succ fu ih =>
      intro x7_2 rx7 hm H locs ls hP hD hS hl kx31
      rw [mf_Model_addTerm_L3] at hm
      refine lv_iload hx hb d_Model_addTerm_3 (lv_at hl 4 rfl) ?_
      refine lv_aload_n hx hb d_Model_addTerm_5 rfl (lv_at hl 0 rfl) ?_
      refine va_get (D := D) (ci := 5) (v := .int m_made) (C := R_Model) (T := F_Model) (N := 31) hx hb htt i_Model hown hK hP 0 rfl rfl 7 (by decide) (htt _ kf_Model_97) (fun _ h9 => h9) rfl d_Model_addTerm_6 ?_
      refine lv_icmp_ge (tgt := 31) hx hb d_Model_addTerm_9 (by decide) (fun hc => ?_) (fun hc => ?_)
      · have hm := sd_mt hc hm
        cases hm
        exact kx31 H locs ls (hP.sub [0, 1, 2, 3] rfl) (hD.sub [0, 1, 2, 3] (by decide) rfl) hS (lv_sub hl [0, 1, 2, 3, 4] rfl)
      · have hm := sd_mf hc hm
        refine lv_aload_n hx hb d_Model_addTerm_12 rfl (lv_at hl 0 rfl) ?_
        refine va_get (D := D) (ci := 5) (v := .ref a_newR) (C := R_Model) (T := F_Model) (N := 31) hx hb htt i_Model hown hK hP 0 rfl rfl 6 (by decide) (htt _ kf_Model_29) (fun _ h9 => h9) rfl d_Model_addTerm_13 ?_
        refine lv_iload hx hb d_Model_addTerm_16 (lv_at hl 4 rfl) ?_
        obtain ⟨h_12, hm⟩ := sd_mg hm
        refine sd_lald hx hb hK hP 3 rfl h_12 d_Model_addTerm_18 ?_
        refine lv_lload hx hb d_Model_addTerm_19 (lv_at hl 3 rfl) ?_
        refine sd_lge (tgt := 31) hx hb d_Model_addTerm_21 d_Model_addTerm_22 (by decide) (fun hc => ?_) (fun hc => ?_)
        · have hm := sd_mt hc hm
          cases hm
          exact kx31 H locs ls (hP.sub [0, 1, 2, 3] rfl) (hD.sub [0, 1, 2, 3] (by decide) rfl) hS (lv_sub hl [0, 1, 2, 3, 4] rfl)
        · have hm := sd_mf hc hm
          obtain ⟨x7_3, ex7_3, hm⟩ := sd_mlet hm
          refine lv_iinc (v := x7_3) (lv' := [(7, .int x7_3), (0, .ref mo), (1, .long vA), (3, .long vB), (5, .long vRoot)]) hx hb d_Model_addTerm_25 hl (k := 4) rfl (by rw [ex7_3]; rfl) (by decide) rfl (fun ls hl => ?_)
          refine lv_goto (tgt := 3) hx hb d_Model_addTerm_28 (by decide) ?_
          exact ih x7_3 rx7 hm H locs ls (hP.sub [0, 1, 2, 3] rfl) (hD.sub [0, 1, 2, 3] (by decide) rfl) hS (lv_sub hl [1, 2, 3, 4, 0] rfl) kx31
  obtain ⟨rx7, hc, hm⟩ := sd_mb1 hm
  refine L3 F (0 : Int32) rx7 hc H locs ls (hP.sub [0, 1, 2, 3] rfl) (hD.sub [0, 1, 2, 3] (by decide) rfl) hS (lv_sub hl [1, 2, 3, 4, 0] rfl) ?_
  intro H locs ls hP hD hS hl
  refine lv_iload hx hb d_Model_addTerm_31 (lv_at hl 4 rfl) ?_
  refine lv_aload_n hx hb d_Model_addTerm_33 rfl (lv_at hl 0 rfl) ?_
  refine va_get (D := D) (ci := 5) (v := .int m_made) (C := R_Model) (T := F_Model) (N := 31) hx hb htt i_Model hown hK hP 0 rfl rfl 7 (by decide) (htt _ kf_Model_97) (fun _ h9 => h9) rfl d_Model_addTerm_34 ?_
  obtain ⟨y, hv, hm⟩ := sd_mb1 hm
  have J58_13 : ∀ (H : Heap) (locs : List Loc) (ls : Array Slot), va_P D classes [(mo, .inr (5, [.ref a_n, .ref a_d, .ref a_r, .ref a_count, .ref a_newN, .ref a_newD, .ref a_newR, .int m_made, .ref a_out, .int m_outCount, .ref a_root, .ref a_rest, .ref a_square, .ref a_part, .ref a_plus, .ref a_minus, .ref a_low, .ref a_high, .ref a_one, .ref a_two, .int m_lowSign, .int m_highSign, .ref a_otherLow, .ref a_otherHigh, .ref a_digit, .ref a_topA, .ref a_underA, .ref a_topB, .ref a_underB, .ref a_quotient, .ref a_otherQuotient])), (a_newN, aJ g 8 c_newN), (a_newD, aJ g 8 c_newD), (a_newR, aJ g 8 c_newR)] H → va_D A [(mo, .inr (5, [.ref a_n, .ref a_d, .ref a_r, .ref a_count, .ref a_newN, .ref a_newD, .ref a_newR, .int m_made, .ref a_out, .int m_outCount, .ref a_root, .ref a_rest, .ref a_square, .ref a_part, .ref a_plus, .ref a_minus, .ref a_low, .ref a_high, .ref a_one, .ref a_two, .int m_lowSign, .int m_highSign, .ref a_otherLow, .ref a_otherHigh, .ref a_digit, .ref a_topA, .ref a_underA, .ref a_topB, .ref a_underB, .ref a_quotient, .ref a_otherQuotient])), (a_newN, aJ g 8 c_newN), (a_newD, aJ g 8 c_newD), (a_newR, aJ g 8 c_newR)] → va_S A s.heap H locs → lv_has ls 16 [(0, .ref mo), (1, .long vA), (3, .long vB), (5, .long vRoot), (7, .int rx7)] → W p l e rm_Model_addTerm s m args below meth c H locs 0 0 Q (F0 m 58 ls [.int y]) := by
    intro H locs ls hP hD hS hl
    refine lv_istore (lv' := [(8, .int y), (0, .ref mo), (1, .long vA), (3, .long vB), (5, .long vRoot), (7, .int rx7)]) hx hb d_Model_addTerm_58 hl (by decide) rfl (fun ls hl => ?_)
    refine lv_iload hx hb d_Model_addTerm_60 (lv_at hl 0 rfl) ?_
    obtain ⟨y_1, hv, hm⟩ := sd_mb1 hm
    have J88_15 : ∀ (H : Heap) (locs : List Loc) (ls : Array Slot), va_P D classes [(mo, .inr (5, [.ref a_n, .ref a_d, .ref a_r, .ref a_count, .ref a_newN, .ref a_newD, .ref a_newR, .int m_made, .ref a_out, .int m_outCount, .ref a_root, .ref a_rest, .ref a_square, .ref a_part, .ref a_plus, .ref a_minus, .ref a_low, .ref a_high, .ref a_one, .ref a_two, .int m_lowSign, .int m_highSign, .ref a_otherLow, .ref a_otherHigh, .ref a_digit, .ref a_topA, .ref a_underA, .ref a_topB, .ref a_underB, .ref a_quotient, .ref a_otherQuotient])), (a_newN, aJ g 8 c_newN), (a_newD, aJ g 8 c_newD), (a_newR, aJ g 8 c_newR)] H → va_D A [(mo, .inr (5, [.ref a_n, .ref a_d, .ref a_r, .ref a_count, .ref a_newN, .ref a_newD, .ref a_newR, .int m_made, .ref a_out, .int m_outCount, .ref a_root, .ref a_rest, .ref a_square, .ref a_part, .ref a_plus, .ref a_minus, .ref a_low, .ref a_high, .ref a_one, .ref a_two, .int m_lowSign, .int m_highSign, .ref a_otherLow, .ref a_otherHigh, .ref a_digit, .ref a_topA, .ref a_underA, .ref a_topB, .ref a_underB, .ref a_quotient, .ref a_otherQuotient])), (a_newN, aJ g 8 c_newN), (a_newD, aJ g 8 c_newD), (a_newR, aJ g 8 c_newR)] → va_S A s.heap H locs → lv_has ls 16 [(0, .ref mo), (3, .long vB), (5, .long vRoot), (7, .int rx7), (8, .int y)] → W p l e rm_Model_addTerm s m args below meth c H locs 0 0 Q (F0 m 88 ls [.long y_1]) := by
      intro H locs ls hP hD hS hl
      refine lv_lstore (lv' := [(9, .long y_1), (0, .ref mo), (3, .long vB), (5, .long vRoot), (7, .int rx7), (8, .int y)]) hx hb d_Model_addTerm_88 hl (by decide) rfl (fun ls hl => ?_)
      refine lv_iload hx hb d_Model_addTerm_90 (lv_at hl 5 rfl) ?_
      obtain ⟨y_2, hv, hm⟩ := sd_mb1 hm
      have J108_18 : ∀ (H : Heap) (locs : List Loc) (ls : Array Slot), va_P D classes [(mo, .inr (5, [.ref a_n, .ref a_d, .ref a_r, .ref a_count, .ref a_newN, .ref a_newD, .ref a_newR, .int m_made, .ref a_out, .int m_outCount, .ref a_root, .ref a_rest, .ref a_square, .ref a_part, .ref a_plus, .ref a_minus, .ref a_low, .ref a_high, .ref a_one, .ref a_two, .int m_lowSign, .int m_highSign, .ref a_otherLow, .ref a_otherHigh, .ref a_digit, .ref a_topA, .ref a_underA, .ref a_topB, .ref a_underB, .ref a_quotient, .ref a_otherQuotient])), (a_newN, aJ g 8 c_newN), (a_newD, aJ g 8 c_newD), (a_newR, aJ g 8 c_newR)] H → va_D A [(mo, .inr (5, [.ref a_n, .ref a_d, .ref a_r, .ref a_count, .ref a_newN, .ref a_newD, .ref a_newR, .int m_made, .ref a_out, .int m_outCount, .ref a_root, .ref a_rest, .ref a_square, .ref a_part, .ref a_plus, .ref a_minus, .ref a_low, .ref a_high, .ref a_one, .ref a_two, .int m_lowSign, .int m_highSign, .ref a_otherLow, .ref a_otherHigh, .ref a_digit, .ref a_topA, .ref a_underA, .ref a_topB, .ref a_underB, .ref a_quotient, .ref a_otherQuotient])), (a_newN, aJ g 8 c_newN), (a_newD, aJ g 8 c_newD), (a_newR, aJ g 8 c_newR)] → va_S A s.heap H locs → lv_has ls 16 [(0, .ref mo), (5, .long vRoot), (7, .int rx7), (8, .int y), (9, .long y_1)] → W p l e rm_Model_addTerm s m args below meth c H locs 0 0 Q (F0 m 108 ls [.long y_2]) := by
        intro H locs ls hP hD hS hl
        refine lv_lstore (lv' := [(11, .long y_2), (0, .ref mo), (5, .long vRoot), (7, .int rx7), (8, .int y), (9, .long y_1)]) hx hb d_Model_addTerm_108 hl (by decide) rfl (fun ls hl => ?_)
        refine lv_lload hx hb d_Model_addTerm_110 (lv_at hl 5 rfl) ?_
        refine lv_lconst (v := (0 : Int64)) hx hb d_Model_addTerm_112 (by decide) ?_
        refine sd_lne (tgt := 196) hx hb d_Model_addTerm_113 d_Model_addTerm_114 (by decide) (fun hc => ?_) (fun hc => ?_)
        · have hm := sd_mf hc hm
          refine lv_lload hx hb d_Model_addTerm_196 (lv_at hl 5 rfl) ?_
          refine lv_lload hx hb d_Model_addTerm_198 (lv_at hl 0 rfl) ?_
          obtain ⟨r, hc, hm⟩ := sd_mb1 hm
          refine sd_cl0 (wr := [(mo, .inr (5, [.ref a_n, .ref a_d, .ref a_r, .ref a_count, .ref a_newN, .ref a_newD, .ref a_newR, .int m_made, .ref a_out, .int m_outCount, .ref a_root, .ref a_rest, .ref a_square, .ref a_part, .ref a_plus, .ref a_minus, .ref a_low, .ref a_high, .ref a_one, .ref a_two, .int m_lowSign, .int m_highSign, .ref a_otherLow, .ref a_otherHigh, .ref a_digit, .ref a_topA, .ref a_underA, .ref a_topB, .ref a_underB, .ref a_quotient, .ref a_otherQuotient])), (a_newN, aJ g 8 c_newN), (a_newD, aJ g 8 c_newD), (a_newR, aJ g 8 c_newR)]) (w2 := [(mo, .inr (5, [.ref a_n, .ref a_d, .ref a_r, .ref a_count, .ref a_newN, .ref a_newD, .ref a_newR, .int m_made, .ref a_out, .int m_outCount, .ref a_root, .ref a_rest, .ref a_square, .ref a_part, .ref a_plus, .ref a_minus, .ref a_low, .ref a_high, .ref a_one, .ref a_two, .int m_lowSign, .int m_highSign, .ref a_otherLow, .ref a_otherHigh, .ref a_digit, .ref a_topA, .ref a_underA, .ref a_topB, .ref a_underB, .ref a_quotient, .ref a_otherQuotient])), (a_newN, aJ g 8 c_newN), (a_newD, aJ g 8 c_newD), (a_newR, aJ g 8 c_newR)]) (sd_runS (rest := []) (As := [.long y_1, .long y_2]) S (ct_Model_divisor l D g (H.size) y_1 y_2 F (r) hc) kl_Model_101 (by decide) (by decide) hK hP hD [] rfl (by decide) rfl hl d_Model_addTerm_200 rfl (Nat.le_of_ble_eq_true rfl) ⟨Nat.zero_le _, Nat.zero_le _⟩) hP hD hS hA [] [0, 1, 2, 3] rfl rfl (by decide) (by decide) rfl (fun H locs hP hD hS => ?_)
          refine W.eq (g2 := F0 m 203 ls [.long r]) rfl ?_
          refine lv_lstore (lv' := [(13, .long r), (11, .long y_2), (0, .ref mo), (5, .long vRoot), (7, .int rx7), (8, .int y), (9, .long y_1)]) hx hb d_Model_addTerm_203 hl (by decide) rfl (fun ls hl => ?_)
          refine lv_lload hx hb d_Model_addTerm_205 (lv_at hl 6 rfl) ?_
          refine lv_lload hx hb d_Model_addTerm_207 (lv_at hl 0 rfl) ?_
          obtain ⟨h_20, hm⟩ := sd_mg hm
          refine lv_ldiv hx hb d_Model_addTerm_209 (sd_nzJ h_20) ?_
          refine lv_lload hx hb d_Model_addTerm_210 (lv_at hl 1 rfl) ?_
          refine lv_lload hx hb d_Model_addTerm_212 (lv_at hl 0 rfl) ?_
          obtain ⟨h_21, hm⟩ := sd_mg hm
          refine lv_ldiv hx hb d_Model_addTerm_214 (sd_nzJ h_21) ?_
          obtain ⟨r_1, hc, hm⟩ := sd_mb1 hm
          refine sd_ci0 (wr := [(mo, .inr (5, [.ref a_n, .ref a_d, .ref a_r, .ref a_count, .ref a_newN, .ref a_newD, .ref a_newR, .int m_made, .ref a_out, .int m_outCount, .ref a_root, .ref a_rest, .ref a_square, .ref a_part, .ref a_plus, .ref a_minus, .ref a_low, .ref a_high, .ref a_one, .ref a_two, .int m_lowSign, .int m_highSign, .ref a_otherLow, .ref a_otherHigh, .ref a_digit, .ref a_topA, .ref a_underA, .ref a_topB, .ref a_underB, .ref a_quotient, .ref a_otherQuotient])), (a_newN, aJ g 8 c_newN), (a_newD, aJ g 8 c_newD), (a_newR, aJ g 8 c_newR)]) (w2 := [(mo, .inr (5, [.ref a_n, .ref a_d, .ref a_r, .ref a_count, .ref a_newN, .ref a_newD, .ref a_newR, .int m_made, .ref a_out, .int m_outCount, .ref a_root, .ref a_rest, .ref a_square, .ref a_part, .ref a_plus, .ref a_minus, .ref a_low, .ref a_high, .ref a_one, .ref a_two, .int m_lowSign, .int m_highSign, .ref a_otherLow, .ref a_otherHigh, .ref a_digit, .ref a_topA, .ref a_underA, .ref a_topB, .ref a_underB, .ref a_quotient, .ref a_otherQuotient])), (a_newN, aJ g 8 c_newN), (a_newD, aJ g 8 c_newD), (a_newR, aJ g 8 c_newR)]) (sd_runS (rest := []) (As := [.long (y_1 / r), .long (y_2 / r)]) S (ct_Model_fits l D g (H.size) (y_1 / r) (y_2 / r) F (r_1) hc) kl_Model_105 (by decide) (by decide) hK hP hD [] rfl (by decide) rfl hl d_Model_addTerm_215 rfl (Nat.le_of_ble_eq_true rfl) ⟨Nat.zero_le _, Nat.zero_le _⟩) hP hD hS hA [] [0, 1, 2, 3] rfl rfl (by decide) (by decide) rfl (fun H locs hP hD hS => ?_)
          refine W.eq (g2 := F0 m 218 ls [.int r_1]) rfl ?_
          refine lv_if_eq (tgt := 235) hx hb d_Model_addTerm_218 (by decide) (fun hc => ?_) (fun hc => ?_)
          · have hm := sd_mt hc hm
            refine lv_iconst (v := (0 : Int32)) hx hb d_Model_addTerm_235 (by decide) ?_
            exact sd_z1ret (u := (m_made, c_newN, c_newD, c_newR)) hQ hx hb hr hlk rfl hK (hP.sub [0, 1, 2, 3] rfl) (hD.sub [0, 1, 2, 3] (by decide) rfl) hS (Option.some.inj hm).symm d_Model_addTerm_236
          · have hm := sd_mf hc hm
            refine lv_iload hx hb d_Model_addTerm_221 (lv_at hl 5 rfl) ?_
            refine lv_if_ne (tgt := 237) hx hb d_Model_addTerm_223 (by decide) (fun hc => ?_) (fun hc => ?_)
            · have hm := sd_mf hc hm
              exact J237 rx7 y y_1 y_2 r m_made c_newN c_newD c_newR hm H locs ls (hP.sub [0, 1, 2, 3] rfl) (hD.sub [0, 1, 2, 3] (by decide) rfl) hS (lv_sub hl [2, 3, 4, 5, 6, 1, 0] rfl)
            · have hm := sd_mt hc hm
              refine lv_aload_n hx hb d_Model_addTerm_226 rfl (lv_at hl 2 rfl) ?_
              refine va_get (D := D) (ci := 5) (v := .int m_made) (C := R_Model) (T := F_Model) (N := 31) hx hb htt i_Model hown hK hP 0 rfl rfl 7 (by decide) (htt _ kf_Model_97) (fun _ h9 => h9) rfl d_Model_addTerm_227 ?_
              refine lv_bipush (v := (8 : Int32)) hx hb d_Model_addTerm_230 (by decide) ?_
              refine lv_icmp_ne (tgt := 237) hx hb d_Model_addTerm_232 (by decide) (fun hc => ?_) (fun hc => ?_)
              · have hm := sd_mf hc hm
                exact J237 rx7 y y_1 y_2 r m_made c_newN c_newD c_newR hm H locs ls (hP.sub [0, 1, 2, 3] rfl) (hD.sub [0, 1, 2, 3] (by decide) rfl) hS (lv_sub hl [2, 3, 4, 5, 6, 1, 0] rfl)
              · have hm := sd_mt hc hm
                refine lv_iconst (v := (0 : Int32)) hx hb d_Model_addTerm_235 (by decide) ?_
                exact sd_z1ret (u := (m_made, c_newN, c_newD, c_newR)) hQ hx hb hr hlk rfl hK (hP.sub [0, 1, 2, 3] rfl) (hD.sub [0, 1, 2, 3] (by decide) rfl) hS (Option.some.inj hm).symm d_Model_addTerm_236
        · have hm := sd_mt hc hm
          refine lv_aload_n hx hb d_Model_addTerm_117 rfl (lv_at hl 1 rfl) ?_
          refine lv_dup hx hb d_Model_addTerm_118 rfl ?_
          refine va_get (D := D) (ci := 5) (v := .int m_made) (C := R_Model) (T := F_Model) (N := 31) hx hb htt i_Model hown hK hP 0 rfl rfl 7 (by decide) (htt _ kf_Model_97) (fun _ h9 => h9) rfl d_Model_addTerm_119 ?_
          refine lv_iconst (v := (1 : Int32)) hx hb d_Model_addTerm_122 (by decide) ?_
          refine lv_isub hx hb d_Model_addTerm_123 ?_
          obtain ⟨umomade_1, eumomade_1, hm⟩ := sd_mlet hm
          refine sd_topi eumomade_1 ?_
          refine sd_put (ci := 5) (v := .int umomade_1) (ty := .int) (C := R_Model) (T := F_Model) (N := 31) (ws2 := [(mo, .inr (5, [.ref a_n, .ref a_d, .ref a_r, .ref a_count, .ref a_newN, .ref a_newD, .ref a_newR, .int umomade_1, .ref a_out, .int m_outCount, .ref a_root, .ref a_rest, .ref a_square, .ref a_part, .ref a_plus, .ref a_minus, .ref a_low, .ref a_high, .ref a_one, .ref a_two, .int m_lowSign, .int m_highSign, .ref a_otherLow, .ref a_otherHigh, .ref a_digit, .ref a_topA, .ref a_underA, .ref a_topB, .ref a_underB, .ref a_quotient, .ref a_otherQuotient])), (a_newN, aJ g 8 c_newN), (a_newD, aJ g 8 c_newD), (a_newR, aJ g 8 c_newR)]) hx hb htt i_Model t_Model t_Model_ok n_Model hown hK hP hD hS 0 rfl rfl 7 (by decide) kf_Model_97 (fun _ h9 => h9) rfl (by decide +kernel) rfl rfl (Nat.le_of_ble_eq_true rfl) rfl d_Model_addTerm_124 (fun H locs hP hD hS => ?_)
          refine lv_iload hx hb d_Model_addTerm_127 (lv_at hl 3 rfl) ?_
          refine lv_istore (lv' := [(13, .int rx7), (11, .long y_2), (0, .ref mo), (5, .long vRoot), (7, .int rx7), (8, .int y), (9, .long y_1)]) hx hb d_Model_addTerm_129 hl (by decide) rfl (fun ls hl => ?_)
          have L131 : ∀ (fu : Nat) (x13_2 : Int32) (uanewN_5 : Nat → Int64) (uanewD_5 : Nat → Int64) (uanewR_5 : Nat → Int64) (ruanewN_1 : Nat → Int64) (ruanewD_1 : Nat → Int64) (ruanewR_1 : Nat → Int64), mf_Model_addTerm_L131 umomade_1 fu x13_2 uanewN_5 uanewD_5 uanewR_5 = some (ruanewN_1, ruanewD_1, ruanewR_1) → ∀ (H : Heap) (locs : List Loc) (ls : Array Slot), va_P D classes [(mo, .inr (5, [.ref a_n, .ref a_d, .ref a_r, .ref a_count, .ref a_newN, .ref a_newD, .ref a_newR, .int umomade_1, .ref a_out, .int m_outCount, .ref a_root, .ref a_rest, .ref a_square, .ref a_part, .ref a_plus, .ref a_minus, .ref a_low, .ref a_high, .ref a_one, .ref a_two, .int m_lowSign, .int m_highSign, .ref a_otherLow, .ref a_otherHigh, .ref a_digit, .ref a_topA, .ref a_underA, .ref a_topB, .ref a_underB, .ref a_quotient, .ref a_otherQuotient])), (a_newN, aJ g 8 uanewN_5), (a_newD, aJ g 8 uanewD_5), (a_newR, aJ g 8 uanewR_5)] H → va_D A [(mo, .inr (5, [.ref a_n, .ref a_d, .ref a_r, .ref a_count, .ref a_newN, .ref a_newD, .ref a_newR, .int umomade_1, .ref a_out, .int m_outCount, .ref a_root, .ref a_rest, .ref a_square, .ref a_part, .ref a_plus, .ref a_minus, .ref a_low, .ref a_high, .ref a_one, .ref a_two, .int m_lowSign, .int m_highSign, .ref a_otherLow, .ref a_otherHigh, .ref a_digit, .ref a_topA, .ref a_underA, .ref a_topB, .ref a_underB, .ref a_quotient, .ref a_otherQuotient])), (a_newN, aJ g 8 uanewN_5), (a_newD, aJ g 8 uanewD_5), (a_newR, aJ g 8 uanewR_5)] → va_S A s.heap H locs → lv_has ls 16 [(0, .ref mo), (13, .int x13_2)] → (∀ (H : Heap) (locs : List Loc) (ls : Array Slot), va_P D classes [(mo, .inr (5, [.ref a_n, .ref a_d, .ref a_r, .ref a_count, .ref a_newN, .ref a_newD, .ref a_newR, .int umomade_1, .ref a_out, .int m_outCount, .ref a_root, .ref a_rest, .ref a_square, .ref a_part, .ref a_plus, .ref a_minus, .ref a_low, .ref a_high, .ref a_one, .ref a_two, .int m_lowSign, .int m_highSign, .ref a_otherLow, .ref a_otherHigh, .ref a_digit, .ref a_topA, .ref a_underA, .ref a_topB, .ref a_underB, .ref a_quotient, .ref a_otherQuotient])), (a_newN, aJ g 8 ruanewN_1), (a_newD, aJ g 8 ruanewD_1), (a_newR, aJ g 8 ruanewR_1)] H → va_D A [(mo, .inr (5, [.ref a_n, .ref a_d, .ref a_r, .ref a_count, .ref a_newN, .ref a_newD, .ref a_newR, .int umomade_1, .ref a_out, .int m_outCount, .ref a_root, .ref a_rest, .ref a_square, .ref a_part, .ref a_plus, .ref a_minus, .ref a_low, .ref a_high, .ref a_one, .ref a_two, .int m_lowSign, .int m_highSign, .ref a_otherLow, .ref a_otherHigh, .ref a_digit, .ref a_topA, .ref a_underA, .ref a_topB, .ref a_underB, .ref a_quotient, .ref a_otherQuotient])), (a_newN, aJ g 8 ruanewN_1), (a_newD, aJ g 8 ruanewD_1), (a_newR, aJ g 8 ruanewR_1)] → va_S A s.heap H locs → lv_has ls 16 [] → W p l e rm_Model_addTerm s m args below meth c H locs 0 0 Q (F0 m 194 ls [])) → W p l e rm_Model_addTerm s m args below meth c H locs 0 0 Q (F0 m 131 ls []) := by
            intro fu
            induction fu with
            | zero => intro x13_2 uanewN_5 uanewD_5 uanewR_5 ruanewN_1 ruanewD_1 ruanewR_1 hm; exact absurd (show (none : Option ((Nat → Int64) × (Nat → Int64) × (Nat → Int64))) = some (ruanewN_1, ruanewD_1, ruanewR_1) from hm) (fun h => nomatch h)
            | succ fu ih =>
              intro x13_2 uanewN_5 uanewD_5 uanewR_5 ruanewN_1 ruanewD_1 ruanewR_1 hm H locs ls hP hD hS hl kx194
              rw [mf_Model_addTerm_L131] at hm
              refine lv_iload hx hb d_Model_addTerm_131 (lv_at hl 1 rfl) ?_
              refine lv_aload_n hx hb d_Model_addTerm_133 rfl (lv_at hl 0 rfl) ?_
              refine va_get (D := D) (ci := 5) (v := .int umomade_1) (C := R_Model) (T := F_Model) (N := 31) hx hb htt i_Model hown hK hP 0 rfl rfl 7 (by decide) (htt _ kf_Model_97) (fun _ h9 => h9) rfl d_Model_addTerm_134 ?_
              refine lv_icmp_ge (tgt := 194) hx hb d_Model_addTerm_137 (by decide) (fun hc => ?_) (fun hc => ?_)
              · have hm := sd_mt hc hm
                cases hm
                exact kx194 H locs ls (hP.sub [0, 1, 2, 3] rfl) (hD.sub [0, 1, 2, 3] (by decide) rfl) hS (lv_sub hl [] rfl)
              · have hm := sd_mf hc hm
                refine lv_aload_n hx hb d_Model_addTerm_140 rfl (lv_at hl 0 rfl) ?_
                refine va_get (D := D) (ci := 5) (v := .ref a_newN) (C := R_Model) (T := F_Model) (N := 31) hx hb htt i_Model hown hK hP 0 rfl rfl 4 (by decide) (htt _ kf_Model_23) (fun _ h9 => h9) rfl d_Model_addTerm_141 ?_
                refine lv_iload hx hb d_Model_addTerm_144 (lv_at hl 1 rfl) ?_
                refine lv_aload_n hx hb d_Model_addTerm_146 rfl (lv_at hl 0 rfl) ?_
                refine va_get (D := D) (ci := 5) (v := .ref a_newN) (C := R_Model) (T := F_Model) (N := 31) hx hb htt i_Model hown hK hP 0 rfl rfl 4 (by decide) (htt _ kf_Model_23) (fun _ h9 => h9) rfl d_Model_addTerm_147 ?_
                refine lv_iload hx hb d_Model_addTerm_150 (lv_at hl 1 rfl) ?_
                refine lv_iconst (v := (1 : Int32)) hx hb d_Model_addTerm_152 (by decide) ?_
                refine lv_iadd hx hb d_Model_addTerm_153 ?_
                obtain ⟨h_22, hm⟩ := sd_mg hm
                refine sd_lald hx hb hK hP 1 rfl h_22 d_Model_addTerm_154 ?_
                obtain ⟨h_23, hm⟩ := sd_mg hm
                obtain ⟨uanewN_6, euanewN_6, hm⟩ := sd_mlet hm
                refine sd_last (f2 := uanewN_6) (ws2 := [(mo, .inr (5, [.ref a_n, .ref a_d, .ref a_r, .ref a_count, .ref a_newN, .ref a_newD, .ref a_newR, .int umomade_1, .ref a_out, .int m_outCount, .ref a_root, .ref a_rest, .ref a_square, .ref a_part, .ref a_plus, .ref a_minus, .ref a_low, .ref a_high, .ref a_one, .ref a_two, .int m_lowSign, .int m_highSign, .ref a_otherLow, .ref a_otherHigh, .ref a_digit, .ref a_topA, .ref a_underA, .ref a_topB, .ref a_underB, .ref a_quotient, .ref a_otherQuotient])), (a_newN, aJ g 8 uanewN_6), (a_newD, aJ g 8 uanewD_5), (a_newR, aJ g 8 uanewR_5)]) hx hb hK hP hD hS 1 rfl h_23 euanewN_6 rfl d_Model_addTerm_155 (fun H locs hP hD hS => ?_)
                refine lv_aload_n hx hb d_Model_addTerm_156 rfl (lv_at hl 0 rfl) ?_
                refine va_get (D := D) (ci := 5) (v := .ref a_newD) (C := R_Model) (T := F_Model) (N := 31) hx hb htt i_Model hown hK hP 0 rfl rfl 5 (by decide) (htt _ kf_Model_26) (fun _ h9 => h9) rfl d_Model_addTerm_157 ?_
                refine lv_iload hx hb d_Model_addTerm_160 (lv_at hl 1 rfl) ?_
                refine lv_aload_n hx hb d_Model_addTerm_162 rfl (lv_at hl 0 rfl) ?_
                refine va_get (D := D) (ci := 5) (v := .ref a_newD) (C := R_Model) (T := F_Model) (N := 31) hx hb htt i_Model hown hK hP 0 rfl rfl 5 (by decide) (htt _ kf_Model_26) (fun _ h9 => h9) rfl d_Model_addTerm_163 ?_
                refine lv_iload hx hb d_Model_addTerm_166 (lv_at hl 1 rfl) ?_
                refine lv_iconst (v := (1 : Int32)) hx hb d_Model_addTerm_168 (by decide) ?_
                refine lv_iadd hx hb d_Model_addTerm_169 ?_
                obtain ⟨h_24, hm⟩ := sd_mg hm
                refine sd_lald hx hb hK hP 2 rfl h_24 d_Model_addTerm_170 ?_
                obtain ⟨h_25, hm⟩ := sd_mg hm
                obtain ⟨uanewD_6, euanewD_6, hm⟩ := sd_mlet hm
                refine sd_last (f2 := uanewD_6) (ws2 := [(mo, .inr (5, [.ref a_n, .ref a_d, .ref a_r, .ref a_count, .ref a_newN, .ref a_newD, .ref a_newR, .int umomade_1, .ref a_out, .int m_outCount, .ref a_root, .ref a_rest, .ref a_square, .ref a_part, .ref a_plus, .ref a_minus, .ref a_low, .ref a_high, .ref a_one, .ref a_two, .int m_lowSign, .int m_highSign, .ref a_otherLow, .ref a_otherHigh, .ref a_digit, .ref a_topA, .ref a_underA, .ref a_topB, .ref a_underB, .ref a_quotient, .ref a_otherQuotient])), (a_newN, aJ g 8 uanewN_6), (a_newD, aJ g 8 uanewD_6), (a_newR, aJ g 8 uanewR_5)]) hx hb hK hP hD hS 2 rfl h_25 euanewD_6 rfl d_Model_addTerm_171 (fun H locs hP hD hS => ?_)
                refine lv_aload_n hx hb d_Model_addTerm_172 rfl (lv_at hl 0 rfl) ?_
                refine va_get (D := D) (ci := 5) (v := .ref a_newR) (C := R_Model) (T := F_Model) (N := 31) hx hb htt i_Model hown hK hP 0 rfl rfl 6 (by decide) (htt _ kf_Model_29) (fun _ h9 => h9) rfl d_Model_addTerm_173 ?_
                refine lv_iload hx hb d_Model_addTerm_176 (lv_at hl 1 rfl) ?_
                refine lv_aload_n hx hb d_Model_addTerm_178 rfl (lv_at hl 0 rfl) ?_
                refine va_get (D := D) (ci := 5) (v := .ref a_newR) (C := R_Model) (T := F_Model) (N := 31) hx hb htt i_Model hown hK hP 0 rfl rfl 6 (by decide) (htt _ kf_Model_29) (fun _ h9 => h9) rfl d_Model_addTerm_179 ?_
                refine lv_iload hx hb d_Model_addTerm_182 (lv_at hl 1 rfl) ?_
                refine lv_iconst (v := (1 : Int32)) hx hb d_Model_addTerm_184 (by decide) ?_
                refine lv_iadd hx hb d_Model_addTerm_185 ?_
                obtain ⟨h_26, hm⟩ := sd_mg hm
                refine sd_lald hx hb hK hP 3 rfl h_26 d_Model_addTerm_186 ?_
                obtain ⟨h_27, hm⟩ := sd_mg hm
                obtain ⟨uanewR_6, euanewR_6, hm⟩ := sd_mlet hm
                refine sd_last (f2 := uanewR_6) (ws2 := [(mo, .inr (5, [.ref a_n, .ref a_d, .ref a_r, .ref a_count, .ref a_newN, .ref a_newD, .ref a_newR, .int umomade_1, .ref a_out, .int m_outCount, .ref a_root, .ref a_rest, .ref a_square, .ref a_part, .ref a_plus, .ref a_minus, .ref a_low, .ref a_high, .ref a_one, .ref a_two, .int m_lowSign, .int m_highSign, .ref a_otherLow, .ref a_otherHigh, .ref a_digit, .ref a_topA, .ref a_underA, .ref a_topB, .ref a_underB, .ref a_quotient, .ref a_otherQuotient])), (a_newN, aJ g 8 uanewN_6), (a_newD, aJ g 8 uanewD_6), (a_newR, aJ g 8 uanewR_6)]) hx hb hK hP hD hS 3 rfl h_27 euanewR_6 rfl d_Model_addTerm_187 (fun H locs hP hD hS => ?_)
                obtain ⟨x13_3, ex13_3, hm⟩ := sd_mlet hm
                refine lv_iinc (v := x13_3) (lv' := [(13, .int x13_3), (0, .ref mo)]) hx hb d_Model_addTerm_188 hl (k := 1) rfl (by rw [ex13_3]; rfl) (by decide) rfl (fun ls hl => ?_)
                refine lv_goto (tgt := 131) hx hb d_Model_addTerm_191 (by decide) ?_
                exact ih x13_3 uanewN_6 uanewD_6 uanewR_6 ruanewN_1 ruanewD_1 ruanewR_1 hm H locs ls (hP.sub [0, 1, 2, 3] rfl) (hD.sub [0, 1, 2, 3] (by decide) rfl) hS (lv_sub hl [1, 0] rfl) kx194
          obtain ⟨ruanewN_1, ruanewD_1, ruanewR_1, hc, hm⟩ := sd_mb3 hm
          refine L131 F rx7 c_newN c_newD c_newR ruanewN_1 ruanewD_1 ruanewR_1 hc H locs ls (hP.sub [0, 1, 2, 3] rfl) (hD.sub [0, 1, 2, 3] (by decide) rfl) hS (lv_sub hl [2, 0] rfl) ?_
          intro H locs ls hP hD hS hl
          refine lv_iconst (v := (1 : Int32)) hx hb d_Model_addTerm_194 (by decide) ?_
          exact sd_z1ret (u := (umomade_1, ruanewN_1, ruanewD_1, ruanewR_1)) hQ hx hb hr hlk rfl hK (hP.sub [0, 1, 2, 3] rfl) (hD.sub [0, 1, 2, 3] (by decide) rfl) hS (Option.some.inj hm).symm d_Model_addTerm_195
      replace hm := hv
      refine lv_if_eq (tgt := 107) hx hb d_Model_addTerm_92 (by decide) (fun hc => ?_) (fun hc => ?_)
      · have hm := sd_mt hc hm
        refine lv_lload_n hx hb d_Model_addTerm_107 rfl (lv_at hl 2 rfl) ?_
        cases hm
        exact J108_18 H locs ls (hP.sub [0, 1, 2, 3] rfl) (hD.sub [0, 1, 2, 3] (by decide) rfl) hS (lv_sub hl [1, 3, 4, 5, 0] rfl)
      · have hm := sd_mf hc hm
        refine lv_aload_n hx hb d_Model_addTerm_95 rfl (lv_at hl 1 rfl) ?_
        refine va_get (D := D) (ci := 5) (v := .ref a_newD) (C := R_Model) (T := F_Model) (N := 31) hx hb htt i_Model hown hK hP 0 rfl rfl 5 (by decide) (htt _ kf_Model_26) (fun _ h9 => h9) rfl d_Model_addTerm_96 ?_
        refine lv_iload hx hb d_Model_addTerm_99 (lv_at hl 4 rfl) ?_
        obtain ⟨h_19, hm⟩ := sd_mg hm
        refine sd_lald hx hb hK hP 2 rfl h_19 d_Model_addTerm_101 ?_
        refine lv_lload_n hx hb d_Model_addTerm_102 rfl (lv_at hl 2 rfl) ?_
        refine lv_lmul hx hb d_Model_addTerm_103 ?_
        refine lv_goto (tgt := 108) hx hb d_Model_addTerm_104 (by decide) ?_
        cases hm
        exact J108_18 H locs ls (hP.sub [0, 1, 2, 3] rfl) (hD.sub [0, 1, 2, 3] (by decide) rfl) hS (lv_sub hl [1, 3, 4, 5, 0] rfl)
    replace hm := hv
    refine lv_if_eq (tgt := 87) hx hb d_Model_addTerm_62 (by decide) (fun hc => ?_) (fun hc => ?_)
    · have hm := sd_mt hc hm
      refine lv_lload_n hx hb d_Model_addTerm_87 rfl (lv_at hl 2 rfl) ?_
      cases hm
      exact J88_15 H locs ls (hP.sub [0, 1, 2, 3] rfl) (hD.sub [0, 1, 2, 3] (by decide) rfl) hS (lv_sub hl [1, 3, 4, 5, 0] rfl)
    · have hm := sd_mf hc hm
      refine lv_aload_n hx hb d_Model_addTerm_65 rfl (lv_at hl 1 rfl) ?_
      refine va_get (D := D) (ci := 5) (v := .ref a_newN) (C := R_Model) (T := F_Model) (N := 31) hx hb htt i_Model hown hK hP 0 rfl rfl 4 (by decide) (htt _ kf_Model_23) (fun _ h9 => h9) rfl d_Model_addTerm_66 ?_
      refine lv_iload hx hb d_Model_addTerm_69 (lv_at hl 5 rfl) ?_
      obtain ⟨h_16, hm⟩ := sd_mg hm
      refine sd_lald hx hb hK hP 1 rfl h_16 d_Model_addTerm_71 ?_
      refine lv_lload_n hx hb d_Model_addTerm_72 rfl (lv_at hl 3 rfl) ?_
      refine lv_lmul hx hb d_Model_addTerm_73 ?_
      refine lv_lload_n hx hb d_Model_addTerm_74 rfl (lv_at hl 2 rfl) ?_
      refine lv_aload_n hx hb d_Model_addTerm_75 rfl (lv_at hl 1 rfl) ?_
      refine va_get (D := D) (ci := 5) (v := .ref a_newD) (C := R_Model) (T := F_Model) (N := 31) hx hb htt i_Model hown hK hP 0 rfl rfl 5 (by decide) (htt _ kf_Model_26) (fun _ h9 => h9) rfl d_Model_addTerm_76 ?_
      refine lv_iload hx hb d_Model_addTerm_79 (lv_at hl 5 rfl) ?_
      obtain ⟨h_17, hm⟩ := sd_mg hm
      refine sd_lald hx hb hK hP 2 rfl h_17 d_Model_addTerm_81 ?_
      refine lv_lmul hx hb d_Model_addTerm_82 ?_
      refine lv_ladd hx hb d_Model_addTerm_83 ?_
      refine lv_goto (tgt := 88) hx hb d_Model_addTerm_84 (by decide) ?_
      cases hm
      exact J88_15 H locs ls (hP.sub [0, 1, 2, 3] rfl) (hD.sub [0, 1, 2, 3] (by decide) rfl) hS (lv_sub hl [1, 3, 4, 5, 0] rfl)
  replace hm := hv
  refine lv_icmp_ge (tgt := 57) hx hb d_Model_addTerm_37 (by decide) (fun hc => ?_) (fun hc => ?_)
  · have hm := sd_mt hc hm
    refine lv_iconst (v := (0 : Int32)) hx hb d_Model_addTerm_57 (by decide) ?_
    cases hm
    exact J58_13 H locs ls (hP.sub [0, 1, 2, 3] rfl) (hD.sub [0, 1, 2, 3] (by decide) rfl) hS (lv_sub hl [0, 1, 2, 3, 4] rfl)
  · have hm := sd_mf hc hm
    refine lv_aload_n hx hb d_Model_addTerm_40 rfl (lv_at hl 0 rfl) ?_
    refine va_get (D := D) (ci := 5) (v := .ref a_newR) (C := R_Model) (T := F_Model) (N := 31) hx hb htt i_Model hown hK hP 0 rfl rfl 6 (by decide) (htt _ kf_Model_29) (fun _ h9 => h9) rfl d_Model_addTerm_41 ?_
    refine lv_iload hx hb d_Model_addTerm_44 (lv_at hl 4 rfl) ?_
    obtain ⟨h_14, hm⟩ := sd_mg hm
    refine sd_lald hx hb hK hP 3 rfl h_14 d_Model_addTerm_46 ?_
    refine lv_lload hx hb d_Model_addTerm_47 (lv_at hl 3 rfl) ?_
    refine sd_lne (tgt := 57) hx hb d_Model_addTerm_49 d_Model_addTerm_50 (by decide) (fun hc => ?_) (fun hc => ?_)
    · have hm := sd_mf hc hm
      refine lv_iconst (v := (0 : Int32)) hx hb d_Model_addTerm_57 (by decide) ?_
      cases hm
      exact J58_13 H locs ls (hP.sub [0, 1, 2, 3] rfl) (hD.sub [0, 1, 2, 3] (by decide) rfl) hS (lv_sub hl [0, 1, 2, 3, 4] rfl)
    · have hm := sd_mt hc hm
      refine lv_iconst (v := (1 : Int32)) hx hb d_Model_addTerm_53 (by decide) ?_
      refine lv_goto (tgt := 58) hx hb d_Model_addTerm_54 (by decide) ?_
      cases hm
      exact J58_13 H locs ls (hP.sub [0, 1, 2, 3] rfl) (hD.sub [0, 1, 2, 3] (by decide) rfl) hS (lv_sub hl [0, 1, 2, 3, 4] rfl)
theorem d_Model_keep_0 : decode b_Model_keep 0 = .ok (.iconst 0, 1) := by decide +kernel
theorem d_Model_keep_1 : decode b_Model_keep 1 = .ok (.istore_n 2, 1) := by decide +kernel
theorem d_Model_keep_2 : decode b_Model_keep 2 = .ok (.iload_n 2, 1) := by decide +kernel
theorem d_Model_keep_3 : decode b_Model_keep 3 = .ok (.aload_n 0, 1) := by decide +kernel
theorem d_Model_keep_4 : decode b_Model_keep 4 = .ok (.getfield 97, 3) := by decide +kernel
theorem d_Model_keep_7 : decode b_Model_keep 7 = .ok (.if_icmp .ge 60, 3) := by decide +kernel
theorem d_Model_keep_10 : decode b_Model_keep 10 = .ok (.aload_n 0, 1) := by decide +kernel
theorem d_Model_keep_11 : decode b_Model_keep 11 = .ok (.getfield 9, 3) := by decide +kernel
theorem d_Model_keep_14 : decode b_Model_keep 14 = .ok (.bipush 8, 2) := by decide +kernel
theorem d_Model_keep_16 : decode b_Model_keep 16 = .ok (.iload_n 1, 1) := by decide +kernel
theorem d_Model_keep_17 : decode b_Model_keep 17 = .ok (.imul, 1) := by decide +kernel
theorem d_Model_keep_18 : decode b_Model_keep 18 = .ok (.iload_n 2, 1) := by decide +kernel
theorem d_Model_keep_19 : decode b_Model_keep 19 = .ok (.iadd, 1) := by decide +kernel
theorem d_Model_keep_20 : decode b_Model_keep 20 = .ok (.aload_n 0, 1) := by decide +kernel
theorem d_Model_keep_21 : decode b_Model_keep 21 = .ok (.getfield 23, 3) := by decide +kernel
theorem d_Model_keep_24 : decode b_Model_keep 24 = .ok (.iload_n 2, 1) := by decide +kernel
theorem d_Model_keep_25 : decode b_Model_keep 25 = .ok (.laload, 1) := by decide +kernel
theorem d_Model_keep_26 : decode b_Model_keep 26 = .ok (.lastore, 1) := by decide +kernel
theorem d_Model_keep_27 : decode b_Model_keep 27 = .ok (.aload_n 0, 1) := by decide +kernel
theorem d_Model_keep_28 : decode b_Model_keep 28 = .ok (.getfield 13, 3) := by decide +kernel
theorem d_Model_keep_31 : decode b_Model_keep 31 = .ok (.bipush 8, 2) := by decide +kernel
theorem d_Model_keep_33 : decode b_Model_keep 33 = .ok (.iload_n 1, 1) := by decide +kernel
theorem d_Model_keep_34 : decode b_Model_keep 34 = .ok (.imul, 1) := by decide +kernel
theorem d_Model_keep_35 : decode b_Model_keep 35 = .ok (.iload_n 2, 1) := by decide +kernel
theorem d_Model_keep_36 : decode b_Model_keep 36 = .ok (.iadd, 1) := by decide +kernel
theorem d_Model_keep_37 : decode b_Model_keep 37 = .ok (.aload_n 0, 1) := by decide +kernel
theorem d_Model_keep_38 : decode b_Model_keep 38 = .ok (.getfield 26, 3) := by decide +kernel
theorem d_Model_keep_41 : decode b_Model_keep 41 = .ok (.iload_n 2, 1) := by decide +kernel
theorem d_Model_keep_42 : decode b_Model_keep 42 = .ok (.laload, 1) := by decide +kernel
theorem d_Model_keep_43 : decode b_Model_keep 43 = .ok (.lastore, 1) := by decide +kernel
theorem d_Model_keep_44 : decode b_Model_keep 44 = .ok (.aload_n 0, 1) := by decide +kernel
theorem d_Model_keep_45 : decode b_Model_keep 45 = .ok (.getfield 16, 3) := by decide +kernel
theorem d_Model_keep_48 : decode b_Model_keep 48 = .ok (.bipush 8, 2) := by decide +kernel
theorem d_Model_keep_50 : decode b_Model_keep 50 = .ok (.iload_n 1, 1) := by decide +kernel
theorem d_Model_keep_51 : decode b_Model_keep 51 = .ok (.imul, 1) := by decide +kernel
theorem d_Model_keep_52 : decode b_Model_keep 52 = .ok (.iload_n 2, 1) := by decide +kernel
theorem d_Model_keep_53 : decode b_Model_keep 53 = .ok (.iadd, 1) := by decide +kernel
theorem d_Model_keep_54 : decode b_Model_keep 54 = .ok (.aload_n 0, 1) := by decide +kernel
theorem d_Model_keep_55 : decode b_Model_keep 55 = .ok (.getfield 29, 3) := by decide +kernel
theorem d_Model_keep_58 : decode b_Model_keep 58 = .ok (.iload_n 2, 1) := by decide +kernel
theorem d_Model_keep_59 : decode b_Model_keep 59 = .ok (.laload, 1) := by decide +kernel
theorem d_Model_keep_60 : decode b_Model_keep 60 = .ok (.lastore, 1) := by decide +kernel
theorem d_Model_keep_61 : decode b_Model_keep 61 = .ok (.iinc 2 1, 3) := by decide +kernel
theorem d_Model_keep_64 : decode b_Model_keep 64 = .ok (.goto (-62), 3) := by decide +kernel
theorem d_Model_keep_67 : decode b_Model_keep 67 = .ok (.aload_n 0, 1) := by decide +kernel
theorem d_Model_keep_68 : decode b_Model_keep 68 = .ok (.getfield 19, 3) := by decide +kernel
theorem d_Model_keep_71 : decode b_Model_keep 71 = .ok (.iload_n 1, 1) := by decide +kernel
theorem d_Model_keep_72 : decode b_Model_keep 72 = .ok (.aload_n 0, 1) := by decide +kernel
theorem d_Model_keep_73 : decode b_Model_keep 73 = .ok (.getfield 97, 3) := by decide +kernel
theorem d_Model_keep_76 : decode b_Model_keep 76 = .ok (.iastore, 1) := by decide +kernel
theorem d_Model_keep_77 : decode b_Model_keep 77 = .ok (.aload_n 0, 1) := by decide +kernel
theorem d_Model_keep_78 : decode b_Model_keep 78 = .ok (.getfield 97, 3) := by decide +kernel
theorem d_Model_keep_81 : decode b_Model_keep 81 = .ok (.ireturn, 1) := by decide +kernel
def mf_Model_keep_L2 (m_made : Int32) (vK : Int32) (c_newN : Nat → Int64) (c_newD : Nat → Int64) (c_newR : Nat → Int64) : Nat → Int32 → (Nat → Int64) → (Nat → Int64) → (Nat → Int64) → Option ((Nat → Int64) × (Nat → Int64) × (Nat → Int64))
  | 0, _, _, _, _ => none
  | fu + 1, x2, uan, uad, uar => (if m_made ≤ x2 then (some (uan, uad, uar)) else (sd_g (sd_ix x2 8) (sd_g (sd_ix (((8 : Int32) * vK) + x2) 64) (sd_let (vp_updL uan (((8 : Int32) * vK) + x2).toNatClampNeg (c_newN x2.toNatClampNeg)) fun uan_1 => (sd_g (sd_ix x2 8) (sd_g (sd_ix (((8 : Int32) * vK) + x2) 64) (sd_let (vp_updL uad (((8 : Int32) * vK) + x2).toNatClampNeg (c_newD x2.toNatClampNeg)) fun uad_1 => (sd_g (sd_ix x2 8) (sd_g (sd_ix (((8 : Int32) * vK) + x2) 64) (sd_let (vp_updL uar (((8 : Int32) * vK) + x2).toNatClampNeg (c_newR x2.toNatClampNeg)) fun uar_1 => (sd_let (x2 + (1 : Int32)) fun x2_1 => ((mf_Model_keep_L2 m_made vK c_newN c_newD c_newR fu) x2_1 uan_1 uad_1 uar_1))))))))))))
def mf_Model_keep (F : Nat) (vK : Int32) (m_made : Int32) (m_outCount : Int32) (m_lowSign : Int32) (m_highSign : Int32) (c_n : Nat → Int64) (c_d : Nat → Int64) (c_r : Nat → Int64) (c_count : Nat → Int32) (c_newN : Nat → Int64) (c_newD : Nat → Int64) (c_newR : Nat → Int64) : Option (Int32 × (Nat → Int64) × (Nat → Int64) × (Nat → Int64) × (Nat → Int32)) :=
  (sd_b3 (mf_Model_keep_L2 m_made vK c_newN c_newD c_newR F (0 : Int32) c_n c_d c_r) fun ruan ruad ruar => (sd_g (sd_ix vK 8) (sd_let (upd c_count vK.toNatClampNeg m_made) fun uacount => (some (m_made, ruan, ruad, ruar, uacount)))))
abbrev rm_Model_keep : Room := { frames := 0, cells := 0, slots := 0, locals := 0 }
set_option maxHeartbeats 4000000 in
set_option maxRecDepth 100000 in
theorem ct_Model_keep (l : Launch) (D : va_G) (g : G4) (mo : Nat) (a_n : Nat) (a_d : Nat) (a_r : Nat) (a_count : Nat) (a_newN : Nat) (a_newD : Nat) (a_newR : Nat) (a_out : Nat) (a_root : Nat) (a_rest : Nat) (a_square : Nat) (a_part : Nat) (a_plus : Nat) (a_minus : Nat) (a_low : Nat) (a_high : Nat) (a_one : Nat) (a_two : Nat) (a_otherLow : Nat) (a_otherHigh : Nat) (a_digit : Nat) (a_topA : Nat) (a_underA : Nat) (a_topB : Nat) (a_underB : Nat) (a_quotient : Nat) (a_otherQuotient : Nat) (sz : Nat) (vK : Int32) (m_made : Int32) (m_outCount : Int32) (m_lowSign : Int32) (m_highSign : Int32) (c_n : Nat → Int64) (c_d : Nat → Int64) (c_r : Nat → Int64) (c_count : Nat → Int32) (c_newN : Nat → Int64) (c_newD : Nat → Int64) (c_newR : Nat → Int64) (F : Nat) (res : Int32 × (Nat → Int64) × (Nat → Int64) × (Nat → Int64) × (Nat → Int32)) (hm : mf_Model_keep F vK m_made m_outCount m_lowSign m_highSign c_n c_d c_r c_count c_newN c_newD c_newR = some res) : Met l y_Model_keep (.code y_Model_keep b_Model_keep 3 (some .int) :: sd_tb) rm_Model_keep (sd_PW D g [.ref mo, .int vK] sz [(mo, .inr (5, [.ref a_n, .ref a_d, .ref a_r, .ref a_count, .ref a_newN, .ref a_newD, .ref a_newR, .int m_made, .ref a_out, .int m_outCount, .ref a_root, .ref a_rest, .ref a_square, .ref a_part, .ref a_plus, .ref a_minus, .ref a_low, .ref a_high, .ref a_one, .ref a_two, .int m_lowSign, .int m_highSign, .ref a_otherLow, .ref a_otherHigh, .ref a_digit, .ref a_topA, .ref a_underA, .ref a_topB, .ref a_underB, .ref a_quotient, .ref a_otherQuotient])), (a_n, aJ g 64 c_n), (a_d, aJ g 64 c_d), (a_r, aJ g 64 c_r), (a_count, aI g 8 c_count), (a_newN, aJ g 8 c_newN), (a_newD, aJ g 8 c_newD), (a_newR, aJ g 8 c_newR)]) (sd_Qi1 D g res (fun u : (Nat → Int64) × (Nat → Int64) × (Nat → Int64) × (Nat → Int32) => [(mo, .inr (5, [.ref a_n, .ref a_d, .ref a_r, .ref a_count, .ref a_newN, .ref a_newD, .ref a_newR, .int m_made, .ref a_out, .int m_outCount, .ref a_root, .ref a_rest, .ref a_square, .ref a_part, .ref a_plus, .ref a_minus, .ref a_low, .ref a_high, .ref a_one, .ref a_two, .int m_lowSign, .int m_highSign, .ref a_otherLow, .ref a_otherHigh, .ref a_digit, .ref a_topA, .ref a_underA, .ref a_topB, .ref a_underB, .ref a_quotient, .ref a_otherQuotient])), (a_n, aJ g 64 (u.1)), (a_d, aJ g 64 (u.2.1)), (a_r, aJ g 64 (u.2.2.1)), (a_count, aI g 8 (u.2.2.2)), (a_newN, aJ g 8 c_newN), (a_newD, aJ g 8 c_newD), (a_newR, aJ g 8 c_newR)]) (va_A [(mo, .inr (5, [.ref a_n, .ref a_d, .ref a_r, .ref a_count, .ref a_newN, .ref a_newD, .ref a_newR, .int m_made, .ref a_out, .int m_outCount, .ref a_root, .ref a_rest, .ref a_square, .ref a_part, .ref a_plus, .ref a_minus, .ref a_low, .ref a_high, .ref a_one, .ref a_two, .int m_lowSign, .int m_highSign, .ref a_otherLow, .ref a_otherHigh, .ref a_digit, .ref a_topA, .ref a_underA, .ref a_topB, .ref a_underB, .ref a_quotient, .ref a_otherQuotient])), (a_n, aJ g 64 c_n), (a_d, aJ g 64 c_d), (a_r, aJ g 64 c_r), (a_count, aI g 8 c_count), (a_newN, aJ g 8 c_newN), (a_newD, aJ g 8 c_newD), (a_newR, aJ g 8 c_newR)] sz)) 0 0 (va_A [(mo, .inr (5, [.ref a_n, .ref a_d, .ref a_r, .ref a_count, .ref a_newN, .ref a_newD, .ref a_newR, .int m_made, .ref a_out, .int m_outCount, .ref a_root, .ref a_rest, .ref a_square, .ref a_part, .ref a_plus, .ref a_minus, .ref a_low, .ref a_high, .ref a_one, .ref a_two, .int m_lowSign, .int m_highSign, .ref a_otherLow, .ref a_otherHigh, .ref a_digit, .ref a_topA, .ref a_underA, .ref a_topB, .ref a_underB, .ref a_quotient, .ref a_otherQuotient])), (a_n, aJ g 64 c_n), (a_d, aJ g 64 c_d), (a_r, aJ g 64 c_r), (a_count, aI g 8 c_count), (a_newN, aJ g 8 c_newN), (a_newD, aJ g 8 c_newD), (a_newR, aJ g 8 c_newR)] sz) := by
  refine sd_met (Qf := fun A => sd_Qi1 D g res (fun u : (Nat → Int64) × (Nat → Int64) × (Nat → Int64) × (Nat → Int32) => [(mo, .inr (5, [.ref a_n, .ref a_d, .ref a_r, .ref a_count, .ref a_newN, .ref a_newD, .ref a_newR, .int m_made, .ref a_out, .int m_outCount, .ref a_root, .ref a_rest, .ref a_square, .ref a_part, .ref a_plus, .ref a_minus, .ref a_low, .ref a_high, .ref a_one, .ref a_two, .int m_lowSign, .int m_highSign, .ref a_otherLow, .ref a_otherHigh, .ref a_digit, .ref a_topA, .ref a_underA, .ref a_topB, .ref a_underB, .ref a_quotient, .ref a_otherQuotient])), (a_n, aJ g 64 (u.1)), (a_d, aJ g 64 (u.2.1)), (a_r, aJ g 64 (u.2.2.1)), (a_count, aI g 8 (u.2.2.2)), (a_newN, aJ g 8 c_newN), (a_newD, aJ g 8 c_newD), (a_newR, aJ g 8 c_newR)]) A) (own := R_Model) (by decide +kernel) rfl (Nat.le_of_ble_eq_true rfl) ?_
  intro p e s m args below meth c S hr hlk hK A hA Q hQ H locs hP hD hS ls hl
  have hx := S.1
  have hb := S.2.1
  have hml := S.2.2.1
  have hown := S.2.2.2.1
  have htt := sd_tt S
  replace hl : lv_has ls 3 [(0, .ref mo), (1, .int vK)] := hl
  unfold mf_Model_keep at hm
  refine lv_iconst (v := (0 : Int32)) hx hb d_Model_keep_0 (by decide) ?_
  refine lv_istore_n (lv' := [(2, .int (0 : Int32)), (0, .ref mo), (1, .int vK)]) hx hb d_Model_keep_1 rfl hl (by decide) rfl (fun ls hl => ?_)
  have L2 : ∀ (fu : Nat) (x2 : Int32) (uan : Nat → Int64) (uad : Nat → Int64) (uar : Nat → Int64) (ruan : Nat → Int64) (ruad : Nat → Int64) (ruar : Nat → Int64), mf_Model_keep_L2 m_made vK c_newN c_newD c_newR fu x2 uan uad uar = some (ruan, ruad, ruar) → ∀ (H : Heap) (locs : List Loc) (ls : Array Slot), va_P D classes [(mo, .inr (5, [.ref a_n, .ref a_d, .ref a_r, .ref a_count, .ref a_newN, .ref a_newD, .ref a_newR, .int m_made, .ref a_out, .int m_outCount, .ref a_root, .ref a_rest, .ref a_square, .ref a_part, .ref a_plus, .ref a_minus, .ref a_low, .ref a_high, .ref a_one, .ref a_two, .int m_lowSign, .int m_highSign, .ref a_otherLow, .ref a_otherHigh, .ref a_digit, .ref a_topA, .ref a_underA, .ref a_topB, .ref a_underB, .ref a_quotient, .ref a_otherQuotient])), (a_n, aJ g 64 uan), (a_d, aJ g 64 uad), (a_r, aJ g 64 uar), (a_count, aI g 8 c_count), (a_newN, aJ g 8 c_newN), (a_newD, aJ g 8 c_newD), (a_newR, aJ g 8 c_newR)] H → va_D A [(mo, .inr (5, [.ref a_n, .ref a_d, .ref a_r, .ref a_count, .ref a_newN, .ref a_newD, .ref a_newR, .int m_made, .ref a_out, .int m_outCount, .ref a_root, .ref a_rest, .ref a_square, .ref a_part, .ref a_plus, .ref a_minus, .ref a_low, .ref a_high, .ref a_one, .ref a_two, .int m_lowSign, .int m_highSign, .ref a_otherLow, .ref a_otherHigh, .ref a_digit, .ref a_topA, .ref a_underA, .ref a_topB, .ref a_underB, .ref a_quotient, .ref a_otherQuotient])), (a_n, aJ g 64 uan), (a_d, aJ g 64 uad), (a_r, aJ g 64 uar), (a_count, aI g 8 c_count), (a_newN, aJ g 8 c_newN), (a_newD, aJ g 8 c_newD), (a_newR, aJ g 8 c_newR)] → va_S A s.heap H locs → lv_has ls 3 [(0, .ref mo), (1, .int vK), (2, .int x2)] → (∀ (H : Heap) (locs : List Loc) (ls : Array Slot), va_P D classes [(mo, .inr (5, [.ref a_n, .ref a_d, .ref a_r, .ref a_count, .ref a_newN, .ref a_newD, .ref a_newR, .int m_made, .ref a_out, .int m_outCount, .ref a_root, .ref a_rest, .ref a_square, .ref a_part, .ref a_plus, .ref a_minus, .ref a_low, .ref a_high, .ref a_one, .ref a_two, .int m_lowSign, .int m_highSign, .ref a_otherLow, .ref a_otherHigh, .ref a_digit, .ref a_topA, .ref a_underA, .ref a_topB, .ref a_underB, .ref a_quotient, .ref a_otherQuotient])), (a_n, aJ g 64 ruan), (a_d, aJ g 64 ruad), (a_r, aJ g 64 ruar), (a_count, aI g 8 c_count), (a_newN, aJ g 8 c_newN), (a_newD, aJ g 8 c_newD), (a_newR, aJ g 8 c_newR)] H → va_D A [(mo, .inr (5, [.ref a_n, .ref a_d, .ref a_r, .ref a_count, .ref a_newN, .ref a_newD, .ref a_newR, .int m_made, .ref a_out, .int m_outCount, .ref a_root, .ref a_rest, .ref a_square, .ref a_part, .ref a_plus, .ref a_minus, .ref a_low, .ref a_high, .ref a_one, .ref a_two, .int m_lowSign, .int m_highSign, .ref a_otherLow, .ref a_otherHigh, .ref a_digit, .ref a_topA, .ref a_underA, .ref a_topB, .ref a_underB, .ref a_quotient, .ref a_otherQuotient])), (a_n, aJ g 64 ruan), (a_d, aJ g 64 ruad), (a_r, aJ g 64 ruar), (a_count, aI g 8 c_count), (a_newN, aJ g 8 c_newN), (a_newD, aJ g 8 c_newD), (a_newR, aJ g 8 c_newR)] → va_S A s.heap H locs → lv_has ls 3 [(0, .ref mo), (1, .int vK)] → W p l e rm_Model_keep s m args below meth c H locs 0 0 Q (F0 m 67 ls [])) → W p l e rm_Model_keep s m args below meth c H locs 0 0 Q (F0 m 2 ls []) := by
    intro fu
    induction fu with
    | zero => intro x2 uan uad uar ruan ruad ruar hm; exact absurd (show (none : Option ((Nat → Int64) × (Nat → Int64) × (Nat → Int64))) = some (ruan, ruad, ruar) from hm) (fun h => nomatch h)
    | succ fu ih =>
      intro x2 uan uad uar ruan ruad ruar hm H locs ls hP hD hS hl kx67
      rw [mf_Model_keep_L2] at hm
      refine lv_iload_n hx hb d_Model_keep_2 rfl (lv_at hl 2 rfl) ?_
      refine lv_aload_n hx hb d_Model_keep_3 rfl (lv_at hl 0 rfl) ?_
      refine va_get (D := D) (ci := 5) (v := .int m_made) (C := R_Model) (T := F_Model) (N := 31) hx hb htt i_Model hown hK hP 0 rfl rfl 7 (by decide) (htt _ kf_Model_97) (fun _ h9 => h9) rfl d_Model_keep_4 ?_
      refine lv_icmp_ge (tgt := 67) hx hb d_Model_keep_7 (by decide) (fun hc => ?_) (fun hc => ?_)
      · have hm := sd_mt hc hm
        cases hm
        exact kx67 H locs ls (hP.sub [0, 1, 2, 3, 4, 5, 6, 7] rfl) (hD.sub [0, 1, 2, 3, 4, 5, 6, 7] (by decide) rfl) hS (lv_sub hl [0, 1] rfl)
      · have hm := sd_mf hc hm
        refine lv_aload_n hx hb d_Model_keep_10 rfl (lv_at hl 0 rfl) ?_
        refine va_get (D := D) (ci := 5) (v := .ref a_n) (C := R_Model) (T := F_Model) (N := 31) hx hb htt i_Model hown hK hP 0 rfl rfl 0 (by decide) (htt _ kf_Model_9) (fun _ h9 => h9) rfl d_Model_keep_11 ?_
        refine lv_bipush (v := (8 : Int32)) hx hb d_Model_keep_14 (by decide) ?_
        refine lv_iload_n hx hb d_Model_keep_16 rfl (lv_at hl 1 rfl) ?_
        refine lv_imul hx hb d_Model_keep_17 ?_
        refine lv_iload_n hx hb d_Model_keep_18 rfl (lv_at hl 2 rfl) ?_
        refine lv_iadd hx hb d_Model_keep_19 ?_
        refine lv_aload_n hx hb d_Model_keep_20 rfl (lv_at hl 0 rfl) ?_
        refine va_get (D := D) (ci := 5) (v := .ref a_newN) (C := R_Model) (T := F_Model) (N := 31) hx hb htt i_Model hown hK hP 0 rfl rfl 4 (by decide) (htt _ kf_Model_23) (fun _ h9 => h9) rfl d_Model_keep_21 ?_
        refine lv_iload_n hx hb d_Model_keep_24 rfl (lv_at hl 2 rfl) ?_
        obtain ⟨h_1, hm⟩ := sd_mg hm
        refine sd_lald hx hb hK hP 5 rfl h_1 d_Model_keep_25 ?_
        obtain ⟨h_2, hm⟩ := sd_mg hm
        obtain ⟨uan_1, euan_1, hm⟩ := sd_mlet hm
        refine sd_last (f2 := uan_1) (ws2 := [(mo, .inr (5, [.ref a_n, .ref a_d, .ref a_r, .ref a_count, .ref a_newN, .ref a_newD, .ref a_newR, .int m_made, .ref a_out, .int m_outCount, .ref a_root, .ref a_rest, .ref a_square, .ref a_part, .ref a_plus, .ref a_minus, .ref a_low, .ref a_high, .ref a_one, .ref a_two, .int m_lowSign, .int m_highSign, .ref a_otherLow, .ref a_otherHigh, .ref a_digit, .ref a_topA, .ref a_underA, .ref a_topB, .ref a_underB, .ref a_quotient, .ref a_otherQuotient])), (a_n, aJ g 64 uan_1), (a_d, aJ g 64 uad), (a_r, aJ g 64 uar), (a_count, aI g 8 c_count), (a_newN, aJ g 8 c_newN), (a_newD, aJ g 8 c_newD), (a_newR, aJ g 8 c_newR)]) hx hb hK hP hD hS 1 rfl h_2 euan_1 rfl d_Model_keep_26 (fun H locs hP hD hS => ?_)
        refine lv_aload_n hx hb d_Model_keep_27 rfl (lv_at hl 0 rfl) ?_
        refine va_get (D := D) (ci := 5) (v := .ref a_d) (C := R_Model) (T := F_Model) (N := 31) hx hb htt i_Model hown hK hP 0 rfl rfl 1 (by decide) (htt _ kf_Model_13) (fun _ h9 => h9) rfl d_Model_keep_28 ?_
        refine lv_bipush (v := (8 : Int32)) hx hb d_Model_keep_31 (by decide) ?_
        refine lv_iload_n hx hb d_Model_keep_33 rfl (lv_at hl 1 rfl) ?_
        refine lv_imul hx hb d_Model_keep_34 ?_
        refine lv_iload_n hx hb d_Model_keep_35 rfl (lv_at hl 2 rfl) ?_
        refine lv_iadd hx hb d_Model_keep_36 ?_
        refine lv_aload_n hx hb d_Model_keep_37 rfl (lv_at hl 0 rfl) ?_
        refine va_get (D := D) (ci := 5) (v := .ref a_newD) (C := R_Model) (T := F_Model) (N := 31) hx hb htt i_Model hown hK hP 0 rfl rfl 5 (by decide) (htt _ kf_Model_26) (fun _ h9 => h9) rfl d_Model_keep_38 ?_
        refine lv_iload_n hx hb d_Model_keep_41 rfl (lv_at hl 2 rfl) ?_
        obtain ⟨h_3, hm⟩ := sd_mg hm
        refine sd_lald hx hb hK hP 6 rfl h_3 d_Model_keep_42 ?_
        obtain ⟨h_4, hm⟩ := sd_mg hm
        obtain ⟨uad_1, euad_1, hm⟩ := sd_mlet hm
        refine sd_last (f2 := uad_1) (ws2 := [(mo, .inr (5, [.ref a_n, .ref a_d, .ref a_r, .ref a_count, .ref a_newN, .ref a_newD, .ref a_newR, .int m_made, .ref a_out, .int m_outCount, .ref a_root, .ref a_rest, .ref a_square, .ref a_part, .ref a_plus, .ref a_minus, .ref a_low, .ref a_high, .ref a_one, .ref a_two, .int m_lowSign, .int m_highSign, .ref a_otherLow, .ref a_otherHigh, .ref a_digit, .ref a_topA, .ref a_underA, .ref a_topB, .ref a_underB, .ref a_quotient, .ref a_otherQuotient])), (a_n, aJ g 64 uan_1), (a_d, aJ g 64 uad_1), (a_r, aJ g 64 uar), (a_count, aI g 8 c_count), (a_newN, aJ g 8 c_newN), (a_newD, aJ g 8 c_newD), (a_newR, aJ g 8 c_newR)]) hx hb hK hP hD hS 2 rfl h_4 euad_1 rfl d_Model_keep_43 (fun H locs hP hD hS => ?_)
        refine lv_aload_n hx hb d_Model_keep_44 rfl (lv_at hl 0 rfl) ?_
        refine va_get (D := D) (ci := 5) (v := .ref a_r) (C := R_Model) (T := F_Model) (N := 31) hx hb htt i_Model hown hK hP 0 rfl rfl 2 (by decide) (htt _ kf_Model_16) (fun _ h9 => h9) rfl d_Model_keep_45 ?_
        refine lv_bipush (v := (8 : Int32)) hx hb d_Model_keep_48 (by decide) ?_
        refine lv_iload_n hx hb d_Model_keep_50 rfl (lv_at hl 1 rfl) ?_
        refine lv_imul hx hb d_Model_keep_51 ?_
        refine lv_iload_n hx hb d_Model_keep_52 rfl (lv_at hl 2 rfl) ?_
        refine lv_iadd hx hb d_Model_keep_53 ?_
        refine lv_aload_n hx hb d_Model_keep_54 rfl (lv_at hl 0 rfl) ?_
        refine va_get (D := D) (ci := 5) (v := .ref a_newR) (C := R_Model) (T := F_Model) (N := 31) hx hb htt i_Model hown hK hP 0 rfl rfl 6 (by decide) (htt _ kf_Model_29) (fun _ h9 => h9) rfl d_Model_keep_55 ?_
        refine lv_iload_n hx hb d_Model_keep_58 rfl (lv_at hl 2 rfl) ?_
        obtain ⟨h_5, hm⟩ := sd_mg hm
        refine sd_lald hx hb hK hP 7 rfl h_5 d_Model_keep_59 ?_
        obtain ⟨h_6, hm⟩ := sd_mg hm
        obtain ⟨uar_1, euar_1, hm⟩ := sd_mlet hm
        refine sd_last (f2 := uar_1) (ws2 := [(mo, .inr (5, [.ref a_n, .ref a_d, .ref a_r, .ref a_count, .ref a_newN, .ref a_newD, .ref a_newR, .int m_made, .ref a_out, .int m_outCount, .ref a_root, .ref a_rest, .ref a_square, .ref a_part, .ref a_plus, .ref a_minus, .ref a_low, .ref a_high, .ref a_one, .ref a_two, .int m_lowSign, .int m_highSign, .ref a_otherLow, .ref a_otherHigh, .ref a_digit, .ref a_topA, .ref a_underA, .ref a_topB, .ref a_underB, .ref a_quotient, .ref a_otherQuotient])), (a_n, aJ g 64 uan_1), (a_d, aJ g 64 uad_1), (a_r, aJ g 64 uar_1), (a_count, aI g 8 c_count), (a_newN, aJ g 8 c_newN), (a_newD, aJ g 8 c_newD), (a_newR, aJ g 8 c_newR)]) hx hb hK hP hD hS 3 rfl h_6 euar_1 rfl d_Model_keep_60 (fun H locs hP hD hS => ?_)
        obtain ⟨x2_1, ex2_1, hm⟩ := sd_mlet hm
        refine lv_iinc (v := x2_1) (lv' := [(2, .int x2_1), (0, .ref mo), (1, .int vK)]) hx hb d_Model_keep_61 hl (k := 2) rfl (by rw [ex2_1]; rfl) (by decide) rfl (fun ls hl => ?_)
        refine lv_goto (tgt := 2) hx hb d_Model_keep_64 (by decide) ?_
        exact ih x2_1 uan_1 uad_1 uar_1 ruan ruad ruar hm H locs ls (hP.sub [0, 1, 2, 3, 4, 5, 6, 7] rfl) (hD.sub [0, 1, 2, 3, 4, 5, 6, 7] (by decide) rfl) hS (lv_sub hl [1, 2, 0] rfl) kx67
  obtain ⟨ruan, ruad, ruar, hc, hm⟩ := sd_mb3 hm
  refine L2 F (0 : Int32) c_n c_d c_r ruan ruad ruar hc H locs ls (hP.sub [0, 1, 2, 3, 4, 5, 6, 7] rfl) (hD.sub [0, 1, 2, 3, 4, 5, 6, 7] (by decide) rfl) hS (lv_sub hl [1, 2, 0] rfl) ?_
  intro H locs ls hP hD hS hl
  refine lv_aload_n hx hb d_Model_keep_67 rfl (lv_at hl 0 rfl) ?_
  refine va_get (D := D) (ci := 5) (v := .ref a_count) (C := R_Model) (T := F_Model) (N := 31) hx hb htt i_Model hown hK hP 0 rfl rfl 3 (by decide) (htt _ kf_Model_19) (fun _ h9 => h9) rfl d_Model_keep_68 ?_
  refine lv_iload_n hx hb d_Model_keep_71 rfl (lv_at hl 1 rfl) ?_
  refine lv_aload_n hx hb d_Model_keep_72 rfl (lv_at hl 0 rfl) ?_
  refine va_get (D := D) (ci := 5) (v := .int m_made) (C := R_Model) (T := F_Model) (N := 31) hx hb htt i_Model hown hK hP 0 rfl rfl 7 (by decide) (htt _ kf_Model_97) (fun _ h9 => h9) rfl d_Model_keep_73 ?_
  obtain ⟨h_7, hm⟩ := sd_mg hm
  obtain ⟨uacount, euacount, hm⟩ := sd_mlet hm
  refine sd_iast (f2 := uacount) (ws2 := [(mo, .inr (5, [.ref a_n, .ref a_d, .ref a_r, .ref a_count, .ref a_newN, .ref a_newD, .ref a_newR, .int m_made, .ref a_out, .int m_outCount, .ref a_root, .ref a_rest, .ref a_square, .ref a_part, .ref a_plus, .ref a_minus, .ref a_low, .ref a_high, .ref a_one, .ref a_two, .int m_lowSign, .int m_highSign, .ref a_otherLow, .ref a_otherHigh, .ref a_digit, .ref a_topA, .ref a_underA, .ref a_topB, .ref a_underB, .ref a_quotient, .ref a_otherQuotient])), (a_n, aJ g 64 ruan), (a_d, aJ g 64 ruad), (a_r, aJ g 64 ruar), (a_count, aI g 8 uacount), (a_newN, aJ g 8 c_newN), (a_newD, aJ g 8 c_newD), (a_newR, aJ g 8 c_newR)]) hx hb hK hP hD hS 4 rfl h_7 euacount rfl d_Model_keep_76 (fun H locs hP hD hS => ?_)
  refine lv_aload_n hx hb d_Model_keep_77 rfl (lv_at hl 0 rfl) ?_
  refine va_get (D := D) (ci := 5) (v := .int m_made) (C := R_Model) (T := F_Model) (N := 31) hx hb htt i_Model hown hK hP 0 rfl rfl 7 (by decide) (htt _ kf_Model_97) (fun _ h9 => h9) rfl d_Model_keep_78 ?_
  exact sd_i1ret (u := (ruan, ruad, ruar, uacount)) hQ hx hb hr hlk hK (hP.sub [0, 1, 2, 3, 4, 5, 6, 7] rfl) (hD.sub [0, 1, 2, 3, 4, 5, 6, 7] (by decide) rfl) hS (Option.some.inj hm).symm d_Model_keep_81
theorem d_Model_load_0 : decode b_Model_load 0 = .ok (.iload_n 1, 1) := by decide +kernel
theorem d_Model_load_1 : decode b_Model_load 1 = .ok (.invokestatic 109, 3) := by decide +kernel
theorem d_Model_load_4 : decode b_Model_load 4 = .ok (.ifCond .eq 10, 3) := by decide +kernel
theorem d_Model_load_7 : decode b_Model_load 7 = .ok (.lload 4, 2) := by decide +kernel
theorem d_Model_load_9 : decode b_Model_load 9 = .ok (.lconst 0, 1) := by decide +kernel
theorem d_Model_load_10 : decode b_Model_load 10 = .ok (.lcmp, 1) := by decide +kernel
theorem d_Model_load_11 : decode b_Model_load 11 = .ok (.ifCond .ne 5, 3) := by decide +kernel
theorem d_Model_load_14 : decode b_Model_load 14 = .ok (.iconst (-1), 1) := by decide +kernel
theorem d_Model_load_15 : decode b_Model_load 15 = .ok (.ireturn, 1) := by decide +kernel
theorem d_Model_load_16 : decode b_Model_load 16 = .ok (.aload_n 0, 1) := by decide +kernel
theorem d_Model_load_17 : decode b_Model_load 17 = .ok (.iconst 0, 1) := by decide +kernel
theorem d_Model_load_18 : decode b_Model_load 18 = .ok (.putfield 97, 3) := by decide +kernel
theorem d_Model_load_21 : decode b_Model_load 21 = .ok (.lload_n 2, 1) := by decide +kernel
theorem d_Model_load_22 : decode b_Model_load 22 = .ok (.lconst 0, 1) := by decide +kernel
theorem d_Model_load_23 : decode b_Model_load 23 = .ok (.lcmp, 1) := by decide +kernel
theorem d_Model_load_24 : decode b_Model_load 24 = .ok (.ifCond .eq 147, 3) := by decide +kernel
theorem d_Model_load_27 : decode b_Model_load 27 = .ok (.lload_n 2, 1) := by decide +kernel
theorem d_Model_load_28 : decode b_Model_load 28 = .ok (.lconst 0, 1) := by decide +kernel
theorem d_Model_load_29 : decode b_Model_load 29 = .ok (.lcmp, 1) := by decide +kernel
theorem d_Model_load_30 : decode b_Model_load 30 = .ok (.ifCond .ge 7, 3) := by decide +kernel
theorem d_Model_load_33 : decode b_Model_load 33 = .ok (.lload_n 2, 1) := by decide +kernel
theorem d_Model_load_34 : decode b_Model_load 34 = .ok (.goto 5, 3) := by decide +kernel
theorem d_Model_load_37 : decode b_Model_load 37 = .ok (.lload_n 2, 1) := by decide +kernel
theorem d_Model_load_38 : decode b_Model_load 38 = .ok (.lneg, 1) := by decide +kernel
theorem d_Model_load_39 : decode b_Model_load 39 = .ok (.lstore 6, 2) := by decide +kernel
theorem d_Model_load_41 : decode b_Model_load 41 = .ok (.lload 4, 2) := by decide +kernel
theorem d_Model_load_43 : decode b_Model_load 43 = .ok (.lconst 0, 1) := by decide +kernel
theorem d_Model_load_44 : decode b_Model_load 44 = .ok (.lcmp, 1) := by decide +kernel
theorem d_Model_load_45 : decode b_Model_load 45 = .ok (.ifCond .ge 8, 3) := by decide +kernel
theorem d_Model_load_48 : decode b_Model_load 48 = .ok (.lload 4, 2) := by decide +kernel
theorem d_Model_load_50 : decode b_Model_load 50 = .ok (.goto 6, 3) := by decide +kernel
theorem d_Model_load_53 : decode b_Model_load 53 = .ok (.lload 4, 2) := by decide +kernel
theorem d_Model_load_55 : decode b_Model_load 55 = .ok (.lneg, 1) := by decide +kernel
theorem d_Model_load_56 : decode b_Model_load 56 = .ok (.lstore 8, 2) := by decide +kernel
theorem d_Model_load_58 : decode b_Model_load 58 = .ok (.lload 8, 2) := by decide +kernel
theorem d_Model_load_60 : decode b_Model_load 60 = .ok (.lconst 0, 1) := by decide +kernel
theorem d_Model_load_61 : decode b_Model_load 61 = .ok (.lcmp, 1) := by decide +kernel
theorem d_Model_load_62 : decode b_Model_load 62 = .ok (.ifCond .eq 21, 3) := by decide +kernel
theorem d_Model_load_65 : decode b_Model_load 65 = .ok (.lload 6, 2) := by decide +kernel
theorem d_Model_load_67 : decode b_Model_load 67 = .ok (.lload 8, 2) := by decide +kernel
theorem d_Model_load_69 : decode b_Model_load 69 = .ok (.lrem, 1) := by decide +kernel
theorem d_Model_load_70 : decode b_Model_load 70 = .ok (.lstore 10, 2) := by decide +kernel
theorem d_Model_load_72 : decode b_Model_load 72 = .ok (.lload 8, 2) := by decide +kernel
theorem d_Model_load_74 : decode b_Model_load 74 = .ok (.lstore 6, 2) := by decide +kernel
theorem d_Model_load_76 : decode b_Model_load 76 = .ok (.lload 10, 2) := by decide +kernel
theorem d_Model_load_78 : decode b_Model_load 78 = .ok (.lstore 8, 2) := by decide +kernel
theorem d_Model_load_80 : decode b_Model_load 80 = .ok (.goto (-22), 3) := by decide +kernel
theorem d_Model_load_83 : decode b_Model_load 83 = .ok (.lload_n 2, 1) := by decide +kernel
theorem d_Model_load_84 : decode b_Model_load 84 = .ok (.lload 6, 2) := by decide +kernel
theorem d_Model_load_86 : decode b_Model_load 86 = .ok (.ldiv, 1) := by decide +kernel
theorem d_Model_load_87 : decode b_Model_load 87 = .ok (.lstore 10, 2) := by decide +kernel
theorem d_Model_load_89 : decode b_Model_load 89 = .ok (.lload 4, 2) := by decide +kernel
theorem d_Model_load_91 : decode b_Model_load 91 = .ok (.lload 6, 2) := by decide +kernel
theorem d_Model_load_93 : decode b_Model_load 93 = .ok (.ldiv, 1) := by decide +kernel
theorem d_Model_load_94 : decode b_Model_load 94 = .ok (.lstore 12, 2) := by decide +kernel
theorem d_Model_load_96 : decode b_Model_load 96 = .ok (.lload 10, 2) := by decide +kernel
theorem d_Model_load_98 : decode b_Model_load 98 = .ok (.ldc2_w 93, 3) := by decide +kernel
theorem d_Model_load_101 : decode b_Model_load 101 = .ok (.lcmp, 1) := by decide +kernel
theorem d_Model_load_102 : decode b_Model_load 102 = .ok (.ifCond .lt 30, 3) := by decide +kernel
theorem d_Model_load_105 : decode b_Model_load 105 = .ok (.lload 10, 2) := by decide +kernel
theorem d_Model_load_107 : decode b_Model_load 107 = .ok (.ldc2_w 95, 3) := by decide +kernel
theorem d_Model_load_110 : decode b_Model_load 110 = .ok (.lcmp, 1) := by decide +kernel
theorem d_Model_load_111 : decode b_Model_load 111 = .ok (.ifCond .gt 21, 3) := by decide +kernel
theorem d_Model_load_114 : decode b_Model_load 114 = .ok (.lload 12, 2) := by decide +kernel
theorem d_Model_load_116 : decode b_Model_load 116 = .ok (.ldc2_w 93, 3) := by decide +kernel
theorem d_Model_load_119 : decode b_Model_load 119 = .ok (.lcmp, 1) := by decide +kernel
theorem d_Model_load_120 : decode b_Model_load 120 = .ok (.ifCond .lt 12, 3) := by decide +kernel
theorem d_Model_load_123 : decode b_Model_load 123 = .ok (.lload 12, 2) := by decide +kernel
theorem d_Model_load_125 : decode b_Model_load 125 = .ok (.ldc2_w 95, 3) := by decide +kernel
theorem d_Model_load_128 : decode b_Model_load 128 = .ok (.lcmp, 1) := by decide +kernel
theorem d_Model_load_129 : decode b_Model_load 129 = .ok (.ifCond .le 6, 3) := by decide +kernel
theorem d_Model_load_132 : decode b_Model_load 132 = .ok (.bipush (-3), 2) := by decide +kernel
theorem d_Model_load_134 : decode b_Model_load 134 = .ok (.ireturn, 1) := by decide +kernel
theorem d_Model_load_135 : decode b_Model_load 135 = .ok (.aload_n 0, 1) := by decide +kernel
theorem d_Model_load_136 : decode b_Model_load 136 = .ok (.lload 12, 2) := by decide +kernel
theorem d_Model_load_138 : decode b_Model_load 138 = .ok (.lconst 0, 1) := by decide +kernel
theorem d_Model_load_139 : decode b_Model_load 139 = .ok (.lcmp, 1) := by decide +kernel
theorem d_Model_load_140 : decode b_Model_load 140 = .ok (.ifCond .ge 9, 3) := by decide +kernel
theorem d_Model_load_143 : decode b_Model_load 143 = .ok (.lload 10, 2) := by decide +kernel
theorem d_Model_load_145 : decode b_Model_load 145 = .ok (.lneg, 1) := by decide +kernel
theorem d_Model_load_146 : decode b_Model_load 146 = .ok (.goto 5, 3) := by decide +kernel
theorem d_Model_load_149 : decode b_Model_load 149 = .ok (.lload 10, 2) := by decide +kernel
theorem d_Model_load_151 : decode b_Model_load 151 = .ok (.lload 12, 2) := by decide +kernel
theorem d_Model_load_153 : decode b_Model_load 153 = .ok (.lconst 0, 1) := by decide +kernel
theorem d_Model_load_154 : decode b_Model_load 154 = .ok (.lcmp, 1) := by decide +kernel
theorem d_Model_load_155 : decode b_Model_load 155 = .ok (.ifCond .ge 9, 3) := by decide +kernel
theorem d_Model_load_158 : decode b_Model_load 158 = .ok (.lload 12, 2) := by decide +kernel
theorem d_Model_load_160 : decode b_Model_load 160 = .ok (.lneg, 1) := by decide +kernel
theorem d_Model_load_161 : decode b_Model_load 161 = .ok (.goto 5, 3) := by decide +kernel
theorem d_Model_load_164 : decode b_Model_load 164 = .ok (.lload 12, 2) := by decide +kernel
theorem d_Model_load_166 : decode b_Model_load 166 = .ok (.lconst 1, 1) := by decide +kernel
theorem d_Model_load_167 : decode b_Model_load 167 = .ok (.invokevirtual 113, 3) := by decide +kernel
theorem d_Model_load_170 : decode b_Model_load 170 = .ok (.pop, 1) := by decide +kernel
theorem d_Model_load_171 : decode b_Model_load 171 = .ok (.aload_n 0, 1) := by decide +kernel
theorem d_Model_load_172 : decode b_Model_load 172 = .ok (.iload_n 1, 1) := by decide +kernel
theorem d_Model_load_173 : decode b_Model_load 173 = .ok (.invokevirtual 117, 3) := by decide +kernel
theorem d_Model_load_176 : decode b_Model_load 176 = .ok (.pop, 1) := by decide +kernel
theorem d_Model_load_177 : decode b_Model_load 177 = .ok (.iconst 0, 1) := by decide +kernel
theorem d_Model_load_178 : decode b_Model_load 178 = .ok (.ireturn, 1) := by decide +kernel
def mf_Model_load_L58  : Nat → Int64 → Int64 → Option (Int64)
  | 0, _, _ => none
  | fu + 1, x6, x8 => (if x8 = (0 : Int64) then (some (x6)) else (sd_g (sd_zJ x8) (sd_let ((x6 - x6 / x8 * x8)) fun x10 => ((mf_Model_load_L58  fu) x8 x10))))
def mf_Model_load (F : Nat) (vK : Int32) (vA : Int64) (vB : Int64) (m_made : Int32) (m_outCount : Int32) (m_lowSign : Int32) (m_highSign : Int32) (c_n : Nat → Int64) (c_d : Nat → Int64) (c_r : Nat → Int64) (c_count : Nat → Int32) (c_newN : Nat → Int64) (c_newD : Nat → Int64) (c_newR : Nat → Int64) : Option (Int32 × Int32 × (Nat → Int64) × (Nat → Int64) × (Nat → Int64) × (Nat → Int32) × (Nat → Int64) × (Nat → Int64) × (Nat → Int64)) :=
  (sd_b1 (mf_Model_is F vK) fun r => (if r = 0 then (some ((-1 : Int32), m_made, c_n, c_d, c_r, c_count, c_newN, c_newD, c_newR)) else (if vB = (0 : Int64) then (some ((-1 : Int32), m_made, c_n, c_d, c_r, c_count, c_newN, c_newD, c_newR)) else (if vA = (0 : Int64) then (sd_b5 (mf_Model_keep F vK (0 : Int32) m_outCount m_lowSign m_highSign c_n c_d c_r c_count c_newN c_newD c_newR) fun r_1 uan uad uar uacount => (some ((0 : Int32), (0 : Int32), uan, uad, uar, uacount, c_newN, c_newD, c_newR))) else (sd_b1 (if (0 : Int64) ≤ vA then (some ((-vA))) else (some (vA))) fun y => (sd_b1 (if (0 : Int64) ≤ vB then (some ((-vB))) else (some (vB))) fun y_1 => (sd_b1 (mf_Model_load_L58  F y y_1) fun rx6 => (sd_g (sd_zJ rx6) (sd_let ((vA / rx6)) fun x10_1 => (sd_g (sd_zJ rx6) (sd_let ((vB / rx6)) fun x12 => (if x10_1 < (-1000000000 : Int64) then (some ((-3 : Int32), (0 : Int32), c_n, c_d, c_r, c_count, c_newN, c_newD, c_newR)) else (if (1000000000 : Int64) < x10_1 then (some ((-3 : Int32), (0 : Int32), c_n, c_d, c_r, c_count, c_newN, c_newD, c_newR)) else (if x12 < (-1000000000 : Int64) then (some ((-3 : Int32), (0 : Int32), c_n, c_d, c_r, c_count, c_newN, c_newD, c_newR)) else (if x12 ≤ (1000000000 : Int64) then (sd_b1 (if (0 : Int64) ≤ x12 then (some (x10_1)) else (some ((-x10_1)))) fun y_2 => (sd_b1 (if (0 : Int64) ≤ x12 then (some (x12)) else (some ((-x12)))) fun y_3 => (sd_b5 (mf_Model_addTerm F y_2 y_3 (1 : Int64) (0 : Int32) m_outCount m_lowSign m_highSign c_newN c_newD c_newR) fun r_2 umo uanewN uanewD uanewR => (sd_b5 (mf_Model_keep F vK umo m_outCount m_lowSign m_highSign c_n c_d c_r c_count uanewN uanewD uanewR) fun r_3 uan_1 uad_1 uar_1 uacount_1 => (some ((0 : Int32), umo, uan_1, uad_1, uar_1, uacount_1, uanewN, uanewD, uanewR)))))) else (some ((-3 : Int32), (0 : Int32), c_n, c_d, c_r, c_count, c_newN, c_newD, c_newR)))))))))))))))))
abbrev rm_Model_load : Room := { frames := 2, cells := 0, slots := 0, locals := 64 }
set_option maxHeartbeats 4000000 in
set_option maxRecDepth 100000 in
theorem ct_Model_load (l : Launch) (D : va_G) (g : G4) (mo : Nat) (a_n : Nat) (a_d : Nat) (a_r : Nat) (a_count : Nat) (a_newN : Nat) (a_newD : Nat) (a_newR : Nat) (a_out : Nat) (a_root : Nat) (a_rest : Nat) (a_square : Nat) (a_part : Nat) (a_plus : Nat) (a_minus : Nat) (a_low : Nat) (a_high : Nat) (a_one : Nat) (a_two : Nat) (a_otherLow : Nat) (a_otherHigh : Nat) (a_digit : Nat) (a_topA : Nat) (a_underA : Nat) (a_topB : Nat) (a_underB : Nat) (a_quotient : Nat) (a_otherQuotient : Nat) (sz : Nat) (vK : Int32) (vA : Int64) (vB : Int64) (m_made : Int32) (m_outCount : Int32) (m_lowSign : Int32) (m_highSign : Int32) (c_n : Nat → Int64) (c_d : Nat → Int64) (c_r : Nat → Int64) (c_count : Nat → Int32) (c_newN : Nat → Int64) (c_newD : Nat → Int64) (c_newR : Nat → Int64) (F : Nat) (res : Int32 × Int32 × (Nat → Int64) × (Nat → Int64) × (Nat → Int64) × (Nat → Int32) × (Nat → Int64) × (Nat → Int64) × (Nat → Int64)) (hm : mf_Model_load F vK vA vB m_made m_outCount m_lowSign m_highSign c_n c_d c_r c_count c_newN c_newD c_newR = some res) : Met l y_Model_load (.code y_Model_load b_Model_load 14 (some .int) :: sd_tb) rm_Model_load (sd_PW D g [.ref mo, .int vK, .long vA, .long vB] sz [(mo, .inr (5, [.ref a_n, .ref a_d, .ref a_r, .ref a_count, .ref a_newN, .ref a_newD, .ref a_newR, .int m_made, .ref a_out, .int m_outCount, .ref a_root, .ref a_rest, .ref a_square, .ref a_part, .ref a_plus, .ref a_minus, .ref a_low, .ref a_high, .ref a_one, .ref a_two, .int m_lowSign, .int m_highSign, .ref a_otherLow, .ref a_otherHigh, .ref a_digit, .ref a_topA, .ref a_underA, .ref a_topB, .ref a_underB, .ref a_quotient, .ref a_otherQuotient])), (a_n, aJ g 64 c_n), (a_d, aJ g 64 c_d), (a_r, aJ g 64 c_r), (a_count, aI g 8 c_count), (a_newN, aJ g 8 c_newN), (a_newD, aJ g 8 c_newD), (a_newR, aJ g 8 c_newR)]) (sd_Qi1 D g res (fun u : Int32 × (Nat → Int64) × (Nat → Int64) × (Nat → Int64) × (Nat → Int32) × (Nat → Int64) × (Nat → Int64) × (Nat → Int64) => [(mo, .inr (5, [.ref a_n, .ref a_d, .ref a_r, .ref a_count, .ref a_newN, .ref a_newD, .ref a_newR, .int (u.1), .ref a_out, .int m_outCount, .ref a_root, .ref a_rest, .ref a_square, .ref a_part, .ref a_plus, .ref a_minus, .ref a_low, .ref a_high, .ref a_one, .ref a_two, .int m_lowSign, .int m_highSign, .ref a_otherLow, .ref a_otherHigh, .ref a_digit, .ref a_topA, .ref a_underA, .ref a_topB, .ref a_underB, .ref a_quotient, .ref a_otherQuotient])), (a_n, aJ g 64 (u.2.1)), (a_d, aJ g 64 (u.2.2.1)), (a_r, aJ g 64 (u.2.2.2.1)), (a_count, aI g 8 (u.2.2.2.2.1)), (a_newN, aJ g 8 (u.2.2.2.2.2.1)), (a_newD, aJ g 8 (u.2.2.2.2.2.2.1)), (a_newR, aJ g 8 (u.2.2.2.2.2.2.2))]) (va_A [(mo, .inr (5, [.ref a_n, .ref a_d, .ref a_r, .ref a_count, .ref a_newN, .ref a_newD, .ref a_newR, .int m_made, .ref a_out, .int m_outCount, .ref a_root, .ref a_rest, .ref a_square, .ref a_part, .ref a_plus, .ref a_minus, .ref a_low, .ref a_high, .ref a_one, .ref a_two, .int m_lowSign, .int m_highSign, .ref a_otherLow, .ref a_otherHigh, .ref a_digit, .ref a_topA, .ref a_underA, .ref a_topB, .ref a_underB, .ref a_quotient, .ref a_otherQuotient])), (a_n, aJ g 64 c_n), (a_d, aJ g 64 c_d), (a_r, aJ g 64 c_r), (a_count, aI g 8 c_count), (a_newN, aJ g 8 c_newN), (a_newD, aJ g 8 c_newD), (a_newR, aJ g 8 c_newR)] sz)) 0 0 (va_A [(mo, .inr (5, [.ref a_n, .ref a_d, .ref a_r, .ref a_count, .ref a_newN, .ref a_newD, .ref a_newR, .int m_made, .ref a_out, .int m_outCount, .ref a_root, .ref a_rest, .ref a_square, .ref a_part, .ref a_plus, .ref a_minus, .ref a_low, .ref a_high, .ref a_one, .ref a_two, .int m_lowSign, .int m_highSign, .ref a_otherLow, .ref a_otherHigh, .ref a_digit, .ref a_topA, .ref a_underA, .ref a_topB, .ref a_underB, .ref a_quotient, .ref a_otherQuotient])), (a_n, aJ g 64 c_n), (a_d, aJ g 64 c_d), (a_r, aJ g 64 c_r), (a_count, aI g 8 c_count), (a_newN, aJ g 8 c_newN), (a_newD, aJ g 8 c_newD), (a_newR, aJ g 8 c_newR)] sz) := by
  refine sd_met (Qf := fun A => sd_Qi1 D g res (fun u : Int32 × (Nat → Int64) × (Nat → Int64) × (Nat → Int64) × (Nat → Int32) × (Nat → Int64) × (Nat → Int64) × (Nat → Int64) => [(mo, .inr (5, [.ref a_n, .ref a_d, .ref a_r, .ref a_count, .ref a_newN, .ref a_newD, .ref a_newR, .int (u.1), .ref a_out, .int m_outCount, .ref a_root, .ref a_rest, .ref a_square, .ref a_part, .ref a_plus, .ref a_minus, .ref a_low, .ref a_high, .ref a_one, .ref a_two, .int m_lowSign, .int m_highSign, .ref a_otherLow, .ref a_otherHigh, .ref a_digit, .ref a_topA, .ref a_underA, .ref a_topB, .ref a_underB, .ref a_quotient, .ref a_otherQuotient])), (a_n, aJ g 64 (u.2.1)), (a_d, aJ g 64 (u.2.2.1)), (a_r, aJ g 64 (u.2.2.2.1)), (a_count, aI g 8 (u.2.2.2.2.1)), (a_newN, aJ g 8 (u.2.2.2.2.2.1)), (a_newD, aJ g 8 (u.2.2.2.2.2.2.1)), (a_newR, aJ g 8 (u.2.2.2.2.2.2.2))]) A) (own := R_Model) (by decide +kernel) rfl (Nat.le_of_ble_eq_true rfl) ?_
  intro p e s m args below meth c S hr hlk hK A hA Q hQ H locs hP hD hS ls hl
  have hx := S.1
  have hb := S.2.1
  have hml := S.2.2.1
  have hown := S.2.2.2.1
  have htt := sd_tt S
  replace hl : lv_has ls 14 [(0, .ref mo), (1, .int vK), (2, .long vA), (4, .long vB)] := hl
  unfold mf_Model_load at hm
  refine lv_iload_n hx hb d_Model_load_0 rfl (lv_at hl 1 rfl) ?_
  obtain ⟨r, hc, hm⟩ := sd_mb1 hm
  refine sd_ci0 (wr := [(mo, .inr (5, [.ref a_n, .ref a_d, .ref a_r, .ref a_count, .ref a_newN, .ref a_newD, .ref a_newR, .int m_made, .ref a_out, .int m_outCount, .ref a_root, .ref a_rest, .ref a_square, .ref a_part, .ref a_plus, .ref a_minus, .ref a_low, .ref a_high, .ref a_one, .ref a_two, .int m_lowSign, .int m_highSign, .ref a_otherLow, .ref a_otherHigh, .ref a_digit, .ref a_topA, .ref a_underA, .ref a_topB, .ref a_underB, .ref a_quotient, .ref a_otherQuotient])), (a_n, aJ g 64 c_n), (a_d, aJ g 64 c_d), (a_r, aJ g 64 c_r), (a_count, aI g 8 c_count), (a_newN, aJ g 8 c_newN), (a_newD, aJ g 8 c_newD), (a_newR, aJ g 8 c_newR)]) (w2 := [(mo, .inr (5, [.ref a_n, .ref a_d, .ref a_r, .ref a_count, .ref a_newN, .ref a_newD, .ref a_newR, .int m_made, .ref a_out, .int m_outCount, .ref a_root, .ref a_rest, .ref a_square, .ref a_part, .ref a_plus, .ref a_minus, .ref a_low, .ref a_high, .ref a_one, .ref a_two, .int m_lowSign, .int m_highSign, .ref a_otherLow, .ref a_otherHigh, .ref a_digit, .ref a_topA, .ref a_underA, .ref a_topB, .ref a_underB, .ref a_quotient, .ref a_otherQuotient])), (a_n, aJ g 64 c_n), (a_d, aJ g 64 c_d), (a_r, aJ g 64 c_r), (a_count, aI g 8 c_count), (a_newN, aJ g 8 c_newN), (a_newD, aJ g 8 c_newD), (a_newR, aJ g 8 c_newR)]) (sd_runS (rest := []) (As := [.int vK]) S (ct_Model_is l D g (H.size) vK F (r) hc) kl_Model_109 (by decide) (by decide) hK hP hD [] rfl (by decide) rfl hl d_Model_load_1 rfl (Nat.le_of_ble_eq_true rfl) ⟨Nat.zero_le _, Nat.zero_le _⟩) hP hD hS hA [] [0, 1, 2, 3, 4, 5, 6, 7] rfl rfl (by decide) (by decide) rfl (fun H locs hP hD hS => ?_)
  refine W.eq (g2 := F0 m 4 ls [.int r]) rfl ?_
  refine lv_if_eq (tgt := 14) hx hb d_Model_load_4 (by decide) (fun hc => ?_) (fun hc => ?_)
  · have hm := sd_mt hc hm
    refine lv_iconst (v := (-1 : Int32)) hx hb d_Model_load_14 (by decide) ?_
    exact sd_i1ret (u := (m_made, c_n, c_d, c_r, c_count, c_newN, c_newD, c_newR)) hQ hx hb hr hlk hK (hP.sub [0, 1, 2, 3, 4, 5, 6, 7] rfl) (hD.sub [0, 1, 2, 3, 4, 5, 6, 7] (by decide) rfl) hS (Option.some.inj hm).symm d_Model_load_15
  · have hm := sd_mf hc hm
    refine lv_lload hx hb d_Model_load_7 (lv_at hl 3 rfl) ?_
    refine lv_lconst (v := (0 : Int64)) hx hb d_Model_load_9 (by decide) ?_
    refine sd_lne (tgt := 16) hx hb d_Model_load_10 d_Model_load_11 (by decide) (fun hc => ?_) (fun hc => ?_)
    · have hm := sd_mf hc hm
      refine lv_aload_n hx hb d_Model_load_16 rfl (lv_at hl 0 rfl) ?_
      refine lv_iconst (v := (0 : Int32)) hx hb d_Model_load_17 (by decide) ?_
      refine sd_put (ci := 5) (v := .int (0 : Int32)) (ty := .int) (C := R_Model) (T := F_Model) (N := 31) (ws2 := [(mo, .inr (5, [.ref a_n, .ref a_d, .ref a_r, .ref a_count, .ref a_newN, .ref a_newD, .ref a_newR, .int (0 : Int32), .ref a_out, .int m_outCount, .ref a_root, .ref a_rest, .ref a_square, .ref a_part, .ref a_plus, .ref a_minus, .ref a_low, .ref a_high, .ref a_one, .ref a_two, .int m_lowSign, .int m_highSign, .ref a_otherLow, .ref a_otherHigh, .ref a_digit, .ref a_topA, .ref a_underA, .ref a_topB, .ref a_underB, .ref a_quotient, .ref a_otherQuotient])), (a_n, aJ g 64 c_n), (a_d, aJ g 64 c_d), (a_r, aJ g 64 c_r), (a_count, aI g 8 c_count), (a_newN, aJ g 8 c_newN), (a_newD, aJ g 8 c_newD), (a_newR, aJ g 8 c_newR)]) hx hb htt i_Model t_Model t_Model_ok n_Model hown hK hP hD hS 0 rfl rfl 7 (by decide) kf_Model_97 (fun _ h9 => h9) rfl (by decide +kernel) rfl rfl (Nat.le_of_ble_eq_true rfl) rfl d_Model_load_18 (fun H locs hP hD hS => ?_)
      refine lv_lload_n hx hb d_Model_load_21 rfl (lv_at hl 2 rfl) ?_
      refine lv_lconst (v := (0 : Int64)) hx hb d_Model_load_22 (by decide) ?_
      refine sd_leq (tgt := 171) hx hb d_Model_load_23 d_Model_load_24 (by decide) (fun hc => ?_) (fun hc => ?_)
      · have hm := sd_mt hc hm
        refine lv_aload_n hx hb d_Model_load_171 rfl (lv_at hl 0 rfl) ?_
        refine lv_iload_n hx hb d_Model_load_172 rfl (lv_at hl 1 rfl) ?_
        obtain ⟨r_1, uan, uad, uar, uacount, hc, hm⟩ := sd_mb5 hm
        refine sd_ci1 (wr := []) (w2 := [(mo, .inr (5, [.ref a_n, .ref a_d, .ref a_r, .ref a_count, .ref a_newN, .ref a_newD, .ref a_newR, .int (0 : Int32), .ref a_out, .int m_outCount, .ref a_root, .ref a_rest, .ref a_square, .ref a_part, .ref a_plus, .ref a_minus, .ref a_low, .ref a_high, .ref a_one, .ref a_two, .int m_lowSign, .int m_highSign, .ref a_otherLow, .ref a_otherHigh, .ref a_digit, .ref a_topA, .ref a_underA, .ref a_topB, .ref a_underB, .ref a_quotient, .ref a_otherQuotient])), (a_n, aJ g 64 uan), (a_d, aJ g 64 uad), (a_r, aJ g 64 uar), (a_count, aI g 8 uacount), (a_newN, aJ g 8 c_newN), (a_newD, aJ g 8 c_newD), (a_newR, aJ g 8 c_newR)]) (sd_runV (rest := []) (As := [.int vK]) S (ct_Model_keep l D g mo a_n a_d a_r a_count a_newN a_newD a_newR a_out a_root a_rest a_square a_part a_plus a_minus a_low a_high a_one a_two a_otherLow a_otherHigh a_digit a_topA a_underA a_topB a_underB a_quotient a_otherQuotient (H.size) vK (0 : Int32) m_outCount m_lowSign m_highSign c_n c_d c_r c_count c_newN c_newD c_newR F (r_1, uan, uad, uar, uacount) hc) kl_Model_117 (by decide) (by decide) hK hP hD [0, 1, 2, 3, 4, 5, 6, 7] rfl (by decide) rfl hl d_Model_load_173 rfl (Nat.le_of_ble_eq_true rfl) ⟨Nat.zero_le _, Nat.zero_le _⟩ 0 rfl rfl) hP hD hS hA [0, 1, 2, 3, 4, 5, 6, 7] [] rfl rfl (by decide) (by decide) rfl (fun H locs hP hD hS => ?_)
        refine W.eq (g2 := F0 m 176 ls [.int r_1]) rfl ?_
        refine lv_pop hx hb d_Model_load_176 rfl ?_
        refine lv_iconst (v := (0 : Int32)) hx hb d_Model_load_177 (by decide) ?_
        exact sd_i1ret (u := ((0 : Int32), uan, uad, uar, uacount, c_newN, c_newD, c_newR)) hQ hx hb hr hlk hK (hP.sub [0, 1, 2, 3, 4, 5, 6, 7] rfl) (hD.sub [0, 1, 2, 3, 4, 5, 6, 7] (by decide) rfl) hS (Option.some.inj hm).symm d_Model_load_178
      · have hm := sd_mf hc hm
        refine lv_lload_n hx hb d_Model_load_27 rfl (lv_at hl 2 rfl) ?_
        refine lv_lconst (v := (0 : Int64)) hx hb d_Model_load_28 (by decide) ?_
        obtain ⟨y, hv, hm⟩ := sd_mb1 hm
        have J39_1 : ∀ (H : Heap) (locs : List Loc) (ls : Array Slot), va_P D classes [(mo, .inr (5, [.ref a_n, .ref a_d, .ref a_r, .ref a_count, .ref a_newN, .ref a_newD, .ref a_newR, .int (0 : Int32), .ref a_out, .int m_outCount, .ref a_root, .ref a_rest, .ref a_square, .ref a_part, .ref a_plus, .ref a_minus, .ref a_low, .ref a_high, .ref a_one, .ref a_two, .int m_lowSign, .int m_highSign, .ref a_otherLow, .ref a_otherHigh, .ref a_digit, .ref a_topA, .ref a_underA, .ref a_topB, .ref a_underB, .ref a_quotient, .ref a_otherQuotient])), (a_n, aJ g 64 c_n), (a_d, aJ g 64 c_d), (a_r, aJ g 64 c_r), (a_count, aI g 8 c_count), (a_newN, aJ g 8 c_newN), (a_newD, aJ g 8 c_newD), (a_newR, aJ g 8 c_newR)] H → va_D A [(mo, .inr (5, [.ref a_n, .ref a_d, .ref a_r, .ref a_count, .ref a_newN, .ref a_newD, .ref a_newR, .int (0 : Int32), .ref a_out, .int m_outCount, .ref a_root, .ref a_rest, .ref a_square, .ref a_part, .ref a_plus, .ref a_minus, .ref a_low, .ref a_high, .ref a_one, .ref a_two, .int m_lowSign, .int m_highSign, .ref a_otherLow, .ref a_otherHigh, .ref a_digit, .ref a_topA, .ref a_underA, .ref a_topB, .ref a_underB, .ref a_quotient, .ref a_otherQuotient])), (a_n, aJ g 64 c_n), (a_d, aJ g 64 c_d), (a_r, aJ g 64 c_r), (a_count, aI g 8 c_count), (a_newN, aJ g 8 c_newN), (a_newD, aJ g 8 c_newD), (a_newR, aJ g 8 c_newR)] → va_S A s.heap H locs → lv_has ls 14 [(0, .ref mo), (1, .int vK), (2, .long vA), (4, .long vB)] → W p l e rm_Model_load s m args below meth c H locs 0 0 Q (F0 m 39 ls [.long y]) := by
          intro H locs ls hP hD hS hl
          refine lv_lstore (lv' := [(6, .long y), (0, .ref mo), (1, .int vK), (2, .long vA), (4, .long vB)]) hx hb d_Model_load_39 hl (by decide) rfl (fun ls hl => ?_)
          refine lv_lload hx hb d_Model_load_41 (lv_at hl 4 rfl) ?_
          refine lv_lconst (v := (0 : Int64)) hx hb d_Model_load_43 (by decide) ?_
          obtain ⟨y_1, hv, hm⟩ := sd_mb1 hm
          have J56_2 : ∀ (H : Heap) (locs : List Loc) (ls : Array Slot), va_P D classes [(mo, .inr (5, [.ref a_n, .ref a_d, .ref a_r, .ref a_count, .ref a_newN, .ref a_newD, .ref a_newR, .int (0 : Int32), .ref a_out, .int m_outCount, .ref a_root, .ref a_rest, .ref a_square, .ref a_part, .ref a_plus, .ref a_minus, .ref a_low, .ref a_high, .ref a_one, .ref a_two, .int m_lowSign, .int m_highSign, .ref a_otherLow, .ref a_otherHigh, .ref a_digit, .ref a_topA, .ref a_underA, .ref a_topB, .ref a_underB, .ref a_quotient, .ref a_otherQuotient])), (a_n, aJ g 64 c_n), (a_d, aJ g 64 c_d), (a_r, aJ g 64 c_r), (a_count, aI g 8 c_count), (a_newN, aJ g 8 c_newN), (a_newD, aJ g 8 c_newD), (a_newR, aJ g 8 c_newR)] H → va_D A [(mo, .inr (5, [.ref a_n, .ref a_d, .ref a_r, .ref a_count, .ref a_newN, .ref a_newD, .ref a_newR, .int (0 : Int32), .ref a_out, .int m_outCount, .ref a_root, .ref a_rest, .ref a_square, .ref a_part, .ref a_plus, .ref a_minus, .ref a_low, .ref a_high, .ref a_one, .ref a_two, .int m_lowSign, .int m_highSign, .ref a_otherLow, .ref a_otherHigh, .ref a_digit, .ref a_topA, .ref a_underA, .ref a_topB, .ref a_underB, .ref a_quotient, .ref a_otherQuotient])), (a_n, aJ g 64 c_n), (a_d, aJ g 64 c_d), (a_r, aJ g 64 c_r), (a_count, aI g 8 c_count), (a_newN, aJ g 8 c_newN), (a_newD, aJ g 8 c_newD), (a_newR, aJ g 8 c_newR)] → va_S A s.heap H locs → lv_has ls 14 [(0, .ref mo), (1, .int vK), (2, .long vA), (4, .long vB), (6, .long y)] → W p l e rm_Model_load s m args below meth c H locs 0 0 Q (F0 m 56 ls [.long y_1]) := by
            intro H locs ls hP hD hS hl
            refine lv_lstore (lv' := [(8, .long y_1), (0, .ref mo), (1, .int vK), (2, .long vA), (4, .long vB), (6, .long y)]) hx hb d_Model_load_56 hl (by decide) rfl (fun ls hl => ?_)
            have L58 : ∀ (fu : Nat) (x6 : Int64) (x8 : Int64) (rx6 : Int64), mf_Model_load_L58  fu x6 x8 = some (rx6) → ∀ (H : Heap) (locs : List Loc) (ls : Array Slot), va_P D classes [(mo, .inr (5, [.ref a_n, .ref a_d, .ref a_r, .ref a_count, .ref a_newN, .ref a_newD, .ref a_newR, .int (0 : Int32), .ref a_out, .int m_outCount, .ref a_root, .ref a_rest, .ref a_square, .ref a_part, .ref a_plus, .ref a_minus, .ref a_low, .ref a_high, .ref a_one, .ref a_two, .int m_lowSign, .int m_highSign, .ref a_otherLow, .ref a_otherHigh, .ref a_digit, .ref a_topA, .ref a_underA, .ref a_topB, .ref a_underB, .ref a_quotient, .ref a_otherQuotient])), (a_n, aJ g 64 c_n), (a_d, aJ g 64 c_d), (a_r, aJ g 64 c_r), (a_count, aI g 8 c_count), (a_newN, aJ g 8 c_newN), (a_newD, aJ g 8 c_newD), (a_newR, aJ g 8 c_newR)] H → va_D A [(mo, .inr (5, [.ref a_n, .ref a_d, .ref a_r, .ref a_count, .ref a_newN, .ref a_newD, .ref a_newR, .int (0 : Int32), .ref a_out, .int m_outCount, .ref a_root, .ref a_rest, .ref a_square, .ref a_part, .ref a_plus, .ref a_minus, .ref a_low, .ref a_high, .ref a_one, .ref a_two, .int m_lowSign, .int m_highSign, .ref a_otherLow, .ref a_otherHigh, .ref a_digit, .ref a_topA, .ref a_underA, .ref a_topB, .ref a_underB, .ref a_quotient, .ref a_otherQuotient])), (a_n, aJ g 64 c_n), (a_d, aJ g 64 c_d), (a_r, aJ g 64 c_r), (a_count, aI g 8 c_count), (a_newN, aJ g 8 c_newN), (a_newD, aJ g 8 c_newD), (a_newR, aJ g 8 c_newR)] → va_S A s.heap H locs → lv_has ls 14 [(0, .ref mo), (1, .int vK), (2, .long vA), (4, .long vB), (6, .long x6), (8, .long x8)] → (∀ (H : Heap) (locs : List Loc) (ls : Array Slot), va_P D classes [(mo, .inr (5, [.ref a_n, .ref a_d, .ref a_r, .ref a_count, .ref a_newN, .ref a_newD, .ref a_newR, .int (0 : Int32), .ref a_out, .int m_outCount, .ref a_root, .ref a_rest, .ref a_square, .ref a_part, .ref a_plus, .ref a_minus, .ref a_low, .ref a_high, .ref a_one, .ref a_two, .int m_lowSign, .int m_highSign, .ref a_otherLow, .ref a_otherHigh, .ref a_digit, .ref a_topA, .ref a_underA, .ref a_topB, .ref a_underB, .ref a_quotient, .ref a_otherQuotient])), (a_n, aJ g 64 c_n), (a_d, aJ g 64 c_d), (a_r, aJ g 64 c_r), (a_count, aI g 8 c_count), (a_newN, aJ g 8 c_newN), (a_newD, aJ g 8 c_newD), (a_newR, aJ g 8 c_newR)] H → va_D A [(mo, .inr (5, [.ref a_n, .ref a_d, .ref a_r, .ref a_count, .ref a_newN, .ref a_newD, .ref a_newR, .int (0 : Int32), .ref a_out, .int m_outCount, .ref a_root, .ref a_rest, .ref a_square, .ref a_part, .ref a_plus, .ref a_minus, .ref a_low, .ref a_high, .ref a_one, .ref a_two, .int m_lowSign, .int m_highSign, .ref a_otherLow, .ref a_otherHigh, .ref a_digit, .ref a_topA, .ref a_underA, .ref a_topB, .ref a_underB, .ref a_quotient, .ref a_otherQuotient])), (a_n, aJ g 64 c_n), (a_d, aJ g 64 c_d), (a_r, aJ g 64 c_r), (a_count, aI g 8 c_count), (a_newN, aJ g 8 c_newN), (a_newD, aJ g 8 c_newD), (a_newR, aJ g 8 c_newR)] → va_S A s.heap H locs → lv_has ls 14 [(0, .ref mo), (1, .int vK), (2, .long vA), (4, .long vB), (6, .long rx6)] → W p l e rm_Model_load s m args below meth c H locs 0 0 Q (F0 m 83 ls [])) → W p l e rm_Model_load s m args below meth c H locs 0 0 Q (F0 m 58 ls []) := by
              intro fu
              induction fu with
              | zero => intro x6 x8 rx6 hm; exact absurd (show (none : Option (Int64)) = some (rx6) from hm) (fun h => nomatch h)
              | succ fu ih =>
                intro x6 x8 rx6 hm H locs ls hP hD hS hl kx83
                rw [mf_Model_load_L58] at hm
                refine lv_lload hx hb d_Model_load_58 (lv_at hl 5 rfl) ?_
                refine lv_lconst (v := (0 : Int64)) hx hb d_Model_load_60 (by decide) ?_
                refine sd_leq (tgt := 83) hx hb d_Model_load_61 d_Model_load_62 (by decide) (fun hc => ?_) (fun hc => ?_)
                · have hm := sd_mt hc hm
                  cases hm
                  exact kx83 H locs ls (hP.sub [0, 1, 2, 3, 4, 5, 6, 7] rfl) (hD.sub [0, 1, 2, 3, 4, 5, 6, 7] (by decide) rfl) hS (lv_sub hl [0, 1, 2, 3, 4] rfl)
                · have hm := sd_mf hc hm
                  refine lv_lload hx hb d_Model_load_65 (lv_at hl 4 rfl) ?_
                  refine lv_lload hx hb d_Model_load_67 (lv_at hl 5 rfl) ?_
                  obtain ⟨h_3, hm⟩ := sd_mg hm
                  refine lv_lrem hx hb d_Model_load_69 (sd_nzJ h_3) ?_
                  obtain ⟨x10, ex10, hm⟩ := sd_mlet hm
                  refine sd_topj ex10 ?_
                  refine lv_lstore (lv' := [(10, .long x10), (0, .ref mo), (1, .int vK), (2, .long vA), (4, .long vB), (6, .long x6), (8, .long x8)]) hx hb d_Model_load_70 hl (by decide) rfl (fun ls hl => ?_)
                  refine lv_lload hx hb d_Model_load_72 (lv_at hl 6 rfl) ?_
                  refine lv_lstore (lv' := [(6, .long x8), (10, .long x10), (0, .ref mo), (1, .int vK), (2, .long vA), (4, .long vB), (8, .long x8)]) hx hb d_Model_load_74 hl (by decide) rfl (fun ls hl => ?_)
                  refine lv_lload hx hb d_Model_load_76 (lv_at hl 1 rfl) ?_
                  refine lv_lstore (lv' := [(8, .long x10), (6, .long x8), (10, .long x10), (0, .ref mo), (1, .int vK), (2, .long vA), (4, .long vB)]) hx hb d_Model_load_78 hl (by decide) rfl (fun ls hl => ?_)
                  refine lv_goto (tgt := 58) hx hb d_Model_load_80 (by decide) ?_
                  exact ih x8 x10 rx6 hm H locs ls (hP.sub [0, 1, 2, 3, 4, 5, 6, 7] rfl) (hD.sub [0, 1, 2, 3, 4, 5, 6, 7] (by decide) rfl) hS (lv_sub hl [3, 4, 5, 6, 1, 0] rfl) kx83
            obtain ⟨rx6, hc, hm⟩ := sd_mb1 hm
            refine L58 F y y_1 rx6 hc H locs ls (hP.sub [0, 1, 2, 3, 4, 5, 6, 7] rfl) (hD.sub [0, 1, 2, 3, 4, 5, 6, 7] (by decide) rfl) hS (lv_sub hl [1, 2, 3, 4, 5, 0] rfl) ?_
            intro H locs ls hP hD hS hl
            refine lv_lload_n hx hb d_Model_load_83 rfl (lv_at hl 2 rfl) ?_
            refine lv_lload hx hb d_Model_load_84 (lv_at hl 4 rfl) ?_
            obtain ⟨h_4, hm⟩ := sd_mg hm
            refine lv_ldiv hx hb d_Model_load_86 (sd_nzJ h_4) ?_
            obtain ⟨x10_1, ex10_1, hm⟩ := sd_mlet hm
            refine sd_topj ex10_1 ?_
            refine lv_lstore (lv' := [(10, .long x10_1), (0, .ref mo), (1, .int vK), (2, .long vA), (4, .long vB), (6, .long rx6)]) hx hb d_Model_load_87 hl (by decide) rfl (fun ls hl => ?_)
            refine lv_lload hx hb d_Model_load_89 (lv_at hl 4 rfl) ?_
            refine lv_lload hx hb d_Model_load_91 (lv_at hl 5 rfl) ?_
            obtain ⟨h_5, hm⟩ := sd_mg hm
            refine lv_ldiv hx hb d_Model_load_93 (sd_nzJ h_5) ?_
            obtain ⟨x12, ex12, hm⟩ := sd_mlet hm
            refine sd_topj ex12 ?_
            refine lv_lstore (lv' := [(12, .long x12), (10, .long x10_1), (0, .ref mo), (1, .int vK), (2, .long vA), (4, .long vB), (6, .long rx6)]) hx hb d_Model_load_94 hl (by decide) rfl (fun ls hl => ?_)
            refine lv_lload hx hb d_Model_load_96 (lv_at hl 1 rfl) ?_
            refine sd_ldc2 (v := (-1000000000 : Int64)) hx hb hown (htt _ km_Model_93) d_Model_load_98 ?_
            refine sd_llt (tgt := 132) hx hb d_Model_load_101 d_Model_load_102 (by decide) (fun hc => ?_) (fun hc => ?_)
            · have hm := sd_mt hc hm
              refine lv_bipush (v := (-3 : Int32)) hx hb d_Model_load_132 (by decide) ?_
              exact sd_i1ret (u := ((0 : Int32), c_n, c_d, c_r, c_count, c_newN, c_newD, c_newR)) hQ hx hb hr hlk hK (hP.sub [0, 1, 2, 3, 4, 5, 6, 7] rfl) (hD.sub [0, 1, 2, 3, 4, 5, 6, 7] (by decide) rfl) hS (Option.some.inj hm).symm d_Model_load_134
            · have hm := sd_mf hc hm
              refine lv_lload hx hb d_Model_load_105 (lv_at hl 1 rfl) ?_
              refine sd_ldc2 (v := (1000000000 : Int64)) hx hb hown (htt _ km_Model_95) d_Model_load_107 ?_
              refine sd_lgt (tgt := 132) hx hb d_Model_load_110 d_Model_load_111 (by decide) (fun hc => ?_) (fun hc => ?_)
              · have hm := sd_mt hc hm
                refine lv_bipush (v := (-3 : Int32)) hx hb d_Model_load_132 (by decide) ?_
                exact sd_i1ret (u := ((0 : Int32), c_n, c_d, c_r, c_count, c_newN, c_newD, c_newR)) hQ hx hb hr hlk hK (hP.sub [0, 1, 2, 3, 4, 5, 6, 7] rfl) (hD.sub [0, 1, 2, 3, 4, 5, 6, 7] (by decide) rfl) hS (Option.some.inj hm).symm d_Model_load_134
              · have hm := sd_mf hc hm
                refine lv_lload hx hb d_Model_load_114 (lv_at hl 0 rfl) ?_
                refine sd_ldc2 (v := (-1000000000 : Int64)) hx hb hown (htt _ km_Model_93) d_Model_load_116 ?_
                refine sd_llt (tgt := 132) hx hb d_Model_load_119 d_Model_load_120 (by decide) (fun hc => ?_) (fun hc => ?_)
                · have hm := sd_mt hc hm
                  refine lv_bipush (v := (-3 : Int32)) hx hb d_Model_load_132 (by decide) ?_
                  exact sd_i1ret (u := ((0 : Int32), c_n, c_d, c_r, c_count, c_newN, c_newD, c_newR)) hQ hx hb hr hlk hK (hP.sub [0, 1, 2, 3, 4, 5, 6, 7] rfl) (hD.sub [0, 1, 2, 3, 4, 5, 6, 7] (by decide) rfl) hS (Option.some.inj hm).symm d_Model_load_134
                · have hm := sd_mf hc hm
                  refine lv_lload hx hb d_Model_load_123 (lv_at hl 0 rfl) ?_
                  refine sd_ldc2 (v := (1000000000 : Int64)) hx hb hown (htt _ km_Model_95) d_Model_load_125 ?_
                  refine sd_lle (tgt := 135) hx hb d_Model_load_128 d_Model_load_129 (by decide) (fun hc => ?_) (fun hc => ?_)
                  · have hm := sd_mt hc hm
                    refine lv_aload_n hx hb d_Model_load_135 rfl (lv_at hl 2 rfl) ?_
                    refine lv_lload hx hb d_Model_load_136 (lv_at hl 0 rfl) ?_
                    refine lv_lconst (v := (0 : Int64)) hx hb d_Model_load_138 (by decide) ?_
                    obtain ⟨y_2, hv, hm⟩ := sd_mb1 hm
                    have J151_6 : ∀ (H : Heap) (locs : List Loc) (ls : Array Slot), va_P D classes [(mo, .inr (5, [.ref a_n, .ref a_d, .ref a_r, .ref a_count, .ref a_newN, .ref a_newD, .ref a_newR, .int (0 : Int32), .ref a_out, .int m_outCount, .ref a_root, .ref a_rest, .ref a_square, .ref a_part, .ref a_plus, .ref a_minus, .ref a_low, .ref a_high, .ref a_one, .ref a_two, .int m_lowSign, .int m_highSign, .ref a_otherLow, .ref a_otherHigh, .ref a_digit, .ref a_topA, .ref a_underA, .ref a_topB, .ref a_underB, .ref a_quotient, .ref a_otherQuotient])), (a_n, aJ g 64 c_n), (a_d, aJ g 64 c_d), (a_r, aJ g 64 c_r), (a_count, aI g 8 c_count), (a_newN, aJ g 8 c_newN), (a_newD, aJ g 8 c_newD), (a_newR, aJ g 8 c_newR)] H → va_D A [(mo, .inr (5, [.ref a_n, .ref a_d, .ref a_r, .ref a_count, .ref a_newN, .ref a_newD, .ref a_newR, .int (0 : Int32), .ref a_out, .int m_outCount, .ref a_root, .ref a_rest, .ref a_square, .ref a_part, .ref a_plus, .ref a_minus, .ref a_low, .ref a_high, .ref a_one, .ref a_two, .int m_lowSign, .int m_highSign, .ref a_otherLow, .ref a_otherHigh, .ref a_digit, .ref a_topA, .ref a_underA, .ref a_topB, .ref a_underB, .ref a_quotient, .ref a_otherQuotient])), (a_n, aJ g 64 c_n), (a_d, aJ g 64 c_d), (a_r, aJ g 64 c_r), (a_count, aI g 8 c_count), (a_newN, aJ g 8 c_newN), (a_newD, aJ g 8 c_newD), (a_newR, aJ g 8 c_newR)] → va_S A s.heap H locs → lv_has ls 14 [(0, .ref mo), (1, .int vK), (12, .long x12)] → W p l e rm_Model_load s m args below meth c H locs 0 0 Q (F0 m 151 ls [.long y_2, .ref mo]) := by
                      intro H locs ls hP hD hS hl
                      refine lv_lload hx hb d_Model_load_151 (lv_at hl 2 rfl) ?_
                      refine lv_lconst (v := (0 : Int64)) hx hb d_Model_load_153 (by decide) ?_
                      obtain ⟨y_3, hv, hm⟩ := sd_mb1 hm
                      have J166_7 : ∀ (H : Heap) (locs : List Loc) (ls : Array Slot), va_P D classes [(mo, .inr (5, [.ref a_n, .ref a_d, .ref a_r, .ref a_count, .ref a_newN, .ref a_newD, .ref a_newR, .int (0 : Int32), .ref a_out, .int m_outCount, .ref a_root, .ref a_rest, .ref a_square, .ref a_part, .ref a_plus, .ref a_minus, .ref a_low, .ref a_high, .ref a_one, .ref a_two, .int m_lowSign, .int m_highSign, .ref a_otherLow, .ref a_otherHigh, .ref a_digit, .ref a_topA, .ref a_underA, .ref a_topB, .ref a_underB, .ref a_quotient, .ref a_otherQuotient])), (a_n, aJ g 64 c_n), (a_d, aJ g 64 c_d), (a_r, aJ g 64 c_r), (a_count, aI g 8 c_count), (a_newN, aJ g 8 c_newN), (a_newD, aJ g 8 c_newD), (a_newR, aJ g 8 c_newR)] H → va_D A [(mo, .inr (5, [.ref a_n, .ref a_d, .ref a_r, .ref a_count, .ref a_newN, .ref a_newD, .ref a_newR, .int (0 : Int32), .ref a_out, .int m_outCount, .ref a_root, .ref a_rest, .ref a_square, .ref a_part, .ref a_plus, .ref a_minus, .ref a_low, .ref a_high, .ref a_one, .ref a_two, .int m_lowSign, .int m_highSign, .ref a_otherLow, .ref a_otherHigh, .ref a_digit, .ref a_topA, .ref a_underA, .ref a_topB, .ref a_underB, .ref a_quotient, .ref a_otherQuotient])), (a_n, aJ g 64 c_n), (a_d, aJ g 64 c_d), (a_r, aJ g 64 c_r), (a_count, aI g 8 c_count), (a_newN, aJ g 8 c_newN), (a_newD, aJ g 8 c_newD), (a_newR, aJ g 8 c_newR)] → va_S A s.heap H locs → lv_has ls 14 [(0, .ref mo), (1, .int vK)] → W p l e rm_Model_load s m args below meth c H locs 0 0 Q (F0 m 166 ls [.long y_3, .long y_2, .ref mo]) := by
                        intro H locs ls hP hD hS hl
                        refine lv_lconst (v := (1 : Int64)) hx hb d_Model_load_166 (by decide) ?_
                        obtain ⟨r_2, umo, uanewN, uanewD, uanewR, hc, hm⟩ := sd_mb5 hm
                        refine sd_ci1 (wr := [(a_n, aJ g 64 c_n), (a_d, aJ g 64 c_d), (a_r, aJ g 64 c_r), (a_count, aI g 8 c_count)]) (w2 := [(a_n, aJ g 64 c_n), (a_d, aJ g 64 c_d), (a_r, aJ g 64 c_r), (a_count, aI g 8 c_count), (mo, .inr (5, [.ref a_n, .ref a_d, .ref a_r, .ref a_count, .ref a_newN, .ref a_newD, .ref a_newR, .int umo, .ref a_out, .int m_outCount, .ref a_root, .ref a_rest, .ref a_square, .ref a_part, .ref a_plus, .ref a_minus, .ref a_low, .ref a_high, .ref a_one, .ref a_two, .int m_lowSign, .int m_highSign, .ref a_otherLow, .ref a_otherHigh, .ref a_digit, .ref a_topA, .ref a_underA, .ref a_topB, .ref a_underB, .ref a_quotient, .ref a_otherQuotient])), (a_newN, aJ g 8 uanewN), (a_newD, aJ g 8 uanewD), (a_newR, aJ g 8 uanewR)]) (sd_runV (rest := []) (As := [.long y_2, .long y_3, .long (1 : Int64)]) S (ct_Model_addTerm l D g mo a_n a_d a_r a_count a_newN a_newD a_newR a_out a_root a_rest a_square a_part a_plus a_minus a_low a_high a_one a_two a_otherLow a_otherHigh a_digit a_topA a_underA a_topB a_underB a_quotient a_otherQuotient (H.size) y_2 y_3 (1 : Int64) (0 : Int32) m_outCount m_lowSign m_highSign c_newN c_newD c_newR F (r_2, umo, uanewN, uanewD, uanewR) hc) kl_Model_113 (by decide) (by decide) hK hP hD [0, 5, 6, 7] rfl (by decide) rfl hl d_Model_load_167 rfl (Nat.le_of_ble_eq_true rfl) ⟨Nat.zero_le _, Nat.zero_le _⟩ 0 rfl rfl) hP hD hS hA [0, 5, 6, 7] [1, 2, 3, 4] rfl rfl (by decide) (by decide) rfl (fun H locs hP hD hS => ?_)
                        refine W.eq (g2 := F0 m 170 ls [.int r_2]) rfl ?_
                        refine lv_pop hx hb d_Model_load_170 rfl ?_
                        refine lv_aload_n hx hb d_Model_load_171 rfl (lv_at hl 0 rfl) ?_
                        refine lv_iload_n hx hb d_Model_load_172 rfl (lv_at hl 1 rfl) ?_
                        obtain ⟨r_3, uan_1, uad_1, uar_1, uacount_1, hc, hm⟩ := sd_mb5 hm
                        refine sd_ci1 (wr := []) (w2 := [(mo, .inr (5, [.ref a_n, .ref a_d, .ref a_r, .ref a_count, .ref a_newN, .ref a_newD, .ref a_newR, .int umo, .ref a_out, .int m_outCount, .ref a_root, .ref a_rest, .ref a_square, .ref a_part, .ref a_plus, .ref a_minus, .ref a_low, .ref a_high, .ref a_one, .ref a_two, .int m_lowSign, .int m_highSign, .ref a_otherLow, .ref a_otherHigh, .ref a_digit, .ref a_topA, .ref a_underA, .ref a_topB, .ref a_underB, .ref a_quotient, .ref a_otherQuotient])), (a_n, aJ g 64 uan_1), (a_d, aJ g 64 uad_1), (a_r, aJ g 64 uar_1), (a_count, aI g 8 uacount_1), (a_newN, aJ g 8 uanewN), (a_newD, aJ g 8 uanewD), (a_newR, aJ g 8 uanewR)]) (sd_runV (rest := []) (As := [.int vK]) S (ct_Model_keep l D g mo a_n a_d a_r a_count a_newN a_newD a_newR a_out a_root a_rest a_square a_part a_plus a_minus a_low a_high a_one a_two a_otherLow a_otherHigh a_digit a_topA a_underA a_topB a_underB a_quotient a_otherQuotient (H.size) vK umo m_outCount m_lowSign m_highSign c_n c_d c_r c_count uanewN uanewD uanewR F (r_3, uan_1, uad_1, uar_1, uacount_1) hc) kl_Model_117 (by decide) (by decide) hK hP hD [4, 0, 1, 2, 3, 5, 6, 7] rfl (by decide) rfl hl d_Model_load_173 rfl (Nat.le_of_ble_eq_true rfl) ⟨Nat.zero_le _, Nat.zero_le _⟩ 4 rfl rfl) hP hD hS hA [4, 0, 1, 2, 3, 5, 6, 7] [] rfl rfl (by decide) (by decide) rfl (fun H locs hP hD hS => ?_)
                        refine W.eq (g2 := F0 m 176 ls [.int r_3]) rfl ?_
                        refine lv_pop hx hb d_Model_load_176 rfl ?_
                        refine lv_iconst (v := (0 : Int32)) hx hb d_Model_load_177 (by decide) ?_
                        exact sd_i1ret (u := (umo, uan_1, uad_1, uar_1, uacount_1, uanewN, uanewD, uanewR)) hQ hx hb hr hlk hK (hP.sub [0, 1, 2, 3, 4, 5, 6, 7] rfl) (hD.sub [0, 1, 2, 3, 4, 5, 6, 7] (by decide) rfl) hS (Option.some.inj hm).symm d_Model_load_178
                      replace hm := hv
                      refine sd_lge (tgt := 164) hx hb d_Model_load_154 d_Model_load_155 (by decide) (fun hc => ?_) (fun hc => ?_)
                      · have hm := sd_mt hc hm
                        refine lv_lload hx hb d_Model_load_164 (lv_at hl 2 rfl) ?_
                        cases hm
                        exact J166_7 H locs ls (hP.sub [0, 1, 2, 3, 4, 5, 6, 7] rfl) (hD.sub [0, 1, 2, 3, 4, 5, 6, 7] (by decide) rfl) hS (lv_sub hl [0, 1] rfl)
                      · have hm := sd_mf hc hm
                        refine lv_lload hx hb d_Model_load_158 (lv_at hl 2 rfl) ?_
                        refine lv_lneg hx hb d_Model_load_160 ?_
                        refine lv_goto (tgt := 166) hx hb d_Model_load_161 (by decide) ?_
                        cases hm
                        exact J166_7 H locs ls (hP.sub [0, 1, 2, 3, 4, 5, 6, 7] rfl) (hD.sub [0, 1, 2, 3, 4, 5, 6, 7] (by decide) rfl) hS (lv_sub hl [0, 1] rfl)
                    replace hm := hv
                    refine sd_lge (tgt := 149) hx hb d_Model_load_139 d_Model_load_140 (by decide) (fun hc => ?_) (fun hc => ?_)
                    · have hm := sd_mt hc hm
                      refine lv_lload hx hb d_Model_load_149 (lv_at hl 1 rfl) ?_
                      cases hm
                      exact J151_6 H locs ls (hP.sub [0, 1, 2, 3, 4, 5, 6, 7] rfl) (hD.sub [0, 1, 2, 3, 4, 5, 6, 7] (by decide) rfl) hS (lv_sub hl [2, 3, 0] rfl)
                    · have hm := sd_mf hc hm
                      refine lv_lload hx hb d_Model_load_143 (lv_at hl 1 rfl) ?_
                      refine lv_lneg hx hb d_Model_load_145 ?_
                      refine lv_goto (tgt := 151) hx hb d_Model_load_146 (by decide) ?_
                      cases hm
                      exact J151_6 H locs ls (hP.sub [0, 1, 2, 3, 4, 5, 6, 7] rfl) (hD.sub [0, 1, 2, 3, 4, 5, 6, 7] (by decide) rfl) hS (lv_sub hl [2, 3, 0] rfl)
                  · have hm := sd_mf hc hm
                    refine lv_bipush (v := (-3 : Int32)) hx hb d_Model_load_132 (by decide) ?_
                    exact sd_i1ret (u := ((0 : Int32), c_n, c_d, c_r, c_count, c_newN, c_newD, c_newR)) hQ hx hb hr hlk hK (hP.sub [0, 1, 2, 3, 4, 5, 6, 7] rfl) (hD.sub [0, 1, 2, 3, 4, 5, 6, 7] (by decide) rfl) hS (Option.some.inj hm).symm d_Model_load_134
          replace hm := hv
          refine sd_lge (tgt := 53) hx hb d_Model_load_44 d_Model_load_45 (by decide) (fun hc => ?_) (fun hc => ?_)
          · have hm := sd_mt hc hm
            refine lv_lload hx hb d_Model_load_53 (lv_at hl 4 rfl) ?_
            refine lv_lneg hx hb d_Model_load_55 ?_
            cases hm
            exact J56_2 H locs ls (hP.sub [0, 1, 2, 3, 4, 5, 6, 7] rfl) (hD.sub [0, 1, 2, 3, 4, 5, 6, 7] (by decide) rfl) hS (lv_sub hl [1, 2, 3, 4, 0] rfl)
          · have hm := sd_mf hc hm
            refine lv_lload hx hb d_Model_load_48 (lv_at hl 4 rfl) ?_
            refine lv_goto (tgt := 56) hx hb d_Model_load_50 (by decide) ?_
            cases hm
            exact J56_2 H locs ls (hP.sub [0, 1, 2, 3, 4, 5, 6, 7] rfl) (hD.sub [0, 1, 2, 3, 4, 5, 6, 7] (by decide) rfl) hS (lv_sub hl [1, 2, 3, 4, 0] rfl)
        replace hm := hv
        refine sd_lge (tgt := 37) hx hb d_Model_load_29 d_Model_load_30 (by decide) (fun hc => ?_) (fun hc => ?_)
        · have hm := sd_mt hc hm
          refine lv_lload_n hx hb d_Model_load_37 rfl (lv_at hl 2 rfl) ?_
          refine lv_lneg hx hb d_Model_load_38 ?_
          cases hm
          exact J39_1 H locs ls (hP.sub [0, 1, 2, 3, 4, 5, 6, 7] rfl) (hD.sub [0, 1, 2, 3, 4, 5, 6, 7] (by decide) rfl) hS (lv_sub hl [0, 1, 2, 3] rfl)
        · have hm := sd_mf hc hm
          refine lv_lload_n hx hb d_Model_load_33 rfl (lv_at hl 2 rfl) ?_
          refine lv_goto (tgt := 39) hx hb d_Model_load_34 (by decide) ?_
          cases hm
          exact J39_1 H locs ls (hP.sub [0, 1, 2, 3, 4, 5, 6, 7] rfl) (hD.sub [0, 1, 2, 3, 4, 5, 6, 7] (by decide) rfl) hS (lv_sub hl [0, 1, 2, 3] rfl)
    · have hm := sd_mt hc hm
      refine lv_iconst (v := (-1 : Int32)) hx hb d_Model_load_14 (by decide) ?_
      exact sd_i1ret (u := (m_made, c_n, c_d, c_r, c_count, c_newN, c_newD, c_newR)) hQ hx hb hr hlk hK (hP.sub [0, 1, 2, 3, 4, 5, 6, 7] rfl) (hD.sub [0, 1, 2, 3, 4, 5, 6, 7] (by decide) rfl) hS (Option.some.inj hm).symm d_Model_load_15
theorem d_Model_fraction_0 : decode b_Model_fraction 0 = .ok (.aload_n 0, 1) := by decide +kernel
theorem d_Model_fraction_1 : decode b_Model_fraction 1 = .ok (.getfield 19, 3) := by decide +kernel
theorem d_Model_fraction_4 : decode b_Model_fraction 4 = .ok (.iload_n 1, 1) := by decide +kernel
theorem d_Model_fraction_5 : decode b_Model_fraction 5 = .ok (.iaload, 1) := by decide +kernel
theorem d_Model_fraction_6 : decode b_Model_fraction 6 = .ok (.ifCond .eq 27, 3) := by decide +kernel
theorem d_Model_fraction_9 : decode b_Model_fraction 9 = .ok (.aload_n 0, 1) := by decide +kernel
theorem d_Model_fraction_10 : decode b_Model_fraction 10 = .ok (.getfield 19, 3) := by decide +kernel
theorem d_Model_fraction_13 : decode b_Model_fraction 13 = .ok (.iload_n 1, 1) := by decide +kernel
theorem d_Model_fraction_14 : decode b_Model_fraction 14 = .ok (.iaload, 1) := by decide +kernel
theorem d_Model_fraction_15 : decode b_Model_fraction 15 = .ok (.iconst 1, 1) := by decide +kernel
theorem d_Model_fraction_16 : decode b_Model_fraction 16 = .ok (.if_icmp .ne 21, 3) := by decide +kernel
theorem d_Model_fraction_19 : decode b_Model_fraction 19 = .ok (.aload_n 0, 1) := by decide +kernel
theorem d_Model_fraction_20 : decode b_Model_fraction 20 = .ok (.getfield 16, 3) := by decide +kernel
theorem d_Model_fraction_23 : decode b_Model_fraction 23 = .ok (.bipush 8, 2) := by decide +kernel
theorem d_Model_fraction_25 : decode b_Model_fraction 25 = .ok (.iload_n 1, 1) := by decide +kernel
theorem d_Model_fraction_26 : decode b_Model_fraction 26 = .ok (.imul, 1) := by decide +kernel
theorem d_Model_fraction_27 : decode b_Model_fraction 27 = .ok (.laload, 1) := by decide +kernel
theorem d_Model_fraction_28 : decode b_Model_fraction 28 = .ok (.lconst 1, 1) := by decide +kernel
theorem d_Model_fraction_29 : decode b_Model_fraction 29 = .ok (.lcmp, 1) := by decide +kernel
theorem d_Model_fraction_30 : decode b_Model_fraction 30 = .ok (.ifCond .ne 7, 3) := by decide +kernel
theorem d_Model_fraction_33 : decode b_Model_fraction 33 = .ok (.iconst 1, 1) := by decide +kernel
theorem d_Model_fraction_34 : decode b_Model_fraction 34 = .ok (.goto 4, 3) := by decide +kernel
theorem d_Model_fraction_37 : decode b_Model_fraction 37 = .ok (.iconst 0, 1) := by decide +kernel
theorem d_Model_fraction_38 : decode b_Model_fraction 38 = .ok (.ireturn, 1) := by decide +kernel
def mf_Model_fraction (F : Nat) (vI : Int32) (m_made : Int32) (m_outCount : Int32) (m_lowSign : Int32) (m_highSign : Int32) (c_r : Nat → Int64) (c_count : Nat → Int32) : Option (Int32) :=
  (sd_g (sd_ix vI 8) (sd_b1 (if (c_count vI.toNatClampNeg) = 0 then (some ((1 : Int32))) else (sd_g (sd_ix vI 8) (if (c_count vI.toNatClampNeg) = (1 : Int32) then (sd_g (sd_ix ((8 : Int32) * vI) 64) (if (c_r ((8 : Int32) * vI).toNatClampNeg) = (1 : Int64) then (some ((1 : Int32))) else (some ((0 : Int32))))) else (some ((0 : Int32)))))) fun y => (sd_g (sd_b01 y) (some (y)))))
abbrev rm_Model_fraction : Room := { frames := 0, cells := 0, slots := 0, locals := 0 }
set_option maxHeartbeats 4000000 in
set_option maxRecDepth 100000 in
theorem ct_Model_fraction (l : Launch) (D : va_G) (g : G4) (mo : Nat) (a_n : Nat) (a_d : Nat) (a_r : Nat) (a_count : Nat) (a_newN : Nat) (a_newD : Nat) (a_newR : Nat) (a_out : Nat) (a_root : Nat) (a_rest : Nat) (a_square : Nat) (a_part : Nat) (a_plus : Nat) (a_minus : Nat) (a_low : Nat) (a_high : Nat) (a_one : Nat) (a_two : Nat) (a_otherLow : Nat) (a_otherHigh : Nat) (a_digit : Nat) (a_topA : Nat) (a_underA : Nat) (a_topB : Nat) (a_underB : Nat) (a_quotient : Nat) (a_otherQuotient : Nat) (sz : Nat) (vI : Int32) (m_made : Int32) (m_outCount : Int32) (m_lowSign : Int32) (m_highSign : Int32) (c_r : Nat → Int64) (c_count : Nat → Int32) (F : Nat) (res : Int32) (hm : mf_Model_fraction F vI m_made m_outCount m_lowSign m_highSign c_r c_count = some res) : Met l y_Model_fraction (.code y_Model_fraction b_Model_fraction 2 (some .boolean) :: sd_tb) rm_Model_fraction (sd_PW D g [.ref mo, .int vI] sz [(mo, .inr (5, [.ref a_n, .ref a_d, .ref a_r, .ref a_count, .ref a_newN, .ref a_newD, .ref a_newR, .int m_made, .ref a_out, .int m_outCount, .ref a_root, .ref a_rest, .ref a_square, .ref a_part, .ref a_plus, .ref a_minus, .ref a_low, .ref a_high, .ref a_one, .ref a_two, .int m_lowSign, .int m_highSign, .ref a_otherLow, .ref a_otherHigh, .ref a_digit, .ref a_topA, .ref a_underA, .ref a_topB, .ref a_underB, .ref a_quotient, .ref a_otherQuotient])), (a_r, aJ g 64 c_r), (a_count, aI g 8 c_count)]) (sd_Qi0 D g res [(mo, .inr (5, [.ref a_n, .ref a_d, .ref a_r, .ref a_count, .ref a_newN, .ref a_newD, .ref a_newR, .int m_made, .ref a_out, .int m_outCount, .ref a_root, .ref a_rest, .ref a_square, .ref a_part, .ref a_plus, .ref a_minus, .ref a_low, .ref a_high, .ref a_one, .ref a_two, .int m_lowSign, .int m_highSign, .ref a_otherLow, .ref a_otherHigh, .ref a_digit, .ref a_topA, .ref a_underA, .ref a_topB, .ref a_underB, .ref a_quotient, .ref a_otherQuotient])), (a_r, aJ g 64 c_r), (a_count, aI g 8 c_count)] (va_A [(mo, .inr (5, [.ref a_n, .ref a_d, .ref a_r, .ref a_count, .ref a_newN, .ref a_newD, .ref a_newR, .int m_made, .ref a_out, .int m_outCount, .ref a_root, .ref a_rest, .ref a_square, .ref a_part, .ref a_plus, .ref a_minus, .ref a_low, .ref a_high, .ref a_one, .ref a_two, .int m_lowSign, .int m_highSign, .ref a_otherLow, .ref a_otherHigh, .ref a_digit, .ref a_topA, .ref a_underA, .ref a_topB, .ref a_underB, .ref a_quotient, .ref a_otherQuotient])), (a_r, aJ g 64 c_r), (a_count, aI g 8 c_count)] sz)) 0 0 (va_A [(mo, .inr (5, [.ref a_n, .ref a_d, .ref a_r, .ref a_count, .ref a_newN, .ref a_newD, .ref a_newR, .int m_made, .ref a_out, .int m_outCount, .ref a_root, .ref a_rest, .ref a_square, .ref a_part, .ref a_plus, .ref a_minus, .ref a_low, .ref a_high, .ref a_one, .ref a_two, .int m_lowSign, .int m_highSign, .ref a_otherLow, .ref a_otherHigh, .ref a_digit, .ref a_topA, .ref a_underA, .ref a_topB, .ref a_underB, .ref a_quotient, .ref a_otherQuotient])), (a_r, aJ g 64 c_r), (a_count, aI g 8 c_count)] sz) := by
  refine sd_met (Qf := fun A => sd_Qi0 D g res [(mo, .inr (5, [.ref a_n, .ref a_d, .ref a_r, .ref a_count, .ref a_newN, .ref a_newD, .ref a_newR, .int m_made, .ref a_out, .int m_outCount, .ref a_root, .ref a_rest, .ref a_square, .ref a_part, .ref a_plus, .ref a_minus, .ref a_low, .ref a_high, .ref a_one, .ref a_two, .int m_lowSign, .int m_highSign, .ref a_otherLow, .ref a_otherHigh, .ref a_digit, .ref a_topA, .ref a_underA, .ref a_topB, .ref a_underB, .ref a_quotient, .ref a_otherQuotient])), (a_r, aJ g 64 c_r), (a_count, aI g 8 c_count)] A) (own := R_Model) (by decide +kernel) rfl (Nat.le_of_ble_eq_true rfl) ?_
  intro p e s m args below meth c S hr hlk hK A hA Q hQ H locs hP hD hS ls hl
  have hx := S.1
  have hb := S.2.1
  have hml := S.2.2.1
  have hown := S.2.2.2.1
  have htt := sd_tt S
  replace hl : lv_has ls 2 [(0, .ref mo), (1, .int vI)] := hl
  unfold mf_Model_fraction at hm
  refine lv_aload_n hx hb d_Model_fraction_0 rfl (lv_at hl 0 rfl) ?_
  refine va_get (D := D) (ci := 5) (v := .ref a_count) (C := R_Model) (T := F_Model) (N := 31) hx hb htt i_Model hown hK hP 0 rfl rfl 3 (by decide) (htt _ kf_Model_19) (fun _ h9 => h9) rfl d_Model_fraction_1 ?_
  refine lv_iload_n hx hb d_Model_fraction_4 rfl (lv_at hl 1 rfl) ?_
  obtain ⟨h_1, hm⟩ := sd_mg hm
  refine sd_iald hx hb hK hP 2 rfl h_1 d_Model_fraction_5 ?_
  obtain ⟨y, hv, hm⟩ := sd_mb1 hm
  have J38_2 : ∀ (H : Heap) (locs : List Loc) (ls : Array Slot), va_P D classes [(mo, .inr (5, [.ref a_n, .ref a_d, .ref a_r, .ref a_count, .ref a_newN, .ref a_newD, .ref a_newR, .int m_made, .ref a_out, .int m_outCount, .ref a_root, .ref a_rest, .ref a_square, .ref a_part, .ref a_plus, .ref a_minus, .ref a_low, .ref a_high, .ref a_one, .ref a_two, .int m_lowSign, .int m_highSign, .ref a_otherLow, .ref a_otherHigh, .ref a_digit, .ref a_topA, .ref a_underA, .ref a_topB, .ref a_underB, .ref a_quotient, .ref a_otherQuotient])), (a_r, aJ g 64 c_r), (a_count, aI g 8 c_count)] H → va_D A [(mo, .inr (5, [.ref a_n, .ref a_d, .ref a_r, .ref a_count, .ref a_newN, .ref a_newD, .ref a_newR, .int m_made, .ref a_out, .int m_outCount, .ref a_root, .ref a_rest, .ref a_square, .ref a_part, .ref a_plus, .ref a_minus, .ref a_low, .ref a_high, .ref a_one, .ref a_two, .int m_lowSign, .int m_highSign, .ref a_otherLow, .ref a_otherHigh, .ref a_digit, .ref a_topA, .ref a_underA, .ref a_topB, .ref a_underB, .ref a_quotient, .ref a_otherQuotient])), (a_r, aJ g 64 c_r), (a_count, aI g 8 c_count)] → va_S A s.heap H locs → lv_has ls 2 [] → W p l e rm_Model_fraction s m args below meth c H locs 0 0 Q (F0 m 38 ls [.int y]) := by
    intro H locs ls hP hD hS hl
    obtain ⟨h_5, hm⟩ := sd_mg hm
    exact sd_z0ret hQ hx hb hr hlk (sd_zb h_5) hK (hP.sub [0, 1, 2] rfl) (hD.sub [0, 1, 2] (by decide) rfl) hS (Option.some.inj hm).symm d_Model_fraction_38
  replace hm := hv
  refine lv_if_eq (tgt := 33) hx hb d_Model_fraction_6 (by decide) (fun hc => ?_) (fun hc => ?_)
  · have hm := sd_mt hc hm
    refine lv_iconst (v := (1 : Int32)) hx hb d_Model_fraction_33 (by decide) ?_
    refine lv_goto (tgt := 38) hx hb d_Model_fraction_34 (by decide) ?_
    cases hm
    exact J38_2 H locs ls (hP.sub [0, 1, 2] rfl) (hD.sub [0, 1, 2] (by decide) rfl) hS (lv_sub hl [] rfl)
  · have hm := sd_mf hc hm
    refine lv_aload_n hx hb d_Model_fraction_9 rfl (lv_at hl 0 rfl) ?_
    refine va_get (D := D) (ci := 5) (v := .ref a_count) (C := R_Model) (T := F_Model) (N := 31) hx hb htt i_Model hown hK hP 0 rfl rfl 3 (by decide) (htt _ kf_Model_19) (fun _ h9 => h9) rfl d_Model_fraction_10 ?_
    refine lv_iload_n hx hb d_Model_fraction_13 rfl (lv_at hl 1 rfl) ?_
    obtain ⟨h_3, hm⟩ := sd_mg hm
    refine sd_iald hx hb hK hP 2 rfl h_3 d_Model_fraction_14 ?_
    refine lv_iconst (v := (1 : Int32)) hx hb d_Model_fraction_15 (by decide) ?_
    refine lv_icmp_ne (tgt := 37) hx hb d_Model_fraction_16 (by decide) (fun hc => ?_) (fun hc => ?_)
    · have hm := sd_mf hc hm
      refine lv_iconst (v := (0 : Int32)) hx hb d_Model_fraction_37 (by decide) ?_
      cases hm
      exact J38_2 H locs ls (hP.sub [0, 1, 2] rfl) (hD.sub [0, 1, 2] (by decide) rfl) hS (lv_sub hl [] rfl)
    · have hm := sd_mt hc hm
      refine lv_aload_n hx hb d_Model_fraction_19 rfl (lv_at hl 0 rfl) ?_
      refine va_get (D := D) (ci := 5) (v := .ref a_r) (C := R_Model) (T := F_Model) (N := 31) hx hb htt i_Model hown hK hP 0 rfl rfl 2 (by decide) (htt _ kf_Model_16) (fun _ h9 => h9) rfl d_Model_fraction_20 ?_
      refine lv_bipush (v := (8 : Int32)) hx hb d_Model_fraction_23 (by decide) ?_
      refine lv_iload_n hx hb d_Model_fraction_25 rfl (lv_at hl 1 rfl) ?_
      refine lv_imul hx hb d_Model_fraction_26 ?_
      obtain ⟨h_4, hm⟩ := sd_mg hm
      refine sd_lald hx hb hK hP 1 rfl h_4 d_Model_fraction_27 ?_
      refine lv_lconst (v := (1 : Int64)) hx hb d_Model_fraction_28 (by decide) ?_
      refine sd_lne (tgt := 37) hx hb d_Model_fraction_29 d_Model_fraction_30 (by decide) (fun hc => ?_) (fun hc => ?_)
      · have hm := sd_mf hc hm
        refine lv_iconst (v := (0 : Int32)) hx hb d_Model_fraction_37 (by decide) ?_
        cases hm
        exact J38_2 H locs ls (hP.sub [0, 1, 2] rfl) (hD.sub [0, 1, 2] (by decide) rfl) hS (lv_sub hl [] rfl)
      · have hm := sd_mt hc hm
        refine lv_iconst (v := (1 : Int32)) hx hb d_Model_fraction_33 (by decide) ?_
        refine lv_goto (tgt := 38) hx hb d_Model_fraction_34 (by decide) ?_
        cases hm
        exact J38_2 H locs ls (hP.sub [0, 1, 2] rfl) (hD.sub [0, 1, 2] (by decide) rfl) hS (lv_sub hl [] rfl)
theorem d_Model_root_0 : decode b_Model_root 0 = .ok (.iload_n 1, 1) := by decide +kernel
theorem d_Model_root_1 : decode b_Model_root 1 = .ok (.invokestatic 109, 3) := by decide +kernel
theorem d_Model_root_4 : decode b_Model_root 4 = .ok (.ifCond .eq 10, 3) := by decide +kernel
theorem d_Model_root_7 : decode b_Model_root 7 = .ok (.iload_n 2, 1) := by decide +kernel
theorem d_Model_root_8 : decode b_Model_root 8 = .ok (.invokestatic 109, 3) := by decide +kernel
theorem d_Model_root_11 : decode b_Model_root 11 = .ok (.ifCond .ne 5, 3) := by decide +kernel
theorem d_Model_root_14 : decode b_Model_root 14 = .ok (.iconst (-1), 1) := by decide +kernel
theorem d_Model_root_15 : decode b_Model_root 15 = .ok (.ireturn, 1) := by decide +kernel
theorem d_Model_root_16 : decode b_Model_root 16 = .ok (.aload_n 0, 1) := by decide +kernel
theorem d_Model_root_17 : decode b_Model_root 17 = .ok (.getfield 19, 3) := by decide +kernel
theorem d_Model_root_20 : decode b_Model_root 20 = .ok (.iload_n 2, 1) := by decide +kernel
theorem d_Model_root_21 : decode b_Model_root 21 = .ok (.iaload, 1) := by decide +kernel
theorem d_Model_root_22 : decode b_Model_root 22 = .ok (.ifCond .ne 7, 3) := by decide +kernel
theorem d_Model_root_25 : decode b_Model_root 25 = .ok (.lconst 0, 1) := by decide +kernel
theorem d_Model_root_26 : decode b_Model_root 26 = .ok (.goto 12, 3) := by decide +kernel
theorem d_Model_root_29 : decode b_Model_root 29 = .ok (.aload_n 0, 1) := by decide +kernel
theorem d_Model_root_30 : decode b_Model_root 30 = .ok (.getfield 9, 3) := by decide +kernel
theorem d_Model_root_33 : decode b_Model_root 33 = .ok (.bipush 8, 2) := by decide +kernel
theorem d_Model_root_35 : decode b_Model_root 35 = .ok (.iload_n 2, 1) := by decide +kernel
theorem d_Model_root_36 : decode b_Model_root 36 = .ok (.imul, 1) := by decide +kernel
theorem d_Model_root_37 : decode b_Model_root 37 = .ok (.laload, 1) := by decide +kernel
theorem d_Model_root_38 : decode b_Model_root 38 = .ok (.lstore_n 3, 1) := by decide +kernel
theorem d_Model_root_39 : decode b_Model_root 39 = .ok (.aload_n 0, 1) := by decide +kernel
theorem d_Model_root_40 : decode b_Model_root 40 = .ok (.getfield 19, 3) := by decide +kernel
theorem d_Model_root_43 : decode b_Model_root 43 = .ok (.iload_n 2, 1) := by decide +kernel
theorem d_Model_root_44 : decode b_Model_root 44 = .ok (.iaload, 1) := by decide +kernel
theorem d_Model_root_45 : decode b_Model_root 45 = .ok (.ifCond .ne 7, 3) := by decide +kernel
theorem d_Model_root_48 : decode b_Model_root 48 = .ok (.lconst 1, 1) := by decide +kernel
theorem d_Model_root_49 : decode b_Model_root 49 = .ok (.goto 12, 3) := by decide +kernel
theorem d_Model_root_52 : decode b_Model_root 52 = .ok (.aload_n 0, 1) := by decide +kernel
theorem d_Model_root_53 : decode b_Model_root 53 = .ok (.getfield 13, 3) := by decide +kernel
theorem d_Model_root_56 : decode b_Model_root 56 = .ok (.bipush 8, 2) := by decide +kernel
theorem d_Model_root_58 : decode b_Model_root 58 = .ok (.iload_n 2, 1) := by decide +kernel
theorem d_Model_root_59 : decode b_Model_root 59 = .ok (.imul, 1) := by decide +kernel
theorem d_Model_root_60 : decode b_Model_root 60 = .ok (.laload, 1) := by decide +kernel
theorem d_Model_root_61 : decode b_Model_root 61 = .ok (.lstore 5, 2) := by decide +kernel
theorem d_Model_root_63 : decode b_Model_root 63 = .ok (.aload_n 0, 1) := by decide +kernel
theorem d_Model_root_64 : decode b_Model_root 64 = .ok (.iload_n 2, 1) := by decide +kernel
theorem d_Model_root_65 : decode b_Model_root 65 = .ok (.invokevirtual 121, 3) := by decide +kernel
theorem d_Model_root_68 : decode b_Model_root 68 = .ok (.ifCond .eq 9, 3) := by decide +kernel
theorem d_Model_root_71 : decode b_Model_root 71 = .ok (.lload_n 3, 1) := by decide +kernel
theorem d_Model_root_72 : decode b_Model_root 72 = .ok (.lconst 0, 1) := by decide +kernel
theorem d_Model_root_73 : decode b_Model_root 73 = .ok (.lcmp, 1) := by decide +kernel
theorem d_Model_root_74 : decode b_Model_root 74 = .ok (.ifCond .ge 6, 3) := by decide +kernel
theorem d_Model_root_77 : decode b_Model_root 77 = .ok (.bipush (-2), 2) := by decide +kernel
theorem d_Model_root_79 : decode b_Model_root 79 = .ok (.ireturn, 1) := by decide +kernel
theorem d_Model_root_80 : decode b_Model_root 80 = .ok (.lload_n 3, 1) := by decide +kernel
theorem d_Model_root_81 : decode b_Model_root 81 = .ok (.lload 5, 2) := by decide +kernel
theorem d_Model_root_83 : decode b_Model_root 83 = .ok (.lmul, 1) := by decide +kernel
theorem d_Model_root_84 : decode b_Model_root 84 = .ok (.ldc2_w 124, 3) := by decide +kernel
theorem d_Model_root_87 : decode b_Model_root 87 = .ok (.lcmp, 1) := by decide +kernel
theorem d_Model_root_88 : decode b_Model_root 88 = .ok (.ifCond .le 6, 3) := by decide +kernel
theorem d_Model_root_91 : decode b_Model_root 91 = .ok (.bipush (-3), 2) := by decide +kernel
theorem d_Model_root_93 : decode b_Model_root 93 = .ok (.ireturn, 1) := by decide +kernel
theorem d_Model_root_94 : decode b_Model_root 94 = .ok (.aload_n 0, 1) := by decide +kernel
theorem d_Model_root_95 : decode b_Model_root 95 = .ok (.iconst 0, 1) := by decide +kernel
theorem d_Model_root_96 : decode b_Model_root 96 = .ok (.putfield 97, 3) := by decide +kernel
theorem d_Model_root_99 : decode b_Model_root 99 = .ok (.lload_n 3, 1) := by decide +kernel
theorem d_Model_root_100 : decode b_Model_root 100 = .ok (.lconst 0, 1) := by decide +kernel
theorem d_Model_root_101 : decode b_Model_root 101 = .ok (.lcmp, 1) := by decide +kernel
theorem d_Model_root_102 : decode b_Model_root 102 = .ok (.ifCond .le 71, 3) := by decide +kernel
theorem d_Model_root_105 : decode b_Model_root 105 = .ok (.lconst 1, 1) := by decide +kernel
theorem d_Model_root_106 : decode b_Model_root 106 = .ok (.lstore 7, 2) := by decide +kernel
theorem d_Model_root_108 : decode b_Model_root 108 = .ok (.ldc2_w 126, 3) := by decide +kernel
theorem d_Model_root_111 : decode b_Model_root 111 = .ok (.lstore 9, 2) := by decide +kernel
theorem d_Model_root_113 : decode b_Model_root 113 = .ok (.lload 9, 2) := by decide +kernel
theorem d_Model_root_115 : decode b_Model_root 115 = .ok (.lload 9, 2) := by decide +kernel
theorem d_Model_root_117 : decode b_Model_root 117 = .ok (.lmul, 1) := by decide +kernel
theorem d_Model_root_118 : decode b_Model_root 118 = .ok (.lload_n 3, 1) := by decide +kernel
theorem d_Model_root_119 : decode b_Model_root 119 = .ok (.lload 5, 2) := by decide +kernel
theorem d_Model_root_121 : decode b_Model_root 121 = .ok (.lmul, 1) := by decide +kernel
theorem d_Model_root_122 : decode b_Model_root 122 = .ok (.lcmp, 1) := by decide +kernel
theorem d_Model_root_123 : decode b_Model_root 123 = .ok (.ifCond .gt 31, 3) := by decide +kernel
theorem d_Model_root_126 : decode b_Model_root 126 = .ok (.lload_n 3, 1) := by decide +kernel
theorem d_Model_root_127 : decode b_Model_root 127 = .ok (.lload 5, 2) := by decide +kernel
theorem d_Model_root_129 : decode b_Model_root 129 = .ok (.lmul, 1) := by decide +kernel
theorem d_Model_root_130 : decode b_Model_root 130 = .ok (.lload 9, 2) := by decide +kernel
theorem d_Model_root_132 : decode b_Model_root 132 = .ok (.lload 9, 2) := by decide +kernel
theorem d_Model_root_134 : decode b_Model_root 134 = .ok (.lmul, 1) := by decide +kernel
theorem d_Model_root_135 : decode b_Model_root 135 = .ok (.lrem, 1) := by decide +kernel
theorem d_Model_root_136 : decode b_Model_root 136 = .ok (.lconst 0, 1) := by decide +kernel
theorem d_Model_root_137 : decode b_Model_root 137 = .ok (.lcmp, 1) := by decide +kernel
theorem d_Model_root_138 : decode b_Model_root 138 = .ok (.ifCond .ne 7, 3) := by decide +kernel
theorem d_Model_root_141 : decode b_Model_root 141 = .ok (.lload 9, 2) := by decide +kernel
theorem d_Model_root_143 : decode b_Model_root 143 = .ok (.lstore 7, 2) := by decide +kernel
theorem d_Model_root_145 : decode b_Model_root 145 = .ok (.lload 9, 2) := by decide +kernel
theorem d_Model_root_147 : decode b_Model_root 147 = .ok (.lconst 1, 1) := by decide +kernel
theorem d_Model_root_148 : decode b_Model_root 148 = .ok (.ladd, 1) := by decide +kernel
theorem d_Model_root_149 : decode b_Model_root 149 = .ok (.lstore 9, 2) := by decide +kernel
theorem d_Model_root_151 : decode b_Model_root 151 = .ok (.goto (-38), 3) := by decide +kernel
theorem d_Model_root_154 : decode b_Model_root 154 = .ok (.aload_n 0, 1) := by decide +kernel
theorem d_Model_root_155 : decode b_Model_root 155 = .ok (.lload 7, 2) := by decide +kernel
theorem d_Model_root_157 : decode b_Model_root 157 = .ok (.lload 5, 2) := by decide +kernel
theorem d_Model_root_159 : decode b_Model_root 159 = .ok (.lload_n 3, 1) := by decide +kernel
theorem d_Model_root_160 : decode b_Model_root 160 = .ok (.lload 5, 2) := by decide +kernel
theorem d_Model_root_162 : decode b_Model_root 162 = .ok (.lmul, 1) := by decide +kernel
theorem d_Model_root_163 : decode b_Model_root 163 = .ok (.lload 7, 2) := by decide +kernel
theorem d_Model_root_165 : decode b_Model_root 165 = .ok (.lload 7, 2) := by decide +kernel
theorem d_Model_root_167 : decode b_Model_root 167 = .ok (.lmul, 1) := by decide +kernel
theorem d_Model_root_168 : decode b_Model_root 168 = .ok (.ldiv, 1) := by decide +kernel
theorem d_Model_root_169 : decode b_Model_root 169 = .ok (.invokevirtual 113, 3) := by decide +kernel
theorem d_Model_root_172 : decode b_Model_root 172 = .ok (.pop, 1) := by decide +kernel
theorem d_Model_root_173 : decode b_Model_root 173 = .ok (.aload_n 0, 1) := by decide +kernel
theorem d_Model_root_174 : decode b_Model_root 174 = .ok (.iload_n 1, 1) := by decide +kernel
theorem d_Model_root_175 : decode b_Model_root 175 = .ok (.invokevirtual 117, 3) := by decide +kernel
theorem d_Model_root_178 : decode b_Model_root 178 = .ok (.pop, 1) := by decide +kernel
theorem d_Model_root_179 : decode b_Model_root 179 = .ok (.iconst 0, 1) := by decide +kernel
theorem d_Model_root_180 : decode b_Model_root 180 = .ok (.ireturn, 1) := by decide +kernel
def mf_Model_root_L113 (y : Int64) (y_1 : Int64) : Nat → Int64 → Int64 → Option (Int64)
  | 0, _, _ => none
  | fu + 1, x7, x9 => (if (y * y_1) < (x9 * x9) then (some (x7)) else (sd_g (sd_zJ (x9 * x9)) (sd_b1 (if ((y * y_1) - (y * y_1) / (x9 * x9) * (x9 * x9)) = (0 : Int64) then (some (x9)) else (some (x7))) fun x7_1 => (sd_let ((x9 + (1 : Int64))) fun x9_1 => ((mf_Model_root_L113 y y_1 fu) x7_1 x9_1)))))
def mf_Model_root (F : Nat) (vK : Int32) (vI : Int32) (m_made : Int32) (m_outCount : Int32) (m_lowSign : Int32) (m_highSign : Int32) (c_n : Nat → Int64) (c_d : Nat → Int64) (c_r : Nat → Int64) (c_count : Nat → Int32) (c_newN : Nat → Int64) (c_newD : Nat → Int64) (c_newR : Nat → Int64) : Option (Int32 × Int32 × (Nat → Int64) × (Nat → Int64) × (Nat → Int64) × (Nat → Int32) × (Nat → Int64) × (Nat → Int64) × (Nat → Int64)) :=
  (sd_b1 (mf_Model_is F vK) fun r => (if r = 0 then (some ((-1 : Int32), m_made, c_n, c_d, c_r, c_count, c_newN, c_newD, c_newR)) else (sd_b1 (mf_Model_is F vI) fun r_1 => (if r_1 = 0 then (some ((-1 : Int32), m_made, c_n, c_d, c_r, c_count, c_newN, c_newD, c_newR)) else (sd_g (sd_ix vI 8) (sd_b1 (if (c_count vI.toNatClampNeg) = 0 then (some ((0 : Int64))) else (sd_g (sd_ix ((8 : Int32) * vI) 64) (some ((c_n ((8 : Int32) * vI).toNatClampNeg))))) fun y => (sd_g (sd_ix vI 8) (sd_b1 (if (c_count vI.toNatClampNeg) = 0 then (some ((1 : Int64))) else (sd_g (sd_ix ((8 : Int32) * vI) 64) (some ((c_d ((8 : Int32) * vI).toNatClampNeg))))) fun y_1 => (sd_b1 (mf_Model_fraction F vI m_made m_outCount m_lowSign m_highSign c_r c_count) fun r_2 => (if r_2 = 0 then (some ((-2 : Int32), m_made, c_n, c_d, c_r, c_count, c_newN, c_newD, c_newR)) else (if (0 : Int64) ≤ y then (if (y * y_1) ≤ (100000000 : Int64) then (if y ≤ (0 : Int64) then (sd_b5 (mf_Model_keep F vK (0 : Int32) m_outCount m_lowSign m_highSign c_n c_d c_r c_count c_newN c_newD c_newR) fun r_3 uan uad uar uacount => (some ((0 : Int32), (0 : Int32), uan, uad, uar, uacount, c_newN, c_newD, c_newR))) else (sd_b1 (mf_Model_root_L113 y y_1 F (1 : Int64) (2 : Int64)) fun rx7 => (sd_g (sd_zJ (rx7 * rx7)) (sd_b5 (mf_Model_addTerm F rx7 y_1 ((y * y_1) / (rx7 * rx7)) (0 : Int32) m_outCount m_lowSign m_highSign c_newN c_newD c_newR) fun r_4 umo uanewN uanewD uanewR => (sd_b5 (mf_Model_keep F vK umo m_outCount m_lowSign m_highSign c_n c_d c_r c_count uanewN uanewD uanewR) fun r_5 uan_1 uad_1 uar_1 uacount_1 => (some ((0 : Int32), umo, uan_1, uad_1, uar_1, uacount_1, uanewN, uanewD, uanewR))))))) else (some ((-3 : Int32), m_made, c_n, c_d, c_r, c_count, c_newN, c_newD, c_newR))) else (some ((-2 : Int32), m_made, c_n, c_d, c_r, c_count, c_newN, c_newD, c_newR)))))))))))))
abbrev rm_Model_root : Room := { frames := 2, cells := 0, slots := 0, locals := 64 }
set_option maxHeartbeats 4000000 in
set_option maxRecDepth 100000 in
theorem ct_Model_root (l : Launch) (D : va_G) (g : G4) (mo : Nat) (a_n : Nat) (a_d : Nat) (a_r : Nat) (a_count : Nat) (a_newN : Nat) (a_newD : Nat) (a_newR : Nat) (a_out : Nat) (a_root : Nat) (a_rest : Nat) (a_square : Nat) (a_part : Nat) (a_plus : Nat) (a_minus : Nat) (a_low : Nat) (a_high : Nat) (a_one : Nat) (a_two : Nat) (a_otherLow : Nat) (a_otherHigh : Nat) (a_digit : Nat) (a_topA : Nat) (a_underA : Nat) (a_topB : Nat) (a_underB : Nat) (a_quotient : Nat) (a_otherQuotient : Nat) (sz : Nat) (vK : Int32) (vI : Int32) (m_made : Int32) (m_outCount : Int32) (m_lowSign : Int32) (m_highSign : Int32) (c_n : Nat → Int64) (c_d : Nat → Int64) (c_r : Nat → Int64) (c_count : Nat → Int32) (c_newN : Nat → Int64) (c_newD : Nat → Int64) (c_newR : Nat → Int64) (F : Nat) (res : Int32 × Int32 × (Nat → Int64) × (Nat → Int64) × (Nat → Int64) × (Nat → Int32) × (Nat → Int64) × (Nat → Int64) × (Nat → Int64)) (hm : mf_Model_root F vK vI m_made m_outCount m_lowSign m_highSign c_n c_d c_r c_count c_newN c_newD c_newR = some res) : Met l y_Model_root (.code y_Model_root b_Model_root 11 (some .int) :: sd_tb) rm_Model_root (sd_PW D g [.ref mo, .int vK, .int vI] sz [(mo, .inr (5, [.ref a_n, .ref a_d, .ref a_r, .ref a_count, .ref a_newN, .ref a_newD, .ref a_newR, .int m_made, .ref a_out, .int m_outCount, .ref a_root, .ref a_rest, .ref a_square, .ref a_part, .ref a_plus, .ref a_minus, .ref a_low, .ref a_high, .ref a_one, .ref a_two, .int m_lowSign, .int m_highSign, .ref a_otherLow, .ref a_otherHigh, .ref a_digit, .ref a_topA, .ref a_underA, .ref a_topB, .ref a_underB, .ref a_quotient, .ref a_otherQuotient])), (a_n, aJ g 64 c_n), (a_d, aJ g 64 c_d), (a_r, aJ g 64 c_r), (a_count, aI g 8 c_count), (a_newN, aJ g 8 c_newN), (a_newD, aJ g 8 c_newD), (a_newR, aJ g 8 c_newR)]) (sd_Qi1 D g res (fun u : Int32 × (Nat → Int64) × (Nat → Int64) × (Nat → Int64) × (Nat → Int32) × (Nat → Int64) × (Nat → Int64) × (Nat → Int64) => [(mo, .inr (5, [.ref a_n, .ref a_d, .ref a_r, .ref a_count, .ref a_newN, .ref a_newD, .ref a_newR, .int (u.1), .ref a_out, .int m_outCount, .ref a_root, .ref a_rest, .ref a_square, .ref a_part, .ref a_plus, .ref a_minus, .ref a_low, .ref a_high, .ref a_one, .ref a_two, .int m_lowSign, .int m_highSign, .ref a_otherLow, .ref a_otherHigh, .ref a_digit, .ref a_topA, .ref a_underA, .ref a_topB, .ref a_underB, .ref a_quotient, .ref a_otherQuotient])), (a_n, aJ g 64 (u.2.1)), (a_d, aJ g 64 (u.2.2.1)), (a_r, aJ g 64 (u.2.2.2.1)), (a_count, aI g 8 (u.2.2.2.2.1)), (a_newN, aJ g 8 (u.2.2.2.2.2.1)), (a_newD, aJ g 8 (u.2.2.2.2.2.2.1)), (a_newR, aJ g 8 (u.2.2.2.2.2.2.2))]) (va_A [(mo, .inr (5, [.ref a_n, .ref a_d, .ref a_r, .ref a_count, .ref a_newN, .ref a_newD, .ref a_newR, .int m_made, .ref a_out, .int m_outCount, .ref a_root, .ref a_rest, .ref a_square, .ref a_part, .ref a_plus, .ref a_minus, .ref a_low, .ref a_high, .ref a_one, .ref a_two, .int m_lowSign, .int m_highSign, .ref a_otherLow, .ref a_otherHigh, .ref a_digit, .ref a_topA, .ref a_underA, .ref a_topB, .ref a_underB, .ref a_quotient, .ref a_otherQuotient])), (a_n, aJ g 64 c_n), (a_d, aJ g 64 c_d), (a_r, aJ g 64 c_r), (a_count, aI g 8 c_count), (a_newN, aJ g 8 c_newN), (a_newD, aJ g 8 c_newD), (a_newR, aJ g 8 c_newR)] sz)) 0 0 (va_A [(mo, .inr (5, [.ref a_n, .ref a_d, .ref a_r, .ref a_count, .ref a_newN, .ref a_newD, .ref a_newR, .int m_made, .ref a_out, .int m_outCount, .ref a_root, .ref a_rest, .ref a_square, .ref a_part, .ref a_plus, .ref a_minus, .ref a_low, .ref a_high, .ref a_one, .ref a_two, .int m_lowSign, .int m_highSign, .ref a_otherLow, .ref a_otherHigh, .ref a_digit, .ref a_topA, .ref a_underA, .ref a_topB, .ref a_underB, .ref a_quotient, .ref a_otherQuotient])), (a_n, aJ g 64 c_n), (a_d, aJ g 64 c_d), (a_r, aJ g 64 c_r), (a_count, aI g 8 c_count), (a_newN, aJ g 8 c_newN), (a_newD, aJ g 8 c_newD), (a_newR, aJ g 8 c_newR)] sz) := by
  refine sd_met (Qf := fun A => sd_Qi1 D g res (fun u : Int32 × (Nat → Int64) × (Nat → Int64) × (Nat → Int64) × (Nat → Int32) × (Nat → Int64) × (Nat → Int64) × (Nat → Int64) => [(mo, .inr (5, [.ref a_n, .ref a_d, .ref a_r, .ref a_count, .ref a_newN, .ref a_newD, .ref a_newR, .int (u.1), .ref a_out, .int m_outCount, .ref a_root, .ref a_rest, .ref a_square, .ref a_part, .ref a_plus, .ref a_minus, .ref a_low, .ref a_high, .ref a_one, .ref a_two, .int m_lowSign, .int m_highSign, .ref a_otherLow, .ref a_otherHigh, .ref a_digit, .ref a_topA, .ref a_underA, .ref a_topB, .ref a_underB, .ref a_quotient, .ref a_otherQuotient])), (a_n, aJ g 64 (u.2.1)), (a_d, aJ g 64 (u.2.2.1)), (a_r, aJ g 64 (u.2.2.2.1)), (a_count, aI g 8 (u.2.2.2.2.1)), (a_newN, aJ g 8 (u.2.2.2.2.2.1)), (a_newD, aJ g 8 (u.2.2.2.2.2.2.1)), (a_newR, aJ g 8 (u.2.2.2.2.2.2.2))]) A) (own := R_Model) (by decide +kernel) rfl (Nat.le_of_ble_eq_true rfl) ?_
  intro p e s m args below meth c S hr hlk hK A hA Q hQ H locs hP hD hS ls hl
  have hx := S.1
  have hb := S.2.1
  have hml := S.2.2.1
  have hown := S.2.2.2.1
  have htt := sd_tt S
  replace hl : lv_has ls 11 [(0, .ref mo), (1, .int vK), (2, .int vI)] := hl
  unfold mf_Model_root at hm
  refine lv_iload_n hx hb d_Model_root_0 rfl (lv_at hl 1 rfl) ?_
  obtain ⟨r, hc, hm⟩ := sd_mb1 hm
  refine sd_ci0 (wr := [(mo, .inr (5, [.ref a_n, .ref a_d, .ref a_r, .ref a_count, .ref a_newN, .ref a_newD, .ref a_newR, .int m_made, .ref a_out, .int m_outCount, .ref a_root, .ref a_rest, .ref a_square, .ref a_part, .ref a_plus, .ref a_minus, .ref a_low, .ref a_high, .ref a_one, .ref a_two, .int m_lowSign, .int m_highSign, .ref a_otherLow, .ref a_otherHigh, .ref a_digit, .ref a_topA, .ref a_underA, .ref a_topB, .ref a_underB, .ref a_quotient, .ref a_otherQuotient])), (a_n, aJ g 64 c_n), (a_d, aJ g 64 c_d), (a_r, aJ g 64 c_r), (a_count, aI g 8 c_count), (a_newN, aJ g 8 c_newN), (a_newD, aJ g 8 c_newD), (a_newR, aJ g 8 c_newR)]) (w2 := [(mo, .inr (5, [.ref a_n, .ref a_d, .ref a_r, .ref a_count, .ref a_newN, .ref a_newD, .ref a_newR, .int m_made, .ref a_out, .int m_outCount, .ref a_root, .ref a_rest, .ref a_square, .ref a_part, .ref a_plus, .ref a_minus, .ref a_low, .ref a_high, .ref a_one, .ref a_two, .int m_lowSign, .int m_highSign, .ref a_otherLow, .ref a_otherHigh, .ref a_digit, .ref a_topA, .ref a_underA, .ref a_topB, .ref a_underB, .ref a_quotient, .ref a_otherQuotient])), (a_n, aJ g 64 c_n), (a_d, aJ g 64 c_d), (a_r, aJ g 64 c_r), (a_count, aI g 8 c_count), (a_newN, aJ g 8 c_newN), (a_newD, aJ g 8 c_newD), (a_newR, aJ g 8 c_newR)]) (sd_runS (rest := []) (As := [.int vK]) S (ct_Model_is l D g (H.size) vK F (r) hc) kl_Model_109 (by decide) (by decide) hK hP hD [] rfl (by decide) rfl hl d_Model_root_1 rfl (Nat.le_of_ble_eq_true rfl) ⟨Nat.zero_le _, Nat.zero_le _⟩) hP hD hS hA [] [0, 1, 2, 3, 4, 5, 6, 7] rfl rfl (by decide) (by decide) rfl (fun H locs hP hD hS => ?_)
  refine W.eq (g2 := F0 m 4 ls [.int r]) rfl ?_
  refine lv_if_eq (tgt := 14) hx hb d_Model_root_4 (by decide) (fun hc => ?_) (fun hc => ?_)
  · have hm := sd_mt hc hm
    refine lv_iconst (v := (-1 : Int32)) hx hb d_Model_root_14 (by decide) ?_
    exact sd_i1ret (u := (m_made, c_n, c_d, c_r, c_count, c_newN, c_newD, c_newR)) hQ hx hb hr hlk hK (hP.sub [0, 1, 2, 3, 4, 5, 6, 7] rfl) (hD.sub [0, 1, 2, 3, 4, 5, 6, 7] (by decide) rfl) hS (Option.some.inj hm).symm d_Model_root_15
  · have hm := sd_mf hc hm
    refine lv_iload_n hx hb d_Model_root_7 rfl (lv_at hl 2 rfl) ?_
    obtain ⟨r_1, hc, hm⟩ := sd_mb1 hm
    refine sd_ci0 (wr := [(mo, .inr (5, [.ref a_n, .ref a_d, .ref a_r, .ref a_count, .ref a_newN, .ref a_newD, .ref a_newR, .int m_made, .ref a_out, .int m_outCount, .ref a_root, .ref a_rest, .ref a_square, .ref a_part, .ref a_plus, .ref a_minus, .ref a_low, .ref a_high, .ref a_one, .ref a_two, .int m_lowSign, .int m_highSign, .ref a_otherLow, .ref a_otherHigh, .ref a_digit, .ref a_topA, .ref a_underA, .ref a_topB, .ref a_underB, .ref a_quotient, .ref a_otherQuotient])), (a_n, aJ g 64 c_n), (a_d, aJ g 64 c_d), (a_r, aJ g 64 c_r), (a_count, aI g 8 c_count), (a_newN, aJ g 8 c_newN), (a_newD, aJ g 8 c_newD), (a_newR, aJ g 8 c_newR)]) (w2 := [(mo, .inr (5, [.ref a_n, .ref a_d, .ref a_r, .ref a_count, .ref a_newN, .ref a_newD, .ref a_newR, .int m_made, .ref a_out, .int m_outCount, .ref a_root, .ref a_rest, .ref a_square, .ref a_part, .ref a_plus, .ref a_minus, .ref a_low, .ref a_high, .ref a_one, .ref a_two, .int m_lowSign, .int m_highSign, .ref a_otherLow, .ref a_otherHigh, .ref a_digit, .ref a_topA, .ref a_underA, .ref a_topB, .ref a_underB, .ref a_quotient, .ref a_otherQuotient])), (a_n, aJ g 64 c_n), (a_d, aJ g 64 c_d), (a_r, aJ g 64 c_r), (a_count, aI g 8 c_count), (a_newN, aJ g 8 c_newN), (a_newD, aJ g 8 c_newD), (a_newR, aJ g 8 c_newR)]) (sd_runS (rest := []) (As := [.int vI]) S (ct_Model_is l D g (H.size) vI F (r_1) hc) kl_Model_109 (by decide) (by decide) hK hP hD [] rfl (by decide) rfl hl d_Model_root_8 rfl (Nat.le_of_ble_eq_true rfl) ⟨Nat.zero_le _, Nat.zero_le _⟩) hP hD hS hA [] [0, 1, 2, 3, 4, 5, 6, 7] rfl rfl (by decide) (by decide) rfl (fun H locs hP hD hS => ?_)
    refine W.eq (g2 := F0 m 11 ls [.int r_1]) rfl ?_
    refine lv_if_ne (tgt := 16) hx hb d_Model_root_11 (by decide) (fun hc => ?_) (fun hc => ?_)
    · have hm := sd_mf hc hm
      refine lv_aload_n hx hb d_Model_root_16 rfl (lv_at hl 0 rfl) ?_
      refine va_get (D := D) (ci := 5) (v := .ref a_count) (C := R_Model) (T := F_Model) (N := 31) hx hb htt i_Model hown hK hP 0 rfl rfl 3 (by decide) (htt _ kf_Model_19) (fun _ h9 => h9) rfl d_Model_root_17 ?_
      refine lv_iload_n hx hb d_Model_root_20 rfl (lv_at hl 2 rfl) ?_
      obtain ⟨h_1, hm⟩ := sd_mg hm
      refine sd_iald hx hb hK hP 4 rfl h_1 d_Model_root_21 ?_
      obtain ⟨y, hv, hm⟩ := sd_mb1 hm
      have J38_2 : ∀ (H : Heap) (locs : List Loc) (ls : Array Slot), va_P D classes [(mo, .inr (5, [.ref a_n, .ref a_d, .ref a_r, .ref a_count, .ref a_newN, .ref a_newD, .ref a_newR, .int m_made, .ref a_out, .int m_outCount, .ref a_root, .ref a_rest, .ref a_square, .ref a_part, .ref a_plus, .ref a_minus, .ref a_low, .ref a_high, .ref a_one, .ref a_two, .int m_lowSign, .int m_highSign, .ref a_otherLow, .ref a_otherHigh, .ref a_digit, .ref a_topA, .ref a_underA, .ref a_topB, .ref a_underB, .ref a_quotient, .ref a_otherQuotient])), (a_n, aJ g 64 c_n), (a_d, aJ g 64 c_d), (a_r, aJ g 64 c_r), (a_count, aI g 8 c_count), (a_newN, aJ g 8 c_newN), (a_newD, aJ g 8 c_newD), (a_newR, aJ g 8 c_newR)] H → va_D A [(mo, .inr (5, [.ref a_n, .ref a_d, .ref a_r, .ref a_count, .ref a_newN, .ref a_newD, .ref a_newR, .int m_made, .ref a_out, .int m_outCount, .ref a_root, .ref a_rest, .ref a_square, .ref a_part, .ref a_plus, .ref a_minus, .ref a_low, .ref a_high, .ref a_one, .ref a_two, .int m_lowSign, .int m_highSign, .ref a_otherLow, .ref a_otherHigh, .ref a_digit, .ref a_topA, .ref a_underA, .ref a_topB, .ref a_underB, .ref a_quotient, .ref a_otherQuotient])), (a_n, aJ g 64 c_n), (a_d, aJ g 64 c_d), (a_r, aJ g 64 c_r), (a_count, aI g 8 c_count), (a_newN, aJ g 8 c_newN), (a_newD, aJ g 8 c_newD), (a_newR, aJ g 8 c_newR)] → va_S A s.heap H locs → lv_has ls 11 [(0, .ref mo), (1, .int vK), (2, .int vI)] → W p l e rm_Model_root s m args below meth c H locs 0 0 Q (F0 m 38 ls [.long y]) := by
        intro H locs ls hP hD hS hl
        refine lv_lstore_n (lv' := [(3, .long y), (0, .ref mo), (1, .int vK), (2, .int vI)]) hx hb d_Model_root_38 rfl hl (by decide) rfl (fun ls hl => ?_)
        refine lv_aload_n hx hb d_Model_root_39 rfl (lv_at hl 1 rfl) ?_
        refine va_get (D := D) (ci := 5) (v := .ref a_count) (C := R_Model) (T := F_Model) (N := 31) hx hb htt i_Model hown hK hP 0 rfl rfl 3 (by decide) (htt _ kf_Model_19) (fun _ h9 => h9) rfl d_Model_root_40 ?_
        refine lv_iload_n hx hb d_Model_root_43 rfl (lv_at hl 3 rfl) ?_
        obtain ⟨h_4, hm⟩ := sd_mg hm
        refine sd_iald hx hb hK hP 4 rfl h_4 d_Model_root_44 ?_
        obtain ⟨y_1, hv, hm⟩ := sd_mb1 hm
        have J61_5 : ∀ (H : Heap) (locs : List Loc) (ls : Array Slot), va_P D classes [(mo, .inr (5, [.ref a_n, .ref a_d, .ref a_r, .ref a_count, .ref a_newN, .ref a_newD, .ref a_newR, .int m_made, .ref a_out, .int m_outCount, .ref a_root, .ref a_rest, .ref a_square, .ref a_part, .ref a_plus, .ref a_minus, .ref a_low, .ref a_high, .ref a_one, .ref a_two, .int m_lowSign, .int m_highSign, .ref a_otherLow, .ref a_otherHigh, .ref a_digit, .ref a_topA, .ref a_underA, .ref a_topB, .ref a_underB, .ref a_quotient, .ref a_otherQuotient])), (a_n, aJ g 64 c_n), (a_d, aJ g 64 c_d), (a_r, aJ g 64 c_r), (a_count, aI g 8 c_count), (a_newN, aJ g 8 c_newN), (a_newD, aJ g 8 c_newD), (a_newR, aJ g 8 c_newR)] H → va_D A [(mo, .inr (5, [.ref a_n, .ref a_d, .ref a_r, .ref a_count, .ref a_newN, .ref a_newD, .ref a_newR, .int m_made, .ref a_out, .int m_outCount, .ref a_root, .ref a_rest, .ref a_square, .ref a_part, .ref a_plus, .ref a_minus, .ref a_low, .ref a_high, .ref a_one, .ref a_two, .int m_lowSign, .int m_highSign, .ref a_otherLow, .ref a_otherHigh, .ref a_digit, .ref a_topA, .ref a_underA, .ref a_topB, .ref a_underB, .ref a_quotient, .ref a_otherQuotient])), (a_n, aJ g 64 c_n), (a_d, aJ g 64 c_d), (a_r, aJ g 64 c_r), (a_count, aI g 8 c_count), (a_newN, aJ g 8 c_newN), (a_newD, aJ g 8 c_newD), (a_newR, aJ g 8 c_newR)] → va_S A s.heap H locs → lv_has ls 11 [(0, .ref mo), (1, .int vK), (2, .int vI), (3, .long y)] → W p l e rm_Model_root s m args below meth c H locs 0 0 Q (F0 m 61 ls [.long y_1]) := by
          intro H locs ls hP hD hS hl
          refine lv_lstore (lv' := [(5, .long y_1), (0, .ref mo), (1, .int vK), (2, .int vI), (3, .long y)]) hx hb d_Model_root_61 hl (by decide) rfl (fun ls hl => ?_)
          refine lv_aload_n hx hb d_Model_root_63 rfl (lv_at hl 1 rfl) ?_
          refine lv_iload_n hx hb d_Model_root_64 rfl (lv_at hl 3 rfl) ?_
          obtain ⟨r_2, hc, hm⟩ := sd_mb1 hm
          refine sd_ci0 (wr := [(a_n, aJ g 64 c_n), (a_d, aJ g 64 c_d), (a_newN, aJ g 8 c_newN), (a_newD, aJ g 8 c_newD), (a_newR, aJ g 8 c_newR)]) (w2 := [(a_n, aJ g 64 c_n), (a_d, aJ g 64 c_d), (a_newN, aJ g 8 c_newN), (a_newD, aJ g 8 c_newD), (a_newR, aJ g 8 c_newR), (mo, .inr (5, [.ref a_n, .ref a_d, .ref a_r, .ref a_count, .ref a_newN, .ref a_newD, .ref a_newR, .int m_made, .ref a_out, .int m_outCount, .ref a_root, .ref a_rest, .ref a_square, .ref a_part, .ref a_plus, .ref a_minus, .ref a_low, .ref a_high, .ref a_one, .ref a_two, .int m_lowSign, .int m_highSign, .ref a_otherLow, .ref a_otherHigh, .ref a_digit, .ref a_topA, .ref a_underA, .ref a_topB, .ref a_underB, .ref a_quotient, .ref a_otherQuotient])), (a_r, aJ g 64 c_r), (a_count, aI g 8 c_count)]) (sd_runV (rest := []) (As := [.int vI]) S (ct_Model_fraction l D g mo a_n a_d a_r a_count a_newN a_newD a_newR a_out a_root a_rest a_square a_part a_plus a_minus a_low a_high a_one a_two a_otherLow a_otherHigh a_digit a_topA a_underA a_topB a_underB a_quotient a_otherQuotient (H.size) vI m_made m_outCount m_lowSign m_highSign c_r c_count F (r_2) hc) kl_Model_121 (by decide) (by decide) hK hP hD [0, 3, 4] rfl (by decide) rfl hl d_Model_root_65 rfl (Nat.le_of_ble_eq_true rfl) ⟨Nat.zero_le _, Nat.zero_le _⟩ 0 rfl rfl) hP hD hS hA [0, 3, 4] [1, 2, 5, 6, 7] rfl rfl (by decide) (by decide) rfl (fun H locs hP hD hS => ?_)
          refine W.eq (g2 := F0 m 68 ls [.int r_2]) rfl ?_
          refine lv_if_eq (tgt := 77) hx hb d_Model_root_68 (by decide) (fun hc => ?_) (fun hc => ?_)
          · have hm := sd_mt hc hm
            refine lv_bipush (v := (-2 : Int32)) hx hb d_Model_root_77 (by decide) ?_
            exact sd_i1ret (u := (m_made, c_n, c_d, c_r, c_count, c_newN, c_newD, c_newR)) hQ hx hb hr hlk hK (hP.sub [5, 0, 1, 6, 7, 2, 3, 4] rfl) (hD.sub [5, 0, 1, 6, 7, 2, 3, 4] (by decide) rfl) hS (Option.some.inj hm).symm d_Model_root_79
          · have hm := sd_mf hc hm
            refine lv_lload_n hx hb d_Model_root_71 rfl (lv_at hl 4 rfl) ?_
            refine lv_lconst (v := (0 : Int64)) hx hb d_Model_root_72 (by decide) ?_
            refine sd_lge (tgt := 80) hx hb d_Model_root_73 d_Model_root_74 (by decide) (fun hc => ?_) (fun hc => ?_)
            · have hm := sd_mt hc hm
              refine lv_lload_n hx hb d_Model_root_80 rfl (lv_at hl 4 rfl) ?_
              refine lv_lload hx hb d_Model_root_81 (lv_at hl 0 rfl) ?_
              refine lv_lmul hx hb d_Model_root_83 ?_
              refine sd_ldc2 (v := (100000000 : Int64)) hx hb hown (htt _ km_Model_124) d_Model_root_84 ?_
              refine sd_lle (tgt := 94) hx hb d_Model_root_87 d_Model_root_88 (by decide) (fun hc => ?_) (fun hc => ?_)
              · have hm := sd_mt hc hm
                refine lv_aload_n hx hb d_Model_root_94 rfl (lv_at hl 1 rfl) ?_
                refine lv_iconst (v := (0 : Int32)) hx hb d_Model_root_95 (by decide) ?_
                refine sd_put (ci := 5) (v := .int (0 : Int32)) (ty := .int) (C := R_Model) (T := F_Model) (N := 31) (ws2 := [(a_n, aJ g 64 c_n), (a_d, aJ g 64 c_d), (a_newN, aJ g 8 c_newN), (a_newD, aJ g 8 c_newD), (a_newR, aJ g 8 c_newR), (mo, .inr (5, [.ref a_n, .ref a_d, .ref a_r, .ref a_count, .ref a_newN, .ref a_newD, .ref a_newR, .int (0 : Int32), .ref a_out, .int m_outCount, .ref a_root, .ref a_rest, .ref a_square, .ref a_part, .ref a_plus, .ref a_minus, .ref a_low, .ref a_high, .ref a_one, .ref a_two, .int m_lowSign, .int m_highSign, .ref a_otherLow, .ref a_otherHigh, .ref a_digit, .ref a_topA, .ref a_underA, .ref a_topB, .ref a_underB, .ref a_quotient, .ref a_otherQuotient])), (a_r, aJ g 64 c_r), (a_count, aI g 8 c_count)]) hx hb htt i_Model t_Model t_Model_ok n_Model hown hK hP hD hS 5 rfl rfl 7 (by decide) kf_Model_97 (fun _ h9 => h9) rfl (by decide +kernel) rfl rfl (Nat.le_of_ble_eq_true rfl) rfl d_Model_root_96 (fun H locs hP hD hS => ?_)
                refine lv_lload_n hx hb d_Model_root_99 rfl (lv_at hl 4 rfl) ?_
                refine lv_lconst (v := (0 : Int64)) hx hb d_Model_root_100 (by decide) ?_
                refine sd_lle (tgt := 173) hx hb d_Model_root_101 d_Model_root_102 (by decide) (fun hc => ?_) (fun hc => ?_)
                · have hm := sd_mt hc hm
                  refine lv_aload_n hx hb d_Model_root_173 rfl (lv_at hl 1 rfl) ?_
                  refine lv_iload_n hx hb d_Model_root_174 rfl (lv_at hl 2 rfl) ?_
                  obtain ⟨r_3, uan, uad, uar, uacount, hc, hm⟩ := sd_mb5 hm
                  refine sd_ci1 (wr := []) (w2 := [(mo, .inr (5, [.ref a_n, .ref a_d, .ref a_r, .ref a_count, .ref a_newN, .ref a_newD, .ref a_newR, .int (0 : Int32), .ref a_out, .int m_outCount, .ref a_root, .ref a_rest, .ref a_square, .ref a_part, .ref a_plus, .ref a_minus, .ref a_low, .ref a_high, .ref a_one, .ref a_two, .int m_lowSign, .int m_highSign, .ref a_otherLow, .ref a_otherHigh, .ref a_digit, .ref a_topA, .ref a_underA, .ref a_topB, .ref a_underB, .ref a_quotient, .ref a_otherQuotient])), (a_n, aJ g 64 uan), (a_d, aJ g 64 uad), (a_r, aJ g 64 uar), (a_count, aI g 8 uacount), (a_newN, aJ g 8 c_newN), (a_newD, aJ g 8 c_newD), (a_newR, aJ g 8 c_newR)]) (sd_runV (rest := []) (As := [.int vK]) S (ct_Model_keep l D g mo a_n a_d a_r a_count a_newN a_newD a_newR a_out a_root a_rest a_square a_part a_plus a_minus a_low a_high a_one a_two a_otherLow a_otherHigh a_digit a_topA a_underA a_topB a_underB a_quotient a_otherQuotient (H.size) vK (0 : Int32) m_outCount m_lowSign m_highSign c_n c_d c_r c_count c_newN c_newD c_newR F (r_3, uan, uad, uar, uacount) hc) kl_Model_117 (by decide) (by decide) hK hP hD [5, 0, 1, 6, 7, 2, 3, 4] rfl (by decide) rfl hl d_Model_root_175 rfl (Nat.le_of_ble_eq_true rfl) ⟨Nat.zero_le _, Nat.zero_le _⟩ 5 rfl rfl) hP hD hS hA [5, 0, 1, 6, 7, 2, 3, 4] [] rfl rfl (by decide) (by decide) rfl (fun H locs hP hD hS => ?_)
                  refine W.eq (g2 := F0 m 178 ls [.int r_3]) rfl ?_
                  refine lv_pop hx hb d_Model_root_178 rfl ?_
                  refine lv_iconst (v := (0 : Int32)) hx hb d_Model_root_179 (by decide) ?_
                  exact sd_i1ret (u := ((0 : Int32), uan, uad, uar, uacount, c_newN, c_newD, c_newR)) hQ hx hb hr hlk hK (hP.sub [0, 1, 2, 3, 4, 5, 6, 7] rfl) (hD.sub [0, 1, 2, 3, 4, 5, 6, 7] (by decide) rfl) hS (Option.some.inj hm).symm d_Model_root_180
                · have hm := sd_mf hc hm
                  refine lv_lconst (v := (1 : Int64)) hx hb d_Model_root_105 (by decide) ?_
                  refine lv_lstore (lv' := [(7, .long (1 : Int64)), (5, .long y_1), (0, .ref mo), (1, .int vK), (2, .int vI), (3, .long y)]) hx hb d_Model_root_106 hl (by decide) rfl (fun ls hl => ?_)
                  refine sd_ldc2 (v := (2 : Int64)) hx hb hown (htt _ km_Model_126) d_Model_root_108 ?_
                  refine lv_lstore (lv' := [(9, .long (2 : Int64)), (7, .long (1 : Int64)), (5, .long y_1), (0, .ref mo), (1, .int vK), (2, .int vI), (3, .long y)]) hx hb d_Model_root_111 hl (by decide) rfl (fun ls hl => ?_)
                  have L113 : ∀ (fu : Nat) (x7 : Int64) (x9 : Int64) (rx7 : Int64), mf_Model_root_L113 y y_1 fu x7 x9 = some (rx7) → ∀ (H : Heap) (locs : List Loc) (ls : Array Slot), va_P D classes [(a_n, aJ g 64 c_n), (a_d, aJ g 64 c_d), (a_newN, aJ g 8 c_newN), (a_newD, aJ g 8 c_newD), (a_newR, aJ g 8 c_newR), (mo, .inr (5, [.ref a_n, .ref a_d, .ref a_r, .ref a_count, .ref a_newN, .ref a_newD, .ref a_newR, .int (0 : Int32), .ref a_out, .int m_outCount, .ref a_root, .ref a_rest, .ref a_square, .ref a_part, .ref a_plus, .ref a_minus, .ref a_low, .ref a_high, .ref a_one, .ref a_two, .int m_lowSign, .int m_highSign, .ref a_otherLow, .ref a_otherHigh, .ref a_digit, .ref a_topA, .ref a_underA, .ref a_topB, .ref a_underB, .ref a_quotient, .ref a_otherQuotient])), (a_r, aJ g 64 c_r), (a_count, aI g 8 c_count)] H → va_D A [(a_n, aJ g 64 c_n), (a_d, aJ g 64 c_d), (a_newN, aJ g 8 c_newN), (a_newD, aJ g 8 c_newD), (a_newR, aJ g 8 c_newR), (mo, .inr (5, [.ref a_n, .ref a_d, .ref a_r, .ref a_count, .ref a_newN, .ref a_newD, .ref a_newR, .int (0 : Int32), .ref a_out, .int m_outCount, .ref a_root, .ref a_rest, .ref a_square, .ref a_part, .ref a_plus, .ref a_minus, .ref a_low, .ref a_high, .ref a_one, .ref a_two, .int m_lowSign, .int m_highSign, .ref a_otherLow, .ref a_otherHigh, .ref a_digit, .ref a_topA, .ref a_underA, .ref a_topB, .ref a_underB, .ref a_quotient, .ref a_otherQuotient])), (a_r, aJ g 64 c_r), (a_count, aI g 8 c_count)] → va_S A s.heap H locs → lv_has ls 11 [(0, .ref mo), (1, .int vK), (3, .long y), (5, .long y_1), (7, .long x7), (9, .long x9)] → (∀ (H : Heap) (locs : List Loc) (ls : Array Slot), va_P D classes [(a_n, aJ g 64 c_n), (a_d, aJ g 64 c_d), (a_newN, aJ g 8 c_newN), (a_newD, aJ g 8 c_newD), (a_newR, aJ g 8 c_newR), (mo, .inr (5, [.ref a_n, .ref a_d, .ref a_r, .ref a_count, .ref a_newN, .ref a_newD, .ref a_newR, .int (0 : Int32), .ref a_out, .int m_outCount, .ref a_root, .ref a_rest, .ref a_square, .ref a_part, .ref a_plus, .ref a_minus, .ref a_low, .ref a_high, .ref a_one, .ref a_two, .int m_lowSign, .int m_highSign, .ref a_otherLow, .ref a_otherHigh, .ref a_digit, .ref a_topA, .ref a_underA, .ref a_topB, .ref a_underB, .ref a_quotient, .ref a_otherQuotient])), (a_r, aJ g 64 c_r), (a_count, aI g 8 c_count)] H → va_D A [(a_n, aJ g 64 c_n), (a_d, aJ g 64 c_d), (a_newN, aJ g 8 c_newN), (a_newD, aJ g 8 c_newD), (a_newR, aJ g 8 c_newR), (mo, .inr (5, [.ref a_n, .ref a_d, .ref a_r, .ref a_count, .ref a_newN, .ref a_newD, .ref a_newR, .int (0 : Int32), .ref a_out, .int m_outCount, .ref a_root, .ref a_rest, .ref a_square, .ref a_part, .ref a_plus, .ref a_minus, .ref a_low, .ref a_high, .ref a_one, .ref a_two, .int m_lowSign, .int m_highSign, .ref a_otherLow, .ref a_otherHigh, .ref a_digit, .ref a_topA, .ref a_underA, .ref a_topB, .ref a_underB, .ref a_quotient, .ref a_otherQuotient])), (a_r, aJ g 64 c_r), (a_count, aI g 8 c_count)] → va_S A s.heap H locs → lv_has ls 11 [(0, .ref mo), (1, .int vK), (3, .long y), (5, .long y_1), (7, .long rx7)] → W p l e rm_Model_root s m args below meth c H locs 0 0 Q (F0 m 154 ls [])) → W p l e rm_Model_root s m args below meth c H locs 0 0 Q (F0 m 113 ls []) := by
                    intro fu
                    induction fu with
                    | zero => intro x7 x9 rx7 hm; exact absurd (show (none : Option (Int64)) = some (rx7) from hm) (fun h => nomatch h)
                    | succ fu ih =>
                      intro x7 x9 rx7 hm H locs ls hP hD hS hl kx154
                      rw [mf_Model_root_L113] at hm
                      refine lv_lload hx hb d_Model_root_113 (lv_at hl 5 rfl) ?_
                      refine lv_lload hx hb d_Model_root_115 (lv_at hl 5 rfl) ?_
                      refine lv_lmul hx hb d_Model_root_117 ?_
                      refine lv_lload_n hx hb d_Model_root_118 rfl (lv_at hl 2 rfl) ?_
                      refine lv_lload hx hb d_Model_root_119 (lv_at hl 3 rfl) ?_
                      refine lv_lmul hx hb d_Model_root_121 ?_
                      refine sd_lgt (tgt := 154) hx hb d_Model_root_122 d_Model_root_123 (by decide) (fun hc => ?_) (fun hc => ?_)
                      · have hm := sd_mt hc hm
                        cases hm
                        exact kx154 H locs ls (hP.sub [0, 1, 2, 3, 4, 5, 6, 7] rfl) (hD.sub [0, 1, 2, 3, 4, 5, 6, 7] (by decide) rfl) hS (lv_sub hl [0, 1, 2, 3, 4] rfl)
                      · have hm := sd_mf hc hm
                        refine lv_lload_n hx hb d_Model_root_126 rfl (lv_at hl 2 rfl) ?_
                        refine lv_lload hx hb d_Model_root_127 (lv_at hl 3 rfl) ?_
                        refine lv_lmul hx hb d_Model_root_129 ?_
                        refine lv_lload hx hb d_Model_root_130 (lv_at hl 5 rfl) ?_
                        refine lv_lload hx hb d_Model_root_132 (lv_at hl 5 rfl) ?_
                        refine lv_lmul hx hb d_Model_root_134 ?_
                        obtain ⟨h_7, hm⟩ := sd_mg hm
                        refine lv_lrem hx hb d_Model_root_135 (sd_nzJ h_7) ?_
                        refine lv_lconst (v := (0 : Int64)) hx hb d_Model_root_136 (by decide) ?_
                        obtain ⟨x7_1, hv, hm⟩ := sd_mb1 hm
                        have J145_8 : ∀ (H : Heap) (locs : List Loc) (ls : Array Slot), va_P D classes [(a_n, aJ g 64 c_n), (a_d, aJ g 64 c_d), (a_newN, aJ g 8 c_newN), (a_newD, aJ g 8 c_newD), (a_newR, aJ g 8 c_newR), (mo, .inr (5, [.ref a_n, .ref a_d, .ref a_r, .ref a_count, .ref a_newN, .ref a_newD, .ref a_newR, .int (0 : Int32), .ref a_out, .int m_outCount, .ref a_root, .ref a_rest, .ref a_square, .ref a_part, .ref a_plus, .ref a_minus, .ref a_low, .ref a_high, .ref a_one, .ref a_two, .int m_lowSign, .int m_highSign, .ref a_otherLow, .ref a_otherHigh, .ref a_digit, .ref a_topA, .ref a_underA, .ref a_topB, .ref a_underB, .ref a_quotient, .ref a_otherQuotient])), (a_r, aJ g 64 c_r), (a_count, aI g 8 c_count)] H → va_D A [(a_n, aJ g 64 c_n), (a_d, aJ g 64 c_d), (a_newN, aJ g 8 c_newN), (a_newD, aJ g 8 c_newD), (a_newR, aJ g 8 c_newR), (mo, .inr (5, [.ref a_n, .ref a_d, .ref a_r, .ref a_count, .ref a_newN, .ref a_newD, .ref a_newR, .int (0 : Int32), .ref a_out, .int m_outCount, .ref a_root, .ref a_rest, .ref a_square, .ref a_part, .ref a_plus, .ref a_minus, .ref a_low, .ref a_high, .ref a_one, .ref a_two, .int m_lowSign, .int m_highSign, .ref a_otherLow, .ref a_otherHigh, .ref a_digit, .ref a_topA, .ref a_underA, .ref a_topB, .ref a_underB, .ref a_quotient, .ref a_otherQuotient])), (a_r, aJ g 64 c_r), (a_count, aI g 8 c_count)] → va_S A s.heap H locs → lv_has ls 11 [(0, .ref mo), (1, .int vK), (3, .long y), (5, .long y_1), (7, .long x7_1), (9, .long x9)] → W p l e rm_Model_root s m args below meth c H locs 0 0 Q (F0 m 145 ls []) := by
                          intro H locs ls hP hD hS hl
                          refine lv_lload hx hb d_Model_root_145 (lv_at hl 5 rfl) ?_
                          refine lv_lconst (v := (1 : Int64)) hx hb d_Model_root_147 (by decide) ?_
                          refine lv_ladd hx hb d_Model_root_148 ?_
                          obtain ⟨x9_1, ex9_1, hm⟩ := sd_mlet hm
                          refine sd_topj ex9_1 ?_
                          refine lv_lstore (lv' := [(9, .long x9_1), (0, .ref mo), (1, .int vK), (3, .long y), (5, .long y_1), (7, .long x7_1)]) hx hb d_Model_root_149 hl (by decide) rfl (fun ls hl => ?_)
                          refine lv_goto (tgt := 113) hx hb d_Model_root_151 (by decide) ?_
                          exact ih x7_1 x9_1 rx7 hm H locs ls (hP.sub [0, 1, 2, 3, 4, 5, 6, 7] rfl) (hD.sub [0, 1, 2, 3, 4, 5, 6, 7] (by decide) rfl) hS (lv_sub hl [1, 2, 3, 4, 5, 0] rfl) kx154
                        replace hm := hv
                        refine sd_lne (tgt := 145) hx hb d_Model_root_137 d_Model_root_138 (by decide) (fun hc => ?_) (fun hc => ?_)
                        · have hm := sd_mf hc hm
                          cases hm
                          exact J145_8 H locs ls (hP.sub [0, 1, 2, 3, 4, 5, 6, 7] rfl) (hD.sub [0, 1, 2, 3, 4, 5, 6, 7] (by decide) rfl) hS (lv_sub hl [0, 1, 2, 3, 4, 5] rfl)
                        · have hm := sd_mt hc hm
                          refine lv_lload hx hb d_Model_root_141 (lv_at hl 5 rfl) ?_
                          refine lv_lstore (lv' := [(7, .long x9), (0, .ref mo), (1, .int vK), (3, .long y), (5, .long y_1), (9, .long x9)]) hx hb d_Model_root_143 hl (by decide) rfl (fun ls hl => ?_)
                          cases hm
                          exact J145_8 H locs ls (hP.sub [0, 1, 2, 3, 4, 5, 6, 7] rfl) (hD.sub [0, 1, 2, 3, 4, 5, 6, 7] (by decide) rfl) hS (lv_sub hl [1, 2, 3, 4, 0, 5] rfl)
                  obtain ⟨rx7, hc, hm⟩ := sd_mb1 hm
                  refine L113 F (1 : Int64) (2 : Int64) rx7 hc H locs ls (hP.sub [0, 1, 2, 3, 4, 5, 6, 7] rfl) (hD.sub [0, 1, 2, 3, 4, 5, 6, 7] (by decide) rfl) hS (lv_sub hl [3, 4, 6, 2, 1, 0] rfl) ?_
                  intro H locs ls hP hD hS hl
                  refine lv_aload_n hx hb d_Model_root_154 rfl (lv_at hl 0 rfl) ?_
                  refine lv_lload hx hb d_Model_root_155 (lv_at hl 4 rfl) ?_
                  refine lv_lload hx hb d_Model_root_157 (lv_at hl 3 rfl) ?_
                  refine lv_lload_n hx hb d_Model_root_159 rfl (lv_at hl 2 rfl) ?_
                  refine lv_lload hx hb d_Model_root_160 (lv_at hl 3 rfl) ?_
                  refine lv_lmul hx hb d_Model_root_162 ?_
                  refine lv_lload hx hb d_Model_root_163 (lv_at hl 4 rfl) ?_
                  refine lv_lload hx hb d_Model_root_165 (lv_at hl 4 rfl) ?_
                  refine lv_lmul hx hb d_Model_root_167 ?_
                  obtain ⟨h_9, hm⟩ := sd_mg hm
                  refine lv_ldiv hx hb d_Model_root_168 (sd_nzJ h_9) ?_
                  obtain ⟨r_4, umo, uanewN, uanewD, uanewR, hc, hm⟩ := sd_mb5 hm
                  refine sd_ci1 (wr := [(a_n, aJ g 64 c_n), (a_d, aJ g 64 c_d), (a_r, aJ g 64 c_r), (a_count, aI g 8 c_count)]) (w2 := [(a_n, aJ g 64 c_n), (a_d, aJ g 64 c_d), (a_r, aJ g 64 c_r), (a_count, aI g 8 c_count), (mo, .inr (5, [.ref a_n, .ref a_d, .ref a_r, .ref a_count, .ref a_newN, .ref a_newD, .ref a_newR, .int umo, .ref a_out, .int m_outCount, .ref a_root, .ref a_rest, .ref a_square, .ref a_part, .ref a_plus, .ref a_minus, .ref a_low, .ref a_high, .ref a_one, .ref a_two, .int m_lowSign, .int m_highSign, .ref a_otherLow, .ref a_otherHigh, .ref a_digit, .ref a_topA, .ref a_underA, .ref a_topB, .ref a_underB, .ref a_quotient, .ref a_otherQuotient])), (a_newN, aJ g 8 uanewN), (a_newD, aJ g 8 uanewD), (a_newR, aJ g 8 uanewR)]) (sd_runV (rest := []) (As := [.long rx7, .long y_1, .long ((y * y_1) / (rx7 * rx7))]) S (ct_Model_addTerm l D g mo a_n a_d a_r a_count a_newN a_newD a_newR a_out a_root a_rest a_square a_part a_plus a_minus a_low a_high a_one a_two a_otherLow a_otherHigh a_digit a_topA a_underA a_topB a_underB a_quotient a_otherQuotient (H.size) rx7 y_1 ((y * y_1) / (rx7 * rx7)) (0 : Int32) m_outCount m_lowSign m_highSign c_newN c_newD c_newR F (r_4, umo, uanewN, uanewD, uanewR) hc) kl_Model_113 (by decide) (by decide) hK hP hD [5, 2, 3, 4] rfl (by decide) rfl hl d_Model_root_169 rfl (Nat.le_of_ble_eq_true rfl) ⟨Nat.zero_le _, Nat.zero_le _⟩ 5 rfl rfl) hP hD hS hA [5, 2, 3, 4] [0, 1, 6, 7] rfl rfl (by decide) (by decide) rfl (fun H locs hP hD hS => ?_)
                  refine W.eq (g2 := F0 m 172 ls [.int r_4]) rfl ?_
                  refine lv_pop hx hb d_Model_root_172 rfl ?_
                  refine lv_aload_n hx hb d_Model_root_173 rfl (lv_at hl 0 rfl) ?_
                  refine lv_iload_n hx hb d_Model_root_174 rfl (lv_at hl 1 rfl) ?_
                  obtain ⟨r_5, uan_1, uad_1, uar_1, uacount_1, hc, hm⟩ := sd_mb5 hm
                  refine sd_ci1 (wr := []) (w2 := [(mo, .inr (5, [.ref a_n, .ref a_d, .ref a_r, .ref a_count, .ref a_newN, .ref a_newD, .ref a_newR, .int umo, .ref a_out, .int m_outCount, .ref a_root, .ref a_rest, .ref a_square, .ref a_part, .ref a_plus, .ref a_minus, .ref a_low, .ref a_high, .ref a_one, .ref a_two, .int m_lowSign, .int m_highSign, .ref a_otherLow, .ref a_otherHigh, .ref a_digit, .ref a_topA, .ref a_underA, .ref a_topB, .ref a_underB, .ref a_quotient, .ref a_otherQuotient])), (a_n, aJ g 64 uan_1), (a_d, aJ g 64 uad_1), (a_r, aJ g 64 uar_1), (a_count, aI g 8 uacount_1), (a_newN, aJ g 8 uanewN), (a_newD, aJ g 8 uanewD), (a_newR, aJ g 8 uanewR)]) (sd_runV (rest := []) (As := [.int vK]) S (ct_Model_keep l D g mo a_n a_d a_r a_count a_newN a_newD a_newR a_out a_root a_rest a_square a_part a_plus a_minus a_low a_high a_one a_two a_otherLow a_otherHigh a_digit a_topA a_underA a_topB a_underB a_quotient a_otherQuotient (H.size) vK umo m_outCount m_lowSign m_highSign c_n c_d c_r c_count uanewN uanewD uanewR F (r_5, uan_1, uad_1, uar_1, uacount_1) hc) kl_Model_117 (by decide) (by decide) hK hP hD [4, 0, 1, 2, 3, 5, 6, 7] rfl (by decide) rfl hl d_Model_root_175 rfl (Nat.le_of_ble_eq_true rfl) ⟨Nat.zero_le _, Nat.zero_le _⟩ 4 rfl rfl) hP hD hS hA [4, 0, 1, 2, 3, 5, 6, 7] [] rfl rfl (by decide) (by decide) rfl (fun H locs hP hD hS => ?_)
                  refine W.eq (g2 := F0 m 178 ls [.int r_5]) rfl ?_
                  refine lv_pop hx hb d_Model_root_178 rfl ?_
                  refine lv_iconst (v := (0 : Int32)) hx hb d_Model_root_179 (by decide) ?_
                  exact sd_i1ret (u := (umo, uan_1, uad_1, uar_1, uacount_1, uanewN, uanewD, uanewR)) hQ hx hb hr hlk hK (hP.sub [0, 1, 2, 3, 4, 5, 6, 7] rfl) (hD.sub [0, 1, 2, 3, 4, 5, 6, 7] (by decide) rfl) hS (Option.some.inj hm).symm d_Model_root_180
              · have hm := sd_mf hc hm
                refine lv_bipush (v := (-3 : Int32)) hx hb d_Model_root_91 (by decide) ?_
                exact sd_i1ret (u := (m_made, c_n, c_d, c_r, c_count, c_newN, c_newD, c_newR)) hQ hx hb hr hlk hK (hP.sub [5, 0, 1, 6, 7, 2, 3, 4] rfl) (hD.sub [5, 0, 1, 6, 7, 2, 3, 4] (by decide) rfl) hS (Option.some.inj hm).symm d_Model_root_93
            · have hm := sd_mf hc hm
              refine lv_bipush (v := (-2 : Int32)) hx hb d_Model_root_77 (by decide) ?_
              exact sd_i1ret (u := (m_made, c_n, c_d, c_r, c_count, c_newN, c_newD, c_newR)) hQ hx hb hr hlk hK (hP.sub [5, 0, 1, 6, 7, 2, 3, 4] rfl) (hD.sub [5, 0, 1, 6, 7, 2, 3, 4] (by decide) rfl) hS (Option.some.inj hm).symm d_Model_root_79
        replace hm := hv
        refine lv_if_ne (tgt := 52) hx hb d_Model_root_45 (by decide) (fun hc => ?_) (fun hc => ?_)
        · have hm := sd_mf hc hm
          refine lv_aload_n hx hb d_Model_root_52 rfl (lv_at hl 1 rfl) ?_
          refine va_get (D := D) (ci := 5) (v := .ref a_d) (C := R_Model) (T := F_Model) (N := 31) hx hb htt i_Model hown hK hP 0 rfl rfl 1 (by decide) (htt _ kf_Model_13) (fun _ h9 => h9) rfl d_Model_root_53 ?_
          refine lv_bipush (v := (8 : Int32)) hx hb d_Model_root_56 (by decide) ?_
          refine lv_iload_n hx hb d_Model_root_58 rfl (lv_at hl 3 rfl) ?_
          refine lv_imul hx hb d_Model_root_59 ?_
          obtain ⟨h_6, hm⟩ := sd_mg hm
          refine sd_lald hx hb hK hP 2 rfl h_6 d_Model_root_60 ?_
          cases hm
          exact J61_5 H locs ls (hP.sub [0, 1, 2, 3, 4, 5, 6, 7] rfl) (hD.sub [0, 1, 2, 3, 4, 5, 6, 7] (by decide) rfl) hS (lv_sub hl [1, 2, 3, 0] rfl)
        · have hm := sd_mt hc hm
          refine lv_lconst (v := (1 : Int64)) hx hb d_Model_root_48 (by decide) ?_
          refine lv_goto (tgt := 61) hx hb d_Model_root_49 (by decide) ?_
          cases hm
          exact J61_5 H locs ls (hP.sub [0, 1, 2, 3, 4, 5, 6, 7] rfl) (hD.sub [0, 1, 2, 3, 4, 5, 6, 7] (by decide) rfl) hS (lv_sub hl [1, 2, 3, 0] rfl)
      replace hm := hv
      refine lv_if_ne (tgt := 29) hx hb d_Model_root_22 (by decide) (fun hc => ?_) (fun hc => ?_)
      · have hm := sd_mf hc hm
        refine lv_aload_n hx hb d_Model_root_29 rfl (lv_at hl 0 rfl) ?_
        refine va_get (D := D) (ci := 5) (v := .ref a_n) (C := R_Model) (T := F_Model) (N := 31) hx hb htt i_Model hown hK hP 0 rfl rfl 0 (by decide) (htt _ kf_Model_9) (fun _ h9 => h9) rfl d_Model_root_30 ?_
        refine lv_bipush (v := (8 : Int32)) hx hb d_Model_root_33 (by decide) ?_
        refine lv_iload_n hx hb d_Model_root_35 rfl (lv_at hl 2 rfl) ?_
        refine lv_imul hx hb d_Model_root_36 ?_
        obtain ⟨h_3, hm⟩ := sd_mg hm
        refine sd_lald hx hb hK hP 1 rfl h_3 d_Model_root_37 ?_
        cases hm
        exact J38_2 H locs ls (hP.sub [0, 1, 2, 3, 4, 5, 6, 7] rfl) (hD.sub [0, 1, 2, 3, 4, 5, 6, 7] (by decide) rfl) hS (lv_sub hl [0, 1, 2] rfl)
      · have hm := sd_mt hc hm
        refine lv_lconst (v := (0 : Int64)) hx hb d_Model_root_25 (by decide) ?_
        refine lv_goto (tgt := 38) hx hb d_Model_root_26 (by decide) ?_
        cases hm
        exact J38_2 H locs ls (hP.sub [0, 1, 2, 3, 4, 5, 6, 7] rfl) (hD.sub [0, 1, 2, 3, 4, 5, 6, 7] (by decide) rfl) hS (lv_sub hl [0, 1, 2] rfl)
    · have hm := sd_mt hc hm
      refine lv_iconst (v := (-1 : Int32)) hx hb d_Model_root_14 (by decide) ?_
      exact sd_i1ret (u := (m_made, c_n, c_d, c_r, c_count, c_newN, c_newD, c_newR)) hQ hx hb hr hlk hK (hP.sub [0, 1, 2, 3, 4, 5, 6, 7] rfl) (hD.sub [0, 1, 2, 3, 4, 5, 6, 7] (by decide) rfl) hS (Option.some.inj hm).symm d_Model_root_15
theorem d_Model_multiplyTerm_0 : decode b_Model_multiplyTerm 0 = .ok (.aload_n 0, 1) := by decide +kernel
theorem d_Model_multiplyTerm_1 : decode b_Model_multiplyTerm 1 = .ok (.getfield 16, 3) := by decide +kernel
theorem d_Model_multiplyTerm_4 : decode b_Model_multiplyTerm 4 = .ok (.iload_n 1, 1) := by decide +kernel
theorem d_Model_multiplyTerm_5 : decode b_Model_multiplyTerm 5 = .ok (.laload, 1) := by decide +kernel
theorem d_Model_multiplyTerm_6 : decode b_Model_multiplyTerm 6 = .ok (.lload 6, 2) := by decide +kernel
theorem d_Model_multiplyTerm_8 : decode b_Model_multiplyTerm 8 = .ok (.invokestatic 101, 3) := by decide +kernel
theorem d_Model_multiplyTerm_11 : decode b_Model_multiplyTerm 11 = .ok (.lstore 8, 2) := by decide +kernel
theorem d_Model_multiplyTerm_13 : decode b_Model_multiplyTerm 13 = .ok (.aload_n 0, 1) := by decide +kernel
theorem d_Model_multiplyTerm_14 : decode b_Model_multiplyTerm 14 = .ok (.getfield 9, 3) := by decide +kernel
theorem d_Model_multiplyTerm_17 : decode b_Model_multiplyTerm 17 = .ok (.iload_n 1, 1) := by decide +kernel
theorem d_Model_multiplyTerm_18 : decode b_Model_multiplyTerm 18 = .ok (.laload, 1) := by decide +kernel
theorem d_Model_multiplyTerm_19 : decode b_Model_multiplyTerm 19 = .ok (.lstore 10, 2) := by decide +kernel
theorem d_Model_multiplyTerm_21 : decode b_Model_multiplyTerm 21 = .ok (.aload_n 0, 1) := by decide +kernel
theorem d_Model_multiplyTerm_22 : decode b_Model_multiplyTerm 22 = .ok (.getfield 13, 3) := by decide +kernel
theorem d_Model_multiplyTerm_25 : decode b_Model_multiplyTerm 25 = .ok (.iload_n 1, 1) := by decide +kernel
theorem d_Model_multiplyTerm_26 : decode b_Model_multiplyTerm 26 = .ok (.laload, 1) := by decide +kernel
theorem d_Model_multiplyTerm_27 : decode b_Model_multiplyTerm 27 = .ok (.lstore 12, 2) := by decide +kernel
theorem d_Model_multiplyTerm_29 : decode b_Model_multiplyTerm 29 = .ok (.lload 10, 2) := by decide +kernel
theorem d_Model_multiplyTerm_31 : decode b_Model_multiplyTerm 31 = .ok (.lload 4, 2) := by decide +kernel
theorem d_Model_multiplyTerm_33 : decode b_Model_multiplyTerm 33 = .ok (.invokestatic 101, 3) := by decide +kernel
theorem d_Model_multiplyTerm_36 : decode b_Model_multiplyTerm 36 = .ok (.lstore 14, 2) := by decide +kernel
theorem d_Model_multiplyTerm_38 : decode b_Model_multiplyTerm 38 = .ok (.lload_n 2, 1) := by decide +kernel
theorem d_Model_multiplyTerm_39 : decode b_Model_multiplyTerm 39 = .ok (.lload 12, 2) := by decide +kernel
theorem d_Model_multiplyTerm_41 : decode b_Model_multiplyTerm 41 = .ok (.invokestatic 101, 3) := by decide +kernel
theorem d_Model_multiplyTerm_44 : decode b_Model_multiplyTerm 44 = .ok (.lstore 16, 2) := by decide +kernel
theorem d_Model_multiplyTerm_46 : decode b_Model_multiplyTerm 46 = .ok (.lload 10, 2) := by decide +kernel
theorem d_Model_multiplyTerm_48 : decode b_Model_multiplyTerm 48 = .ok (.lload 14, 2) := by decide +kernel
theorem d_Model_multiplyTerm_50 : decode b_Model_multiplyTerm 50 = .ok (.ldiv, 1) := by decide +kernel
theorem d_Model_multiplyTerm_51 : decode b_Model_multiplyTerm 51 = .ok (.lstore 10, 2) := by decide +kernel
theorem d_Model_multiplyTerm_53 : decode b_Model_multiplyTerm 53 = .ok (.lload 12, 2) := by decide +kernel
theorem d_Model_multiplyTerm_55 : decode b_Model_multiplyTerm 55 = .ok (.lload 16, 2) := by decide +kernel
theorem d_Model_multiplyTerm_57 : decode b_Model_multiplyTerm 57 = .ok (.ldiv, 1) := by decide +kernel
theorem d_Model_multiplyTerm_58 : decode b_Model_multiplyTerm 58 = .ok (.lstore 12, 2) := by decide +kernel
theorem d_Model_multiplyTerm_60 : decode b_Model_multiplyTerm 60 = .ok (.lload_n 2, 1) := by decide +kernel
theorem d_Model_multiplyTerm_61 : decode b_Model_multiplyTerm 61 = .ok (.lload 16, 2) := by decide +kernel
theorem d_Model_multiplyTerm_63 : decode b_Model_multiplyTerm 63 = .ok (.ldiv, 1) := by decide +kernel
theorem d_Model_multiplyTerm_64 : decode b_Model_multiplyTerm 64 = .ok (.lstore 18, 2) := by decide +kernel
theorem d_Model_multiplyTerm_66 : decode b_Model_multiplyTerm 66 = .ok (.lload 4, 2) := by decide +kernel
theorem d_Model_multiplyTerm_68 : decode b_Model_multiplyTerm 68 = .ok (.lload 14, 2) := by decide +kernel
theorem d_Model_multiplyTerm_70 : decode b_Model_multiplyTerm 70 = .ok (.ldiv, 1) := by decide +kernel
theorem d_Model_multiplyTerm_71 : decode b_Model_multiplyTerm 71 = .ok (.lstore 20, 2) := by decide +kernel
theorem d_Model_multiplyTerm_73 : decode b_Model_multiplyTerm 73 = .ok (.lload 8, 2) := by decide +kernel
theorem d_Model_multiplyTerm_75 : decode b_Model_multiplyTerm 75 = .ok (.lstore 22, 2) := by decide +kernel
theorem d_Model_multiplyTerm_77 : decode b_Model_multiplyTerm 77 = .ok (.lload 22, 2) := by decide +kernel
theorem d_Model_multiplyTerm_79 : decode b_Model_multiplyTerm 79 = .ok (.lload 12, 2) := by decide +kernel
theorem d_Model_multiplyTerm_81 : decode b_Model_multiplyTerm 81 = .ok (.invokestatic 101, 3) := by decide +kernel
theorem d_Model_multiplyTerm_84 : decode b_Model_multiplyTerm 84 = .ok (.lstore 24, 2) := by decide +kernel
theorem d_Model_multiplyTerm_86 : decode b_Model_multiplyTerm 86 = .ok (.lload 22, 2) := by decide +kernel
theorem d_Model_multiplyTerm_88 : decode b_Model_multiplyTerm 88 = .ok (.lload 24, 2) := by decide +kernel
theorem d_Model_multiplyTerm_90 : decode b_Model_multiplyTerm 90 = .ok (.ldiv, 1) := by decide +kernel
theorem d_Model_multiplyTerm_91 : decode b_Model_multiplyTerm 91 = .ok (.lstore 22, 2) := by decide +kernel
theorem d_Model_multiplyTerm_93 : decode b_Model_multiplyTerm 93 = .ok (.lload 12, 2) := by decide +kernel
theorem d_Model_multiplyTerm_95 : decode b_Model_multiplyTerm 95 = .ok (.lload 24, 2) := by decide +kernel
theorem d_Model_multiplyTerm_97 : decode b_Model_multiplyTerm 97 = .ok (.ldiv, 1) := by decide +kernel
theorem d_Model_multiplyTerm_98 : decode b_Model_multiplyTerm 98 = .ok (.lstore 12, 2) := by decide +kernel
theorem d_Model_multiplyTerm_100 : decode b_Model_multiplyTerm 100 = .ok (.lload 22, 2) := by decide +kernel
theorem d_Model_multiplyTerm_102 : decode b_Model_multiplyTerm 102 = .ok (.lload 20, 2) := by decide +kernel
theorem d_Model_multiplyTerm_104 : decode b_Model_multiplyTerm 104 = .ok (.invokestatic 101, 3) := by decide +kernel
theorem d_Model_multiplyTerm_107 : decode b_Model_multiplyTerm 107 = .ok (.lstore 24, 2) := by decide +kernel
theorem d_Model_multiplyTerm_109 : decode b_Model_multiplyTerm 109 = .ok (.lload 22, 2) := by decide +kernel
theorem d_Model_multiplyTerm_111 : decode b_Model_multiplyTerm 111 = .ok (.lload 24, 2) := by decide +kernel
theorem d_Model_multiplyTerm_113 : decode b_Model_multiplyTerm 113 = .ok (.ldiv, 1) := by decide +kernel
theorem d_Model_multiplyTerm_114 : decode b_Model_multiplyTerm 114 = .ok (.lstore 22, 2) := by decide +kernel
theorem d_Model_multiplyTerm_116 : decode b_Model_multiplyTerm 116 = .ok (.lload 20, 2) := by decide +kernel
theorem d_Model_multiplyTerm_118 : decode b_Model_multiplyTerm 118 = .ok (.lload 24, 2) := by decide +kernel
theorem d_Model_multiplyTerm_120 : decode b_Model_multiplyTerm 120 = .ok (.ldiv, 1) := by decide +kernel
theorem d_Model_multiplyTerm_121 : decode b_Model_multiplyTerm 121 = .ok (.lstore 20, 2) := by decide +kernel
theorem d_Model_multiplyTerm_123 : decode b_Model_multiplyTerm 123 = .ok (.lload 10, 2) := by decide +kernel
theorem d_Model_multiplyTerm_125 : decode b_Model_multiplyTerm 125 = .ok (.lload 18, 2) := by decide +kernel
theorem d_Model_multiplyTerm_127 : decode b_Model_multiplyTerm 127 = .ok (.lmul, 1) := by decide +kernel
theorem d_Model_multiplyTerm_128 : decode b_Model_multiplyTerm 128 = .ok (.lstore 26, 2) := by decide +kernel
theorem d_Model_multiplyTerm_130 : decode b_Model_multiplyTerm 130 = .ok (.lload 12, 2) := by decide +kernel
theorem d_Model_multiplyTerm_132 : decode b_Model_multiplyTerm 132 = .ok (.lload 20, 2) := by decide +kernel
theorem d_Model_multiplyTerm_134 : decode b_Model_multiplyTerm 134 = .ok (.lmul, 1) := by decide +kernel
theorem d_Model_multiplyTerm_135 : decode b_Model_multiplyTerm 135 = .ok (.lstore 28, 2) := by decide +kernel
theorem d_Model_multiplyTerm_137 : decode b_Model_multiplyTerm 137 = .ok (.aload_n 0, 1) := by decide +kernel
theorem d_Model_multiplyTerm_138 : decode b_Model_multiplyTerm 138 = .ok (.getfield 16, 3) := by decide +kernel
theorem d_Model_multiplyTerm_141 : decode b_Model_multiplyTerm 141 = .ok (.iload_n 1, 1) := by decide +kernel
theorem d_Model_multiplyTerm_142 : decode b_Model_multiplyTerm 142 = .ok (.laload, 1) := by decide +kernel
theorem d_Model_multiplyTerm_143 : decode b_Model_multiplyTerm 143 = .ok (.lload 8, 2) := by decide +kernel
theorem d_Model_multiplyTerm_145 : decode b_Model_multiplyTerm 145 = .ok (.ldiv, 1) := by decide +kernel
theorem d_Model_multiplyTerm_146 : decode b_Model_multiplyTerm 146 = .ok (.lload 6, 2) := by decide +kernel
theorem d_Model_multiplyTerm_148 : decode b_Model_multiplyTerm 148 = .ok (.lload 8, 2) := by decide +kernel
theorem d_Model_multiplyTerm_150 : decode b_Model_multiplyTerm 150 = .ok (.ldiv, 1) := by decide +kernel
theorem d_Model_multiplyTerm_151 : decode b_Model_multiplyTerm 151 = .ok (.lmul, 1) := by decide +kernel
theorem d_Model_multiplyTerm_152 : decode b_Model_multiplyTerm 152 = .ok (.lstore 30, 2) := by decide +kernel
theorem d_Model_multiplyTerm_154 : decode b_Model_multiplyTerm 154 = .ok (.lload 26, 2) := by decide +kernel
theorem d_Model_multiplyTerm_156 : decode b_Model_multiplyTerm 156 = .ok (.ldc2_w 95, 3) := by decide +kernel
theorem d_Model_multiplyTerm_159 : decode b_Model_multiplyTerm 159 = .ok (.lcmp, 1) := by decide +kernel
theorem d_Model_multiplyTerm_160 : decode b_Model_multiplyTerm 160 = .ok (.ifCond .gt 30, 3) := by decide +kernel
theorem d_Model_multiplyTerm_163 : decode b_Model_multiplyTerm 163 = .ok (.lload 26, 2) := by decide +kernel
theorem d_Model_multiplyTerm_165 : decode b_Model_multiplyTerm 165 = .ok (.ldc2_w 93, 3) := by decide +kernel
theorem d_Model_multiplyTerm_168 : decode b_Model_multiplyTerm 168 = .ok (.lcmp, 1) := by decide +kernel
theorem d_Model_multiplyTerm_169 : decode b_Model_multiplyTerm 169 = .ok (.ifCond .lt 21, 3) := by decide +kernel
theorem d_Model_multiplyTerm_172 : decode b_Model_multiplyTerm 172 = .ok (.lload 28, 2) := by decide +kernel
theorem d_Model_multiplyTerm_174 : decode b_Model_multiplyTerm 174 = .ok (.ldc2_w 95, 3) := by decide +kernel
theorem d_Model_multiplyTerm_177 : decode b_Model_multiplyTerm 177 = .ok (.lcmp, 1) := by decide +kernel
theorem d_Model_multiplyTerm_178 : decode b_Model_multiplyTerm 178 = .ok (.ifCond .gt 12, 3) := by decide +kernel
theorem d_Model_multiplyTerm_181 : decode b_Model_multiplyTerm 181 = .ok (.lload 30, 2) := by decide +kernel
theorem d_Model_multiplyTerm_183 : decode b_Model_multiplyTerm 183 = .ok (.ldc2_w 95, 3) := by decide +kernel
theorem d_Model_multiplyTerm_186 : decode b_Model_multiplyTerm 186 = .ok (.lcmp, 1) := by decide +kernel
theorem d_Model_multiplyTerm_187 : decode b_Model_multiplyTerm 187 = .ok (.ifCond .le 5, 3) := by decide +kernel
theorem d_Model_multiplyTerm_190 : decode b_Model_multiplyTerm 190 = .ok (.iconst 0, 1) := by decide +kernel
theorem d_Model_multiplyTerm_191 : decode b_Model_multiplyTerm 191 = .ok (.ireturn, 1) := by decide +kernel
theorem d_Model_multiplyTerm_192 : decode b_Model_multiplyTerm 192 = .ok (.lload 26, 2) := by decide +kernel
theorem d_Model_multiplyTerm_194 : decode b_Model_multiplyTerm 194 = .ok (.lload 22, 2) := by decide +kernel
theorem d_Model_multiplyTerm_196 : decode b_Model_multiplyTerm 196 = .ok (.lmul, 1) := by decide +kernel
theorem d_Model_multiplyTerm_197 : decode b_Model_multiplyTerm 197 = .ok (.lstore 26, 2) := by decide +kernel
theorem d_Model_multiplyTerm_199 : decode b_Model_multiplyTerm 199 = .ok (.lload 26, 2) := by decide +kernel
theorem d_Model_multiplyTerm_201 : decode b_Model_multiplyTerm 201 = .ok (.ldc2_w 95, 3) := by decide +kernel
theorem d_Model_multiplyTerm_204 : decode b_Model_multiplyTerm 204 = .ok (.lcmp, 1) := by decide +kernel
theorem d_Model_multiplyTerm_205 : decode b_Model_multiplyTerm 205 = .ok (.ifCond .gt 29, 3) := by decide +kernel
theorem d_Model_multiplyTerm_208 : decode b_Model_multiplyTerm 208 = .ok (.lload 26, 2) := by decide +kernel
theorem d_Model_multiplyTerm_210 : decode b_Model_multiplyTerm 210 = .ok (.ldc2_w 93, 3) := by decide +kernel
theorem d_Model_multiplyTerm_213 : decode b_Model_multiplyTerm 213 = .ok (.lcmp, 1) := by decide +kernel
theorem d_Model_multiplyTerm_214 : decode b_Model_multiplyTerm 214 = .ok (.ifCond .lt 20, 3) := by decide +kernel
theorem d_Model_multiplyTerm_217 : decode b_Model_multiplyTerm 217 = .ok (.aload_n 0, 1) := by decide +kernel
theorem d_Model_multiplyTerm_218 : decode b_Model_multiplyTerm 218 = .ok (.lload 26, 2) := by decide +kernel
theorem d_Model_multiplyTerm_220 : decode b_Model_multiplyTerm 220 = .ok (.lload 28, 2) := by decide +kernel
theorem d_Model_multiplyTerm_222 : decode b_Model_multiplyTerm 222 = .ok (.lload 30, 2) := by decide +kernel
theorem d_Model_multiplyTerm_224 : decode b_Model_multiplyTerm 224 = .ok (.invokevirtual 113, 3) := by decide +kernel
theorem d_Model_multiplyTerm_227 : decode b_Model_multiplyTerm 227 = .ok (.ifCond .eq 7, 3) := by decide +kernel
theorem d_Model_multiplyTerm_230 : decode b_Model_multiplyTerm 230 = .ok (.iconst 1, 1) := by decide +kernel
theorem d_Model_multiplyTerm_231 : decode b_Model_multiplyTerm 231 = .ok (.goto 4, 3) := by decide +kernel
theorem d_Model_multiplyTerm_234 : decode b_Model_multiplyTerm 234 = .ok (.iconst 0, 1) := by decide +kernel
theorem d_Model_multiplyTerm_235 : decode b_Model_multiplyTerm 235 = .ok (.ireturn, 1) := by decide +kernel
def mf_Model_multiplyTerm (F : Nat) (vT : Int32) (vA : Int64) (vB : Int64) (vRoot : Int64) (m_made : Int32) (m_outCount : Int32) (m_lowSign : Int32) (m_highSign : Int32) (c_n : Nat → Int64) (c_d : Nat → Int64) (c_r : Nat → Int64) (c_newN : Nat → Int64) (c_newD : Nat → Int64) (c_newR : Nat → Int64) : Option (Int32 × Int32 × (Nat → Int64) × (Nat → Int64) × (Nat → Int64)) :=
  (sd_g (sd_ix vT 64) (sd_b1 (mf_Model_divisor F (c_r vT.toNatClampNeg) vRoot) fun r => (sd_g (sd_ix vT 64) (sd_let ((c_n vT.toNatClampNeg)) fun x10 => (sd_g (sd_ix vT 64) (sd_let ((c_d vT.toNatClampNeg)) fun x12 => (sd_b1 (mf_Model_divisor F x10 vB) fun r_1 => (sd_b1 (mf_Model_divisor F vA x12) fun r_2 => (sd_g (sd_zJ r_1) (sd_let ((x10 / r_1)) fun x10_1 => (sd_g (sd_zJ r_2) (sd_let ((x12 / r_2)) fun x12_1 => (sd_g (sd_zJ r_2) (sd_let ((vA / r_2)) fun x18 => (sd_g (sd_zJ r_1) (sd_let ((vB / r_1)) fun x20 => (sd_b1 (mf_Model_divisor F r x12_1) fun r_3 => (sd_g (sd_zJ r_3) (sd_let ((r / r_3)) fun x22 => (sd_g (sd_zJ r_3) (sd_let ((x12_1 / r_3)) fun x12_2 => (sd_b1 (mf_Model_divisor F x22 x20) fun r_4 => (sd_g (sd_zJ r_4) (sd_let ((x22 / r_4)) fun x22_1 => (sd_g (sd_zJ r_4) (sd_let ((x20 / r_4)) fun x20_1 => (sd_let ((x10_1 * x18)) fun x26 => (sd_let ((x12_2 * x20_1)) fun x28 => (sd_g (sd_ix vT 64) (sd_g (sd_zJ r) (sd_g (sd_zJ r) (sd_let ((((c_r vT.toNatClampNeg) / r) * (vRoot / r))) fun x30 => (if (1000000000 : Int64) < x26 then (some ((0 : Int32), m_made, c_newN, c_newD, c_newR)) else (if x26 < (-1000000000 : Int64) then (some ((0 : Int32), m_made, c_newN, c_newD, c_newR)) else (if (1000000000 : Int64) < x28 then (some ((0 : Int32), m_made, c_newN, c_newD, c_newR)) else (if x30 ≤ (1000000000 : Int64) then (sd_let ((x26 * x22_1)) fun x26_1 => (sd_b5 (if (1000000000 : Int64) < x26_1 then (some ((0 : Int32), m_made, c_newN, c_newD, c_newR)) else (if x26_1 < (-1000000000 : Int64) then (some ((0 : Int32), m_made, c_newN, c_newD, c_newR)) else (sd_b5 (mf_Model_addTerm F x26_1 x28 x30 m_made m_outCount m_lowSign m_highSign c_newN c_newD c_newR) fun r_5 umo_1 uanewN_1 uanewD_1 uanewR_1 => (if r_5 = 0 then (some ((0 : Int32), umo_1, uanewN_1, uanewD_1, uanewR_1)) else (some ((1 : Int32), umo_1, uanewN_1, uanewD_1, uanewR_1)))))) fun y umo uanewN uanewD uanewR => (sd_g (sd_b01 y) (some (y, umo, uanewN, uanewD, uanewR))))) else (some ((0 : Int32), m_made, c_newN, c_newD, c_newR))))))))))))))))))))))))))))))))))))))
abbrev rm_Model_multiplyTerm : Room := { frames := 2, cells := 0, slots := 0, locals := 64 }
set_option maxHeartbeats 4000000 in
set_option maxRecDepth 100000 in
theorem ct_Model_multiplyTerm (l : Launch) (D : va_G) (g : G4) (mo : Nat) (a_n : Nat) (a_d : Nat) (a_r : Nat) (a_count : Nat) (a_newN : Nat) (a_newD : Nat) (a_newR : Nat) (a_out : Nat) (a_root : Nat) (a_rest : Nat) (a_square : Nat) (a_part : Nat) (a_plus : Nat) (a_minus : Nat) (a_low : Nat) (a_high : Nat) (a_one : Nat) (a_two : Nat) (a_otherLow : Nat) (a_otherHigh : Nat) (a_digit : Nat) (a_topA : Nat) (a_underA : Nat) (a_topB : Nat) (a_underB : Nat) (a_quotient : Nat) (a_otherQuotient : Nat) (sz : Nat) (vT : Int32) (vA : Int64) (vB : Int64) (vRoot : Int64) (m_made : Int32) (m_outCount : Int32) (m_lowSign : Int32) (m_highSign : Int32) (c_n : Nat → Int64) (c_d : Nat → Int64) (c_r : Nat → Int64) (c_newN : Nat → Int64) (c_newD : Nat → Int64) (c_newR : Nat → Int64) (F : Nat) (res : Int32 × Int32 × (Nat → Int64) × (Nat → Int64) × (Nat → Int64)) (hm : mf_Model_multiplyTerm F vT vA vB vRoot m_made m_outCount m_lowSign m_highSign c_n c_d c_r c_newN c_newD c_newR = some res) : Met l y_Model_multiplyTerm (.code y_Model_multiplyTerm b_Model_multiplyTerm 32 (some .boolean) :: sd_tb) rm_Model_multiplyTerm (sd_PW D g [.ref mo, .int vT, .long vA, .long vB, .long vRoot] sz [(mo, .inr (5, [.ref a_n, .ref a_d, .ref a_r, .ref a_count, .ref a_newN, .ref a_newD, .ref a_newR, .int m_made, .ref a_out, .int m_outCount, .ref a_root, .ref a_rest, .ref a_square, .ref a_part, .ref a_plus, .ref a_minus, .ref a_low, .ref a_high, .ref a_one, .ref a_two, .int m_lowSign, .int m_highSign, .ref a_otherLow, .ref a_otherHigh, .ref a_digit, .ref a_topA, .ref a_underA, .ref a_topB, .ref a_underB, .ref a_quotient, .ref a_otherQuotient])), (a_n, aJ g 64 c_n), (a_d, aJ g 64 c_d), (a_r, aJ g 64 c_r), (a_newN, aJ g 8 c_newN), (a_newD, aJ g 8 c_newD), (a_newR, aJ g 8 c_newR)]) (sd_Qi1 D g res (fun u : Int32 × (Nat → Int64) × (Nat → Int64) × (Nat → Int64) => [(mo, .inr (5, [.ref a_n, .ref a_d, .ref a_r, .ref a_count, .ref a_newN, .ref a_newD, .ref a_newR, .int (u.1), .ref a_out, .int m_outCount, .ref a_root, .ref a_rest, .ref a_square, .ref a_part, .ref a_plus, .ref a_minus, .ref a_low, .ref a_high, .ref a_one, .ref a_two, .int m_lowSign, .int m_highSign, .ref a_otherLow, .ref a_otherHigh, .ref a_digit, .ref a_topA, .ref a_underA, .ref a_topB, .ref a_underB, .ref a_quotient, .ref a_otherQuotient])), (a_n, aJ g 64 c_n), (a_d, aJ g 64 c_d), (a_r, aJ g 64 c_r), (a_newN, aJ g 8 (u.2.1)), (a_newD, aJ g 8 (u.2.2.1)), (a_newR, aJ g 8 (u.2.2.2))]) (va_A [(mo, .inr (5, [.ref a_n, .ref a_d, .ref a_r, .ref a_count, .ref a_newN, .ref a_newD, .ref a_newR, .int m_made, .ref a_out, .int m_outCount, .ref a_root, .ref a_rest, .ref a_square, .ref a_part, .ref a_plus, .ref a_minus, .ref a_low, .ref a_high, .ref a_one, .ref a_two, .int m_lowSign, .int m_highSign, .ref a_otherLow, .ref a_otherHigh, .ref a_digit, .ref a_topA, .ref a_underA, .ref a_topB, .ref a_underB, .ref a_quotient, .ref a_otherQuotient])), (a_n, aJ g 64 c_n), (a_d, aJ g 64 c_d), (a_r, aJ g 64 c_r), (a_newN, aJ g 8 c_newN), (a_newD, aJ g 8 c_newD), (a_newR, aJ g 8 c_newR)] sz)) 0 0 (va_A [(mo, .inr (5, [.ref a_n, .ref a_d, .ref a_r, .ref a_count, .ref a_newN, .ref a_newD, .ref a_newR, .int m_made, .ref a_out, .int m_outCount, .ref a_root, .ref a_rest, .ref a_square, .ref a_part, .ref a_plus, .ref a_minus, .ref a_low, .ref a_high, .ref a_one, .ref a_two, .int m_lowSign, .int m_highSign, .ref a_otherLow, .ref a_otherHigh, .ref a_digit, .ref a_topA, .ref a_underA, .ref a_topB, .ref a_underB, .ref a_quotient, .ref a_otherQuotient])), (a_n, aJ g 64 c_n), (a_d, aJ g 64 c_d), (a_r, aJ g 64 c_r), (a_newN, aJ g 8 c_newN), (a_newD, aJ g 8 c_newD), (a_newR, aJ g 8 c_newR)] sz) := by
  refine sd_met (Qf := fun A => sd_Qi1 D g res (fun u : Int32 × (Nat → Int64) × (Nat → Int64) × (Nat → Int64) => [(mo, .inr (5, [.ref a_n, .ref a_d, .ref a_r, .ref a_count, .ref a_newN, .ref a_newD, .ref a_newR, .int (u.1), .ref a_out, .int m_outCount, .ref a_root, .ref a_rest, .ref a_square, .ref a_part, .ref a_plus, .ref a_minus, .ref a_low, .ref a_high, .ref a_one, .ref a_two, .int m_lowSign, .int m_highSign, .ref a_otherLow, .ref a_otherHigh, .ref a_digit, .ref a_topA, .ref a_underA, .ref a_topB, .ref a_underB, .ref a_quotient, .ref a_otherQuotient])), (a_n, aJ g 64 c_n), (a_d, aJ g 64 c_d), (a_r, aJ g 64 c_r), (a_newN, aJ g 8 (u.2.1)), (a_newD, aJ g 8 (u.2.2.1)), (a_newR, aJ g 8 (u.2.2.2))]) A) (own := R_Model) (by decide +kernel) rfl (Nat.le_of_ble_eq_true rfl) ?_
  intro p e s m args below meth c S hr hlk hK A hA Q hQ H locs hP hD hS ls hl
  have hx := S.1
  have hb := S.2.1
  have hml := S.2.2.1
  have hown := S.2.2.2.1
  have htt := sd_tt S
  replace hl : lv_has ls 32 [(0, .ref mo), (1, .int vT), (2, .long vA), (4, .long vB), (6, .long vRoot)] := hl
  unfold mf_Model_multiplyTerm at hm
  refine lv_aload_n hx hb d_Model_multiplyTerm_0 rfl (lv_at hl 0 rfl) ?_
  refine va_get (D := D) (ci := 5) (v := .ref a_r) (C := R_Model) (T := F_Model) (N := 31) hx hb htt i_Model hown hK hP 0 rfl rfl 2 (by decide) (htt _ kf_Model_16) (fun _ h9 => h9) rfl d_Model_multiplyTerm_1 ?_
  refine lv_iload_n hx hb d_Model_multiplyTerm_4 rfl (lv_at hl 1 rfl) ?_
  obtain ⟨h_1, hm⟩ := sd_mg hm
  refine sd_lald hx hb hK hP 3 rfl h_1 d_Model_multiplyTerm_5 ?_
  refine lv_lload hx hb d_Model_multiplyTerm_6 (lv_at hl 4 rfl) ?_
  obtain ⟨r, hc, hm⟩ := sd_mb1 hm
  refine sd_cl0 (wr := [(mo, .inr (5, [.ref a_n, .ref a_d, .ref a_r, .ref a_count, .ref a_newN, .ref a_newD, .ref a_newR, .int m_made, .ref a_out, .int m_outCount, .ref a_root, .ref a_rest, .ref a_square, .ref a_part, .ref a_plus, .ref a_minus, .ref a_low, .ref a_high, .ref a_one, .ref a_two, .int m_lowSign, .int m_highSign, .ref a_otherLow, .ref a_otherHigh, .ref a_digit, .ref a_topA, .ref a_underA, .ref a_topB, .ref a_underB, .ref a_quotient, .ref a_otherQuotient])), (a_n, aJ g 64 c_n), (a_d, aJ g 64 c_d), (a_r, aJ g 64 c_r), (a_newN, aJ g 8 c_newN), (a_newD, aJ g 8 c_newD), (a_newR, aJ g 8 c_newR)]) (w2 := [(mo, .inr (5, [.ref a_n, .ref a_d, .ref a_r, .ref a_count, .ref a_newN, .ref a_newD, .ref a_newR, .int m_made, .ref a_out, .int m_outCount, .ref a_root, .ref a_rest, .ref a_square, .ref a_part, .ref a_plus, .ref a_minus, .ref a_low, .ref a_high, .ref a_one, .ref a_two, .int m_lowSign, .int m_highSign, .ref a_otherLow, .ref a_otherHigh, .ref a_digit, .ref a_topA, .ref a_underA, .ref a_topB, .ref a_underB, .ref a_quotient, .ref a_otherQuotient])), (a_n, aJ g 64 c_n), (a_d, aJ g 64 c_d), (a_r, aJ g 64 c_r), (a_newN, aJ g 8 c_newN), (a_newD, aJ g 8 c_newD), (a_newR, aJ g 8 c_newR)]) (sd_runS (rest := []) (As := [.long (c_r vT.toNatClampNeg), .long vRoot]) S (ct_Model_divisor l D g (H.size) (c_r vT.toNatClampNeg) vRoot F (r) hc) kl_Model_101 (by decide) (by decide) hK hP hD [] rfl (by decide) rfl hl d_Model_multiplyTerm_8 rfl (Nat.le_of_ble_eq_true rfl) ⟨Nat.zero_le _, Nat.zero_le _⟩) hP hD hS hA [] [0, 1, 2, 3, 4, 5, 6] rfl rfl (by decide) (by decide) rfl (fun H locs hP hD hS => ?_)
  refine W.eq (g2 := F0 m 11 ls [.long r]) rfl ?_
  refine lv_lstore (lv' := [(8, .long r), (0, .ref mo), (1, .int vT), (2, .long vA), (4, .long vB), (6, .long vRoot)]) hx hb d_Model_multiplyTerm_11 hl (by decide) rfl (fun ls hl => ?_)
  refine lv_aload_n hx hb d_Model_multiplyTerm_13 rfl (lv_at hl 1 rfl) ?_
  refine va_get (D := D) (ci := 5) (v := .ref a_n) (C := R_Model) (T := F_Model) (N := 31) hx hb htt i_Model hown hK hP 0 rfl rfl 0 (by decide) (htt _ kf_Model_9) (fun _ h9 => h9) rfl d_Model_multiplyTerm_14 ?_
  refine lv_iload_n hx hb d_Model_multiplyTerm_17 rfl (lv_at hl 2 rfl) ?_
  obtain ⟨h_2, hm⟩ := sd_mg hm
  refine sd_lald hx hb hK hP 1 rfl h_2 d_Model_multiplyTerm_18 ?_
  obtain ⟨x10, ex10, hm⟩ := sd_mlet hm
  refine sd_topj ex10 ?_
  refine lv_lstore (lv' := [(10, .long x10), (8, .long r), (0, .ref mo), (1, .int vT), (2, .long vA), (4, .long vB), (6, .long vRoot)]) hx hb d_Model_multiplyTerm_19 hl (by decide) rfl (fun ls hl => ?_)
  refine lv_aload_n hx hb d_Model_multiplyTerm_21 rfl (lv_at hl 2 rfl) ?_
  refine va_get (D := D) (ci := 5) (v := .ref a_d) (C := R_Model) (T := F_Model) (N := 31) hx hb htt i_Model hown hK hP 0 rfl rfl 1 (by decide) (htt _ kf_Model_13) (fun _ h9 => h9) rfl d_Model_multiplyTerm_22 ?_
  refine lv_iload_n hx hb d_Model_multiplyTerm_25 rfl (lv_at hl 3 rfl) ?_
  obtain ⟨h_3, hm⟩ := sd_mg hm
  refine sd_lald hx hb hK hP 2 rfl h_3 d_Model_multiplyTerm_26 ?_
  obtain ⟨x12, ex12, hm⟩ := sd_mlet hm
  refine sd_topj ex12 ?_
  refine lv_lstore (lv' := [(12, .long x12), (10, .long x10), (8, .long r), (0, .ref mo), (1, .int vT), (2, .long vA), (4, .long vB), (6, .long vRoot)]) hx hb d_Model_multiplyTerm_27 hl (by decide) rfl (fun ls hl => ?_)
  refine lv_lload hx hb d_Model_multiplyTerm_29 (lv_at hl 1 rfl) ?_
  refine lv_lload hx hb d_Model_multiplyTerm_31 (lv_at hl 6 rfl) ?_
  obtain ⟨r_1, hc, hm⟩ := sd_mb1 hm
  refine sd_cl0 (wr := [(mo, .inr (5, [.ref a_n, .ref a_d, .ref a_r, .ref a_count, .ref a_newN, .ref a_newD, .ref a_newR, .int m_made, .ref a_out, .int m_outCount, .ref a_root, .ref a_rest, .ref a_square, .ref a_part, .ref a_plus, .ref a_minus, .ref a_low, .ref a_high, .ref a_one, .ref a_two, .int m_lowSign, .int m_highSign, .ref a_otherLow, .ref a_otherHigh, .ref a_digit, .ref a_topA, .ref a_underA, .ref a_topB, .ref a_underB, .ref a_quotient, .ref a_otherQuotient])), (a_n, aJ g 64 c_n), (a_d, aJ g 64 c_d), (a_r, aJ g 64 c_r), (a_newN, aJ g 8 c_newN), (a_newD, aJ g 8 c_newD), (a_newR, aJ g 8 c_newR)]) (w2 := [(mo, .inr (5, [.ref a_n, .ref a_d, .ref a_r, .ref a_count, .ref a_newN, .ref a_newD, .ref a_newR, .int m_made, .ref a_out, .int m_outCount, .ref a_root, .ref a_rest, .ref a_square, .ref a_part, .ref a_plus, .ref a_minus, .ref a_low, .ref a_high, .ref a_one, .ref a_two, .int m_lowSign, .int m_highSign, .ref a_otherLow, .ref a_otherHigh, .ref a_digit, .ref a_topA, .ref a_underA, .ref a_topB, .ref a_underB, .ref a_quotient, .ref a_otherQuotient])), (a_n, aJ g 64 c_n), (a_d, aJ g 64 c_d), (a_r, aJ g 64 c_r), (a_newN, aJ g 8 c_newN), (a_newD, aJ g 8 c_newD), (a_newR, aJ g 8 c_newR)]) (sd_runS (rest := []) (As := [.long x10, .long vB]) S (ct_Model_divisor l D g (H.size) x10 vB F (r_1) hc) kl_Model_101 (by decide) (by decide) hK hP hD [] rfl (by decide) rfl hl d_Model_multiplyTerm_33 rfl (Nat.le_of_ble_eq_true rfl) ⟨Nat.zero_le _, Nat.zero_le _⟩) hP hD hS hA [] [0, 1, 2, 3, 4, 5, 6] rfl rfl (by decide) (by decide) rfl (fun H locs hP hD hS => ?_)
  refine W.eq (g2 := F0 m 36 ls [.long r_1]) rfl ?_
  refine lv_lstore (lv' := [(14, .long r_1), (12, .long x12), (10, .long x10), (8, .long r), (0, .ref mo), (1, .int vT), (2, .long vA), (4, .long vB), (6, .long vRoot)]) hx hb d_Model_multiplyTerm_36 hl (by decide) rfl (fun ls hl => ?_)
  refine lv_lload_n hx hb d_Model_multiplyTerm_38 rfl (lv_at hl 6 rfl) ?_
  refine lv_lload hx hb d_Model_multiplyTerm_39 (lv_at hl 1 rfl) ?_
  obtain ⟨r_2, hc, hm⟩ := sd_mb1 hm
  refine sd_cl0 (wr := [(mo, .inr (5, [.ref a_n, .ref a_d, .ref a_r, .ref a_count, .ref a_newN, .ref a_newD, .ref a_newR, .int m_made, .ref a_out, .int m_outCount, .ref a_root, .ref a_rest, .ref a_square, .ref a_part, .ref a_plus, .ref a_minus, .ref a_low, .ref a_high, .ref a_one, .ref a_two, .int m_lowSign, .int m_highSign, .ref a_otherLow, .ref a_otherHigh, .ref a_digit, .ref a_topA, .ref a_underA, .ref a_topB, .ref a_underB, .ref a_quotient, .ref a_otherQuotient])), (a_n, aJ g 64 c_n), (a_d, aJ g 64 c_d), (a_r, aJ g 64 c_r), (a_newN, aJ g 8 c_newN), (a_newD, aJ g 8 c_newD), (a_newR, aJ g 8 c_newR)]) (w2 := [(mo, .inr (5, [.ref a_n, .ref a_d, .ref a_r, .ref a_count, .ref a_newN, .ref a_newD, .ref a_newR, .int m_made, .ref a_out, .int m_outCount, .ref a_root, .ref a_rest, .ref a_square, .ref a_part, .ref a_plus, .ref a_minus, .ref a_low, .ref a_high, .ref a_one, .ref a_two, .int m_lowSign, .int m_highSign, .ref a_otherLow, .ref a_otherHigh, .ref a_digit, .ref a_topA, .ref a_underA, .ref a_topB, .ref a_underB, .ref a_quotient, .ref a_otherQuotient])), (a_n, aJ g 64 c_n), (a_d, aJ g 64 c_d), (a_r, aJ g 64 c_r), (a_newN, aJ g 8 c_newN), (a_newD, aJ g 8 c_newD), (a_newR, aJ g 8 c_newR)]) (sd_runS (rest := []) (As := [.long vA, .long x12]) S (ct_Model_divisor l D g (H.size) vA x12 F (r_2) hc) kl_Model_101 (by decide) (by decide) hK hP hD [] rfl (by decide) rfl hl d_Model_multiplyTerm_41 rfl (Nat.le_of_ble_eq_true rfl) ⟨Nat.zero_le _, Nat.zero_le _⟩) hP hD hS hA [] [0, 1, 2, 3, 4, 5, 6] rfl rfl (by decide) (by decide) rfl (fun H locs hP hD hS => ?_)
  refine W.eq (g2 := F0 m 44 ls [.long r_2]) rfl ?_
  refine lv_lstore (lv' := [(16, .long r_2), (14, .long r_1), (12, .long x12), (10, .long x10), (8, .long r), (0, .ref mo), (1, .int vT), (2, .long vA), (4, .long vB), (6, .long vRoot)]) hx hb d_Model_multiplyTerm_44 hl (by decide) rfl (fun ls hl => ?_)
  refine lv_lload hx hb d_Model_multiplyTerm_46 (lv_at hl 3 rfl) ?_
  refine lv_lload hx hb d_Model_multiplyTerm_48 (lv_at hl 1 rfl) ?_
  obtain ⟨h_4, hm⟩ := sd_mg hm
  refine lv_ldiv hx hb d_Model_multiplyTerm_50 (sd_nzJ h_4) ?_
  obtain ⟨x10_1, ex10_1, hm⟩ := sd_mlet hm
  refine sd_topj ex10_1 ?_
  refine lv_lstore (lv' := [(10, .long x10_1), (16, .long r_2), (14, .long r_1), (12, .long x12), (8, .long r), (0, .ref mo), (1, .int vT), (2, .long vA), (4, .long vB), (6, .long vRoot)]) hx hb d_Model_multiplyTerm_51 hl (by decide) rfl (fun ls hl => ?_)
  refine lv_lload hx hb d_Model_multiplyTerm_53 (lv_at hl 3 rfl) ?_
  refine lv_lload hx hb d_Model_multiplyTerm_55 (lv_at hl 1 rfl) ?_
  obtain ⟨h_5, hm⟩ := sd_mg hm
  refine lv_ldiv hx hb d_Model_multiplyTerm_57 (sd_nzJ h_5) ?_
  obtain ⟨x12_1, ex12_1, hm⟩ := sd_mlet hm
  refine sd_topj ex12_1 ?_
  refine lv_lstore (lv' := [(12, .long x12_1), (10, .long x10_1), (16, .long r_2), (14, .long r_1), (8, .long r), (0, .ref mo), (1, .int vT), (2, .long vA), (4, .long vB), (6, .long vRoot)]) hx hb d_Model_multiplyTerm_58 hl (by decide) rfl (fun ls hl => ?_)
  refine lv_lload_n hx hb d_Model_multiplyTerm_60 rfl (lv_at hl 7 rfl) ?_
  refine lv_lload hx hb d_Model_multiplyTerm_61 (lv_at hl 2 rfl) ?_
  obtain ⟨h_6, hm⟩ := sd_mg hm
  refine lv_ldiv hx hb d_Model_multiplyTerm_63 (sd_nzJ h_6) ?_
  obtain ⟨x18, ex18, hm⟩ := sd_mlet hm
  refine sd_topj ex18 ?_
  refine lv_lstore (lv' := [(18, .long x18), (12, .long x12_1), (10, .long x10_1), (16, .long r_2), (14, .long r_1), (8, .long r), (0, .ref mo), (1, .int vT), (2, .long vA), (4, .long vB), (6, .long vRoot)]) hx hb d_Model_multiplyTerm_64 hl (by decide) rfl (fun ls hl => ?_)
  refine lv_lload hx hb d_Model_multiplyTerm_66 (lv_at hl 9 rfl) ?_
  refine lv_lload hx hb d_Model_multiplyTerm_68 (lv_at hl 4 rfl) ?_
  obtain ⟨h_7, hm⟩ := sd_mg hm
  refine lv_ldiv hx hb d_Model_multiplyTerm_70 (sd_nzJ h_7) ?_
  obtain ⟨x20, ex20, hm⟩ := sd_mlet hm
  refine sd_topj ex20 ?_
  refine lv_lstore (lv' := [(20, .long x20), (18, .long x18), (12, .long x12_1), (10, .long x10_1), (16, .long r_2), (14, .long r_1), (8, .long r), (0, .ref mo), (1, .int vT), (2, .long vA), (4, .long vB), (6, .long vRoot)]) hx hb d_Model_multiplyTerm_71 hl (by decide) rfl (fun ls hl => ?_)
  refine lv_lload hx hb d_Model_multiplyTerm_73 (lv_at hl 6 rfl) ?_
  refine lv_lstore (lv' := [(22, .long r), (20, .long x20), (18, .long x18), (12, .long x12_1), (10, .long x10_1), (16, .long r_2), (14, .long r_1), (8, .long r), (0, .ref mo), (1, .int vT), (2, .long vA), (4, .long vB), (6, .long vRoot)]) hx hb d_Model_multiplyTerm_75 hl (by decide) rfl (fun ls hl => ?_)
  refine lv_lload hx hb d_Model_multiplyTerm_77 (lv_at hl 0 rfl) ?_
  refine lv_lload hx hb d_Model_multiplyTerm_79 (lv_at hl 3 rfl) ?_
  obtain ⟨r_3, hc, hm⟩ := sd_mb1 hm
  refine sd_cl0 (wr := [(mo, .inr (5, [.ref a_n, .ref a_d, .ref a_r, .ref a_count, .ref a_newN, .ref a_newD, .ref a_newR, .int m_made, .ref a_out, .int m_outCount, .ref a_root, .ref a_rest, .ref a_square, .ref a_part, .ref a_plus, .ref a_minus, .ref a_low, .ref a_high, .ref a_one, .ref a_two, .int m_lowSign, .int m_highSign, .ref a_otherLow, .ref a_otherHigh, .ref a_digit, .ref a_topA, .ref a_underA, .ref a_topB, .ref a_underB, .ref a_quotient, .ref a_otherQuotient])), (a_n, aJ g 64 c_n), (a_d, aJ g 64 c_d), (a_r, aJ g 64 c_r), (a_newN, aJ g 8 c_newN), (a_newD, aJ g 8 c_newD), (a_newR, aJ g 8 c_newR)]) (w2 := [(mo, .inr (5, [.ref a_n, .ref a_d, .ref a_r, .ref a_count, .ref a_newN, .ref a_newD, .ref a_newR, .int m_made, .ref a_out, .int m_outCount, .ref a_root, .ref a_rest, .ref a_square, .ref a_part, .ref a_plus, .ref a_minus, .ref a_low, .ref a_high, .ref a_one, .ref a_two, .int m_lowSign, .int m_highSign, .ref a_otherLow, .ref a_otherHigh, .ref a_digit, .ref a_topA, .ref a_underA, .ref a_topB, .ref a_underB, .ref a_quotient, .ref a_otherQuotient])), (a_n, aJ g 64 c_n), (a_d, aJ g 64 c_d), (a_r, aJ g 64 c_r), (a_newN, aJ g 8 c_newN), (a_newD, aJ g 8 c_newD), (a_newR, aJ g 8 c_newR)]) (sd_runS (rest := []) (As := [.long r, .long x12_1]) S (ct_Model_divisor l D g (H.size) r x12_1 F (r_3) hc) kl_Model_101 (by decide) (by decide) hK hP hD [] rfl (by decide) rfl hl d_Model_multiplyTerm_81 rfl (Nat.le_of_ble_eq_true rfl) ⟨Nat.zero_le _, Nat.zero_le _⟩) hP hD hS hA [] [0, 1, 2, 3, 4, 5, 6] rfl rfl (by decide) (by decide) rfl (fun H locs hP hD hS => ?_)
  refine W.eq (g2 := F0 m 84 ls [.long r_3]) rfl ?_
  refine lv_lstore (lv' := [(24, .long r_3), (22, .long r), (20, .long x20), (18, .long x18), (12, .long x12_1), (10, .long x10_1), (16, .long r_2), (14, .long r_1), (8, .long r), (0, .ref mo), (1, .int vT), (2, .long vA), (4, .long vB), (6, .long vRoot)]) hx hb d_Model_multiplyTerm_84 hl (by decide) rfl (fun ls hl => ?_)
  refine lv_lload hx hb d_Model_multiplyTerm_86 (lv_at hl 1 rfl) ?_
  refine lv_lload hx hb d_Model_multiplyTerm_88 (lv_at hl 0 rfl) ?_
  obtain ⟨h_8, hm⟩ := sd_mg hm
  refine lv_ldiv hx hb d_Model_multiplyTerm_90 (sd_nzJ h_8) ?_
  obtain ⟨x22, ex22, hm⟩ := sd_mlet hm
  refine sd_topj ex22 ?_
  refine lv_lstore (lv' := [(22, .long x22), (24, .long r_3), (20, .long x20), (18, .long x18), (12, .long x12_1), (10, .long x10_1), (16, .long r_2), (14, .long r_1), (8, .long r), (0, .ref mo), (1, .int vT), (2, .long vA), (4, .long vB), (6, .long vRoot)]) hx hb d_Model_multiplyTerm_91 hl (by decide) rfl (fun ls hl => ?_)
  refine lv_lload hx hb d_Model_multiplyTerm_93 (lv_at hl 4 rfl) ?_
  refine lv_lload hx hb d_Model_multiplyTerm_95 (lv_at hl 1 rfl) ?_
  obtain ⟨h_9, hm⟩ := sd_mg hm
  refine lv_ldiv hx hb d_Model_multiplyTerm_97 (sd_nzJ h_9) ?_
  obtain ⟨x12_2, ex12_2, hm⟩ := sd_mlet hm
  refine sd_topj ex12_2 ?_
  refine lv_lstore (lv' := [(12, .long x12_2), (22, .long x22), (24, .long r_3), (20, .long x20), (18, .long x18), (10, .long x10_1), (16, .long r_2), (14, .long r_1), (8, .long r), (0, .ref mo), (1, .int vT), (2, .long vA), (4, .long vB), (6, .long vRoot)]) hx hb d_Model_multiplyTerm_98 hl (by decide) rfl (fun ls hl => ?_)
  refine lv_lload hx hb d_Model_multiplyTerm_100 (lv_at hl 1 rfl) ?_
  refine lv_lload hx hb d_Model_multiplyTerm_102 (lv_at hl 3 rfl) ?_
  obtain ⟨r_4, hc, hm⟩ := sd_mb1 hm
  refine sd_cl0 (wr := [(mo, .inr (5, [.ref a_n, .ref a_d, .ref a_r, .ref a_count, .ref a_newN, .ref a_newD, .ref a_newR, .int m_made, .ref a_out, .int m_outCount, .ref a_root, .ref a_rest, .ref a_square, .ref a_part, .ref a_plus, .ref a_minus, .ref a_low, .ref a_high, .ref a_one, .ref a_two, .int m_lowSign, .int m_highSign, .ref a_otherLow, .ref a_otherHigh, .ref a_digit, .ref a_topA, .ref a_underA, .ref a_topB, .ref a_underB, .ref a_quotient, .ref a_otherQuotient])), (a_n, aJ g 64 c_n), (a_d, aJ g 64 c_d), (a_r, aJ g 64 c_r), (a_newN, aJ g 8 c_newN), (a_newD, aJ g 8 c_newD), (a_newR, aJ g 8 c_newR)]) (w2 := [(mo, .inr (5, [.ref a_n, .ref a_d, .ref a_r, .ref a_count, .ref a_newN, .ref a_newD, .ref a_newR, .int m_made, .ref a_out, .int m_outCount, .ref a_root, .ref a_rest, .ref a_square, .ref a_part, .ref a_plus, .ref a_minus, .ref a_low, .ref a_high, .ref a_one, .ref a_two, .int m_lowSign, .int m_highSign, .ref a_otherLow, .ref a_otherHigh, .ref a_digit, .ref a_topA, .ref a_underA, .ref a_topB, .ref a_underB, .ref a_quotient, .ref a_otherQuotient])), (a_n, aJ g 64 c_n), (a_d, aJ g 64 c_d), (a_r, aJ g 64 c_r), (a_newN, aJ g 8 c_newN), (a_newD, aJ g 8 c_newD), (a_newR, aJ g 8 c_newR)]) (sd_runS (rest := []) (As := [.long x22, .long x20]) S (ct_Model_divisor l D g (H.size) x22 x20 F (r_4) hc) kl_Model_101 (by decide) (by decide) hK hP hD [] rfl (by decide) rfl hl d_Model_multiplyTerm_104 rfl (Nat.le_of_ble_eq_true rfl) ⟨Nat.zero_le _, Nat.zero_le _⟩) hP hD hS hA [] [0, 1, 2, 3, 4, 5, 6] rfl rfl (by decide) (by decide) rfl (fun H locs hP hD hS => ?_)
  refine W.eq (g2 := F0 m 107 ls [.long r_4]) rfl ?_
  refine lv_lstore (lv' := [(24, .long r_4), (12, .long x12_2), (22, .long x22), (20, .long x20), (18, .long x18), (10, .long x10_1), (16, .long r_2), (14, .long r_1), (8, .long r), (0, .ref mo), (1, .int vT), (2, .long vA), (4, .long vB), (6, .long vRoot)]) hx hb d_Model_multiplyTerm_107 hl (by decide) rfl (fun ls hl => ?_)
  refine lv_lload hx hb d_Model_multiplyTerm_109 (lv_at hl 2 rfl) ?_
  refine lv_lload hx hb d_Model_multiplyTerm_111 (lv_at hl 0 rfl) ?_
  obtain ⟨h_10, hm⟩ := sd_mg hm
  refine lv_ldiv hx hb d_Model_multiplyTerm_113 (sd_nzJ h_10) ?_
  obtain ⟨x22_1, ex22_1, hm⟩ := sd_mlet hm
  refine sd_topj ex22_1 ?_
  refine lv_lstore (lv' := [(22, .long x22_1), (24, .long r_4), (12, .long x12_2), (20, .long x20), (18, .long x18), (10, .long x10_1), (16, .long r_2), (14, .long r_1), (8, .long r), (0, .ref mo), (1, .int vT), (2, .long vA), (4, .long vB), (6, .long vRoot)]) hx hb d_Model_multiplyTerm_114 hl (by decide) rfl (fun ls hl => ?_)
  refine lv_lload hx hb d_Model_multiplyTerm_116 (lv_at hl 3 rfl) ?_
  refine lv_lload hx hb d_Model_multiplyTerm_118 (lv_at hl 1 rfl) ?_
  obtain ⟨h_11, hm⟩ := sd_mg hm
  refine lv_ldiv hx hb d_Model_multiplyTerm_120 (sd_nzJ h_11) ?_
  obtain ⟨x20_1, ex20_1, hm⟩ := sd_mlet hm
  refine sd_topj ex20_1 ?_
  refine lv_lstore (lv' := [(20, .long x20_1), (22, .long x22_1), (24, .long r_4), (12, .long x12_2), (18, .long x18), (10, .long x10_1), (16, .long r_2), (14, .long r_1), (8, .long r), (0, .ref mo), (1, .int vT), (2, .long vA), (4, .long vB), (6, .long vRoot)]) hx hb d_Model_multiplyTerm_121 hl (by decide) rfl (fun ls hl => ?_)
  refine lv_lload hx hb d_Model_multiplyTerm_123 (lv_at hl 5 rfl) ?_
  refine lv_lload hx hb d_Model_multiplyTerm_125 (lv_at hl 4 rfl) ?_
  refine lv_lmul hx hb d_Model_multiplyTerm_127 ?_
  obtain ⟨x26, ex26, hm⟩ := sd_mlet hm
  refine sd_topj ex26 ?_
  refine lv_lstore (lv' := [(26, .long x26), (20, .long x20_1), (22, .long x22_1), (24, .long r_4), (12, .long x12_2), (18, .long x18), (10, .long x10_1), (16, .long r_2), (14, .long r_1), (8, .long r), (0, .ref mo), (1, .int vT), (2, .long vA), (4, .long vB), (6, .long vRoot)]) hx hb d_Model_multiplyTerm_128 hl (by decide) rfl (fun ls hl => ?_)
  refine lv_lload hx hb d_Model_multiplyTerm_130 (lv_at hl 4 rfl) ?_
  refine lv_lload hx hb d_Model_multiplyTerm_132 (lv_at hl 1 rfl) ?_
  refine lv_lmul hx hb d_Model_multiplyTerm_134 ?_
  obtain ⟨x28, ex28, hm⟩ := sd_mlet hm
  refine sd_topj ex28 ?_
  refine lv_lstore (lv' := [(28, .long x28), (26, .long x26), (20, .long x20_1), (22, .long x22_1), (24, .long r_4), (12, .long x12_2), (18, .long x18), (10, .long x10_1), (16, .long r_2), (14, .long r_1), (8, .long r), (0, .ref mo), (1, .int vT), (2, .long vA), (4, .long vB), (6, .long vRoot)]) hx hb d_Model_multiplyTerm_135 hl (by decide) rfl (fun ls hl => ?_)
  refine lv_aload_n hx hb d_Model_multiplyTerm_137 rfl (lv_at hl 11 rfl) ?_
  refine va_get (D := D) (ci := 5) (v := .ref a_r) (C := R_Model) (T := F_Model) (N := 31) hx hb htt i_Model hown hK hP 0 rfl rfl 2 (by decide) (htt _ kf_Model_16) (fun _ h9 => h9) rfl d_Model_multiplyTerm_138 ?_
  refine lv_iload_n hx hb d_Model_multiplyTerm_141 rfl (lv_at hl 12 rfl) ?_
  obtain ⟨h_12, hm⟩ := sd_mg hm
  refine sd_lald hx hb hK hP 3 rfl h_12 d_Model_multiplyTerm_142 ?_
  refine lv_lload hx hb d_Model_multiplyTerm_143 (lv_at hl 10 rfl) ?_
  obtain ⟨h_13, hm⟩ := sd_mg hm
  refine lv_ldiv hx hb d_Model_multiplyTerm_145 (sd_nzJ h_13) ?_
  refine lv_lload hx hb d_Model_multiplyTerm_146 (lv_at hl 15 rfl) ?_
  refine lv_lload hx hb d_Model_multiplyTerm_148 (lv_at hl 10 rfl) ?_
  obtain ⟨h_14, hm⟩ := sd_mg hm
  refine lv_ldiv hx hb d_Model_multiplyTerm_150 (sd_nzJ h_14) ?_
  refine lv_lmul hx hb d_Model_multiplyTerm_151 ?_
  obtain ⟨x30, ex30, hm⟩ := sd_mlet hm
  refine sd_topj ex30 ?_
  refine lv_lstore (lv' := [(30, .long x30), (28, .long x28), (26, .long x26), (20, .long x20_1), (22, .long x22_1), (24, .long r_4), (12, .long x12_2), (18, .long x18), (10, .long x10_1), (16, .long r_2), (14, .long r_1), (8, .long r), (0, .ref mo), (1, .int vT), (2, .long vA), (4, .long vB), (6, .long vRoot)]) hx hb d_Model_multiplyTerm_152 hl (by decide) rfl (fun ls hl => ?_)
  refine lv_lload hx hb d_Model_multiplyTerm_154 (lv_at hl 2 rfl) ?_
  refine sd_ldc2 (v := (1000000000 : Int64)) hx hb hown (htt _ km_Model_95) d_Model_multiplyTerm_156 ?_
  refine sd_lgt (tgt := 190) hx hb d_Model_multiplyTerm_159 d_Model_multiplyTerm_160 (by decide) (fun hc => ?_) (fun hc => ?_)
  · have hm := sd_mt hc hm
    refine lv_iconst (v := (0 : Int32)) hx hb d_Model_multiplyTerm_190 (by decide) ?_
    exact sd_z1ret (u := (m_made, c_newN, c_newD, c_newR)) hQ hx hb hr hlk rfl hK (hP.sub [0, 1, 2, 3, 4, 5, 6] rfl) (hD.sub [0, 1, 2, 3, 4, 5, 6] (by decide) rfl) hS (Option.some.inj hm).symm d_Model_multiplyTerm_191
  · have hm := sd_mf hc hm
    refine lv_lload hx hb d_Model_multiplyTerm_163 (lv_at hl 2 rfl) ?_
    refine sd_ldc2 (v := (-1000000000 : Int64)) hx hb hown (htt _ km_Model_93) d_Model_multiplyTerm_165 ?_
    refine sd_llt (tgt := 190) hx hb d_Model_multiplyTerm_168 d_Model_multiplyTerm_169 (by decide) (fun hc => ?_) (fun hc => ?_)
    · have hm := sd_mt hc hm
      refine lv_iconst (v := (0 : Int32)) hx hb d_Model_multiplyTerm_190 (by decide) ?_
      exact sd_z1ret (u := (m_made, c_newN, c_newD, c_newR)) hQ hx hb hr hlk rfl hK (hP.sub [0, 1, 2, 3, 4, 5, 6] rfl) (hD.sub [0, 1, 2, 3, 4, 5, 6] (by decide) rfl) hS (Option.some.inj hm).symm d_Model_multiplyTerm_191
    · have hm := sd_mf hc hm
      refine lv_lload hx hb d_Model_multiplyTerm_172 (lv_at hl 1 rfl) ?_
      refine sd_ldc2 (v := (1000000000 : Int64)) hx hb hown (htt _ km_Model_95) d_Model_multiplyTerm_174 ?_
      refine sd_lgt (tgt := 190) hx hb d_Model_multiplyTerm_177 d_Model_multiplyTerm_178 (by decide) (fun hc => ?_) (fun hc => ?_)
      · have hm := sd_mt hc hm
        refine lv_iconst (v := (0 : Int32)) hx hb d_Model_multiplyTerm_190 (by decide) ?_
        exact sd_z1ret (u := (m_made, c_newN, c_newD, c_newR)) hQ hx hb hr hlk rfl hK (hP.sub [0, 1, 2, 3, 4, 5, 6] rfl) (hD.sub [0, 1, 2, 3, 4, 5, 6] (by decide) rfl) hS (Option.some.inj hm).symm d_Model_multiplyTerm_191
      · have hm := sd_mf hc hm
        refine lv_lload hx hb d_Model_multiplyTerm_181 (lv_at hl 0 rfl) ?_
        refine sd_ldc2 (v := (1000000000 : Int64)) hx hb hown (htt _ km_Model_95) d_Model_multiplyTerm_183 ?_
        refine sd_lle (tgt := 192) hx hb d_Model_multiplyTerm_186 d_Model_multiplyTerm_187 (by decide) (fun hc => ?_) (fun hc => ?_)
        · have hm := sd_mt hc hm
          refine lv_lload hx hb d_Model_multiplyTerm_192 (lv_at hl 2 rfl) ?_
          refine lv_lload hx hb d_Model_multiplyTerm_194 (lv_at hl 4 rfl) ?_
          refine lv_lmul hx hb d_Model_multiplyTerm_196 ?_
          obtain ⟨x26_1, ex26_1, hm⟩ := sd_mlet hm
          refine sd_topj ex26_1 ?_
          refine lv_lstore (lv' := [(26, .long x26_1), (30, .long x30), (28, .long x28), (20, .long x20_1), (22, .long x22_1), (24, .long r_4), (12, .long x12_2), (18, .long x18), (10, .long x10_1), (16, .long r_2), (14, .long r_1), (8, .long r), (0, .ref mo), (1, .int vT), (2, .long vA), (4, .long vB), (6, .long vRoot)]) hx hb d_Model_multiplyTerm_197 hl (by decide) rfl (fun ls hl => ?_)
          refine lv_lload hx hb d_Model_multiplyTerm_199 (lv_at hl 0 rfl) ?_
          refine sd_ldc2 (v := (1000000000 : Int64)) hx hb hown (htt _ km_Model_95) d_Model_multiplyTerm_201 ?_
          obtain ⟨y, umo, uanewN, uanewD, uanewR, hv, hm⟩ := sd_mb5 hm
          have J235_15 : ∀ (H : Heap) (locs : List Loc) (ls : Array Slot), va_P D classes [(mo, .inr (5, [.ref a_n, .ref a_d, .ref a_r, .ref a_count, .ref a_newN, .ref a_newD, .ref a_newR, .int umo, .ref a_out, .int m_outCount, .ref a_root, .ref a_rest, .ref a_square, .ref a_part, .ref a_plus, .ref a_minus, .ref a_low, .ref a_high, .ref a_one, .ref a_two, .int m_lowSign, .int m_highSign, .ref a_otherLow, .ref a_otherHigh, .ref a_digit, .ref a_topA, .ref a_underA, .ref a_topB, .ref a_underB, .ref a_quotient, .ref a_otherQuotient])), (a_n, aJ g 64 c_n), (a_d, aJ g 64 c_d), (a_r, aJ g 64 c_r), (a_newN, aJ g 8 uanewN), (a_newD, aJ g 8 uanewD), (a_newR, aJ g 8 uanewR)] H → va_D A [(mo, .inr (5, [.ref a_n, .ref a_d, .ref a_r, .ref a_count, .ref a_newN, .ref a_newD, .ref a_newR, .int umo, .ref a_out, .int m_outCount, .ref a_root, .ref a_rest, .ref a_square, .ref a_part, .ref a_plus, .ref a_minus, .ref a_low, .ref a_high, .ref a_one, .ref a_two, .int m_lowSign, .int m_highSign, .ref a_otherLow, .ref a_otherHigh, .ref a_digit, .ref a_topA, .ref a_underA, .ref a_topB, .ref a_underB, .ref a_quotient, .ref a_otherQuotient])), (a_n, aJ g 64 c_n), (a_d, aJ g 64 c_d), (a_r, aJ g 64 c_r), (a_newN, aJ g 8 uanewN), (a_newD, aJ g 8 uanewD), (a_newR, aJ g 8 uanewR)] → va_S A s.heap H locs → lv_has ls 32 [] → W p l e rm_Model_multiplyTerm s m args below meth c H locs 0 0 Q (F0 m 235 ls [.int y]) := by
            intro H locs ls hP hD hS hl
            obtain ⟨h_16, hm⟩ := sd_mg hm
            exact sd_z1ret (u := (umo, uanewN, uanewD, uanewR)) hQ hx hb hr hlk (sd_zb h_16) hK (hP.sub [0, 1, 2, 3, 4, 5, 6] rfl) (hD.sub [0, 1, 2, 3, 4, 5, 6] (by decide) rfl) hS (Option.some.inj hm).symm d_Model_multiplyTerm_235
          replace hm := hv
          refine sd_lgt (tgt := 234) hx hb d_Model_multiplyTerm_204 d_Model_multiplyTerm_205 (by decide) (fun hc => ?_) (fun hc => ?_)
          · have hm := sd_mt hc hm
            refine lv_iconst (v := (0 : Int32)) hx hb d_Model_multiplyTerm_234 (by decide) ?_
            cases hm
            exact J235_15 H locs ls (hP.sub [0, 1, 2, 3, 4, 5, 6] rfl) (hD.sub [0, 1, 2, 3, 4, 5, 6] (by decide) rfl) hS (lv_sub hl [] rfl)
          · have hm := sd_mf hc hm
            refine lv_lload hx hb d_Model_multiplyTerm_208 (lv_at hl 0 rfl) ?_
            refine sd_ldc2 (v := (-1000000000 : Int64)) hx hb hown (htt _ km_Model_93) d_Model_multiplyTerm_210 ?_
            refine sd_llt (tgt := 234) hx hb d_Model_multiplyTerm_213 d_Model_multiplyTerm_214 (by decide) (fun hc => ?_) (fun hc => ?_)
            · have hm := sd_mt hc hm
              refine lv_iconst (v := (0 : Int32)) hx hb d_Model_multiplyTerm_234 (by decide) ?_
              cases hm
              exact J235_15 H locs ls (hP.sub [0, 1, 2, 3, 4, 5, 6] rfl) (hD.sub [0, 1, 2, 3, 4, 5, 6] (by decide) rfl) hS (lv_sub hl [] rfl)
            · have hm := sd_mf hc hm
              refine lv_aload_n hx hb d_Model_multiplyTerm_217 rfl (lv_at hl 12 rfl) ?_
              refine lv_lload hx hb d_Model_multiplyTerm_218 (lv_at hl 0 rfl) ?_
              refine lv_lload hx hb d_Model_multiplyTerm_220 (lv_at hl 2 rfl) ?_
              refine lv_lload hx hb d_Model_multiplyTerm_222 (lv_at hl 1 rfl) ?_
              obtain ⟨r_5, umo_1, uanewN_1, uanewD_1, uanewR_1, hc, hm⟩ := sd_mb5 hm
              refine sd_ci1 (wr := [(a_n, aJ g 64 c_n), (a_d, aJ g 64 c_d), (a_r, aJ g 64 c_r)]) (w2 := [(a_n, aJ g 64 c_n), (a_d, aJ g 64 c_d), (a_r, aJ g 64 c_r), (mo, .inr (5, [.ref a_n, .ref a_d, .ref a_r, .ref a_count, .ref a_newN, .ref a_newD, .ref a_newR, .int umo_1, .ref a_out, .int m_outCount, .ref a_root, .ref a_rest, .ref a_square, .ref a_part, .ref a_plus, .ref a_minus, .ref a_low, .ref a_high, .ref a_one, .ref a_two, .int m_lowSign, .int m_highSign, .ref a_otherLow, .ref a_otherHigh, .ref a_digit, .ref a_topA, .ref a_underA, .ref a_topB, .ref a_underB, .ref a_quotient, .ref a_otherQuotient])), (a_newN, aJ g 8 uanewN_1), (a_newD, aJ g 8 uanewD_1), (a_newR, aJ g 8 uanewR_1)]) (sd_runV (rest := []) (As := [.long x26_1, .long x28, .long x30]) S (ct_Model_addTerm l D g mo a_n a_d a_r a_count a_newN a_newD a_newR a_out a_root a_rest a_square a_part a_plus a_minus a_low a_high a_one a_two a_otherLow a_otherHigh a_digit a_topA a_underA a_topB a_underB a_quotient a_otherQuotient (H.size) x26_1 x28 x30 m_made m_outCount m_lowSign m_highSign c_newN c_newD c_newR F (r_5, umo_1, uanewN_1, uanewD_1, uanewR_1) hc) kl_Model_113 (by decide) (by decide) hK hP hD [0, 4, 5, 6] rfl (by decide) rfl hl d_Model_multiplyTerm_224 rfl (Nat.le_of_ble_eq_true rfl) ⟨Nat.zero_le _, Nat.zero_le _⟩ 0 rfl rfl) hP hD hS hA [0, 4, 5, 6] [1, 2, 3] rfl rfl (by decide) (by decide) rfl (fun H locs hP hD hS => ?_)
              refine W.eq (g2 := F0 m 227 ls [.int r_5]) rfl ?_
              refine lv_if_eq (tgt := 234) hx hb d_Model_multiplyTerm_227 (by decide) (fun hc => ?_) (fun hc => ?_)
              · have hm := sd_mt hc hm
                refine lv_iconst (v := (0 : Int32)) hx hb d_Model_multiplyTerm_234 (by decide) ?_
                cases hm
                exact J235_15 H locs ls (hP.sub [3, 0, 1, 2, 4, 5, 6] rfl) (hD.sub [3, 0, 1, 2, 4, 5, 6] (by decide) rfl) hS (lv_sub hl [] rfl)
              · have hm := sd_mf hc hm
                refine lv_iconst (v := (1 : Int32)) hx hb d_Model_multiplyTerm_230 (by decide) ?_
                refine lv_goto (tgt := 235) hx hb d_Model_multiplyTerm_231 (by decide) ?_
                cases hm
                exact J235_15 H locs ls (hP.sub [3, 0, 1, 2, 4, 5, 6] rfl) (hD.sub [3, 0, 1, 2, 4, 5, 6] (by decide) rfl) hS (lv_sub hl [] rfl)
        · have hm := sd_mf hc hm
          refine lv_iconst (v := (0 : Int32)) hx hb d_Model_multiplyTerm_190 (by decide) ?_
          exact sd_z1ret (u := (m_made, c_newN, c_newD, c_newR)) hQ hx hb hr hlk rfl hK (hP.sub [0, 1, 2, 3, 4, 5, 6] rfl) (hD.sub [0, 1, 2, 3, 4, 5, 6] (by decide) rfl) hS (Option.some.inj hm).symm d_Model_multiplyTerm_191
theorem d_Model_reckon_0 : decode b_Model_reckon 0 = .ok (.iload_n 2, 1) := by decide +kernel
theorem d_Model_reckon_1 : decode b_Model_reckon 1 = .ok (.invokestatic 109, 3) := by decide +kernel
theorem d_Model_reckon_4 : decode b_Model_reckon 4 = .ok (.ifCond .eq 27, 3) := by decide +kernel
theorem d_Model_reckon_7 : decode b_Model_reckon 7 = .ok (.iload_n 3, 1) := by decide +kernel
theorem d_Model_reckon_8 : decode b_Model_reckon 8 = .ok (.invokestatic 109, 3) := by decide +kernel
theorem d_Model_reckon_11 : decode b_Model_reckon 11 = .ok (.ifCond .eq 20, 3) := by decide +kernel
theorem d_Model_reckon_14 : decode b_Model_reckon 14 = .ok (.iload 4, 2) := by decide +kernel
theorem d_Model_reckon_16 : decode b_Model_reckon 16 = .ok (.invokestatic 109, 3) := by decide +kernel
theorem d_Model_reckon_19 : decode b_Model_reckon 19 = .ok (.ifCond .eq 12, 3) := by decide +kernel
theorem d_Model_reckon_22 : decode b_Model_reckon 22 = .ok (.iload_n 1, 1) := by decide +kernel
theorem d_Model_reckon_23 : decode b_Model_reckon 23 = .ok (.ifCond .lt 8, 3) := by decide +kernel
theorem d_Model_reckon_26 : decode b_Model_reckon 26 = .ok (.iload_n 1, 1) := by decide +kernel
theorem d_Model_reckon_27 : decode b_Model_reckon 27 = .ok (.iconst 2, 1) := by decide +kernel
theorem d_Model_reckon_28 : decode b_Model_reckon 28 = .ok (.if_icmp .le 5, 3) := by decide +kernel
theorem d_Model_reckon_31 : decode b_Model_reckon 31 = .ok (.iconst (-1), 1) := by decide +kernel
theorem d_Model_reckon_32 : decode b_Model_reckon 32 = .ok (.ireturn, 1) := by decide +kernel
theorem d_Model_reckon_33 : decode b_Model_reckon 33 = .ok (.aload_n 0, 1) := by decide +kernel
theorem d_Model_reckon_34 : decode b_Model_reckon 34 = .ok (.iconst 0, 1) := by decide +kernel
theorem d_Model_reckon_35 : decode b_Model_reckon 35 = .ok (.putfield 97, 3) := by decide +kernel
theorem d_Model_reckon_38 : decode b_Model_reckon 38 = .ok (.iconst 0, 1) := by decide +kernel
theorem d_Model_reckon_39 : decode b_Model_reckon 39 = .ok (.istore 5, 2) := by decide +kernel
theorem d_Model_reckon_41 : decode b_Model_reckon 41 = .ok (.iload 5, 2) := by decide +kernel
theorem d_Model_reckon_43 : decode b_Model_reckon 43 = .ok (.aload_n 0, 1) := by decide +kernel
theorem d_Model_reckon_44 : decode b_Model_reckon 44 = .ok (.getfield 19, 3) := by decide +kernel
theorem d_Model_reckon_47 : decode b_Model_reckon 47 = .ok (.iload_n 3, 1) := by decide +kernel
theorem d_Model_reckon_48 : decode b_Model_reckon 48 = .ok (.iaload, 1) := by decide +kernel
theorem d_Model_reckon_49 : decode b_Model_reckon 49 = .ok (.if_icmp .ge 55, 3) := by decide +kernel
theorem d_Model_reckon_52 : decode b_Model_reckon 52 = .ok (.iload_n 1, 1) := by decide +kernel
theorem d_Model_reckon_53 : decode b_Model_reckon 53 = .ok (.iconst 2, 1) := by decide +kernel
theorem d_Model_reckon_54 : decode b_Model_reckon 54 = .ok (.if_icmp .ge 50, 3) := by decide +kernel
theorem d_Model_reckon_57 : decode b_Model_reckon 57 = .ok (.aload_n 0, 1) := by decide +kernel
theorem d_Model_reckon_58 : decode b_Model_reckon 58 = .ok (.aload_n 0, 1) := by decide +kernel
theorem d_Model_reckon_59 : decode b_Model_reckon 59 = .ok (.getfield 9, 3) := by decide +kernel
theorem d_Model_reckon_62 : decode b_Model_reckon 62 = .ok (.bipush 8, 2) := by decide +kernel
theorem d_Model_reckon_64 : decode b_Model_reckon 64 = .ok (.iload_n 3, 1) := by decide +kernel
theorem d_Model_reckon_65 : decode b_Model_reckon 65 = .ok (.imul, 1) := by decide +kernel
theorem d_Model_reckon_66 : decode b_Model_reckon 66 = .ok (.iload 5, 2) := by decide +kernel
theorem d_Model_reckon_68 : decode b_Model_reckon 68 = .ok (.iadd, 1) := by decide +kernel
theorem d_Model_reckon_69 : decode b_Model_reckon 69 = .ok (.laload, 1) := by decide +kernel
theorem d_Model_reckon_70 : decode b_Model_reckon 70 = .ok (.aload_n 0, 1) := by decide +kernel
theorem d_Model_reckon_71 : decode b_Model_reckon 71 = .ok (.getfield 13, 3) := by decide +kernel
theorem d_Model_reckon_74 : decode b_Model_reckon 74 = .ok (.bipush 8, 2) := by decide +kernel
theorem d_Model_reckon_76 : decode b_Model_reckon 76 = .ok (.iload_n 3, 1) := by decide +kernel
theorem d_Model_reckon_77 : decode b_Model_reckon 77 = .ok (.imul, 1) := by decide +kernel
theorem d_Model_reckon_78 : decode b_Model_reckon 78 = .ok (.iload 5, 2) := by decide +kernel
theorem d_Model_reckon_80 : decode b_Model_reckon 80 = .ok (.iadd, 1) := by decide +kernel
theorem d_Model_reckon_81 : decode b_Model_reckon 81 = .ok (.laload, 1) := by decide +kernel
theorem d_Model_reckon_82 : decode b_Model_reckon 82 = .ok (.aload_n 0, 1) := by decide +kernel
theorem d_Model_reckon_83 : decode b_Model_reckon 83 = .ok (.getfield 16, 3) := by decide +kernel
theorem d_Model_reckon_86 : decode b_Model_reckon 86 = .ok (.bipush 8, 2) := by decide +kernel
theorem d_Model_reckon_88 : decode b_Model_reckon 88 = .ok (.iload_n 3, 1) := by decide +kernel
theorem d_Model_reckon_89 : decode b_Model_reckon 89 = .ok (.imul, 1) := by decide +kernel
theorem d_Model_reckon_90 : decode b_Model_reckon 90 = .ok (.iload 5, 2) := by decide +kernel
theorem d_Model_reckon_92 : decode b_Model_reckon 92 = .ok (.iadd, 1) := by decide +kernel
theorem d_Model_reckon_93 : decode b_Model_reckon 93 = .ok (.laload, 1) := by decide +kernel
theorem d_Model_reckon_94 : decode b_Model_reckon 94 = .ok (.invokevirtual 113, 3) := by decide +kernel
theorem d_Model_reckon_97 : decode b_Model_reckon 97 = .ok (.pop, 1) := by decide +kernel
theorem d_Model_reckon_98 : decode b_Model_reckon 98 = .ok (.iinc 5 1, 3) := by decide +kernel
theorem d_Model_reckon_101 : decode b_Model_reckon 101 = .ok (.goto (-60), 3) := by decide +kernel
theorem d_Model_reckon_104 : decode b_Model_reckon 104 = .ok (.iconst 0, 1) := by decide +kernel
theorem d_Model_reckon_105 : decode b_Model_reckon 105 = .ok (.istore 5, 2) := by decide +kernel
theorem d_Model_reckon_107 : decode b_Model_reckon 107 = .ok (.iload 5, 2) := by decide +kernel
theorem d_Model_reckon_109 : decode b_Model_reckon 109 = .ok (.iload_n 1, 1) := by decide +kernel
theorem d_Model_reckon_110 : decode b_Model_reckon 110 = .ok (.iconst 2, 1) := by decide +kernel
theorem d_Model_reckon_111 : decode b_Model_reckon 111 = .ok (.if_icmp .ge 7, 3) := by decide +kernel
theorem d_Model_reckon_114 : decode b_Model_reckon 114 = .ok (.iconst 1, 1) := by decide +kernel
theorem d_Model_reckon_115 : decode b_Model_reckon 115 = .ok (.goto 9, 3) := by decide +kernel
theorem d_Model_reckon_118 : decode b_Model_reckon 118 = .ok (.aload_n 0, 1) := by decide +kernel
theorem d_Model_reckon_119 : decode b_Model_reckon 119 = .ok (.getfield 19, 3) := by decide +kernel
theorem d_Model_reckon_122 : decode b_Model_reckon 122 = .ok (.iload_n 3, 1) := by decide +kernel
theorem d_Model_reckon_123 : decode b_Model_reckon 123 = .ok (.iaload, 1) := by decide +kernel
theorem d_Model_reckon_124 : decode b_Model_reckon 124 = .ok (.if_icmp .ge 130, 3) := by decide +kernel
theorem d_Model_reckon_127 : decode b_Model_reckon 127 = .ok (.bipush 8, 2) := by decide +kernel
theorem d_Model_reckon_129 : decode b_Model_reckon 129 = .ok (.iload 4, 2) := by decide +kernel
theorem d_Model_reckon_131 : decode b_Model_reckon 131 = .ok (.imul, 1) := by decide +kernel
theorem d_Model_reckon_132 : decode b_Model_reckon 132 = .ok (.istore 6, 2) := by decide +kernel
theorem d_Model_reckon_134 : decode b_Model_reckon 134 = .ok (.iload 6, 2) := by decide +kernel
theorem d_Model_reckon_136 : decode b_Model_reckon 136 = .ok (.bipush 8, 2) := by decide +kernel
theorem d_Model_reckon_138 : decode b_Model_reckon 138 = .ok (.iload 4, 2) := by decide +kernel
theorem d_Model_reckon_140 : decode b_Model_reckon 140 = .ok (.imul, 1) := by decide +kernel
theorem d_Model_reckon_141 : decode b_Model_reckon 141 = .ok (.aload_n 0, 1) := by decide +kernel
theorem d_Model_reckon_142 : decode b_Model_reckon 142 = .ok (.getfield 19, 3) := by decide +kernel
theorem d_Model_reckon_145 : decode b_Model_reckon 145 = .ok (.iload 4, 2) := by decide +kernel
theorem d_Model_reckon_147 : decode b_Model_reckon 147 = .ok (.iaload, 1) := by decide +kernel
theorem d_Model_reckon_148 : decode b_Model_reckon 148 = .ok (.iadd, 1) := by decide +kernel
theorem d_Model_reckon_149 : decode b_Model_reckon 149 = .ok (.if_icmp .ge 99, 3) := by decide +kernel
theorem d_Model_reckon_152 : decode b_Model_reckon 152 = .ok (.iload_n 1, 1) := by decide +kernel
theorem d_Model_reckon_153 : decode b_Model_reckon 153 = .ok (.iconst 2, 1) := by decide +kernel
theorem d_Model_reckon_154 : decode b_Model_reckon 154 = .ok (.if_icmp .ne 38, 3) := by decide +kernel
theorem d_Model_reckon_157 : decode b_Model_reckon 157 = .ok (.aload_n 0, 1) := by decide +kernel
theorem d_Model_reckon_158 : decode b_Model_reckon 158 = .ok (.bipush 8, 2) := by decide +kernel
theorem d_Model_reckon_160 : decode b_Model_reckon 160 = .ok (.iload_n 3, 1) := by decide +kernel
theorem d_Model_reckon_161 : decode b_Model_reckon 161 = .ok (.imul, 1) := by decide +kernel
theorem d_Model_reckon_162 : decode b_Model_reckon 162 = .ok (.iload 5, 2) := by decide +kernel
theorem d_Model_reckon_164 : decode b_Model_reckon 164 = .ok (.iadd, 1) := by decide +kernel
theorem d_Model_reckon_165 : decode b_Model_reckon 165 = .ok (.aload_n 0, 1) := by decide +kernel
theorem d_Model_reckon_166 : decode b_Model_reckon 166 = .ok (.getfield 9, 3) := by decide +kernel
theorem d_Model_reckon_169 : decode b_Model_reckon 169 = .ok (.iload 6, 2) := by decide +kernel
theorem d_Model_reckon_171 : decode b_Model_reckon 171 = .ok (.laload, 1) := by decide +kernel
theorem d_Model_reckon_172 : decode b_Model_reckon 172 = .ok (.aload_n 0, 1) := by decide +kernel
theorem d_Model_reckon_173 : decode b_Model_reckon 173 = .ok (.getfield 13, 3) := by decide +kernel
theorem d_Model_reckon_176 : decode b_Model_reckon 176 = .ok (.iload 6, 2) := by decide +kernel
theorem d_Model_reckon_178 : decode b_Model_reckon 178 = .ok (.laload, 1) := by decide +kernel
theorem d_Model_reckon_179 : decode b_Model_reckon 179 = .ok (.aload_n 0, 1) := by decide +kernel
theorem d_Model_reckon_180 : decode b_Model_reckon 180 = .ok (.getfield 16, 3) := by decide +kernel
theorem d_Model_reckon_183 : decode b_Model_reckon 183 = .ok (.iload 6, 2) := by decide +kernel
theorem d_Model_reckon_185 : decode b_Model_reckon 185 = .ok (.laload, 1) := by decide +kernel
theorem d_Model_reckon_186 : decode b_Model_reckon 186 = .ok (.invokevirtual 128, 3) := by decide +kernel
theorem d_Model_reckon_189 : decode b_Model_reckon 189 = .ok (.goto 43, 3) := by decide +kernel
theorem d_Model_reckon_192 : decode b_Model_reckon 192 = .ok (.aload_n 0, 1) := by decide +kernel
theorem d_Model_reckon_193 : decode b_Model_reckon 193 = .ok (.iload_n 1, 1) := by decide +kernel
theorem d_Model_reckon_194 : decode b_Model_reckon 194 = .ok (.ifCond .ne 13, 3) := by decide +kernel
theorem d_Model_reckon_197 : decode b_Model_reckon 197 = .ok (.aload_n 0, 1) := by decide +kernel
theorem d_Model_reckon_198 : decode b_Model_reckon 198 = .ok (.getfield 9, 3) := by decide +kernel
theorem d_Model_reckon_201 : decode b_Model_reckon 201 = .ok (.iload 6, 2) := by decide +kernel
theorem d_Model_reckon_203 : decode b_Model_reckon 203 = .ok (.laload, 1) := by decide +kernel
theorem d_Model_reckon_204 : decode b_Model_reckon 204 = .ok (.goto 11, 3) := by decide +kernel
theorem d_Model_reckon_207 : decode b_Model_reckon 207 = .ok (.aload_n 0, 1) := by decide +kernel
theorem d_Model_reckon_208 : decode b_Model_reckon 208 = .ok (.getfield 9, 3) := by decide +kernel
theorem d_Model_reckon_211 : decode b_Model_reckon 211 = .ok (.iload 6, 2) := by decide +kernel
theorem d_Model_reckon_213 : decode b_Model_reckon 213 = .ok (.laload, 1) := by decide +kernel
theorem d_Model_reckon_214 : decode b_Model_reckon 214 = .ok (.lneg, 1) := by decide +kernel
theorem d_Model_reckon_215 : decode b_Model_reckon 215 = .ok (.aload_n 0, 1) := by decide +kernel
theorem d_Model_reckon_216 : decode b_Model_reckon 216 = .ok (.getfield 13, 3) := by decide +kernel
theorem d_Model_reckon_219 : decode b_Model_reckon 219 = .ok (.iload 6, 2) := by decide +kernel
theorem d_Model_reckon_221 : decode b_Model_reckon 221 = .ok (.laload, 1) := by decide +kernel
theorem d_Model_reckon_222 : decode b_Model_reckon 222 = .ok (.aload_n 0, 1) := by decide +kernel
theorem d_Model_reckon_223 : decode b_Model_reckon 223 = .ok (.getfield 16, 3) := by decide +kernel
theorem d_Model_reckon_226 : decode b_Model_reckon 226 = .ok (.iload 6, 2) := by decide +kernel
theorem d_Model_reckon_228 : decode b_Model_reckon 228 = .ok (.laload, 1) := by decide +kernel
theorem d_Model_reckon_229 : decode b_Model_reckon 229 = .ok (.invokevirtual 113, 3) := by decide +kernel
theorem d_Model_reckon_232 : decode b_Model_reckon 232 = .ok (.istore 7, 2) := by decide +kernel
theorem d_Model_reckon_234 : decode b_Model_reckon 234 = .ok (.iload 7, 2) := by decide +kernel
theorem d_Model_reckon_236 : decode b_Model_reckon 236 = .ok (.ifCond .ne 6, 3) := by decide +kernel
theorem d_Model_reckon_239 : decode b_Model_reckon 239 = .ok (.bipush (-3), 2) := by decide +kernel
theorem d_Model_reckon_241 : decode b_Model_reckon 241 = .ok (.ireturn, 1) := by decide +kernel
theorem d_Model_reckon_242 : decode b_Model_reckon 242 = .ok (.iinc 6 1, 3) := by decide +kernel
theorem d_Model_reckon_245 : decode b_Model_reckon 245 = .ok (.goto (-111), 3) := by decide +kernel
theorem d_Model_reckon_248 : decode b_Model_reckon 248 = .ok (.iinc 5 1, 3) := by decide +kernel
theorem d_Model_reckon_251 : decode b_Model_reckon 251 = .ok (.goto (-144), 3) := by decide +kernel
theorem d_Model_reckon_254 : decode b_Model_reckon 254 = .ok (.aload_n 0, 1) := by decide +kernel
theorem d_Model_reckon_255 : decode b_Model_reckon 255 = .ok (.iload_n 2, 1) := by decide +kernel
theorem d_Model_reckon_256 : decode b_Model_reckon 256 = .ok (.invokevirtual 117, 3) := by decide +kernel
theorem d_Model_reckon_259 : decode b_Model_reckon 259 = .ok (.ireturn, 1) := by decide +kernel
def mf_Model_reckon_L41 (vI : Int32) (c_count : Nat → Int32) (vOp : Int32) (F : Nat) (c_n : Nat → Int64) (c_d : Nat → Int64) (c_r : Nat → Int64) (m_outCount : Int32) (m_lowSign : Int32) (m_highSign : Int32) : Nat → Int32 → Int32 → (Nat → Int64) → (Nat → Int64) → (Nat → Int64) → Option (Int32 × (Nat → Int64) × (Nat → Int64) × (Nat → Int64))
  | 0, _, _, _, _, _ => none
  | fu + 1, x5, umo, uanewN, uanewD, uanewR => (sd_g (sd_ix vI 8) (if (c_count vI.toNatClampNeg) ≤ x5 then (some (umo, uanewN, uanewD, uanewR)) else (if (2 : Int32) ≤ vOp then (some (umo, uanewN, uanewD, uanewR)) else (sd_g (sd_ix (((8 : Int32) * vI) + x5) 64) (sd_g (sd_ix (((8 : Int32) * vI) + x5) 64) (sd_g (sd_ix (((8 : Int32) * vI) + x5) 64) (sd_b5 (mf_Model_addTerm F (c_n (((8 : Int32) * vI) + x5).toNatClampNeg) (c_d (((8 : Int32) * vI) + x5).toNatClampNeg) (c_r (((8 : Int32) * vI) + x5).toNatClampNeg) umo m_outCount m_lowSign m_highSign uanewN uanewD uanewR) fun r_3 umo_1 uanewN_1 uanewD_1 uanewR_1 => (sd_let (x5 + (1 : Int32)) fun x5_1 => ((mf_Model_reckon_L41 vI c_count vOp F c_n c_d c_r m_outCount m_lowSign m_highSign fu) x5_1 umo_1 uanewN_1 uanewD_1 uanewR_1)))))))))
def mf_Model_reckon_L134 (vJ : Int32) (c_count : Nat → Int32) (vOp : Int32) (F : Nat) (vI : Int32) (x5_2 : Int32) (c_n : Nat → Int64) (c_d : Nat → Int64) (c_r : Nat → Int64) (m_outCount : Int32) (m_lowSign : Int32) (m_highSign : Int32) : Nat → Int32 → Int32 → (Nat → Int64) → (Nat → Int64) → (Nat → Int64) → Option (Nat × Int32 × (Nat → Int64) × (Nat → Int64) × (Nat → Int64))
  | 0, _, _, _, _, _ => none
  | fu + 1, x6_1, umo_3, uanewN_3, uanewD_3, uanewR_3 => (sd_g (sd_ix vJ 8) (if (((8 : Int32) * vJ) + (c_count vJ.toNatClampNeg)) ≤ x6_1 then (some (1, umo_3, uanewN_3, uanewD_3, uanewR_3)) else (sd_b5 (if vOp = (2 : Int32) then (sd_g (sd_ix x6_1 64) (sd_g (sd_ix x6_1 64) (sd_g (sd_ix x6_1 64) (sd_b5 (mf_Model_multiplyTerm F (((8 : Int32) * vI) + x5_2) (c_n x6_1.toNatClampNeg) (c_d x6_1.toNatClampNeg) (c_r x6_1.toNatClampNeg) umo_3 m_outCount m_lowSign m_highSign c_n c_d c_r uanewN_3 uanewD_3 uanewR_3) fun r_5 umo_6 uanewN_6 uanewD_6 uanewR_6 => (some (r_5, umo_6, uanewN_6, uanewD_6, uanewR_6)))))) else (sd_b1 (if vOp = 0 then (sd_g (sd_ix x6_1 64) (some ((c_n x6_1.toNatClampNeg)))) else (sd_g (sd_ix x6_1 64) (some ((-(c_n x6_1.toNatClampNeg)))))) fun y_2 => (sd_g (sd_ix x6_1 64) (sd_g (sd_ix x6_1 64) (sd_b5 (mf_Model_addTerm F y_2 (c_d x6_1.toNatClampNeg) (c_r x6_1.toNatClampNeg) umo_3 m_outCount m_lowSign m_highSign uanewN_3 uanewD_3 uanewR_3) fun r_4 umo_5 uanewN_5 uanewD_5 uanewR_5 => (some (r_4, umo_5, uanewN_5, uanewD_5, uanewR_5))))))) fun y_1 umo_4 uanewN_4 uanewD_4 uanewR_4 => (if y_1 = 0 then (some (0, umo_4, uanewN_4, uanewD_4, uanewR_4)) else (sd_let (x6_1 + (1 : Int32)) fun x6_2 => ((mf_Model_reckon_L134 vJ c_count vOp F vI x5_2 c_n c_d c_r m_outCount m_lowSign m_highSign fu) x6_2 umo_4 uanewN_4 uanewD_4 uanewR_4))))))
def mf_Model_reckon_L107 (vOp : Int32) (vI : Int32) (c_count : Nat → Int32) (vJ : Int32) (F : Nat) (c_n : Nat → Int64) (c_d : Nat → Int64) (c_r : Nat → Int64) (m_outCount : Int32) (m_lowSign : Int32) (m_highSign : Int32) : Nat → Int32 → Int32 → (Nat → Int64) → (Nat → Int64) → (Nat → Int64) → Option (Nat × Int32 × (Nat → Int64) × (Nat → Int64) × (Nat → Int64))
  | 0, _, _, _, _, _ => none
  | fu + 1, x5_2, umo_2, uanewN_2, uanewD_2, uanewR_2 => (sd_b1 (if (2 : Int32) ≤ vOp then (sd_g (sd_ix vI 8) (some ((c_count vI.toNatClampNeg)))) else (some ((1 : Int32)))) fun y => (if y ≤ x5_2 then (some (1, umo_2, uanewN_2, uanewD_2, uanewR_2)) else (sd_let (((8 : Int32) * vJ)) fun x6 => (sd_b5 (mf_Model_reckon_L134 vJ c_count vOp F vI x5_2 c_n c_d c_r m_outCount m_lowSign m_highSign F x6 umo_2 uanewN_2 uanewD_2 uanewR_2) fun tg_1 rumo_2 ruanewN_2 ruanewD_2 ruanewR_2 => (if tg_1 = 0 then (some (0, rumo_2, ruanewN_2, ruanewD_2, ruanewR_2)) else (sd_let (x5_2 + (1 : Int32)) fun x5_3 => ((mf_Model_reckon_L107 vOp vI c_count vJ F c_n c_d c_r m_outCount m_lowSign m_highSign fu) x5_3 rumo_2 ruanewN_2 ruanewD_2 ruanewR_2)))))))
def mf_Model_reckon (F : Nat) (vOp : Int32) (vK : Int32) (vI : Int32) (vJ : Int32) (m_made : Int32) (m_outCount : Int32) (m_lowSign : Int32) (m_highSign : Int32) (c_n : Nat → Int64) (c_d : Nat → Int64) (c_r : Nat → Int64) (c_count : Nat → Int32) (c_newN : Nat → Int64) (c_newD : Nat → Int64) (c_newR : Nat → Int64) : Option (Int32 × Int32 × (Nat → Int64) × (Nat → Int64) × (Nat → Int64) × (Nat → Int32) × (Nat → Int64) × (Nat → Int64) × (Nat → Int64)) :=
  (sd_b1 (mf_Model_is F vK) fun r => (if r = 0 then (some ((-1 : Int32), m_made, c_n, c_d, c_r, c_count, c_newN, c_newD, c_newR)) else (sd_b1 (mf_Model_is F vI) fun r_1 => (if r_1 = 0 then (some ((-1 : Int32), m_made, c_n, c_d, c_r, c_count, c_newN, c_newD, c_newR)) else (sd_b1 (mf_Model_is F vJ) fun r_2 => (if r_2 = 0 then (some ((-1 : Int32), m_made, c_n, c_d, c_r, c_count, c_newN, c_newD, c_newR)) else (if vOp < 0 then (some ((-1 : Int32), m_made, c_n, c_d, c_r, c_count, c_newN, c_newD, c_newR)) else (if vOp ≤ (2 : Int32) then (sd_b4 (mf_Model_reckon_L41 vI c_count vOp F c_n c_d c_r m_outCount m_lowSign m_highSign F (0 : Int32) (0 : Int32) c_newN c_newD c_newR) fun rumo ruanewN ruanewD ruanewR => (sd_b5 (mf_Model_reckon_L107 vOp vI c_count vJ F c_n c_d c_r m_outCount m_lowSign m_highSign F (0 : Int32) rumo ruanewN ruanewD ruanewR) fun tg rumo_1 ruanewN_1 ruanewD_1 ruanewR_1 => (if tg = 0 then (some ((-3 : Int32), rumo_1, c_n, c_d, c_r, c_count, ruanewN_1, ruanewD_1, ruanewR_1)) else (sd_b5 (mf_Model_keep F vK rumo_1 m_outCount m_lowSign m_highSign c_n c_d c_r c_count ruanewN_1 ruanewD_1 ruanewR_1) fun r_6 uan uad uar uacount => (some (r_6, rumo_1, uan, uad, uar, uacount, ruanewN_1, ruanewD_1, ruanewR_1)))))) else (some ((-1 : Int32), m_made, c_n, c_d, c_r, c_count, c_newN, c_newD, c_newR))))))))))
abbrev rm_Model_reckon : Room := { frames := 3, cells := 0, slots := 0, locals := 115 }
set_option maxHeartbeats 4000000 in
set_option maxRecDepth 100000 in
theorem ct_Model_reckon (l : Launch) (D : va_G) (g : G4) (mo : Nat) (a_n : Nat) (a_d : Nat) (a_r : Nat) (a_count : Nat) (a_newN : Nat) (a_newD : Nat) (a_newR : Nat) (a_out : Nat) (a_root : Nat) (a_rest : Nat) (a_square : Nat) (a_part : Nat) (a_plus : Nat) (a_minus : Nat) (a_low : Nat) (a_high : Nat) (a_one : Nat) (a_two : Nat) (a_otherLow : Nat) (a_otherHigh : Nat) (a_digit : Nat) (a_topA : Nat) (a_underA : Nat) (a_topB : Nat) (a_underB : Nat) (a_quotient : Nat) (a_otherQuotient : Nat) (sz : Nat) (vOp : Int32) (vK : Int32) (vI : Int32) (vJ : Int32) (m_made : Int32) (m_outCount : Int32) (m_lowSign : Int32) (m_highSign : Int32) (c_n : Nat → Int64) (c_d : Nat → Int64) (c_r : Nat → Int64) (c_count : Nat → Int32) (c_newN : Nat → Int64) (c_newD : Nat → Int64) (c_newR : Nat → Int64) (F : Nat) (res : Int32 × Int32 × (Nat → Int64) × (Nat → Int64) × (Nat → Int64) × (Nat → Int32) × (Nat → Int64) × (Nat → Int64) × (Nat → Int64)) (hm : mf_Model_reckon F vOp vK vI vJ m_made m_outCount m_lowSign m_highSign c_n c_d c_r c_count c_newN c_newD c_newR = some res) : Met l y_Model_reckon (.code y_Model_reckon b_Model_reckon 8 (some .int) :: sd_tb) rm_Model_reckon (sd_PW D g [.ref mo, .int vOp, .int vK, .int vI, .int vJ] sz [(mo, .inr (5, [.ref a_n, .ref a_d, .ref a_r, .ref a_count, .ref a_newN, .ref a_newD, .ref a_newR, .int m_made, .ref a_out, .int m_outCount, .ref a_root, .ref a_rest, .ref a_square, .ref a_part, .ref a_plus, .ref a_minus, .ref a_low, .ref a_high, .ref a_one, .ref a_two, .int m_lowSign, .int m_highSign, .ref a_otherLow, .ref a_otherHigh, .ref a_digit, .ref a_topA, .ref a_underA, .ref a_topB, .ref a_underB, .ref a_quotient, .ref a_otherQuotient])), (a_n, aJ g 64 c_n), (a_d, aJ g 64 c_d), (a_r, aJ g 64 c_r), (a_count, aI g 8 c_count), (a_newN, aJ g 8 c_newN), (a_newD, aJ g 8 c_newD), (a_newR, aJ g 8 c_newR)]) (sd_Qi1 D g res (fun u : Int32 × (Nat → Int64) × (Nat → Int64) × (Nat → Int64) × (Nat → Int32) × (Nat → Int64) × (Nat → Int64) × (Nat → Int64) => [(mo, .inr (5, [.ref a_n, .ref a_d, .ref a_r, .ref a_count, .ref a_newN, .ref a_newD, .ref a_newR, .int (u.1), .ref a_out, .int m_outCount, .ref a_root, .ref a_rest, .ref a_square, .ref a_part, .ref a_plus, .ref a_minus, .ref a_low, .ref a_high, .ref a_one, .ref a_two, .int m_lowSign, .int m_highSign, .ref a_otherLow, .ref a_otherHigh, .ref a_digit, .ref a_topA, .ref a_underA, .ref a_topB, .ref a_underB, .ref a_quotient, .ref a_otherQuotient])), (a_n, aJ g 64 (u.2.1)), (a_d, aJ g 64 (u.2.2.1)), (a_r, aJ g 64 (u.2.2.2.1)), (a_count, aI g 8 (u.2.2.2.2.1)), (a_newN, aJ g 8 (u.2.2.2.2.2.1)), (a_newD, aJ g 8 (u.2.2.2.2.2.2.1)), (a_newR, aJ g 8 (u.2.2.2.2.2.2.2))]) (va_A [(mo, .inr (5, [.ref a_n, .ref a_d, .ref a_r, .ref a_count, .ref a_newN, .ref a_newD, .ref a_newR, .int m_made, .ref a_out, .int m_outCount, .ref a_root, .ref a_rest, .ref a_square, .ref a_part, .ref a_plus, .ref a_minus, .ref a_low, .ref a_high, .ref a_one, .ref a_two, .int m_lowSign, .int m_highSign, .ref a_otherLow, .ref a_otherHigh, .ref a_digit, .ref a_topA, .ref a_underA, .ref a_topB, .ref a_underB, .ref a_quotient, .ref a_otherQuotient])), (a_n, aJ g 64 c_n), (a_d, aJ g 64 c_d), (a_r, aJ g 64 c_r), (a_count, aI g 8 c_count), (a_newN, aJ g 8 c_newN), (a_newD, aJ g 8 c_newD), (a_newR, aJ g 8 c_newR)] sz)) 0 0 (va_A [(mo, .inr (5, [.ref a_n, .ref a_d, .ref a_r, .ref a_count, .ref a_newN, .ref a_newD, .ref a_newR, .int m_made, .ref a_out, .int m_outCount, .ref a_root, .ref a_rest, .ref a_square, .ref a_part, .ref a_plus, .ref a_minus, .ref a_low, .ref a_high, .ref a_one, .ref a_two, .int m_lowSign, .int m_highSign, .ref a_otherLow, .ref a_otherHigh, .ref a_digit, .ref a_topA, .ref a_underA, .ref a_topB, .ref a_underB, .ref a_quotient, .ref a_otherQuotient])), (a_n, aJ g 64 c_n), (a_d, aJ g 64 c_d), (a_r, aJ g 64 c_r), (a_count, aI g 8 c_count), (a_newN, aJ g 8 c_newN), (a_newD, aJ g 8 c_newD), (a_newR, aJ g 8 c_newR)] sz) := by
  refine sd_met (Qf := fun A => sd_Qi1 D g res (fun u : Int32 × (Nat → Int64) × (Nat → Int64) × (Nat → Int64) × (Nat → Int32) × (Nat → Int64) × (Nat → Int64) × (Nat → Int64) => [(mo, .inr (5, [.ref a_n, .ref a_d, .ref a_r, .ref a_count, .ref a_newN, .ref a_newD, .ref a_newR, .int (u.1), .ref a_out, .int m_outCount, .ref a_root, .ref a_rest, .ref a_square, .ref a_part, .ref a_plus, .ref a_minus, .ref a_low, .ref a_high, .ref a_one, .ref a_two, .int m_lowSign, .int m_highSign, .ref a_otherLow, .ref a_otherHigh, .ref a_digit, .ref a_topA, .ref a_underA, .ref a_topB, .ref a_underB, .ref a_quotient, .ref a_otherQuotient])), (a_n, aJ g 64 (u.2.1)), (a_d, aJ g 64 (u.2.2.1)), (a_r, aJ g 64 (u.2.2.2.1)), (a_count, aI g 8 (u.2.2.2.2.1)), (a_newN, aJ g 8 (u.2.2.2.2.2.1)), (a_newD, aJ g 8 (u.2.2.2.2.2.2.1)), (a_newR, aJ g 8 (u.2.2.2.2.2.2.2))]) A) (own := R_Model) (by decide +kernel) rfl (Nat.le_of_ble_eq_true rfl) ?_
  intro p e s m args below meth c S hr hlk hK A hA Q hQ H locs hP hD hS ls hl
  have hx := S.1
  have hb := S.2.1
  have hml := S.2.2.1
  have hown := S.2.2.2.1
  have htt := sd_tt S
  replace hl : lv_has ls 8 [(0, .ref mo), (1, .int vOp), (2, .int vK), (3, .int vI), (4, .int vJ)] := hl
  unfold mf_Model_reckon at hm
  refine lv_iload_n hx hb d_Model_reckon_0 rfl (lv_at hl 2 rfl) ?_
  obtain ⟨r, hc, hm⟩ := sd_mb1 hm
  refine sd_ci0 (wr := [(mo, .inr (5, [.ref a_n, .ref a_d, .ref a_r, .ref a_count, .ref a_newN, .ref a_newD, .ref a_newR, .int m_made, .ref a_out, .int m_outCount, .ref a_root, .ref a_rest, .ref a_square, .ref a_part, .ref a_plus, .ref a_minus, .ref a_low, .ref a_high, .ref a_one, .ref a_two, .int m_lowSign, .int m_highSign, .ref a_otherLow, .ref a_otherHigh, .ref a_digit, .ref a_topA, .ref a_underA, .ref a_topB, .ref a_underB, .ref a_quotient, .ref a_otherQuotient])), (a_n, aJ g 64 c_n), (a_d, aJ g 64 c_d), (a_r, aJ g 64 c_r), (a_count, aI g 8 c_count), (a_newN, aJ g 8 c_newN), (a_newD, aJ g 8 c_newD), (a_newR, aJ g 8 c_newR)]) (w2 := [(mo, .inr (5, [.ref a_n, .ref a_d, .ref a_r, .ref a_count, .ref a_newN, .ref a_newD, .ref a_newR, .int m_made, .ref a_out, .int m_outCount, .ref a_root, .ref a_rest, .ref a_square, .ref a_part, .ref a_plus, .ref a_minus, .ref a_low, .ref a_high, .ref a_one, .ref a_two, .int m_lowSign, .int m_highSign, .ref a_otherLow, .ref a_otherHigh, .ref a_digit, .ref a_topA, .ref a_underA, .ref a_topB, .ref a_underB, .ref a_quotient, .ref a_otherQuotient])), (a_n, aJ g 64 c_n), (a_d, aJ g 64 c_d), (a_r, aJ g 64 c_r), (a_count, aI g 8 c_count), (a_newN, aJ g 8 c_newN), (a_newD, aJ g 8 c_newD), (a_newR, aJ g 8 c_newR)]) (sd_runS (rest := []) (As := [.int vK]) S (ct_Model_is l D g (H.size) vK F (r) hc) kl_Model_109 (by decide) (by decide) hK hP hD [] rfl (by decide) rfl hl d_Model_reckon_1 rfl (Nat.le_of_ble_eq_true rfl) ⟨Nat.zero_le _, Nat.zero_le _⟩) hP hD hS hA [] [0, 1, 2, 3, 4, 5, 6, 7] rfl rfl (by decide) (by decide) rfl (fun H locs hP hD hS => ?_)
  refine W.eq (g2 := F0 m 4 ls [.int r]) rfl ?_
  refine lv_if_eq (tgt := 31) hx hb d_Model_reckon_4 (by decide) (fun hc => ?_) (fun hc => ?_)
  · have hm := sd_mt hc hm
    refine lv_iconst (v := (-1 : Int32)) hx hb d_Model_reckon_31 (by decide) ?_
    exact sd_i1ret (u := (m_made, c_n, c_d, c_r, c_count, c_newN, c_newD, c_newR)) hQ hx hb hr hlk hK (hP.sub [0, 1, 2, 3, 4, 5, 6, 7] rfl) (hD.sub [0, 1, 2, 3, 4, 5, 6, 7] (by decide) rfl) hS (Option.some.inj hm).symm d_Model_reckon_32
  · have hm := sd_mf hc hm
    refine lv_iload_n hx hb d_Model_reckon_7 rfl (lv_at hl 3 rfl) ?_
    obtain ⟨r_1, hc, hm⟩ := sd_mb1 hm
    refine sd_ci0 (wr := [(mo, .inr (5, [.ref a_n, .ref a_d, .ref a_r, .ref a_count, .ref a_newN, .ref a_newD, .ref a_newR, .int m_made, .ref a_out, .int m_outCount, .ref a_root, .ref a_rest, .ref a_square, .ref a_part, .ref a_plus, .ref a_minus, .ref a_low, .ref a_high, .ref a_one, .ref a_two, .int m_lowSign, .int m_highSign, .ref a_otherLow, .ref a_otherHigh, .ref a_digit, .ref a_topA, .ref a_underA, .ref a_topB, .ref a_underB, .ref a_quotient, .ref a_otherQuotient])), (a_n, aJ g 64 c_n), (a_d, aJ g 64 c_d), (a_r, aJ g 64 c_r), (a_count, aI g 8 c_count), (a_newN, aJ g 8 c_newN), (a_newD, aJ g 8 c_newD), (a_newR, aJ g 8 c_newR)]) (w2 := [(mo, .inr (5, [.ref a_n, .ref a_d, .ref a_r, .ref a_count, .ref a_newN, .ref a_newD, .ref a_newR, .int m_made, .ref a_out, .int m_outCount, .ref a_root, .ref a_rest, .ref a_square, .ref a_part, .ref a_plus, .ref a_minus, .ref a_low, .ref a_high, .ref a_one, .ref a_two, .int m_lowSign, .int m_highSign, .ref a_otherLow, .ref a_otherHigh, .ref a_digit, .ref a_topA, .ref a_underA, .ref a_topB, .ref a_underB, .ref a_quotient, .ref a_otherQuotient])), (a_n, aJ g 64 c_n), (a_d, aJ g 64 c_d), (a_r, aJ g 64 c_r), (a_count, aI g 8 c_count), (a_newN, aJ g 8 c_newN), (a_newD, aJ g 8 c_newD), (a_newR, aJ g 8 c_newR)]) (sd_runS (rest := []) (As := [.int vI]) S (ct_Model_is l D g (H.size) vI F (r_1) hc) kl_Model_109 (by decide) (by decide) hK hP hD [] rfl (by decide) rfl hl d_Model_reckon_8 rfl (Nat.le_of_ble_eq_true rfl) ⟨Nat.zero_le _, Nat.zero_le _⟩) hP hD hS hA [] [0, 1, 2, 3, 4, 5, 6, 7] rfl rfl (by decide) (by decide) rfl (fun H locs hP hD hS => ?_)
    refine W.eq (g2 := F0 m 11 ls [.int r_1]) rfl ?_
    refine lv_if_eq (tgt := 31) hx hb d_Model_reckon_11 (by decide) (fun hc => ?_) (fun hc => ?_)
    · have hm := sd_mt hc hm
      refine lv_iconst (v := (-1 : Int32)) hx hb d_Model_reckon_31 (by decide) ?_
      exact sd_i1ret (u := (m_made, c_n, c_d, c_r, c_count, c_newN, c_newD, c_newR)) hQ hx hb hr hlk hK (hP.sub [0, 1, 2, 3, 4, 5, 6, 7] rfl) (hD.sub [0, 1, 2, 3, 4, 5, 6, 7] (by decide) rfl) hS (Option.some.inj hm).symm d_Model_reckon_32
    · have hm := sd_mf hc hm
      refine lv_iload hx hb d_Model_reckon_14 (lv_at hl 4 rfl) ?_
      obtain ⟨r_2, hc, hm⟩ := sd_mb1 hm
      refine sd_ci0 (wr := [(mo, .inr (5, [.ref a_n, .ref a_d, .ref a_r, .ref a_count, .ref a_newN, .ref a_newD, .ref a_newR, .int m_made, .ref a_out, .int m_outCount, .ref a_root, .ref a_rest, .ref a_square, .ref a_part, .ref a_plus, .ref a_minus, .ref a_low, .ref a_high, .ref a_one, .ref a_two, .int m_lowSign, .int m_highSign, .ref a_otherLow, .ref a_otherHigh, .ref a_digit, .ref a_topA, .ref a_underA, .ref a_topB, .ref a_underB, .ref a_quotient, .ref a_otherQuotient])), (a_n, aJ g 64 c_n), (a_d, aJ g 64 c_d), (a_r, aJ g 64 c_r), (a_count, aI g 8 c_count), (a_newN, aJ g 8 c_newN), (a_newD, aJ g 8 c_newD), (a_newR, aJ g 8 c_newR)]) (w2 := [(mo, .inr (5, [.ref a_n, .ref a_d, .ref a_r, .ref a_count, .ref a_newN, .ref a_newD, .ref a_newR, .int m_made, .ref a_out, .int m_outCount, .ref a_root, .ref a_rest, .ref a_square, .ref a_part, .ref a_plus, .ref a_minus, .ref a_low, .ref a_high, .ref a_one, .ref a_two, .int m_lowSign, .int m_highSign, .ref a_otherLow, .ref a_otherHigh, .ref a_digit, .ref a_topA, .ref a_underA, .ref a_topB, .ref a_underB, .ref a_quotient, .ref a_otherQuotient])), (a_n, aJ g 64 c_n), (a_d, aJ g 64 c_d), (a_r, aJ g 64 c_r), (a_count, aI g 8 c_count), (a_newN, aJ g 8 c_newN), (a_newD, aJ g 8 c_newD), (a_newR, aJ g 8 c_newR)]) (sd_runS (rest := []) (As := [.int vJ]) S (ct_Model_is l D g (H.size) vJ F (r_2) hc) kl_Model_109 (by decide) (by decide) hK hP hD [] rfl (by decide) rfl hl d_Model_reckon_16 rfl (Nat.le_of_ble_eq_true rfl) ⟨Nat.zero_le _, Nat.zero_le _⟩) hP hD hS hA [] [0, 1, 2, 3, 4, 5, 6, 7] rfl rfl (by decide) (by decide) rfl (fun H locs hP hD hS => ?_)
      refine W.eq (g2 := F0 m 19 ls [.int r_2]) rfl ?_
      refine lv_if_eq (tgt := 31) hx hb d_Model_reckon_19 (by decide) (fun hc => ?_) (fun hc => ?_)
      · have hm := sd_mt hc hm
        refine lv_iconst (v := (-1 : Int32)) hx hb d_Model_reckon_31 (by decide) ?_
        exact sd_i1ret (u := (m_made, c_n, c_d, c_r, c_count, c_newN, c_newD, c_newR)) hQ hx hb hr hlk hK (hP.sub [0, 1, 2, 3, 4, 5, 6, 7] rfl) (hD.sub [0, 1, 2, 3, 4, 5, 6, 7] (by decide) rfl) hS (Option.some.inj hm).symm d_Model_reckon_32
      · have hm := sd_mf hc hm
        refine lv_iload_n hx hb d_Model_reckon_22 rfl (lv_at hl 1 rfl) ?_
        refine lv_if_lt (tgt := 31) hx hb d_Model_reckon_23 (by decide) (fun hc => ?_) (fun hc => ?_)
        · have hm := sd_mt hc hm
          refine lv_iconst (v := (-1 : Int32)) hx hb d_Model_reckon_31 (by decide) ?_
          exact sd_i1ret (u := (m_made, c_n, c_d, c_r, c_count, c_newN, c_newD, c_newR)) hQ hx hb hr hlk hK (hP.sub [0, 1, 2, 3, 4, 5, 6, 7] rfl) (hD.sub [0, 1, 2, 3, 4, 5, 6, 7] (by decide) rfl) hS (Option.some.inj hm).symm d_Model_reckon_32
        · have hm := sd_mf hc hm
          refine lv_iload_n hx hb d_Model_reckon_26 rfl (lv_at hl 1 rfl) ?_
          refine lv_iconst (v := (2 : Int32)) hx hb d_Model_reckon_27 (by decide) ?_
          refine lv_icmp_le (tgt := 33) hx hb d_Model_reckon_28 (by decide) (fun hc => ?_) (fun hc => ?_)
          · have hm := sd_mt hc hm
            refine lv_aload_n hx hb d_Model_reckon_33 rfl (lv_at hl 0 rfl) ?_
            refine lv_iconst (v := (0 : Int32)) hx hb d_Model_reckon_34 (by decide) ?_
            refine sd_put (ci := 5) (v := .int (0 : Int32)) (ty := .int) (C := R_Model) (T := F_Model) (N := 31) (ws2 := [(mo, .inr (5, [.ref a_n, .ref a_d, .ref a_r, .ref a_count, .ref a_newN, .ref a_newD, .ref a_newR, .int (0 : Int32), .ref a_out, .int m_outCount, .ref a_root, .ref a_rest, .ref a_square, .ref a_part, .ref a_plus, .ref a_minus, .ref a_low, .ref a_high, .ref a_one, .ref a_two, .int m_lowSign, .int m_highSign, .ref a_otherLow, .ref a_otherHigh, .ref a_digit, .ref a_topA, .ref a_underA, .ref a_topB, .ref a_underB, .ref a_quotient, .ref a_otherQuotient])), (a_n, aJ g 64 c_n), (a_d, aJ g 64 c_d), (a_r, aJ g 64 c_r), (a_count, aI g 8 c_count), (a_newN, aJ g 8 c_newN), (a_newD, aJ g 8 c_newD), (a_newR, aJ g 8 c_newR)]) hx hb htt i_Model t_Model t_Model_ok n_Model hown hK hP hD hS 0 rfl rfl 7 (by decide) kf_Model_97 (fun _ h9 => h9) rfl (by decide +kernel) rfl rfl (Nat.le_of_ble_eq_true rfl) rfl d_Model_reckon_35 (fun H locs hP hD hS => ?_)
            refine lv_iconst (v := (0 : Int32)) hx hb d_Model_reckon_38 (by decide) ?_
            refine lv_istore (lv' := [(5, .int (0 : Int32)), (0, .ref mo), (1, .int vOp), (2, .int vK), (3, .int vI), (4, .int vJ)]) hx hb d_Model_reckon_39 hl (by decide) rfl (fun ls hl => ?_)
            have L41 : ∀ (fu : Nat) (x5 : Int32) (umo : Int32) (uanewN : Nat → Int64) (uanewD : Nat → Int64) (uanewR : Nat → Int64) (rumo : Int32) (ruanewN : Nat → Int64) (ruanewD : Nat → Int64) (ruanewR : Nat → Int64), mf_Model_reckon_L41 vI c_count vOp F c_n c_d c_r m_outCount m_lowSign m_highSign fu x5 umo uanewN uanewD uanewR = some (rumo, ruanewN, ruanewD, ruanewR) → ∀ (H : Heap) (locs : List Loc) (ls : Array Slot), va_P D classes [(mo, .inr (5, [.ref a_n, .ref a_d, .ref a_r, .ref a_count, .ref a_newN, .ref a_newD, .ref a_newR, .int umo, .ref a_out, .int m_outCount, .ref a_root, .ref a_rest, .ref a_square, .ref a_part, .ref a_plus, .ref a_minus, .ref a_low, .ref a_high, .ref a_one, .ref a_two, .int m_lowSign, .int m_highSign, .ref a_otherLow, .ref a_otherHigh, .ref a_digit, .ref a_topA, .ref a_underA, .ref a_topB, .ref a_underB, .ref a_quotient, .ref a_otherQuotient])), (a_n, aJ g 64 c_n), (a_d, aJ g 64 c_d), (a_r, aJ g 64 c_r), (a_count, aI g 8 c_count), (a_newN, aJ g 8 uanewN), (a_newD, aJ g 8 uanewD), (a_newR, aJ g 8 uanewR)] H → va_D A [(mo, .inr (5, [.ref a_n, .ref a_d, .ref a_r, .ref a_count, .ref a_newN, .ref a_newD, .ref a_newR, .int umo, .ref a_out, .int m_outCount, .ref a_root, .ref a_rest, .ref a_square, .ref a_part, .ref a_plus, .ref a_minus, .ref a_low, .ref a_high, .ref a_one, .ref a_two, .int m_lowSign, .int m_highSign, .ref a_otherLow, .ref a_otherHigh, .ref a_digit, .ref a_topA, .ref a_underA, .ref a_topB, .ref a_underB, .ref a_quotient, .ref a_otherQuotient])), (a_n, aJ g 64 c_n), (a_d, aJ g 64 c_d), (a_r, aJ g 64 c_r), (a_count, aI g 8 c_count), (a_newN, aJ g 8 uanewN), (a_newD, aJ g 8 uanewD), (a_newR, aJ g 8 uanewR)] → va_S A s.heap H locs → lv_has ls 8 [(0, .ref mo), (1, .int vOp), (2, .int vK), (3, .int vI), (4, .int vJ), (5, .int x5)] → (∀ (H : Heap) (locs : List Loc) (ls : Array Slot), va_P D classes [(mo, .inr (5, [.ref a_n, .ref a_d, .ref a_r, .ref a_count, .ref a_newN, .ref a_newD, .ref a_newR, .int rumo, .ref a_out, .int m_outCount, .ref a_root, .ref a_rest, .ref a_square, .ref a_part, .ref a_plus, .ref a_minus, .ref a_low, .ref a_high, .ref a_one, .ref a_two, .int m_lowSign, .int m_highSign, .ref a_otherLow, .ref a_otherHigh, .ref a_digit, .ref a_topA, .ref a_underA, .ref a_topB, .ref a_underB, .ref a_quotient, .ref a_otherQuotient])), (a_n, aJ g 64 c_n), (a_d, aJ g 64 c_d), (a_r, aJ g 64 c_r), (a_count, aI g 8 c_count), (a_newN, aJ g 8 ruanewN), (a_newD, aJ g 8 ruanewD), (a_newR, aJ g 8 ruanewR)] H → va_D A [(mo, .inr (5, [.ref a_n, .ref a_d, .ref a_r, .ref a_count, .ref a_newN, .ref a_newD, .ref a_newR, .int rumo, .ref a_out, .int m_outCount, .ref a_root, .ref a_rest, .ref a_square, .ref a_part, .ref a_plus, .ref a_minus, .ref a_low, .ref a_high, .ref a_one, .ref a_two, .int m_lowSign, .int m_highSign, .ref a_otherLow, .ref a_otherHigh, .ref a_digit, .ref a_topA, .ref a_underA, .ref a_topB, .ref a_underB, .ref a_quotient, .ref a_otherQuotient])), (a_n, aJ g 64 c_n), (a_d, aJ g 64 c_d), (a_r, aJ g 64 c_r), (a_count, aI g 8 c_count), (a_newN, aJ g 8 ruanewN), (a_newD, aJ g 8 ruanewD), (a_newR, aJ g 8 ruanewR)] → va_S A s.heap H locs → lv_has ls 8 [(0, .ref mo), (1, .int vOp), (2, .int vK), (3, .int vI), (4, .int vJ)] → W p l e rm_Model_reckon s m args below meth c H locs 0 0 Q (F0 m 104 ls [])) → W p l e rm_Model_reckon s m args below meth c H locs 0 0 Q (F0 m 41 ls []) := by
              intro fu
              induction fu with
              | zero => intro x5 umo uanewN uanewD uanewR rumo ruanewN ruanewD ruanewR hm; exact absurd (show (none : Option (Int32 × (Nat → Int64) × (Nat → Int64) × (Nat → Int64))) = some (rumo, ruanewN, ruanewD, ruanewR) from hm) (fun h => nomatch h)
              | succ fu ih =>
                intro x5 umo uanewN uanewD uanewR rumo ruanewN ruanewD ruanewR hm H locs ls hP hD hS hl kx104
                rw [mf_Model_reckon_L41] at hm
                refine lv_iload hx hb d_Model_reckon_41 (lv_at hl 5 rfl) ?_
                refine lv_aload_n hx hb d_Model_reckon_43 rfl (lv_at hl 0 rfl) ?_
                refine va_get (D := D) (ci := 5) (v := .ref a_count) (C := R_Model) (T := F_Model) (N := 31) hx hb htt i_Model hown hK hP 0 rfl rfl 3 (by decide) (htt _ kf_Model_19) (fun _ h9 => h9) rfl d_Model_reckon_44 ?_
                refine lv_iload_n hx hb d_Model_reckon_47 rfl (lv_at hl 3 rfl) ?_
                obtain ⟨h_1, hm⟩ := sd_mg hm
                refine sd_iald hx hb hK hP 4 rfl h_1 d_Model_reckon_48 ?_
                refine lv_icmp_ge (tgt := 104) hx hb d_Model_reckon_49 (by decide) (fun hc => ?_) (fun hc => ?_)
                · have hm := sd_mt hc hm
                  cases hm
                  exact kx104 H locs ls (hP.sub [0, 1, 2, 3, 4, 5, 6, 7] rfl) (hD.sub [0, 1, 2, 3, 4, 5, 6, 7] (by decide) rfl) hS (lv_sub hl [0, 1, 2, 3, 4] rfl)
                · have hm := sd_mf hc hm
                  refine lv_iload_n hx hb d_Model_reckon_52 rfl (lv_at hl 1 rfl) ?_
                  refine lv_iconst (v := (2 : Int32)) hx hb d_Model_reckon_53 (by decide) ?_
                  refine lv_icmp_ge (tgt := 104) hx hb d_Model_reckon_54 (by decide) (fun hc => ?_) (fun hc => ?_)
                  · have hm := sd_mt hc hm
                    cases hm
                    exact kx104 H locs ls (hP.sub [0, 1, 2, 3, 4, 5, 6, 7] rfl) (hD.sub [0, 1, 2, 3, 4, 5, 6, 7] (by decide) rfl) hS (lv_sub hl [0, 1, 2, 3, 4] rfl)
                  · have hm := sd_mf hc hm
                    refine lv_aload_n hx hb d_Model_reckon_57 rfl (lv_at hl 0 rfl) ?_
                    refine lv_aload_n hx hb d_Model_reckon_58 rfl (lv_at hl 0 rfl) ?_
                    refine va_get (D := D) (ci := 5) (v := .ref a_n) (C := R_Model) (T := F_Model) (N := 31) hx hb htt i_Model hown hK hP 0 rfl rfl 0 (by decide) (htt _ kf_Model_9) (fun _ h9 => h9) rfl d_Model_reckon_59 ?_
                    refine lv_bipush (v := (8 : Int32)) hx hb d_Model_reckon_62 (by decide) ?_
                    refine lv_iload_n hx hb d_Model_reckon_64 rfl (lv_at hl 3 rfl) ?_
                    refine lv_imul hx hb d_Model_reckon_65 ?_
                    refine lv_iload hx hb d_Model_reckon_66 (lv_at hl 5 rfl) ?_
                    refine lv_iadd hx hb d_Model_reckon_68 ?_
                    obtain ⟨h_2, hm⟩ := sd_mg hm
                    refine sd_lald hx hb hK hP 1 rfl h_2 d_Model_reckon_69 ?_
                    refine lv_aload_n hx hb d_Model_reckon_70 rfl (lv_at hl 0 rfl) ?_
                    refine va_get (D := D) (ci := 5) (v := .ref a_d) (C := R_Model) (T := F_Model) (N := 31) hx hb htt i_Model hown hK hP 0 rfl rfl 1 (by decide) (htt _ kf_Model_13) (fun _ h9 => h9) rfl d_Model_reckon_71 ?_
                    refine lv_bipush (v := (8 : Int32)) hx hb d_Model_reckon_74 (by decide) ?_
                    refine lv_iload_n hx hb d_Model_reckon_76 rfl (lv_at hl 3 rfl) ?_
                    refine lv_imul hx hb d_Model_reckon_77 ?_
                    refine lv_iload hx hb d_Model_reckon_78 (lv_at hl 5 rfl) ?_
                    refine lv_iadd hx hb d_Model_reckon_80 ?_
                    obtain ⟨h_3, hm⟩ := sd_mg hm
                    refine sd_lald hx hb hK hP 2 rfl h_3 d_Model_reckon_81 ?_
                    refine lv_aload_n hx hb d_Model_reckon_82 rfl (lv_at hl 0 rfl) ?_
                    refine va_get (D := D) (ci := 5) (v := .ref a_r) (C := R_Model) (T := F_Model) (N := 31) hx hb htt i_Model hown hK hP 0 rfl rfl 2 (by decide) (htt _ kf_Model_16) (fun _ h9 => h9) rfl d_Model_reckon_83 ?_
                    refine lv_bipush (v := (8 : Int32)) hx hb d_Model_reckon_86 (by decide) ?_
                    refine lv_iload_n hx hb d_Model_reckon_88 rfl (lv_at hl 3 rfl) ?_
                    refine lv_imul hx hb d_Model_reckon_89 ?_
                    refine lv_iload hx hb d_Model_reckon_90 (lv_at hl 5 rfl) ?_
                    refine lv_iadd hx hb d_Model_reckon_92 ?_
                    obtain ⟨h_4, hm⟩ := sd_mg hm
                    refine sd_lald hx hb hK hP 3 rfl h_4 d_Model_reckon_93 ?_
                    obtain ⟨r_3, umo_1, uanewN_1, uanewD_1, uanewR_1, hc, hm⟩ := sd_mb5 hm
                    refine sd_ci1 (wr := [(a_n, aJ g 64 c_n), (a_d, aJ g 64 c_d), (a_r, aJ g 64 c_r), (a_count, aI g 8 c_count)]) (w2 := [(a_n, aJ g 64 c_n), (a_d, aJ g 64 c_d), (a_r, aJ g 64 c_r), (a_count, aI g 8 c_count), (mo, .inr (5, [.ref a_n, .ref a_d, .ref a_r, .ref a_count, .ref a_newN, .ref a_newD, .ref a_newR, .int umo_1, .ref a_out, .int m_outCount, .ref a_root, .ref a_rest, .ref a_square, .ref a_part, .ref a_plus, .ref a_minus, .ref a_low, .ref a_high, .ref a_one, .ref a_two, .int m_lowSign, .int m_highSign, .ref a_otherLow, .ref a_otherHigh, .ref a_digit, .ref a_topA, .ref a_underA, .ref a_topB, .ref a_underB, .ref a_quotient, .ref a_otherQuotient])), (a_newN, aJ g 8 uanewN_1), (a_newD, aJ g 8 uanewD_1), (a_newR, aJ g 8 uanewR_1)]) (sd_runV (rest := []) (As := [.long (c_n (((8 : Int32) * vI) + x5).toNatClampNeg), .long (c_d (((8 : Int32) * vI) + x5).toNatClampNeg), .long (c_r (((8 : Int32) * vI) + x5).toNatClampNeg)]) S (ct_Model_addTerm l D g mo a_n a_d a_r a_count a_newN a_newD a_newR a_out a_root a_rest a_square a_part a_plus a_minus a_low a_high a_one a_two a_otherLow a_otherHigh a_digit a_topA a_underA a_topB a_underB a_quotient a_otherQuotient (H.size) (c_n (((8 : Int32) * vI) + x5).toNatClampNeg) (c_d (((8 : Int32) * vI) + x5).toNatClampNeg) (c_r (((8 : Int32) * vI) + x5).toNatClampNeg) umo m_outCount m_lowSign m_highSign uanewN uanewD uanewR F (r_3, umo_1, uanewN_1, uanewD_1, uanewR_1) hc) kl_Model_113 (by decide) (by decide) hK hP hD [0, 5, 6, 7] rfl (by decide) rfl hl d_Model_reckon_94 rfl (Nat.le_of_ble_eq_true rfl) ⟨Nat.zero_le _, Nat.zero_le _⟩ 0 rfl rfl) hP hD hS hA [0, 5, 6, 7] [1, 2, 3, 4] rfl rfl (by decide) (by decide) rfl (fun H locs hP hD hS => ?_)
                    refine W.eq (g2 := F0 m 97 ls [.int r_3]) rfl ?_
                    refine lv_pop hx hb d_Model_reckon_97 rfl ?_
                    obtain ⟨x5_1, ex5_1, hm⟩ := sd_mlet hm
                    refine lv_iinc (v := x5_1) (lv' := [(5, .int x5_1), (0, .ref mo), (1, .int vOp), (2, .int vK), (3, .int vI), (4, .int vJ)]) hx hb d_Model_reckon_98 hl (k := 5) rfl (by rw [ex5_1]; rfl) (by decide) rfl (fun ls hl => ?_)
                    refine lv_goto (tgt := 41) hx hb d_Model_reckon_101 (by decide) ?_
                    exact ih x5_1 umo_1 uanewN_1 uanewD_1 uanewR_1 rumo ruanewN ruanewD ruanewR hm H locs ls (hP.sub [4, 0, 1, 2, 3, 5, 6, 7] rfl) (hD.sub [4, 0, 1, 2, 3, 5, 6, 7] (by decide) rfl) hS (lv_sub hl [1, 2, 3, 4, 5, 0] rfl) kx104
            obtain ⟨rumo, ruanewN, ruanewD, ruanewR, hc, hm⟩ := sd_mb4 hm
            refine L41 F (0 : Int32) (0 : Int32) c_newN c_newD c_newR rumo ruanewN ruanewD ruanewR hc H locs ls (hP.sub [0, 1, 2, 3, 4, 5, 6, 7] rfl) (hD.sub [0, 1, 2, 3, 4, 5, 6, 7] (by decide) rfl) hS (lv_sub hl [1, 2, 3, 4, 5, 0] rfl) ?_
            intro H locs ls hP hD hS hl
            refine lv_iconst (v := (0 : Int32)) hx hb d_Model_reckon_104 (by decide) ?_
            refine lv_istore (lv' := [(5, .int (0 : Int32)), (0, .ref mo), (1, .int vOp), (2, .int vK), (3, .int vI), (4, .int vJ)]) hx hb d_Model_reckon_105 hl (by decide) rfl (fun ls hl => ?_)
            have L107 : ∀ (fu : Nat) (x5_2 : Int32) (umo_2 : Int32) (uanewN_2 : Nat → Int64) (uanewD_2 : Nat → Int64) (uanewR_2 : Nat → Int64) (tg : Nat) (rumo_1 : Int32) (ruanewN_1 : Nat → Int64) (ruanewD_1 : Nat → Int64) (ruanewR_1 : Nat → Int64), mf_Model_reckon_L107 vOp vI c_count vJ F c_n c_d c_r m_outCount m_lowSign m_highSign fu x5_2 umo_2 uanewN_2 uanewD_2 uanewR_2 = some (tg, rumo_1, ruanewN_1, ruanewD_1, ruanewR_1) → ∀ (H : Heap) (locs : List Loc) (ls : Array Slot), va_P D classes [(mo, .inr (5, [.ref a_n, .ref a_d, .ref a_r, .ref a_count, .ref a_newN, .ref a_newD, .ref a_newR, .int umo_2, .ref a_out, .int m_outCount, .ref a_root, .ref a_rest, .ref a_square, .ref a_part, .ref a_plus, .ref a_minus, .ref a_low, .ref a_high, .ref a_one, .ref a_two, .int m_lowSign, .int m_highSign, .ref a_otherLow, .ref a_otherHigh, .ref a_digit, .ref a_topA, .ref a_underA, .ref a_topB, .ref a_underB, .ref a_quotient, .ref a_otherQuotient])), (a_n, aJ g 64 c_n), (a_d, aJ g 64 c_d), (a_r, aJ g 64 c_r), (a_count, aI g 8 c_count), (a_newN, aJ g 8 uanewN_2), (a_newD, aJ g 8 uanewD_2), (a_newR, aJ g 8 uanewR_2)] H → va_D A [(mo, .inr (5, [.ref a_n, .ref a_d, .ref a_r, .ref a_count, .ref a_newN, .ref a_newD, .ref a_newR, .int umo_2, .ref a_out, .int m_outCount, .ref a_root, .ref a_rest, .ref a_square, .ref a_part, .ref a_plus, .ref a_minus, .ref a_low, .ref a_high, .ref a_one, .ref a_two, .int m_lowSign, .int m_highSign, .ref a_otherLow, .ref a_otherHigh, .ref a_digit, .ref a_topA, .ref a_underA, .ref a_topB, .ref a_underB, .ref a_quotient, .ref a_otherQuotient])), (a_n, aJ g 64 c_n), (a_d, aJ g 64 c_d), (a_r, aJ g 64 c_r), (a_count, aI g 8 c_count), (a_newN, aJ g 8 uanewN_2), (a_newD, aJ g 8 uanewD_2), (a_newR, aJ g 8 uanewR_2)] → va_S A s.heap H locs → lv_has ls 8 [(0, .ref mo), (1, .int vOp), (2, .int vK), (3, .int vI), (4, .int vJ), (5, .int x5_2)] → (tg = 0 → ∀ (H : Heap) (locs : List Loc) (ls : Array Slot), va_P D classes [(mo, .inr (5, [.ref a_n, .ref a_d, .ref a_r, .ref a_count, .ref a_newN, .ref a_newD, .ref a_newR, .int rumo_1, .ref a_out, .int m_outCount, .ref a_root, .ref a_rest, .ref a_square, .ref a_part, .ref a_plus, .ref a_minus, .ref a_low, .ref a_high, .ref a_one, .ref a_two, .int m_lowSign, .int m_highSign, .ref a_otherLow, .ref a_otherHigh, .ref a_digit, .ref a_topA, .ref a_underA, .ref a_topB, .ref a_underB, .ref a_quotient, .ref a_otherQuotient])), (a_n, aJ g 64 c_n), (a_d, aJ g 64 c_d), (a_r, aJ g 64 c_r), (a_count, aI g 8 c_count), (a_newN, aJ g 8 ruanewN_1), (a_newD, aJ g 8 ruanewD_1), (a_newR, aJ g 8 ruanewR_1)] H → va_D A [(mo, .inr (5, [.ref a_n, .ref a_d, .ref a_r, .ref a_count, .ref a_newN, .ref a_newD, .ref a_newR, .int rumo_1, .ref a_out, .int m_outCount, .ref a_root, .ref a_rest, .ref a_square, .ref a_part, .ref a_plus, .ref a_minus, .ref a_low, .ref a_high, .ref a_one, .ref a_two, .int m_lowSign, .int m_highSign, .ref a_otherLow, .ref a_otherHigh, .ref a_digit, .ref a_topA, .ref a_underA, .ref a_topB, .ref a_underB, .ref a_quotient, .ref a_otherQuotient])), (a_n, aJ g 64 c_n), (a_d, aJ g 64 c_d), (a_r, aJ g 64 c_r), (a_count, aI g 8 c_count), (a_newN, aJ g 8 ruanewN_1), (a_newD, aJ g 8 ruanewD_1), (a_newR, aJ g 8 ruanewR_1)] → va_S A s.heap H locs → lv_has ls 8 [] → W p l e rm_Model_reckon s m args below meth c H locs 0 0 Q (F0 m 239 ls [])) → (tg = 1 → ∀ (H : Heap) (locs : List Loc) (ls : Array Slot), va_P D classes [(mo, .inr (5, [.ref a_n, .ref a_d, .ref a_r, .ref a_count, .ref a_newN, .ref a_newD, .ref a_newR, .int rumo_1, .ref a_out, .int m_outCount, .ref a_root, .ref a_rest, .ref a_square, .ref a_part, .ref a_plus, .ref a_minus, .ref a_low, .ref a_high, .ref a_one, .ref a_two, .int m_lowSign, .int m_highSign, .ref a_otherLow, .ref a_otherHigh, .ref a_digit, .ref a_topA, .ref a_underA, .ref a_topB, .ref a_underB, .ref a_quotient, .ref a_otherQuotient])), (a_n, aJ g 64 c_n), (a_d, aJ g 64 c_d), (a_r, aJ g 64 c_r), (a_count, aI g 8 c_count), (a_newN, aJ g 8 ruanewN_1), (a_newD, aJ g 8 ruanewD_1), (a_newR, aJ g 8 ruanewR_1)] H → va_D A [(mo, .inr (5, [.ref a_n, .ref a_d, .ref a_r, .ref a_count, .ref a_newN, .ref a_newD, .ref a_newR, .int rumo_1, .ref a_out, .int m_outCount, .ref a_root, .ref a_rest, .ref a_square, .ref a_part, .ref a_plus, .ref a_minus, .ref a_low, .ref a_high, .ref a_one, .ref a_two, .int m_lowSign, .int m_highSign, .ref a_otherLow, .ref a_otherHigh, .ref a_digit, .ref a_topA, .ref a_underA, .ref a_topB, .ref a_underB, .ref a_quotient, .ref a_otherQuotient])), (a_n, aJ g 64 c_n), (a_d, aJ g 64 c_d), (a_r, aJ g 64 c_r), (a_count, aI g 8 c_count), (a_newN, aJ g 8 ruanewN_1), (a_newD, aJ g 8 ruanewD_1), (a_newR, aJ g 8 ruanewR_1)] → va_S A s.heap H locs → lv_has ls 8 [(0, .ref mo), (2, .int vK)] → W p l e rm_Model_reckon s m args below meth c H locs 0 0 Q (F0 m 254 ls [])) → W p l e rm_Model_reckon s m args below meth c H locs 0 0 Q (F0 m 107 ls []) := by
              intro fu
              induction fu with
              | zero => intro x5_2 umo_2 uanewN_2 uanewD_2 uanewR_2 tg rumo_1 ruanewN_1 ruanewD_1 ruanewR_1 hm; exact absurd (show (none : Option (Nat × Int32 × (Nat → Int64) × (Nat → Int64) × (Nat → Int64))) = some (tg, rumo_1, ruanewN_1, ruanewD_1, ruanewR_1) from hm) (fun h => nomatch h)
              | succ fu ih =>
                intro x5_2 umo_2 uanewN_2 uanewD_2 uanewR_2 tg rumo_1 ruanewN_1 ruanewD_1 ruanewR_1 hm H locs ls hP hD hS hl kx239 kx254
                rw [mf_Model_reckon_L107] at hm
                refine lv_iload hx hb d_Model_reckon_107 (lv_at hl 5 rfl) ?_
                refine lv_iload_n hx hb d_Model_reckon_109 rfl (lv_at hl 1 rfl) ?_
                refine lv_iconst (v := (2 : Int32)) hx hb d_Model_reckon_110 (by decide) ?_
                obtain ⟨y, hv, hm⟩ := sd_mb1 hm
                have J124_5 : ∀ (H : Heap) (locs : List Loc) (ls : Array Slot), va_P D classes [(mo, .inr (5, [.ref a_n, .ref a_d, .ref a_r, .ref a_count, .ref a_newN, .ref a_newD, .ref a_newR, .int umo_2, .ref a_out, .int m_outCount, .ref a_root, .ref a_rest, .ref a_square, .ref a_part, .ref a_plus, .ref a_minus, .ref a_low, .ref a_high, .ref a_one, .ref a_two, .int m_lowSign, .int m_highSign, .ref a_otherLow, .ref a_otherHigh, .ref a_digit, .ref a_topA, .ref a_underA, .ref a_topB, .ref a_underB, .ref a_quotient, .ref a_otherQuotient])), (a_n, aJ g 64 c_n), (a_d, aJ g 64 c_d), (a_r, aJ g 64 c_r), (a_count, aI g 8 c_count), (a_newN, aJ g 8 uanewN_2), (a_newD, aJ g 8 uanewD_2), (a_newR, aJ g 8 uanewR_2)] H → va_D A [(mo, .inr (5, [.ref a_n, .ref a_d, .ref a_r, .ref a_count, .ref a_newN, .ref a_newD, .ref a_newR, .int umo_2, .ref a_out, .int m_outCount, .ref a_root, .ref a_rest, .ref a_square, .ref a_part, .ref a_plus, .ref a_minus, .ref a_low, .ref a_high, .ref a_one, .ref a_two, .int m_lowSign, .int m_highSign, .ref a_otherLow, .ref a_otherHigh, .ref a_digit, .ref a_topA, .ref a_underA, .ref a_topB, .ref a_underB, .ref a_quotient, .ref a_otherQuotient])), (a_n, aJ g 64 c_n), (a_d, aJ g 64 c_d), (a_r, aJ g 64 c_r), (a_count, aI g 8 c_count), (a_newN, aJ g 8 uanewN_2), (a_newD, aJ g 8 uanewD_2), (a_newR, aJ g 8 uanewR_2)] → va_S A s.heap H locs → lv_has ls 8 [(0, .ref mo), (1, .int vOp), (2, .int vK), (3, .int vI), (4, .int vJ), (5, .int x5_2)] → W p l e rm_Model_reckon s m args below meth c H locs 0 0 Q (F0 m 124 ls [.int y, .int x5_2]) := by
                  intro H locs ls hP hD hS hl
                  refine lv_icmp_ge (tgt := 254) hx hb d_Model_reckon_124 (by decide) (fun hc => ?_) (fun hc => ?_)
                  · have hm := sd_mt hc hm
                    cases hm
                    exact kx254 rfl H locs ls (hP.sub [0, 1, 2, 3, 4, 5, 6, 7] rfl) (hD.sub [0, 1, 2, 3, 4, 5, 6, 7] (by decide) rfl) hS (lv_sub hl [0, 2] rfl)
                  · have hm := sd_mf hc hm
                    refine lv_bipush (v := (8 : Int32)) hx hb d_Model_reckon_127 (by decide) ?_
                    refine lv_iload hx hb d_Model_reckon_129 (lv_at hl 4 rfl) ?_
                    refine lv_imul hx hb d_Model_reckon_131 ?_
                    obtain ⟨x6, ex6, hm⟩ := sd_mlet hm
                    refine sd_topi ex6 ?_
                    refine lv_istore (lv' := [(6, .int x6), (0, .ref mo), (1, .int vOp), (2, .int vK), (3, .int vI), (4, .int vJ), (5, .int x5_2)]) hx hb d_Model_reckon_132 hl (by decide) rfl (fun ls hl => ?_)
                    have L134 : ∀ (fu : Nat) (x6_1 : Int32) (umo_3 : Int32) (uanewN_3 : Nat → Int64) (uanewD_3 : Nat → Int64) (uanewR_3 : Nat → Int64) (tg_1 : Nat) (rumo_2 : Int32) (ruanewN_2 : Nat → Int64) (ruanewD_2 : Nat → Int64) (ruanewR_2 : Nat → Int64), mf_Model_reckon_L134 vJ c_count vOp F vI x5_2 c_n c_d c_r m_outCount m_lowSign m_highSign fu x6_1 umo_3 uanewN_3 uanewD_3 uanewR_3 = some (tg_1, rumo_2, ruanewN_2, ruanewD_2, ruanewR_2) → ∀ (H : Heap) (locs : List Loc) (ls : Array Slot), va_P D classes [(mo, .inr (5, [.ref a_n, .ref a_d, .ref a_r, .ref a_count, .ref a_newN, .ref a_newD, .ref a_newR, .int umo_3, .ref a_out, .int m_outCount, .ref a_root, .ref a_rest, .ref a_square, .ref a_part, .ref a_plus, .ref a_minus, .ref a_low, .ref a_high, .ref a_one, .ref a_two, .int m_lowSign, .int m_highSign, .ref a_otherLow, .ref a_otherHigh, .ref a_digit, .ref a_topA, .ref a_underA, .ref a_topB, .ref a_underB, .ref a_quotient, .ref a_otherQuotient])), (a_n, aJ g 64 c_n), (a_d, aJ g 64 c_d), (a_r, aJ g 64 c_r), (a_count, aI g 8 c_count), (a_newN, aJ g 8 uanewN_3), (a_newD, aJ g 8 uanewD_3), (a_newR, aJ g 8 uanewR_3)] H → va_D A [(mo, .inr (5, [.ref a_n, .ref a_d, .ref a_r, .ref a_count, .ref a_newN, .ref a_newD, .ref a_newR, .int umo_3, .ref a_out, .int m_outCount, .ref a_root, .ref a_rest, .ref a_square, .ref a_part, .ref a_plus, .ref a_minus, .ref a_low, .ref a_high, .ref a_one, .ref a_two, .int m_lowSign, .int m_highSign, .ref a_otherLow, .ref a_otherHigh, .ref a_digit, .ref a_topA, .ref a_underA, .ref a_topB, .ref a_underB, .ref a_quotient, .ref a_otherQuotient])), (a_n, aJ g 64 c_n), (a_d, aJ g 64 c_d), (a_r, aJ g 64 c_r), (a_count, aI g 8 c_count), (a_newN, aJ g 8 uanewN_3), (a_newD, aJ g 8 uanewD_3), (a_newR, aJ g 8 uanewR_3)] → va_S A s.heap H locs → lv_has ls 8 [(0, .ref mo), (1, .int vOp), (2, .int vK), (3, .int vI), (4, .int vJ), (5, .int x5_2), (6, .int x6_1)] → (tg_1 = 0 → ∀ (H : Heap) (locs : List Loc) (ls : Array Slot), va_P D classes [(mo, .inr (5, [.ref a_n, .ref a_d, .ref a_r, .ref a_count, .ref a_newN, .ref a_newD, .ref a_newR, .int rumo_2, .ref a_out, .int m_outCount, .ref a_root, .ref a_rest, .ref a_square, .ref a_part, .ref a_plus, .ref a_minus, .ref a_low, .ref a_high, .ref a_one, .ref a_two, .int m_lowSign, .int m_highSign, .ref a_otherLow, .ref a_otherHigh, .ref a_digit, .ref a_topA, .ref a_underA, .ref a_topB, .ref a_underB, .ref a_quotient, .ref a_otherQuotient])), (a_n, aJ g 64 c_n), (a_d, aJ g 64 c_d), (a_r, aJ g 64 c_r), (a_count, aI g 8 c_count), (a_newN, aJ g 8 ruanewN_2), (a_newD, aJ g 8 ruanewD_2), (a_newR, aJ g 8 ruanewR_2)] H → va_D A [(mo, .inr (5, [.ref a_n, .ref a_d, .ref a_r, .ref a_count, .ref a_newN, .ref a_newD, .ref a_newR, .int rumo_2, .ref a_out, .int m_outCount, .ref a_root, .ref a_rest, .ref a_square, .ref a_part, .ref a_plus, .ref a_minus, .ref a_low, .ref a_high, .ref a_one, .ref a_two, .int m_lowSign, .int m_highSign, .ref a_otherLow, .ref a_otherHigh, .ref a_digit, .ref a_topA, .ref a_underA, .ref a_topB, .ref a_underB, .ref a_quotient, .ref a_otherQuotient])), (a_n, aJ g 64 c_n), (a_d, aJ g 64 c_d), (a_r, aJ g 64 c_r), (a_count, aI g 8 c_count), (a_newN, aJ g 8 ruanewN_2), (a_newD, aJ g 8 ruanewD_2), (a_newR, aJ g 8 ruanewR_2)] → va_S A s.heap H locs → lv_has ls 8 [] → W p l e rm_Model_reckon s m args below meth c H locs 0 0 Q (F0 m 239 ls [])) → (tg_1 = 1 → ∀ (H : Heap) (locs : List Loc) (ls : Array Slot), va_P D classes [(mo, .inr (5, [.ref a_n, .ref a_d, .ref a_r, .ref a_count, .ref a_newN, .ref a_newD, .ref a_newR, .int rumo_2, .ref a_out, .int m_outCount, .ref a_root, .ref a_rest, .ref a_square, .ref a_part, .ref a_plus, .ref a_minus, .ref a_low, .ref a_high, .ref a_one, .ref a_two, .int m_lowSign, .int m_highSign, .ref a_otherLow, .ref a_otherHigh, .ref a_digit, .ref a_topA, .ref a_underA, .ref a_topB, .ref a_underB, .ref a_quotient, .ref a_otherQuotient])), (a_n, aJ g 64 c_n), (a_d, aJ g 64 c_d), (a_r, aJ g 64 c_r), (a_count, aI g 8 c_count), (a_newN, aJ g 8 ruanewN_2), (a_newD, aJ g 8 ruanewD_2), (a_newR, aJ g 8 ruanewR_2)] H → va_D A [(mo, .inr (5, [.ref a_n, .ref a_d, .ref a_r, .ref a_count, .ref a_newN, .ref a_newD, .ref a_newR, .int rumo_2, .ref a_out, .int m_outCount, .ref a_root, .ref a_rest, .ref a_square, .ref a_part, .ref a_plus, .ref a_minus, .ref a_low, .ref a_high, .ref a_one, .ref a_two, .int m_lowSign, .int m_highSign, .ref a_otherLow, .ref a_otherHigh, .ref a_digit, .ref a_topA, .ref a_underA, .ref a_topB, .ref a_underB, .ref a_quotient, .ref a_otherQuotient])), (a_n, aJ g 64 c_n), (a_d, aJ g 64 c_d), (a_r, aJ g 64 c_r), (a_count, aI g 8 c_count), (a_newN, aJ g 8 ruanewN_2), (a_newD, aJ g 8 ruanewD_2), (a_newR, aJ g 8 ruanewR_2)] → va_S A s.heap H locs → lv_has ls 8 [(0, .ref mo), (1, .int vOp), (2, .int vK), (3, .int vI), (4, .int vJ), (5, .int x5_2)] → W p l e rm_Model_reckon s m args below meth c H locs 0 0 Q (F0 m 248 ls [])) → W p l e rm_Model_reckon s m args below meth c H locs 0 0 Q (F0 m 134 ls []) := by
                      intro fu
                      induction fu with
                      | zero => intro x6_1 umo_3 uanewN_3 uanewD_3 uanewR_3 tg_1 rumo_2 ruanewN_2 ruanewD_2 ruanewR_2 hm; exact absurd (show (none : Option (Nat × Int32 × (Nat → Int64) × (Nat → Int64) × (Nat → Int64))) = some (tg_1, rumo_2, ruanewN_2, ruanewD_2, ruanewR_2) from hm) (fun h => nomatch h)
                      | succ fu ih =>
                        intro x6_1 umo_3 uanewN_3 uanewD_3 uanewR_3 tg_1 rumo_2 ruanewN_2 ruanewD_2 ruanewR_2 hm H locs ls hP hD hS hl kx239 kx248
                        rw [mf_Model_reckon_L134] at hm
                        refine lv_iload hx hb d_Model_reckon_134 (lv_at hl 6 rfl) ?_
                        refine lv_bipush (v := (8 : Int32)) hx hb d_Model_reckon_136 (by decide) ?_
                        refine lv_iload hx hb d_Model_reckon_138 (lv_at hl 4 rfl) ?_
                        refine lv_imul hx hb d_Model_reckon_140 ?_
                        refine lv_aload_n hx hb d_Model_reckon_141 rfl (lv_at hl 0 rfl) ?_
                        refine va_get (D := D) (ci := 5) (v := .ref a_count) (C := R_Model) (T := F_Model) (N := 31) hx hb htt i_Model hown hK hP 0 rfl rfl 3 (by decide) (htt _ kf_Model_19) (fun _ h9 => h9) rfl d_Model_reckon_142 ?_
                        refine lv_iload hx hb d_Model_reckon_145 (lv_at hl 4 rfl) ?_
                        obtain ⟨h_7, hm⟩ := sd_mg hm
                        refine sd_iald hx hb hK hP 4 rfl h_7 d_Model_reckon_147 ?_
                        refine lv_iadd hx hb d_Model_reckon_148 ?_
                        refine lv_icmp_ge (tgt := 248) hx hb d_Model_reckon_149 (by decide) (fun hc => ?_) (fun hc => ?_)
                        · have hm := sd_mt hc hm
                          cases hm
                          exact kx248 rfl H locs ls (hP.sub [0, 1, 2, 3, 4, 5, 6, 7] rfl) (hD.sub [0, 1, 2, 3, 4, 5, 6, 7] (by decide) rfl) hS (lv_sub hl [0, 1, 2, 3, 4, 5] rfl)
                        · have hm := sd_mf hc hm
                          refine lv_iload_n hx hb d_Model_reckon_152 rfl (lv_at hl 1 rfl) ?_
                          refine lv_iconst (v := (2 : Int32)) hx hb d_Model_reckon_153 (by decide) ?_
                          obtain ⟨y_1, umo_4, uanewN_4, uanewD_4, uanewR_4, hv, hm⟩ := sd_mb5 hm
                          have J232_8 : ∀ (H : Heap) (locs : List Loc) (ls : Array Slot), va_P D classes [(mo, .inr (5, [.ref a_n, .ref a_d, .ref a_r, .ref a_count, .ref a_newN, .ref a_newD, .ref a_newR, .int umo_4, .ref a_out, .int m_outCount, .ref a_root, .ref a_rest, .ref a_square, .ref a_part, .ref a_plus, .ref a_minus, .ref a_low, .ref a_high, .ref a_one, .ref a_two, .int m_lowSign, .int m_highSign, .ref a_otherLow, .ref a_otherHigh, .ref a_digit, .ref a_topA, .ref a_underA, .ref a_topB, .ref a_underB, .ref a_quotient, .ref a_otherQuotient])), (a_n, aJ g 64 c_n), (a_d, aJ g 64 c_d), (a_r, aJ g 64 c_r), (a_count, aI g 8 c_count), (a_newN, aJ g 8 uanewN_4), (a_newD, aJ g 8 uanewD_4), (a_newR, aJ g 8 uanewR_4)] H → va_D A [(mo, .inr (5, [.ref a_n, .ref a_d, .ref a_r, .ref a_count, .ref a_newN, .ref a_newD, .ref a_newR, .int umo_4, .ref a_out, .int m_outCount, .ref a_root, .ref a_rest, .ref a_square, .ref a_part, .ref a_plus, .ref a_minus, .ref a_low, .ref a_high, .ref a_one, .ref a_two, .int m_lowSign, .int m_highSign, .ref a_otherLow, .ref a_otherHigh, .ref a_digit, .ref a_topA, .ref a_underA, .ref a_topB, .ref a_underB, .ref a_quotient, .ref a_otherQuotient])), (a_n, aJ g 64 c_n), (a_d, aJ g 64 c_d), (a_r, aJ g 64 c_r), (a_count, aI g 8 c_count), (a_newN, aJ g 8 uanewN_4), (a_newD, aJ g 8 uanewD_4), (a_newR, aJ g 8 uanewR_4)] → va_S A s.heap H locs → lv_has ls 8 [(0, .ref mo), (1, .int vOp), (2, .int vK), (3, .int vI), (4, .int vJ), (5, .int x5_2), (6, .int x6_1)] → W p l e rm_Model_reckon s m args below meth c H locs 0 0 Q (F0 m 232 ls [.int y_1]) := by
                            intro H locs ls hP hD hS hl
                            refine lv_istore (lv' := [(7, .int y_1), (0, .ref mo), (1, .int vOp), (2, .int vK), (3, .int vI), (4, .int vJ), (5, .int x5_2), (6, .int x6_1)]) hx hb d_Model_reckon_232 hl (by decide) rfl (fun ls hl => ?_)
                            refine lv_iload hx hb d_Model_reckon_234 (lv_at hl 0 rfl) ?_
                            refine lv_if_ne (tgt := 242) hx hb d_Model_reckon_236 (by decide) (fun hc => ?_) (fun hc => ?_)
                            · have hm := sd_mf hc hm
                              obtain ⟨x6_2, ex6_2, hm⟩ := sd_mlet hm
                              refine lv_iinc (v := x6_2) (lv' := [(6, .int x6_2), (7, .int y_1), (0, .ref mo), (1, .int vOp), (2, .int vK), (3, .int vI), (4, .int vJ), (5, .int x5_2)]) hx hb d_Model_reckon_242 hl (k := 7) rfl (by rw [ex6_2]; rfl) (by decide) rfl (fun ls hl => ?_)
                              refine lv_goto (tgt := 134) hx hb d_Model_reckon_245 (by decide) ?_
                              exact ih x6_2 umo_4 uanewN_4 uanewD_4 uanewR_4 tg_1 rumo_2 ruanewN_2 ruanewD_2 ruanewR_2 hm H locs ls (hP.sub [0, 1, 2, 3, 4, 5, 6, 7] rfl) (hD.sub [0, 1, 2, 3, 4, 5, 6, 7] (by decide) rfl) hS (lv_sub hl [2, 3, 4, 5, 6, 7, 0] rfl) kx239 kx248
                            · have hm := sd_mt hc hm
                              cases hm
                              exact kx239 rfl H locs ls (hP.sub [0, 1, 2, 3, 4, 5, 6, 7] rfl) (hD.sub [0, 1, 2, 3, 4, 5, 6, 7] (by decide) rfl) hS (lv_sub hl [] rfl)
                          replace hm := hv
                          refine lv_icmp_ne (tgt := 192) hx hb d_Model_reckon_154 (by decide) (fun hc => ?_) (fun hc => ?_)
                          · have hm := sd_mf hc hm
                            refine lv_aload_n hx hb d_Model_reckon_192 rfl (lv_at hl 0 rfl) ?_
                            refine lv_iload_n hx hb d_Model_reckon_193 rfl (lv_at hl 1 rfl) ?_
                            obtain ⟨y_2, hv, hm⟩ := sd_mb1 hm
                            have J215_9 : ∀ (H : Heap) (locs : List Loc) (ls : Array Slot), va_P D classes [(mo, .inr (5, [.ref a_n, .ref a_d, .ref a_r, .ref a_count, .ref a_newN, .ref a_newD, .ref a_newR, .int umo_3, .ref a_out, .int m_outCount, .ref a_root, .ref a_rest, .ref a_square, .ref a_part, .ref a_plus, .ref a_minus, .ref a_low, .ref a_high, .ref a_one, .ref a_two, .int m_lowSign, .int m_highSign, .ref a_otherLow, .ref a_otherHigh, .ref a_digit, .ref a_topA, .ref a_underA, .ref a_topB, .ref a_underB, .ref a_quotient, .ref a_otherQuotient])), (a_n, aJ g 64 c_n), (a_d, aJ g 64 c_d), (a_r, aJ g 64 c_r), (a_count, aI g 8 c_count), (a_newN, aJ g 8 uanewN_3), (a_newD, aJ g 8 uanewD_3), (a_newR, aJ g 8 uanewR_3)] H → va_D A [(mo, .inr (5, [.ref a_n, .ref a_d, .ref a_r, .ref a_count, .ref a_newN, .ref a_newD, .ref a_newR, .int umo_3, .ref a_out, .int m_outCount, .ref a_root, .ref a_rest, .ref a_square, .ref a_part, .ref a_plus, .ref a_minus, .ref a_low, .ref a_high, .ref a_one, .ref a_two, .int m_lowSign, .int m_highSign, .ref a_otherLow, .ref a_otherHigh, .ref a_digit, .ref a_topA, .ref a_underA, .ref a_topB, .ref a_underB, .ref a_quotient, .ref a_otherQuotient])), (a_n, aJ g 64 c_n), (a_d, aJ g 64 c_d), (a_r, aJ g 64 c_r), (a_count, aI g 8 c_count), (a_newN, aJ g 8 uanewN_3), (a_newD, aJ g 8 uanewD_3), (a_newR, aJ g 8 uanewR_3)] → va_S A s.heap H locs → lv_has ls 8 [(0, .ref mo), (1, .int vOp), (2, .int vK), (3, .int vI), (4, .int vJ), (5, .int x5_2), (6, .int x6_1)] → W p l e rm_Model_reckon s m args below meth c H locs 0 0 Q (F0 m 215 ls [.long y_2, .ref mo]) := by
                              intro H locs ls hP hD hS hl
                              refine lv_aload_n hx hb d_Model_reckon_215 rfl (lv_at hl 0 rfl) ?_
                              refine va_get (D := D) (ci := 5) (v := .ref a_d) (C := R_Model) (T := F_Model) (N := 31) hx hb htt i_Model hown hK hP 0 rfl rfl 1 (by decide) (htt _ kf_Model_13) (fun _ h9 => h9) rfl d_Model_reckon_216 ?_
                              refine lv_iload hx hb d_Model_reckon_219 (lv_at hl 6 rfl) ?_
                              obtain ⟨h_12, hm⟩ := sd_mg hm
                              refine sd_lald hx hb hK hP 2 rfl h_12 d_Model_reckon_221 ?_
                              refine lv_aload_n hx hb d_Model_reckon_222 rfl (lv_at hl 0 rfl) ?_
                              refine va_get (D := D) (ci := 5) (v := .ref a_r) (C := R_Model) (T := F_Model) (N := 31) hx hb htt i_Model hown hK hP 0 rfl rfl 2 (by decide) (htt _ kf_Model_16) (fun _ h9 => h9) rfl d_Model_reckon_223 ?_
                              refine lv_iload hx hb d_Model_reckon_226 (lv_at hl 6 rfl) ?_
                              obtain ⟨h_13, hm⟩ := sd_mg hm
                              refine sd_lald hx hb hK hP 3 rfl h_13 d_Model_reckon_228 ?_
                              obtain ⟨r_4, umo_5, uanewN_5, uanewD_5, uanewR_5, hc, hm⟩ := sd_mb5 hm
                              refine sd_ci1 (wr := [(a_n, aJ g 64 c_n), (a_d, aJ g 64 c_d), (a_r, aJ g 64 c_r), (a_count, aI g 8 c_count)]) (w2 := [(a_n, aJ g 64 c_n), (a_d, aJ g 64 c_d), (a_r, aJ g 64 c_r), (a_count, aI g 8 c_count), (mo, .inr (5, [.ref a_n, .ref a_d, .ref a_r, .ref a_count, .ref a_newN, .ref a_newD, .ref a_newR, .int umo_5, .ref a_out, .int m_outCount, .ref a_root, .ref a_rest, .ref a_square, .ref a_part, .ref a_plus, .ref a_minus, .ref a_low, .ref a_high, .ref a_one, .ref a_two, .int m_lowSign, .int m_highSign, .ref a_otherLow, .ref a_otherHigh, .ref a_digit, .ref a_topA, .ref a_underA, .ref a_topB, .ref a_underB, .ref a_quotient, .ref a_otherQuotient])), (a_newN, aJ g 8 uanewN_5), (a_newD, aJ g 8 uanewD_5), (a_newR, aJ g 8 uanewR_5)]) (sd_runV (rest := []) (As := [.long y_2, .long (c_d x6_1.toNatClampNeg), .long (c_r x6_1.toNatClampNeg)]) S (ct_Model_addTerm l D g mo a_n a_d a_r a_count a_newN a_newD a_newR a_out a_root a_rest a_square a_part a_plus a_minus a_low a_high a_one a_two a_otherLow a_otherHigh a_digit a_topA a_underA a_topB a_underB a_quotient a_otherQuotient (H.size) y_2 (c_d x6_1.toNatClampNeg) (c_r x6_1.toNatClampNeg) umo_3 m_outCount m_lowSign m_highSign uanewN_3 uanewD_3 uanewR_3 F (r_4, umo_5, uanewN_5, uanewD_5, uanewR_5) hc) kl_Model_113 (by decide) (by decide) hK hP hD [0, 5, 6, 7] rfl (by decide) rfl hl d_Model_reckon_229 rfl (Nat.le_of_ble_eq_true rfl) ⟨Nat.zero_le _, Nat.zero_le _⟩ 0 rfl rfl) hP hD hS hA [0, 5, 6, 7] [1, 2, 3, 4] rfl rfl (by decide) (by decide) rfl (fun H locs hP hD hS => ?_)
                              refine W.eq (g2 := F0 m 232 ls [.int r_4]) rfl ?_
                              cases hm
                              exact J232_8 H locs ls (hP.sub [4, 0, 1, 2, 3, 5, 6, 7] rfl) (hD.sub [4, 0, 1, 2, 3, 5, 6, 7] (by decide) rfl) hS (lv_sub hl [0, 1, 2, 3, 4, 5, 6] rfl)
                            replace hm := hv
                            refine lv_if_ne (tgt := 207) hx hb d_Model_reckon_194 (by decide) (fun hc => ?_) (fun hc => ?_)
                            · have hm := sd_mf hc hm
                              refine lv_aload_n hx hb d_Model_reckon_207 rfl (lv_at hl 0 rfl) ?_
                              refine va_get (D := D) (ci := 5) (v := .ref a_n) (C := R_Model) (T := F_Model) (N := 31) hx hb htt i_Model hown hK hP 0 rfl rfl 0 (by decide) (htt _ kf_Model_9) (fun _ h9 => h9) rfl d_Model_reckon_208 ?_
                              refine lv_iload hx hb d_Model_reckon_211 (lv_at hl 6 rfl) ?_
                              obtain ⟨h_10, hm⟩ := sd_mg hm
                              refine sd_lald hx hb hK hP 1 rfl h_10 d_Model_reckon_213 ?_
                              refine lv_lneg hx hb d_Model_reckon_214 ?_
                              cases hm
                              exact J215_9 H locs ls (hP.sub [0, 1, 2, 3, 4, 5, 6, 7] rfl) (hD.sub [0, 1, 2, 3, 4, 5, 6, 7] (by decide) rfl) hS (lv_sub hl [0, 1, 2, 3, 4, 5, 6] rfl)
                            · have hm := sd_mt hc hm
                              refine lv_aload_n hx hb d_Model_reckon_197 rfl (lv_at hl 0 rfl) ?_
                              refine va_get (D := D) (ci := 5) (v := .ref a_n) (C := R_Model) (T := F_Model) (N := 31) hx hb htt i_Model hown hK hP 0 rfl rfl 0 (by decide) (htt _ kf_Model_9) (fun _ h9 => h9) rfl d_Model_reckon_198 ?_
                              refine lv_iload hx hb d_Model_reckon_201 (lv_at hl 6 rfl) ?_
                              obtain ⟨h_11, hm⟩ := sd_mg hm
                              refine sd_lald hx hb hK hP 1 rfl h_11 d_Model_reckon_203 ?_
                              refine lv_goto (tgt := 215) hx hb d_Model_reckon_204 (by decide) ?_
                              cases hm
                              exact J215_9 H locs ls (hP.sub [0, 1, 2, 3, 4, 5, 6, 7] rfl) (hD.sub [0, 1, 2, 3, 4, 5, 6, 7] (by decide) rfl) hS (lv_sub hl [0, 1, 2, 3, 4, 5, 6] rfl)
                          · have hm := sd_mt hc hm
                            refine lv_aload_n hx hb d_Model_reckon_157 rfl (lv_at hl 0 rfl) ?_
                            refine lv_bipush (v := (8 : Int32)) hx hb d_Model_reckon_158 (by decide) ?_
                            refine lv_iload_n hx hb d_Model_reckon_160 rfl (lv_at hl 3 rfl) ?_
                            refine lv_imul hx hb d_Model_reckon_161 ?_
                            refine lv_iload hx hb d_Model_reckon_162 (lv_at hl 5 rfl) ?_
                            refine lv_iadd hx hb d_Model_reckon_164 ?_
                            refine lv_aload_n hx hb d_Model_reckon_165 rfl (lv_at hl 0 rfl) ?_
                            refine va_get (D := D) (ci := 5) (v := .ref a_n) (C := R_Model) (T := F_Model) (N := 31) hx hb htt i_Model hown hK hP 0 rfl rfl 0 (by decide) (htt _ kf_Model_9) (fun _ h9 => h9) rfl d_Model_reckon_166 ?_
                            refine lv_iload hx hb d_Model_reckon_169 (lv_at hl 6 rfl) ?_
                            obtain ⟨h_14, hm⟩ := sd_mg hm
                            refine sd_lald hx hb hK hP 1 rfl h_14 d_Model_reckon_171 ?_
                            refine lv_aload_n hx hb d_Model_reckon_172 rfl (lv_at hl 0 rfl) ?_
                            refine va_get (D := D) (ci := 5) (v := .ref a_d) (C := R_Model) (T := F_Model) (N := 31) hx hb htt i_Model hown hK hP 0 rfl rfl 1 (by decide) (htt _ kf_Model_13) (fun _ h9 => h9) rfl d_Model_reckon_173 ?_
                            refine lv_iload hx hb d_Model_reckon_176 (lv_at hl 6 rfl) ?_
                            obtain ⟨h_15, hm⟩ := sd_mg hm
                            refine sd_lald hx hb hK hP 2 rfl h_15 d_Model_reckon_178 ?_
                            refine lv_aload_n hx hb d_Model_reckon_179 rfl (lv_at hl 0 rfl) ?_
                            refine va_get (D := D) (ci := 5) (v := .ref a_r) (C := R_Model) (T := F_Model) (N := 31) hx hb htt i_Model hown hK hP 0 rfl rfl 2 (by decide) (htt _ kf_Model_16) (fun _ h9 => h9) rfl d_Model_reckon_180 ?_
                            refine lv_iload hx hb d_Model_reckon_183 (lv_at hl 6 rfl) ?_
                            obtain ⟨h_16, hm⟩ := sd_mg hm
                            refine sd_lald hx hb hK hP 3 rfl h_16 d_Model_reckon_185 ?_
                            obtain ⟨r_5, umo_6, uanewN_6, uanewD_6, uanewR_6, hc, hm⟩ := sd_mb5 hm
                            refine sd_ci1 (wr := [(a_count, aI g 8 c_count)]) (w2 := [(a_count, aI g 8 c_count), (mo, .inr (5, [.ref a_n, .ref a_d, .ref a_r, .ref a_count, .ref a_newN, .ref a_newD, .ref a_newR, .int umo_6, .ref a_out, .int m_outCount, .ref a_root, .ref a_rest, .ref a_square, .ref a_part, .ref a_plus, .ref a_minus, .ref a_low, .ref a_high, .ref a_one, .ref a_two, .int m_lowSign, .int m_highSign, .ref a_otherLow, .ref a_otherHigh, .ref a_digit, .ref a_topA, .ref a_underA, .ref a_topB, .ref a_underB, .ref a_quotient, .ref a_otherQuotient])), (a_n, aJ g 64 c_n), (a_d, aJ g 64 c_d), (a_r, aJ g 64 c_r), (a_newN, aJ g 8 uanewN_6), (a_newD, aJ g 8 uanewD_6), (a_newR, aJ g 8 uanewR_6)]) (sd_runV (rest := []) (As := [.int (((8 : Int32) * vI) + x5_2), .long (c_n x6_1.toNatClampNeg), .long (c_d x6_1.toNatClampNeg), .long (c_r x6_1.toNatClampNeg)]) S (ct_Model_multiplyTerm l D g mo a_n a_d a_r a_count a_newN a_newD a_newR a_out a_root a_rest a_square a_part a_plus a_minus a_low a_high a_one a_two a_otherLow a_otherHigh a_digit a_topA a_underA a_topB a_underB a_quotient a_otherQuotient (H.size) (((8 : Int32) * vI) + x5_2) (c_n x6_1.toNatClampNeg) (c_d x6_1.toNatClampNeg) (c_r x6_1.toNatClampNeg) umo_3 m_outCount m_lowSign m_highSign c_n c_d c_r uanewN_3 uanewD_3 uanewR_3 F (r_5, umo_6, uanewN_6, uanewD_6, uanewR_6) hc) kl_Model_128 (by decide) (by decide) hK hP hD [0, 1, 2, 3, 5, 6, 7] rfl (by decide) rfl hl d_Model_reckon_186 rfl (Nat.le_of_ble_eq_true rfl) ⟨Nat.zero_le _, Nat.zero_le _⟩ 0 rfl rfl) hP hD hS hA [0, 1, 2, 3, 5, 6, 7] [4] rfl rfl (by decide) (by decide) rfl (fun H locs hP hD hS => ?_)
                            refine W.eq (g2 := F0 m 189 ls [.int r_5]) rfl ?_
                            refine lv_goto (tgt := 232) hx hb d_Model_reckon_189 (by decide) ?_
                            cases hm
                            exact J232_8 H locs ls (hP.sub [1, 2, 3, 4, 0, 5, 6, 7] rfl) (hD.sub [1, 2, 3, 4, 0, 5, 6, 7] (by decide) rfl) hS (lv_sub hl [0, 1, 2, 3, 4, 5, 6] rfl)
                    obtain ⟨tg_1, rumo_2, ruanewN_2, ruanewD_2, ruanewR_2, hc, hm⟩ := sd_mb5 hm
                    refine L134 F x6 umo_2 uanewN_2 uanewD_2 uanewR_2 tg_1 rumo_2 ruanewN_2 ruanewD_2 ruanewR_2 hc H locs ls (hP.sub [0, 1, 2, 3, 4, 5, 6, 7] rfl) (hD.sub [0, 1, 2, 3, 4, 5, 6, 7] (by decide) rfl) hS (lv_sub hl [1, 2, 3, 4, 5, 6, 0] rfl) ?_ ?_
                    · intro ht H locs ls hP hD hS hl
                      have hm := sd_mt ht hm
                      cases hm
                      exact kx239 rfl H locs ls (hP.sub [0, 1, 2, 3, 4, 5, 6, 7] rfl) (hD.sub [0, 1, 2, 3, 4, 5, 6, 7] (by decide) rfl) hS (lv_sub hl [] rfl)
                    · intro ht H locs ls hP hD hS hl
                      have hm := sd_mf (by rw [ht]; decide) hm
                      obtain ⟨x5_3, ex5_3, hm⟩ := sd_mlet hm
                      refine lv_iinc (v := x5_3) (lv' := [(5, .int x5_3), (0, .ref mo), (1, .int vOp), (2, .int vK), (3, .int vI), (4, .int vJ)]) hx hb d_Model_reckon_248 hl (k := 5) rfl (by rw [ex5_3]; rfl) (by decide) rfl (fun ls hl => ?_)
                      refine lv_goto (tgt := 107) hx hb d_Model_reckon_251 (by decide) ?_
                      exact ih x5_3 rumo_2 ruanewN_2 ruanewD_2 ruanewR_2 tg rumo_1 ruanewN_1 ruanewD_1 ruanewR_1 hm H locs ls (hP.sub [0, 1, 2, 3, 4, 5, 6, 7] rfl) (hD.sub [0, 1, 2, 3, 4, 5, 6, 7] (by decide) rfl) hS (lv_sub hl [1, 2, 3, 4, 5, 0] rfl) kx239 kx254
                replace hm := hv
                refine lv_icmp_ge (tgt := 118) hx hb d_Model_reckon_111 (by decide) (fun hc => ?_) (fun hc => ?_)
                · have hm := sd_mt hc hm
                  refine lv_aload_n hx hb d_Model_reckon_118 rfl (lv_at hl 0 rfl) ?_
                  refine va_get (D := D) (ci := 5) (v := .ref a_count) (C := R_Model) (T := F_Model) (N := 31) hx hb htt i_Model hown hK hP 0 rfl rfl 3 (by decide) (htt _ kf_Model_19) (fun _ h9 => h9) rfl d_Model_reckon_119 ?_
                  refine lv_iload_n hx hb d_Model_reckon_122 rfl (lv_at hl 3 rfl) ?_
                  obtain ⟨h_6, hm⟩ := sd_mg hm
                  refine sd_iald hx hb hK hP 4 rfl h_6 d_Model_reckon_123 ?_
                  cases hm
                  exact J124_5 H locs ls (hP.sub [0, 1, 2, 3, 4, 5, 6, 7] rfl) (hD.sub [0, 1, 2, 3, 4, 5, 6, 7] (by decide) rfl) hS (lv_sub hl [0, 1, 2, 3, 4, 5] rfl)
                · have hm := sd_mf hc hm
                  refine lv_iconst (v := (1 : Int32)) hx hb d_Model_reckon_114 (by decide) ?_
                  refine lv_goto (tgt := 124) hx hb d_Model_reckon_115 (by decide) ?_
                  cases hm
                  exact J124_5 H locs ls (hP.sub [0, 1, 2, 3, 4, 5, 6, 7] rfl) (hD.sub [0, 1, 2, 3, 4, 5, 6, 7] (by decide) rfl) hS (lv_sub hl [0, 1, 2, 3, 4, 5] rfl)
            obtain ⟨tg, rumo_1, ruanewN_1, ruanewD_1, ruanewR_1, hc, hm⟩ := sd_mb5 hm
            refine L107 F (0 : Int32) rumo ruanewN ruanewD ruanewR tg rumo_1 ruanewN_1 ruanewD_1 ruanewR_1 hc H locs ls (hP.sub [0, 1, 2, 3, 4, 5, 6, 7] rfl) (hD.sub [0, 1, 2, 3, 4, 5, 6, 7] (by decide) rfl) hS (lv_sub hl [1, 2, 3, 4, 5, 0] rfl) ?_ ?_
            · intro ht H locs ls hP hD hS hl
              have hm := sd_mt ht hm
              refine lv_bipush (v := (-3 : Int32)) hx hb d_Model_reckon_239 (by decide) ?_
              exact sd_i1ret (u := (rumo_1, c_n, c_d, c_r, c_count, ruanewN_1, ruanewD_1, ruanewR_1)) hQ hx hb hr hlk hK (hP.sub [0, 1, 2, 3, 4, 5, 6, 7] rfl) (hD.sub [0, 1, 2, 3, 4, 5, 6, 7] (by decide) rfl) hS (Option.some.inj hm).symm d_Model_reckon_241
            · intro ht H locs ls hP hD hS hl
              have hm := sd_mf (by rw [ht]; decide) hm
              refine lv_aload_n hx hb d_Model_reckon_254 rfl (lv_at hl 0 rfl) ?_
              refine lv_iload_n hx hb d_Model_reckon_255 rfl (lv_at hl 1 rfl) ?_
              obtain ⟨r_6, uan, uad, uar, uacount, hc, hm⟩ := sd_mb5 hm
              refine sd_ci1 (wr := []) (w2 := [(mo, .inr (5, [.ref a_n, .ref a_d, .ref a_r, .ref a_count, .ref a_newN, .ref a_newD, .ref a_newR, .int rumo_1, .ref a_out, .int m_outCount, .ref a_root, .ref a_rest, .ref a_square, .ref a_part, .ref a_plus, .ref a_minus, .ref a_low, .ref a_high, .ref a_one, .ref a_two, .int m_lowSign, .int m_highSign, .ref a_otherLow, .ref a_otherHigh, .ref a_digit, .ref a_topA, .ref a_underA, .ref a_topB, .ref a_underB, .ref a_quotient, .ref a_otherQuotient])), (a_n, aJ g 64 uan), (a_d, aJ g 64 uad), (a_r, aJ g 64 uar), (a_count, aI g 8 uacount), (a_newN, aJ g 8 ruanewN_1), (a_newD, aJ g 8 ruanewD_1), (a_newR, aJ g 8 ruanewR_1)]) (sd_runV (rest := []) (As := [.int vK]) S (ct_Model_keep l D g mo a_n a_d a_r a_count a_newN a_newD a_newR a_out a_root a_rest a_square a_part a_plus a_minus a_low a_high a_one a_two a_otherLow a_otherHigh a_digit a_topA a_underA a_topB a_underB a_quotient a_otherQuotient (H.size) vK rumo_1 m_outCount m_lowSign m_highSign c_n c_d c_r c_count ruanewN_1 ruanewD_1 ruanewR_1 F (r_6, uan, uad, uar, uacount) hc) kl_Model_117 (by decide) (by decide) hK hP hD [0, 1, 2, 3, 4, 5, 6, 7] rfl (by decide) rfl hl d_Model_reckon_256 rfl (Nat.le_of_ble_eq_true rfl) ⟨Nat.zero_le _, Nat.zero_le _⟩ 0 rfl rfl) hP hD hS hA [0, 1, 2, 3, 4, 5, 6, 7] [] rfl rfl (by decide) (by decide) rfl (fun H locs hP hD hS => ?_)
              refine W.eq (g2 := F0 m 259 ls [.int r_6]) rfl ?_
              exact sd_i1ret (u := (rumo_1, uan, uad, uar, uacount, ruanewN_1, ruanewD_1, ruanewR_1)) hQ hx hb hr hlk hK (hP.sub [0, 1, 2, 3, 4, 5, 6, 7] rfl) (hD.sub [0, 1, 2, 3, 4, 5, 6, 7] (by decide) rfl) hS (Option.some.inj hm).symm d_Model_reckon_259
          · have hm := sd_mf hc hm
            refine lv_iconst (v := (-1 : Int32)) hx hb d_Model_reckon_31 (by decide) ?_
            exact sd_i1ret (u := (m_made, c_n, c_d, c_r, c_count, c_newN, c_newD, c_newR)) hQ hx hb hr hlk hK (hP.sub [0, 1, 2, 3, 4, 5, 6, 7] rfl) (hD.sub [0, 1, 2, 3, 4, 5, 6, 7] (by decide) rfl) hS (Option.some.inj hm).symm d_Model_reckon_32
theorem d_Model_divide_0 : decode b_Model_divide 0 = .ok (.iload_n 1, 1) := by decide +kernel
theorem d_Model_divide_1 : decode b_Model_divide 1 = .ok (.invokestatic 109, 3) := by decide +kernel
theorem d_Model_divide_4 : decode b_Model_divide 4 = .ok (.ifCond .eq 17, 3) := by decide +kernel
theorem d_Model_divide_7 : decode b_Model_divide 7 = .ok (.iload_n 2, 1) := by decide +kernel
theorem d_Model_divide_8 : decode b_Model_divide 8 = .ok (.invokestatic 109, 3) := by decide +kernel
theorem d_Model_divide_11 : decode b_Model_divide 11 = .ok (.ifCond .eq 10, 3) := by decide +kernel
theorem d_Model_divide_14 : decode b_Model_divide 14 = .ok (.iload_n 3, 1) := by decide +kernel
theorem d_Model_divide_15 : decode b_Model_divide 15 = .ok (.invokestatic 109, 3) := by decide +kernel
theorem d_Model_divide_18 : decode b_Model_divide 18 = .ok (.ifCond .ne 5, 3) := by decide +kernel
theorem d_Model_divide_21 : decode b_Model_divide 21 = .ok (.iconst (-1), 1) := by decide +kernel
theorem d_Model_divide_22 : decode b_Model_divide 22 = .ok (.ireturn, 1) := by decide +kernel
theorem d_Model_divide_23 : decode b_Model_divide 23 = .ok (.aload_n 0, 1) := by decide +kernel
theorem d_Model_divide_24 : decode b_Model_divide 24 = .ok (.getfield 19, 3) := by decide +kernel
theorem d_Model_divide_27 : decode b_Model_divide 27 = .ok (.iload_n 3, 1) := by decide +kernel
theorem d_Model_divide_28 : decode b_Model_divide 28 = .ok (.iaload, 1) := by decide +kernel
theorem d_Model_divide_29 : decode b_Model_divide 29 = .ok (.iconst 1, 1) := by decide +kernel
theorem d_Model_divide_30 : decode b_Model_divide 30 = .ok (.if_icmp .eq 6, 3) := by decide +kernel
theorem d_Model_divide_33 : decode b_Model_divide 33 = .ok (.bipush (-2), 2) := by decide +kernel
theorem d_Model_divide_35 : decode b_Model_divide 35 = .ok (.ireturn, 1) := by decide +kernel
theorem d_Model_divide_36 : decode b_Model_divide 36 = .ok (.bipush 8, 2) := by decide +kernel
theorem d_Model_divide_38 : decode b_Model_divide 38 = .ok (.iload_n 3, 1) := by decide +kernel
theorem d_Model_divide_39 : decode b_Model_divide 39 = .ok (.imul, 1) := by decide +kernel
theorem d_Model_divide_40 : decode b_Model_divide 40 = .ok (.istore 4, 2) := by decide +kernel
theorem d_Model_divide_42 : decode b_Model_divide 42 = .ok (.aload_n 0, 1) := by decide +kernel
theorem d_Model_divide_43 : decode b_Model_divide 43 = .ok (.getfield 9, 3) := by decide +kernel
theorem d_Model_divide_46 : decode b_Model_divide 46 = .ok (.iload 4, 2) := by decide +kernel
theorem d_Model_divide_48 : decode b_Model_divide 48 = .ok (.laload, 1) := by decide +kernel
theorem d_Model_divide_49 : decode b_Model_divide 49 = .ok (.lconst 0, 1) := by decide +kernel
theorem d_Model_divide_50 : decode b_Model_divide 50 = .ok (.lcmp, 1) := by decide +kernel
theorem d_Model_divide_51 : decode b_Model_divide 51 = .ok (.ifCond .ge 14, 3) := by decide +kernel
theorem d_Model_divide_54 : decode b_Model_divide 54 = .ok (.aload_n 0, 1) := by decide +kernel
theorem d_Model_divide_55 : decode b_Model_divide 55 = .ok (.getfield 13, 3) := by decide +kernel
theorem d_Model_divide_58 : decode b_Model_divide 58 = .ok (.iload 4, 2) := by decide +kernel
theorem d_Model_divide_60 : decode b_Model_divide 60 = .ok (.laload, 1) := by decide +kernel
theorem d_Model_divide_61 : decode b_Model_divide 61 = .ok (.lneg, 1) := by decide +kernel
theorem d_Model_divide_62 : decode b_Model_divide 62 = .ok (.goto 10, 3) := by decide +kernel
theorem d_Model_divide_65 : decode b_Model_divide 65 = .ok (.aload_n 0, 1) := by decide +kernel
theorem d_Model_divide_66 : decode b_Model_divide 66 = .ok (.getfield 13, 3) := by decide +kernel
theorem d_Model_divide_69 : decode b_Model_divide 69 = .ok (.iload 4, 2) := by decide +kernel
theorem d_Model_divide_71 : decode b_Model_divide 71 = .ok (.laload, 1) := by decide +kernel
theorem d_Model_divide_72 : decode b_Model_divide 72 = .ok (.lstore 5, 2) := by decide +kernel
theorem d_Model_divide_74 : decode b_Model_divide 74 = .ok (.aload_n 0, 1) := by decide +kernel
theorem d_Model_divide_75 : decode b_Model_divide 75 = .ok (.getfield 9, 3) := by decide +kernel
theorem d_Model_divide_78 : decode b_Model_divide 78 = .ok (.iload 4, 2) := by decide +kernel
theorem d_Model_divide_80 : decode b_Model_divide 80 = .ok (.laload, 1) := by decide +kernel
theorem d_Model_divide_81 : decode b_Model_divide 81 = .ok (.invokestatic 132, 3) := by decide +kernel
theorem d_Model_divide_84 : decode b_Model_divide 84 = .ok (.aload_n 0, 1) := by decide +kernel
theorem d_Model_divide_85 : decode b_Model_divide 85 = .ok (.getfield 16, 3) := by decide +kernel
theorem d_Model_divide_88 : decode b_Model_divide 88 = .ok (.iload 4, 2) := by decide +kernel
theorem d_Model_divide_90 : decode b_Model_divide 90 = .ok (.laload, 1) := by decide +kernel
theorem d_Model_divide_91 : decode b_Model_divide 91 = .ok (.lmul, 1) := by decide +kernel
theorem d_Model_divide_92 : decode b_Model_divide 92 = .ok (.lstore 7, 2) := by decide +kernel
theorem d_Model_divide_94 : decode b_Model_divide 94 = .ok (.lload 5, 2) := by decide +kernel
theorem d_Model_divide_96 : decode b_Model_divide 96 = .ok (.lload 7, 2) := by decide +kernel
theorem d_Model_divide_98 : decode b_Model_divide 98 = .ok (.invokestatic 101, 3) := by decide +kernel
theorem d_Model_divide_101 : decode b_Model_divide 101 = .ok (.lstore 9, 2) := by decide +kernel
theorem d_Model_divide_103 : decode b_Model_divide 103 = .ok (.aload_n 0, 1) := by decide +kernel
theorem d_Model_divide_104 : decode b_Model_divide 104 = .ok (.getfield 16, 3) := by decide +kernel
theorem d_Model_divide_107 : decode b_Model_divide 107 = .ok (.iload 4, 2) := by decide +kernel
theorem d_Model_divide_109 : decode b_Model_divide 109 = .ok (.laload, 1) := by decide +kernel
theorem d_Model_divide_110 : decode b_Model_divide 110 = .ok (.lstore 11, 2) := by decide +kernel
theorem d_Model_divide_112 : decode b_Model_divide 112 = .ok (.lload 5, 2) := by decide +kernel
theorem d_Model_divide_114 : decode b_Model_divide 114 = .ok (.lload 9, 2) := by decide +kernel
theorem d_Model_divide_116 : decode b_Model_divide 116 = .ok (.ldiv, 1) := by decide +kernel
theorem d_Model_divide_117 : decode b_Model_divide 117 = .ok (.lload 7, 2) := by decide +kernel
theorem d_Model_divide_119 : decode b_Model_divide 119 = .ok (.lload 9, 2) := by decide +kernel
theorem d_Model_divide_121 : decode b_Model_divide 121 = .ok (.ldiv, 1) := by decide +kernel
theorem d_Model_divide_122 : decode b_Model_divide 122 = .ok (.invokestatic 105, 3) := by decide +kernel
theorem d_Model_divide_125 : decode b_Model_divide 125 = .ok (.ifCond .ne 6, 3) := by decide +kernel
theorem d_Model_divide_128 : decode b_Model_divide 128 = .ok (.bipush (-3), 2) := by decide +kernel
theorem d_Model_divide_130 : decode b_Model_divide 130 = .ok (.ireturn, 1) := by decide +kernel
theorem d_Model_divide_131 : decode b_Model_divide 131 = .ok (.aload_n 0, 1) := by decide +kernel
theorem d_Model_divide_132 : decode b_Model_divide 132 = .ok (.iconst 0, 1) := by decide +kernel
theorem d_Model_divide_133 : decode b_Model_divide 133 = .ok (.putfield 97, 3) := by decide +kernel
theorem d_Model_divide_136 : decode b_Model_divide 136 = .ok (.iconst 0, 1) := by decide +kernel
theorem d_Model_divide_137 : decode b_Model_divide 137 = .ok (.istore 13, 2) := by decide +kernel
theorem d_Model_divide_139 : decode b_Model_divide 139 = .ok (.iload 13, 2) := by decide +kernel
theorem d_Model_divide_141 : decode b_Model_divide 141 = .ok (.aload_n 0, 1) := by decide +kernel
theorem d_Model_divide_142 : decode b_Model_divide 142 = .ok (.getfield 19, 3) := by decide +kernel
theorem d_Model_divide_145 : decode b_Model_divide 145 = .ok (.iload_n 2, 1) := by decide +kernel
theorem d_Model_divide_146 : decode b_Model_divide 146 = .ok (.iaload, 1) := by decide +kernel
theorem d_Model_divide_147 : decode b_Model_divide 147 = .ok (.if_icmp .ge 38, 3) := by decide +kernel
theorem d_Model_divide_150 : decode b_Model_divide 150 = .ok (.aload_n 0, 1) := by decide +kernel
theorem d_Model_divide_151 : decode b_Model_divide 151 = .ok (.bipush 8, 2) := by decide +kernel
theorem d_Model_divide_153 : decode b_Model_divide 153 = .ok (.iload_n 2, 1) := by decide +kernel
theorem d_Model_divide_154 : decode b_Model_divide 154 = .ok (.imul, 1) := by decide +kernel
theorem d_Model_divide_155 : decode b_Model_divide 155 = .ok (.iload 13, 2) := by decide +kernel
theorem d_Model_divide_157 : decode b_Model_divide 157 = .ok (.iadd, 1) := by decide +kernel
theorem d_Model_divide_158 : decode b_Model_divide 158 = .ok (.lload 5, 2) := by decide +kernel
theorem d_Model_divide_160 : decode b_Model_divide 160 = .ok (.lload 9, 2) := by decide +kernel
theorem d_Model_divide_162 : decode b_Model_divide 162 = .ok (.ldiv, 1) := by decide +kernel
theorem d_Model_divide_163 : decode b_Model_divide 163 = .ok (.lload 7, 2) := by decide +kernel
theorem d_Model_divide_165 : decode b_Model_divide 165 = .ok (.lload 9, 2) := by decide +kernel
theorem d_Model_divide_167 : decode b_Model_divide 167 = .ok (.ldiv, 1) := by decide +kernel
theorem d_Model_divide_168 : decode b_Model_divide 168 = .ok (.lload 11, 2) := by decide +kernel
theorem d_Model_divide_170 : decode b_Model_divide 170 = .ok (.invokevirtual 128, 3) := by decide +kernel
theorem d_Model_divide_173 : decode b_Model_divide 173 = .ok (.ifCond .ne 6, 3) := by decide +kernel
theorem d_Model_divide_176 : decode b_Model_divide 176 = .ok (.bipush (-3), 2) := by decide +kernel
theorem d_Model_divide_178 : decode b_Model_divide 178 = .ok (.ireturn, 1) := by decide +kernel
theorem d_Model_divide_179 : decode b_Model_divide 179 = .ok (.iinc 13 1, 3) := by decide +kernel
theorem d_Model_divide_182 : decode b_Model_divide 182 = .ok (.goto (-43), 3) := by decide +kernel
theorem d_Model_divide_185 : decode b_Model_divide 185 = .ok (.aload_n 0, 1) := by decide +kernel
theorem d_Model_divide_186 : decode b_Model_divide 186 = .ok (.iload_n 1, 1) := by decide +kernel
theorem d_Model_divide_187 : decode b_Model_divide 187 = .ok (.invokevirtual 117, 3) := by decide +kernel
theorem d_Model_divide_190 : decode b_Model_divide 190 = .ok (.ireturn, 1) := by decide +kernel
def mf_Model_divide_L139 (vI : Int32) (c_count : Nat → Int32) (r_3 : Int64) (F : Nat) (y : Int64) (x7 : Int64) (x11 : Int64) (m_outCount : Int32) (m_lowSign : Int32) (m_highSign : Int32) (c_n : Nat → Int64) (c_d : Nat → Int64) (c_r : Nat → Int64) : Nat → Int32 → Int32 → (Nat → Int64) → (Nat → Int64) → (Nat → Int64) → Option (Nat × Int32 × (Nat → Int64) × (Nat → Int64) × (Nat → Int64))
  | 0, _, _, _, _, _ => none
  | fu + 1, x13, umo, uanewN, uanewD, uanewR => (sd_g (sd_ix vI 8) (if (c_count vI.toNatClampNeg) ≤ x13 then (some (1, umo, uanewN, uanewD, uanewR)) else (sd_g (sd_zJ r_3) (sd_g (sd_zJ r_3) (sd_b5 (mf_Model_multiplyTerm F (((8 : Int32) * vI) + x13) (y / r_3) (x7 / r_3) x11 umo m_outCount m_lowSign m_highSign c_n c_d c_r uanewN uanewD uanewR) fun r_5 umo_1 uanewN_1 uanewD_1 uanewR_1 => (if r_5 = 0 then (some (0, umo_1, uanewN_1, uanewD_1, uanewR_1)) else (sd_let (x13 + (1 : Int32)) fun x13_1 => ((mf_Model_divide_L139 vI c_count r_3 F y x7 x11 m_outCount m_lowSign m_highSign c_n c_d c_r fu) x13_1 umo_1 uanewN_1 uanewD_1 uanewR_1))))))))
def mf_Model_divide (F : Nat) (vK : Int32) (vI : Int32) (vJ : Int32) (m_made : Int32) (m_outCount : Int32) (m_lowSign : Int32) (m_highSign : Int32) (c_n : Nat → Int64) (c_d : Nat → Int64) (c_r : Nat → Int64) (c_count : Nat → Int32) (c_newN : Nat → Int64) (c_newD : Nat → Int64) (c_newR : Nat → Int64) : Option (Int32 × Int32 × (Nat → Int64) × (Nat → Int64) × (Nat → Int64) × (Nat → Int32) × (Nat → Int64) × (Nat → Int64) × (Nat → Int64)) :=
  (sd_b1 (mf_Model_is F vK) fun r => (if r = 0 then (some ((-1 : Int32), m_made, c_n, c_d, c_r, c_count, c_newN, c_newD, c_newR)) else (sd_b1 (mf_Model_is F vI) fun r_1 => (if r_1 = 0 then (some ((-1 : Int32), m_made, c_n, c_d, c_r, c_count, c_newN, c_newD, c_newR)) else (sd_b1 (mf_Model_is F vJ) fun r_2 => (if r_2 = 0 then (some ((-1 : Int32), m_made, c_n, c_d, c_r, c_count, c_newN, c_newD, c_newR)) else (sd_g (sd_ix vJ 8) (if (c_count vJ.toNatClampNeg) = (1 : Int32) then (sd_let (((8 : Int32) * vJ)) fun x4 => (sd_g (sd_ix x4 64) (sd_b1 (if (0 : Int64) ≤ (c_n x4.toNatClampNeg) then (sd_g (sd_ix x4 64) (some ((c_d x4.toNatClampNeg)))) else (sd_g (sd_ix x4 64) (some ((-(c_d x4.toNatClampNeg)))))) fun y => (sd_g (sd_ix x4 64) (sd_g (sd_ix x4 64) (sd_let (((if 0 < (c_n x4.toNatClampNeg) then (c_n x4.toNatClampNeg) else -(c_n x4.toNatClampNeg)) * (c_r x4.toNatClampNeg))) fun x7 => (sd_b1 (mf_Model_divisor F y x7) fun r_3 => (sd_g (sd_ix x4 64) (sd_let ((c_r x4.toNatClampNeg)) fun x11 => (sd_g (sd_zJ r_3) (sd_g (sd_zJ r_3) (sd_b1 (mf_Model_fits F (y / r_3) (x7 / r_3)) fun r_4 => (if r_4 = 0 then (some ((-3 : Int32), m_made, c_n, c_d, c_r, c_count, c_newN, c_newD, c_newR)) else (sd_b5 (mf_Model_divide_L139 vI c_count r_3 F y x7 x11 m_outCount m_lowSign m_highSign c_n c_d c_r F (0 : Int32) (0 : Int32) c_newN c_newD c_newR) fun tg rumo ruanewN ruanewD ruanewR => (if tg = 0 then (some ((-3 : Int32), rumo, c_n, c_d, c_r, c_count, ruanewN, ruanewD, ruanewR)) else (sd_b5 (mf_Model_keep F vK rumo m_outCount m_lowSign m_highSign c_n c_d c_r c_count ruanewN ruanewD ruanewR) fun r_6 uan uad uar uacount => (some (r_6, rumo, uan, uad, uar, uacount, ruanewN, ruanewD, ruanewR)))))))))))))))))) else (some ((-2 : Int32), m_made, c_n, c_d, c_r, c_count, c_newN, c_newD, c_newR))))))))))
abbrev rm_Model_divide : Room := { frames := 3, cells := 0, slots := 0, locals := 115 }
set_option maxHeartbeats 4000000 in
set_option maxRecDepth 100000 in
theorem ct_Model_divide (l : Launch) (D : va_G) (g : G4) (mo : Nat) (a_n : Nat) (a_d : Nat) (a_r : Nat) (a_count : Nat) (a_newN : Nat) (a_newD : Nat) (a_newR : Nat) (a_out : Nat) (a_root : Nat) (a_rest : Nat) (a_square : Nat) (a_part : Nat) (a_plus : Nat) (a_minus : Nat) (a_low : Nat) (a_high : Nat) (a_one : Nat) (a_two : Nat) (a_otherLow : Nat) (a_otherHigh : Nat) (a_digit : Nat) (a_topA : Nat) (a_underA : Nat) (a_topB : Nat) (a_underB : Nat) (a_quotient : Nat) (a_otherQuotient : Nat) (sz : Nat) (vK : Int32) (vI : Int32) (vJ : Int32) (m_made : Int32) (m_outCount : Int32) (m_lowSign : Int32) (m_highSign : Int32) (c_n : Nat → Int64) (c_d : Nat → Int64) (c_r : Nat → Int64) (c_count : Nat → Int32) (c_newN : Nat → Int64) (c_newD : Nat → Int64) (c_newR : Nat → Int64) (F : Nat) (res : Int32 × Int32 × (Nat → Int64) × (Nat → Int64) × (Nat → Int64) × (Nat → Int32) × (Nat → Int64) × (Nat → Int64) × (Nat → Int64)) (hm : mf_Model_divide F vK vI vJ m_made m_outCount m_lowSign m_highSign c_n c_d c_r c_count c_newN c_newD c_newR = some res) : Met l y_Model_divide (.code y_Model_divide b_Model_divide 14 (some .int) :: sd_tb) rm_Model_divide (sd_PW D g [.ref mo, .int vK, .int vI, .int vJ] sz [(mo, .inr (5, [.ref a_n, .ref a_d, .ref a_r, .ref a_count, .ref a_newN, .ref a_newD, .ref a_newR, .int m_made, .ref a_out, .int m_outCount, .ref a_root, .ref a_rest, .ref a_square, .ref a_part, .ref a_plus, .ref a_minus, .ref a_low, .ref a_high, .ref a_one, .ref a_two, .int m_lowSign, .int m_highSign, .ref a_otherLow, .ref a_otherHigh, .ref a_digit, .ref a_topA, .ref a_underA, .ref a_topB, .ref a_underB, .ref a_quotient, .ref a_otherQuotient])), (a_n, aJ g 64 c_n), (a_d, aJ g 64 c_d), (a_r, aJ g 64 c_r), (a_count, aI g 8 c_count), (a_newN, aJ g 8 c_newN), (a_newD, aJ g 8 c_newD), (a_newR, aJ g 8 c_newR)]) (sd_Qi1 D g res (fun u : Int32 × (Nat → Int64) × (Nat → Int64) × (Nat → Int64) × (Nat → Int32) × (Nat → Int64) × (Nat → Int64) × (Nat → Int64) => [(mo, .inr (5, [.ref a_n, .ref a_d, .ref a_r, .ref a_count, .ref a_newN, .ref a_newD, .ref a_newR, .int (u.1), .ref a_out, .int m_outCount, .ref a_root, .ref a_rest, .ref a_square, .ref a_part, .ref a_plus, .ref a_minus, .ref a_low, .ref a_high, .ref a_one, .ref a_two, .int m_lowSign, .int m_highSign, .ref a_otherLow, .ref a_otherHigh, .ref a_digit, .ref a_topA, .ref a_underA, .ref a_topB, .ref a_underB, .ref a_quotient, .ref a_otherQuotient])), (a_n, aJ g 64 (u.2.1)), (a_d, aJ g 64 (u.2.2.1)), (a_r, aJ g 64 (u.2.2.2.1)), (a_count, aI g 8 (u.2.2.2.2.1)), (a_newN, aJ g 8 (u.2.2.2.2.2.1)), (a_newD, aJ g 8 (u.2.2.2.2.2.2.1)), (a_newR, aJ g 8 (u.2.2.2.2.2.2.2))]) (va_A [(mo, .inr (5, [.ref a_n, .ref a_d, .ref a_r, .ref a_count, .ref a_newN, .ref a_newD, .ref a_newR, .int m_made, .ref a_out, .int m_outCount, .ref a_root, .ref a_rest, .ref a_square, .ref a_part, .ref a_plus, .ref a_minus, .ref a_low, .ref a_high, .ref a_one, .ref a_two, .int m_lowSign, .int m_highSign, .ref a_otherLow, .ref a_otherHigh, .ref a_digit, .ref a_topA, .ref a_underA, .ref a_topB, .ref a_underB, .ref a_quotient, .ref a_otherQuotient])), (a_n, aJ g 64 c_n), (a_d, aJ g 64 c_d), (a_r, aJ g 64 c_r), (a_count, aI g 8 c_count), (a_newN, aJ g 8 c_newN), (a_newD, aJ g 8 c_newD), (a_newR, aJ g 8 c_newR)] sz)) 0 0 (va_A [(mo, .inr (5, [.ref a_n, .ref a_d, .ref a_r, .ref a_count, .ref a_newN, .ref a_newD, .ref a_newR, .int m_made, .ref a_out, .int m_outCount, .ref a_root, .ref a_rest, .ref a_square, .ref a_part, .ref a_plus, .ref a_minus, .ref a_low, .ref a_high, .ref a_one, .ref a_two, .int m_lowSign, .int m_highSign, .ref a_otherLow, .ref a_otherHigh, .ref a_digit, .ref a_topA, .ref a_underA, .ref a_topB, .ref a_underB, .ref a_quotient, .ref a_otherQuotient])), (a_n, aJ g 64 c_n), (a_d, aJ g 64 c_d), (a_r, aJ g 64 c_r), (a_count, aI g 8 c_count), (a_newN, aJ g 8 c_newN), (a_newD, aJ g 8 c_newD), (a_newR, aJ g 8 c_newR)] sz) := by
  refine sd_met (Qf := fun A => sd_Qi1 D g res (fun u : Int32 × (Nat → Int64) × (Nat → Int64) × (Nat → Int64) × (Nat → Int32) × (Nat → Int64) × (Nat → Int64) × (Nat → Int64) => [(mo, .inr (5, [.ref a_n, .ref a_d, .ref a_r, .ref a_count, .ref a_newN, .ref a_newD, .ref a_newR, .int (u.1), .ref a_out, .int m_outCount, .ref a_root, .ref a_rest, .ref a_square, .ref a_part, .ref a_plus, .ref a_minus, .ref a_low, .ref a_high, .ref a_one, .ref a_two, .int m_lowSign, .int m_highSign, .ref a_otherLow, .ref a_otherHigh, .ref a_digit, .ref a_topA, .ref a_underA, .ref a_topB, .ref a_underB, .ref a_quotient, .ref a_otherQuotient])), (a_n, aJ g 64 (u.2.1)), (a_d, aJ g 64 (u.2.2.1)), (a_r, aJ g 64 (u.2.2.2.1)), (a_count, aI g 8 (u.2.2.2.2.1)), (a_newN, aJ g 8 (u.2.2.2.2.2.1)), (a_newD, aJ g 8 (u.2.2.2.2.2.2.1)), (a_newR, aJ g 8 (u.2.2.2.2.2.2.2))]) A) (own := R_Model) (by decide +kernel) rfl (Nat.le_of_ble_eq_true rfl) ?_
  intro p e s m args below meth c S hr hlk hK A hA Q hQ H locs hP hD hS ls hl
  have hx := S.1
  have hb := S.2.1
  have hml := S.2.2.1
  have hown := S.2.2.2.1
  have htt := sd_tt S
  replace hl : lv_has ls 14 [(0, .ref mo), (1, .int vK), (2, .int vI), (3, .int vJ)] := hl
  unfold mf_Model_divide at hm
  refine lv_iload_n hx hb d_Model_divide_0 rfl (lv_at hl 1 rfl) ?_
  obtain ⟨r, hc, hm⟩ := sd_mb1 hm
  refine sd_ci0 (wr := [(mo, .inr (5, [.ref a_n, .ref a_d, .ref a_r, .ref a_count, .ref a_newN, .ref a_newD, .ref a_newR, .int m_made, .ref a_out, .int m_outCount, .ref a_root, .ref a_rest, .ref a_square, .ref a_part, .ref a_plus, .ref a_minus, .ref a_low, .ref a_high, .ref a_one, .ref a_two, .int m_lowSign, .int m_highSign, .ref a_otherLow, .ref a_otherHigh, .ref a_digit, .ref a_topA, .ref a_underA, .ref a_topB, .ref a_underB, .ref a_quotient, .ref a_otherQuotient])), (a_n, aJ g 64 c_n), (a_d, aJ g 64 c_d), (a_r, aJ g 64 c_r), (a_count, aI g 8 c_count), (a_newN, aJ g 8 c_newN), (a_newD, aJ g 8 c_newD), (a_newR, aJ g 8 c_newR)]) (w2 := [(mo, .inr (5, [.ref a_n, .ref a_d, .ref a_r, .ref a_count, .ref a_newN, .ref a_newD, .ref a_newR, .int m_made, .ref a_out, .int m_outCount, .ref a_root, .ref a_rest, .ref a_square, .ref a_part, .ref a_plus, .ref a_minus, .ref a_low, .ref a_high, .ref a_one, .ref a_two, .int m_lowSign, .int m_highSign, .ref a_otherLow, .ref a_otherHigh, .ref a_digit, .ref a_topA, .ref a_underA, .ref a_topB, .ref a_underB, .ref a_quotient, .ref a_otherQuotient])), (a_n, aJ g 64 c_n), (a_d, aJ g 64 c_d), (a_r, aJ g 64 c_r), (a_count, aI g 8 c_count), (a_newN, aJ g 8 c_newN), (a_newD, aJ g 8 c_newD), (a_newR, aJ g 8 c_newR)]) (sd_runS (rest := []) (As := [.int vK]) S (ct_Model_is l D g (H.size) vK F (r) hc) kl_Model_109 (by decide) (by decide) hK hP hD [] rfl (by decide) rfl hl d_Model_divide_1 rfl (Nat.le_of_ble_eq_true rfl) ⟨Nat.zero_le _, Nat.zero_le _⟩) hP hD hS hA [] [0, 1, 2, 3, 4, 5, 6, 7] rfl rfl (by decide) (by decide) rfl (fun H locs hP hD hS => ?_)
  refine W.eq (g2 := F0 m 4 ls [.int r]) rfl ?_
  refine lv_if_eq (tgt := 21) hx hb d_Model_divide_4 (by decide) (fun hc => ?_) (fun hc => ?_)
  · have hm := sd_mt hc hm
    refine lv_iconst (v := (-1 : Int32)) hx hb d_Model_divide_21 (by decide) ?_
    exact sd_i1ret (u := (m_made, c_n, c_d, c_r, c_count, c_newN, c_newD, c_newR)) hQ hx hb hr hlk hK (hP.sub [0, 1, 2, 3, 4, 5, 6, 7] rfl) (hD.sub [0, 1, 2, 3, 4, 5, 6, 7] (by decide) rfl) hS (Option.some.inj hm).symm d_Model_divide_22
  · have hm := sd_mf hc hm
    refine lv_iload_n hx hb d_Model_divide_7 rfl (lv_at hl 2 rfl) ?_
    obtain ⟨r_1, hc, hm⟩ := sd_mb1 hm
    refine sd_ci0 (wr := [(mo, .inr (5, [.ref a_n, .ref a_d, .ref a_r, .ref a_count, .ref a_newN, .ref a_newD, .ref a_newR, .int m_made, .ref a_out, .int m_outCount, .ref a_root, .ref a_rest, .ref a_square, .ref a_part, .ref a_plus, .ref a_minus, .ref a_low, .ref a_high, .ref a_one, .ref a_two, .int m_lowSign, .int m_highSign, .ref a_otherLow, .ref a_otherHigh, .ref a_digit, .ref a_topA, .ref a_underA, .ref a_topB, .ref a_underB, .ref a_quotient, .ref a_otherQuotient])), (a_n, aJ g 64 c_n), (a_d, aJ g 64 c_d), (a_r, aJ g 64 c_r), (a_count, aI g 8 c_count), (a_newN, aJ g 8 c_newN), (a_newD, aJ g 8 c_newD), (a_newR, aJ g 8 c_newR)]) (w2 := [(mo, .inr (5, [.ref a_n, .ref a_d, .ref a_r, .ref a_count, .ref a_newN, .ref a_newD, .ref a_newR, .int m_made, .ref a_out, .int m_outCount, .ref a_root, .ref a_rest, .ref a_square, .ref a_part, .ref a_plus, .ref a_minus, .ref a_low, .ref a_high, .ref a_one, .ref a_two, .int m_lowSign, .int m_highSign, .ref a_otherLow, .ref a_otherHigh, .ref a_digit, .ref a_topA, .ref a_underA, .ref a_topB, .ref a_underB, .ref a_quotient, .ref a_otherQuotient])), (a_n, aJ g 64 c_n), (a_d, aJ g 64 c_d), (a_r, aJ g 64 c_r), (a_count, aI g 8 c_count), (a_newN, aJ g 8 c_newN), (a_newD, aJ g 8 c_newD), (a_newR, aJ g 8 c_newR)]) (sd_runS (rest := []) (As := [.int vI]) S (ct_Model_is l D g (H.size) vI F (r_1) hc) kl_Model_109 (by decide) (by decide) hK hP hD [] rfl (by decide) rfl hl d_Model_divide_8 rfl (Nat.le_of_ble_eq_true rfl) ⟨Nat.zero_le _, Nat.zero_le _⟩) hP hD hS hA [] [0, 1, 2, 3, 4, 5, 6, 7] rfl rfl (by decide) (by decide) rfl (fun H locs hP hD hS => ?_)
    refine W.eq (g2 := F0 m 11 ls [.int r_1]) rfl ?_
    refine lv_if_eq (tgt := 21) hx hb d_Model_divide_11 (by decide) (fun hc => ?_) (fun hc => ?_)
    · have hm := sd_mt hc hm
      refine lv_iconst (v := (-1 : Int32)) hx hb d_Model_divide_21 (by decide) ?_
      exact sd_i1ret (u := (m_made, c_n, c_d, c_r, c_count, c_newN, c_newD, c_newR)) hQ hx hb hr hlk hK (hP.sub [0, 1, 2, 3, 4, 5, 6, 7] rfl) (hD.sub [0, 1, 2, 3, 4, 5, 6, 7] (by decide) rfl) hS (Option.some.inj hm).symm d_Model_divide_22
    · have hm := sd_mf hc hm
      refine lv_iload_n hx hb d_Model_divide_14 rfl (lv_at hl 3 rfl) ?_
      obtain ⟨r_2, hc, hm⟩ := sd_mb1 hm
      refine sd_ci0 (wr := [(mo, .inr (5, [.ref a_n, .ref a_d, .ref a_r, .ref a_count, .ref a_newN, .ref a_newD, .ref a_newR, .int m_made, .ref a_out, .int m_outCount, .ref a_root, .ref a_rest, .ref a_square, .ref a_part, .ref a_plus, .ref a_minus, .ref a_low, .ref a_high, .ref a_one, .ref a_two, .int m_lowSign, .int m_highSign, .ref a_otherLow, .ref a_otherHigh, .ref a_digit, .ref a_topA, .ref a_underA, .ref a_topB, .ref a_underB, .ref a_quotient, .ref a_otherQuotient])), (a_n, aJ g 64 c_n), (a_d, aJ g 64 c_d), (a_r, aJ g 64 c_r), (a_count, aI g 8 c_count), (a_newN, aJ g 8 c_newN), (a_newD, aJ g 8 c_newD), (a_newR, aJ g 8 c_newR)]) (w2 := [(mo, .inr (5, [.ref a_n, .ref a_d, .ref a_r, .ref a_count, .ref a_newN, .ref a_newD, .ref a_newR, .int m_made, .ref a_out, .int m_outCount, .ref a_root, .ref a_rest, .ref a_square, .ref a_part, .ref a_plus, .ref a_minus, .ref a_low, .ref a_high, .ref a_one, .ref a_two, .int m_lowSign, .int m_highSign, .ref a_otherLow, .ref a_otherHigh, .ref a_digit, .ref a_topA, .ref a_underA, .ref a_topB, .ref a_underB, .ref a_quotient, .ref a_otherQuotient])), (a_n, aJ g 64 c_n), (a_d, aJ g 64 c_d), (a_r, aJ g 64 c_r), (a_count, aI g 8 c_count), (a_newN, aJ g 8 c_newN), (a_newD, aJ g 8 c_newD), (a_newR, aJ g 8 c_newR)]) (sd_runS (rest := []) (As := [.int vJ]) S (ct_Model_is l D g (H.size) vJ F (r_2) hc) kl_Model_109 (by decide) (by decide) hK hP hD [] rfl (by decide) rfl hl d_Model_divide_15 rfl (Nat.le_of_ble_eq_true rfl) ⟨Nat.zero_le _, Nat.zero_le _⟩) hP hD hS hA [] [0, 1, 2, 3, 4, 5, 6, 7] rfl rfl (by decide) (by decide) rfl (fun H locs hP hD hS => ?_)
      refine W.eq (g2 := F0 m 18 ls [.int r_2]) rfl ?_
      refine lv_if_ne (tgt := 23) hx hb d_Model_divide_18 (by decide) (fun hc => ?_) (fun hc => ?_)
      · have hm := sd_mf hc hm
        refine lv_aload_n hx hb d_Model_divide_23 rfl (lv_at hl 0 rfl) ?_
        refine va_get (D := D) (ci := 5) (v := .ref a_count) (C := R_Model) (T := F_Model) (N := 31) hx hb htt i_Model hown hK hP 0 rfl rfl 3 (by decide) (htt _ kf_Model_19) (fun _ h9 => h9) rfl d_Model_divide_24 ?_
        refine lv_iload_n hx hb d_Model_divide_27 rfl (lv_at hl 3 rfl) ?_
        obtain ⟨h_1, hm⟩ := sd_mg hm
        refine sd_iald hx hb hK hP 4 rfl h_1 d_Model_divide_28 ?_
        refine lv_iconst (v := (1 : Int32)) hx hb d_Model_divide_29 (by decide) ?_
        refine lv_icmp_eq (tgt := 36) hx hb d_Model_divide_30 (by decide) (fun hc => ?_) (fun hc => ?_)
        · have hm := sd_mt hc hm
          refine lv_bipush (v := (8 : Int32)) hx hb d_Model_divide_36 (by decide) ?_
          refine lv_iload_n hx hb d_Model_divide_38 rfl (lv_at hl 3 rfl) ?_
          refine lv_imul hx hb d_Model_divide_39 ?_
          obtain ⟨x4, ex4, hm⟩ := sd_mlet hm
          refine sd_topi ex4 ?_
          refine lv_istore (lv' := [(4, .int x4), (0, .ref mo), (1, .int vK), (2, .int vI), (3, .int vJ)]) hx hb d_Model_divide_40 hl (by decide) rfl (fun ls hl => ?_)
          refine lv_aload_n hx hb d_Model_divide_42 rfl (lv_at hl 1 rfl) ?_
          refine va_get (D := D) (ci := 5) (v := .ref a_n) (C := R_Model) (T := F_Model) (N := 31) hx hb htt i_Model hown hK hP 0 rfl rfl 0 (by decide) (htt _ kf_Model_9) (fun _ h9 => h9) rfl d_Model_divide_43 ?_
          refine lv_iload hx hb d_Model_divide_46 (lv_at hl 0 rfl) ?_
          obtain ⟨h_2, hm⟩ := sd_mg hm
          refine sd_lald hx hb hK hP 1 rfl h_2 d_Model_divide_48 ?_
          refine lv_lconst (v := (0 : Int64)) hx hb d_Model_divide_49 (by decide) ?_
          obtain ⟨y, hv, hm⟩ := sd_mb1 hm
          have J72_3 : ∀ (H : Heap) (locs : List Loc) (ls : Array Slot), va_P D classes [(mo, .inr (5, [.ref a_n, .ref a_d, .ref a_r, .ref a_count, .ref a_newN, .ref a_newD, .ref a_newR, .int m_made, .ref a_out, .int m_outCount, .ref a_root, .ref a_rest, .ref a_square, .ref a_part, .ref a_plus, .ref a_minus, .ref a_low, .ref a_high, .ref a_one, .ref a_two, .int m_lowSign, .int m_highSign, .ref a_otherLow, .ref a_otherHigh, .ref a_digit, .ref a_topA, .ref a_underA, .ref a_topB, .ref a_underB, .ref a_quotient, .ref a_otherQuotient])), (a_n, aJ g 64 c_n), (a_d, aJ g 64 c_d), (a_r, aJ g 64 c_r), (a_count, aI g 8 c_count), (a_newN, aJ g 8 c_newN), (a_newD, aJ g 8 c_newD), (a_newR, aJ g 8 c_newR)] H → va_D A [(mo, .inr (5, [.ref a_n, .ref a_d, .ref a_r, .ref a_count, .ref a_newN, .ref a_newD, .ref a_newR, .int m_made, .ref a_out, .int m_outCount, .ref a_root, .ref a_rest, .ref a_square, .ref a_part, .ref a_plus, .ref a_minus, .ref a_low, .ref a_high, .ref a_one, .ref a_two, .int m_lowSign, .int m_highSign, .ref a_otherLow, .ref a_otherHigh, .ref a_digit, .ref a_topA, .ref a_underA, .ref a_topB, .ref a_underB, .ref a_quotient, .ref a_otherQuotient])), (a_n, aJ g 64 c_n), (a_d, aJ g 64 c_d), (a_r, aJ g 64 c_r), (a_count, aI g 8 c_count), (a_newN, aJ g 8 c_newN), (a_newD, aJ g 8 c_newD), (a_newR, aJ g 8 c_newR)] → va_S A s.heap H locs → lv_has ls 14 [(0, .ref mo), (1, .int vK), (2, .int vI), (4, .int x4)] → W p l e rm_Model_divide s m args below meth c H locs 0 0 Q (F0 m 72 ls [.long y]) := by
            intro H locs ls hP hD hS hl
            refine lv_lstore (lv' := [(5, .long y), (0, .ref mo), (1, .int vK), (2, .int vI), (4, .int x4)]) hx hb d_Model_divide_72 hl (by decide) rfl (fun ls hl => ?_)
            refine lv_aload_n hx hb d_Model_divide_74 rfl (lv_at hl 1 rfl) ?_
            refine va_get (D := D) (ci := 5) (v := .ref a_n) (C := R_Model) (T := F_Model) (N := 31) hx hb htt i_Model hown hK hP 0 rfl rfl 0 (by decide) (htt _ kf_Model_9) (fun _ h9 => h9) rfl d_Model_divide_75 ?_
            refine lv_iload hx hb d_Model_divide_78 (lv_at hl 4 rfl) ?_
            obtain ⟨h_6, hm⟩ := sd_mg hm
            refine sd_lald hx hb hK hP 1 rfl h_6 d_Model_divide_80 ?_
            refine sd_abs hx hb hml hown kl_Model_132 htt hl d_Model_divide_81 (Nat.le_of_ble_eq_true rfl) (Nat.le_of_ble_eq_true rfl) ?_
            refine lv_aload_n hx hb d_Model_divide_84 rfl (lv_at hl 1 rfl) ?_
            refine va_get (D := D) (ci := 5) (v := .ref a_r) (C := R_Model) (T := F_Model) (N := 31) hx hb htt i_Model hown hK hP 0 rfl rfl 2 (by decide) (htt _ kf_Model_16) (fun _ h9 => h9) rfl d_Model_divide_85 ?_
            refine lv_iload hx hb d_Model_divide_88 (lv_at hl 4 rfl) ?_
            obtain ⟨h_7, hm⟩ := sd_mg hm
            refine sd_lald hx hb hK hP 3 rfl h_7 d_Model_divide_90 ?_
            refine lv_lmul hx hb d_Model_divide_91 ?_
            obtain ⟨x7, ex7, hm⟩ := sd_mlet hm
            refine sd_topj ex7 ?_
            refine lv_lstore (lv' := [(7, .long x7), (5, .long y), (0, .ref mo), (1, .int vK), (2, .int vI), (4, .int x4)]) hx hb d_Model_divide_92 hl (by decide) rfl (fun ls hl => ?_)
            refine lv_lload hx hb d_Model_divide_94 (lv_at hl 1 rfl) ?_
            refine lv_lload hx hb d_Model_divide_96 (lv_at hl 0 rfl) ?_
            obtain ⟨r_3, hc, hm⟩ := sd_mb1 hm
            refine sd_cl0 (wr := [(mo, .inr (5, [.ref a_n, .ref a_d, .ref a_r, .ref a_count, .ref a_newN, .ref a_newD, .ref a_newR, .int m_made, .ref a_out, .int m_outCount, .ref a_root, .ref a_rest, .ref a_square, .ref a_part, .ref a_plus, .ref a_minus, .ref a_low, .ref a_high, .ref a_one, .ref a_two, .int m_lowSign, .int m_highSign, .ref a_otherLow, .ref a_otherHigh, .ref a_digit, .ref a_topA, .ref a_underA, .ref a_topB, .ref a_underB, .ref a_quotient, .ref a_otherQuotient])), (a_n, aJ g 64 c_n), (a_d, aJ g 64 c_d), (a_r, aJ g 64 c_r), (a_count, aI g 8 c_count), (a_newN, aJ g 8 c_newN), (a_newD, aJ g 8 c_newD), (a_newR, aJ g 8 c_newR)]) (w2 := [(mo, .inr (5, [.ref a_n, .ref a_d, .ref a_r, .ref a_count, .ref a_newN, .ref a_newD, .ref a_newR, .int m_made, .ref a_out, .int m_outCount, .ref a_root, .ref a_rest, .ref a_square, .ref a_part, .ref a_plus, .ref a_minus, .ref a_low, .ref a_high, .ref a_one, .ref a_two, .int m_lowSign, .int m_highSign, .ref a_otherLow, .ref a_otherHigh, .ref a_digit, .ref a_topA, .ref a_underA, .ref a_topB, .ref a_underB, .ref a_quotient, .ref a_otherQuotient])), (a_n, aJ g 64 c_n), (a_d, aJ g 64 c_d), (a_r, aJ g 64 c_r), (a_count, aI g 8 c_count), (a_newN, aJ g 8 c_newN), (a_newD, aJ g 8 c_newD), (a_newR, aJ g 8 c_newR)]) (sd_runS (rest := []) (As := [.long y, .long x7]) S (ct_Model_divisor l D g (H.size) y x7 F (r_3) hc) kl_Model_101 (by decide) (by decide) hK hP hD [] rfl (by decide) rfl hl d_Model_divide_98 rfl (Nat.le_of_ble_eq_true rfl) ⟨Nat.zero_le _, Nat.zero_le _⟩) hP hD hS hA [] [0, 1, 2, 3, 4, 5, 6, 7] rfl rfl (by decide) (by decide) rfl (fun H locs hP hD hS => ?_)
            refine W.eq (g2 := F0 m 101 ls [.long r_3]) rfl ?_
            refine lv_lstore (lv' := [(9, .long r_3), (7, .long x7), (5, .long y), (0, .ref mo), (1, .int vK), (2, .int vI), (4, .int x4)]) hx hb d_Model_divide_101 hl (by decide) rfl (fun ls hl => ?_)
            refine lv_aload_n hx hb d_Model_divide_103 rfl (lv_at hl 3 rfl) ?_
            refine va_get (D := D) (ci := 5) (v := .ref a_r) (C := R_Model) (T := F_Model) (N := 31) hx hb htt i_Model hown hK hP 0 rfl rfl 2 (by decide) (htt _ kf_Model_16) (fun _ h9 => h9) rfl d_Model_divide_104 ?_
            refine lv_iload hx hb d_Model_divide_107 (lv_at hl 6 rfl) ?_
            obtain ⟨h_8, hm⟩ := sd_mg hm
            refine sd_lald hx hb hK hP 3 rfl h_8 d_Model_divide_109 ?_
            obtain ⟨x11, ex11, hm⟩ := sd_mlet hm
            refine sd_topj ex11 ?_
            refine lv_lstore (lv' := [(11, .long x11), (9, .long r_3), (7, .long x7), (5, .long y), (0, .ref mo), (1, .int vK), (2, .int vI), (4, .int x4)]) hx hb d_Model_divide_110 hl (by decide) rfl (fun ls hl => ?_)
            refine lv_lload hx hb d_Model_divide_112 (lv_at hl 3 rfl) ?_
            refine lv_lload hx hb d_Model_divide_114 (lv_at hl 1 rfl) ?_
            obtain ⟨h_9, hm⟩ := sd_mg hm
            refine lv_ldiv hx hb d_Model_divide_116 (sd_nzJ h_9) ?_
            refine lv_lload hx hb d_Model_divide_117 (lv_at hl 2 rfl) ?_
            refine lv_lload hx hb d_Model_divide_119 (lv_at hl 1 rfl) ?_
            obtain ⟨h_10, hm⟩ := sd_mg hm
            refine lv_ldiv hx hb d_Model_divide_121 (sd_nzJ h_10) ?_
            obtain ⟨r_4, hc, hm⟩ := sd_mb1 hm
            refine sd_ci0 (wr := [(mo, .inr (5, [.ref a_n, .ref a_d, .ref a_r, .ref a_count, .ref a_newN, .ref a_newD, .ref a_newR, .int m_made, .ref a_out, .int m_outCount, .ref a_root, .ref a_rest, .ref a_square, .ref a_part, .ref a_plus, .ref a_minus, .ref a_low, .ref a_high, .ref a_one, .ref a_two, .int m_lowSign, .int m_highSign, .ref a_otherLow, .ref a_otherHigh, .ref a_digit, .ref a_topA, .ref a_underA, .ref a_topB, .ref a_underB, .ref a_quotient, .ref a_otherQuotient])), (a_n, aJ g 64 c_n), (a_d, aJ g 64 c_d), (a_r, aJ g 64 c_r), (a_count, aI g 8 c_count), (a_newN, aJ g 8 c_newN), (a_newD, aJ g 8 c_newD), (a_newR, aJ g 8 c_newR)]) (w2 := [(mo, .inr (5, [.ref a_n, .ref a_d, .ref a_r, .ref a_count, .ref a_newN, .ref a_newD, .ref a_newR, .int m_made, .ref a_out, .int m_outCount, .ref a_root, .ref a_rest, .ref a_square, .ref a_part, .ref a_plus, .ref a_minus, .ref a_low, .ref a_high, .ref a_one, .ref a_two, .int m_lowSign, .int m_highSign, .ref a_otherLow, .ref a_otherHigh, .ref a_digit, .ref a_topA, .ref a_underA, .ref a_topB, .ref a_underB, .ref a_quotient, .ref a_otherQuotient])), (a_n, aJ g 64 c_n), (a_d, aJ g 64 c_d), (a_r, aJ g 64 c_r), (a_count, aI g 8 c_count), (a_newN, aJ g 8 c_newN), (a_newD, aJ g 8 c_newD), (a_newR, aJ g 8 c_newR)]) (sd_runS (rest := []) (As := [.long (y / r_3), .long (x7 / r_3)]) S (ct_Model_fits l D g (H.size) (y / r_3) (x7 / r_3) F (r_4) hc) kl_Model_105 (by decide) (by decide) hK hP hD [] rfl (by decide) rfl hl d_Model_divide_122 rfl (Nat.le_of_ble_eq_true rfl) ⟨Nat.zero_le _, Nat.zero_le _⟩) hP hD hS hA [] [0, 1, 2, 3, 4, 5, 6, 7] rfl rfl (by decide) (by decide) rfl (fun H locs hP hD hS => ?_)
            refine W.eq (g2 := F0 m 125 ls [.int r_4]) rfl ?_
            refine lv_if_ne (tgt := 131) hx hb d_Model_divide_125 (by decide) (fun hc => ?_) (fun hc => ?_)
            · have hm := sd_mf hc hm
              refine lv_aload_n hx hb d_Model_divide_131 rfl (lv_at hl 4 rfl) ?_
              refine lv_iconst (v := (0 : Int32)) hx hb d_Model_divide_132 (by decide) ?_
              refine sd_put (ci := 5) (v := .int (0 : Int32)) (ty := .int) (C := R_Model) (T := F_Model) (N := 31) (ws2 := [(mo, .inr (5, [.ref a_n, .ref a_d, .ref a_r, .ref a_count, .ref a_newN, .ref a_newD, .ref a_newR, .int (0 : Int32), .ref a_out, .int m_outCount, .ref a_root, .ref a_rest, .ref a_square, .ref a_part, .ref a_plus, .ref a_minus, .ref a_low, .ref a_high, .ref a_one, .ref a_two, .int m_lowSign, .int m_highSign, .ref a_otherLow, .ref a_otherHigh, .ref a_digit, .ref a_topA, .ref a_underA, .ref a_topB, .ref a_underB, .ref a_quotient, .ref a_otherQuotient])), (a_n, aJ g 64 c_n), (a_d, aJ g 64 c_d), (a_r, aJ g 64 c_r), (a_count, aI g 8 c_count), (a_newN, aJ g 8 c_newN), (a_newD, aJ g 8 c_newD), (a_newR, aJ g 8 c_newR)]) hx hb htt i_Model t_Model t_Model_ok n_Model hown hK hP hD hS 0 rfl rfl 7 (by decide) kf_Model_97 (fun _ h9 => h9) rfl (by decide +kernel) rfl rfl (Nat.le_of_ble_eq_true rfl) rfl d_Model_divide_133 (fun H locs hP hD hS => ?_)
              refine lv_iconst (v := (0 : Int32)) hx hb d_Model_divide_136 (by decide) ?_
              refine lv_istore (lv' := [(13, .int (0 : Int32)), (11, .long x11), (9, .long r_3), (7, .long x7), (5, .long y), (0, .ref mo), (1, .int vK), (2, .int vI), (4, .int x4)]) hx hb d_Model_divide_137 hl (by decide) rfl (fun ls hl => ?_)
              have L139 : ∀ (fu : Nat) (x13 : Int32) (umo : Int32) (uanewN : Nat → Int64) (uanewD : Nat → Int64) (uanewR : Nat → Int64) (tg : Nat) (rumo : Int32) (ruanewN : Nat → Int64) (ruanewD : Nat → Int64) (ruanewR : Nat → Int64), mf_Model_divide_L139 vI c_count r_3 F y x7 x11 m_outCount m_lowSign m_highSign c_n c_d c_r fu x13 umo uanewN uanewD uanewR = some (tg, rumo, ruanewN, ruanewD, ruanewR) → ∀ (H : Heap) (locs : List Loc) (ls : Array Slot), va_P D classes [(mo, .inr (5, [.ref a_n, .ref a_d, .ref a_r, .ref a_count, .ref a_newN, .ref a_newD, .ref a_newR, .int umo, .ref a_out, .int m_outCount, .ref a_root, .ref a_rest, .ref a_square, .ref a_part, .ref a_plus, .ref a_minus, .ref a_low, .ref a_high, .ref a_one, .ref a_two, .int m_lowSign, .int m_highSign, .ref a_otherLow, .ref a_otherHigh, .ref a_digit, .ref a_topA, .ref a_underA, .ref a_topB, .ref a_underB, .ref a_quotient, .ref a_otherQuotient])), (a_n, aJ g 64 c_n), (a_d, aJ g 64 c_d), (a_r, aJ g 64 c_r), (a_count, aI g 8 c_count), (a_newN, aJ g 8 uanewN), (a_newD, aJ g 8 uanewD), (a_newR, aJ g 8 uanewR)] H → va_D A [(mo, .inr (5, [.ref a_n, .ref a_d, .ref a_r, .ref a_count, .ref a_newN, .ref a_newD, .ref a_newR, .int umo, .ref a_out, .int m_outCount, .ref a_root, .ref a_rest, .ref a_square, .ref a_part, .ref a_plus, .ref a_minus, .ref a_low, .ref a_high, .ref a_one, .ref a_two, .int m_lowSign, .int m_highSign, .ref a_otherLow, .ref a_otherHigh, .ref a_digit, .ref a_topA, .ref a_underA, .ref a_topB, .ref a_underB, .ref a_quotient, .ref a_otherQuotient])), (a_n, aJ g 64 c_n), (a_d, aJ g 64 c_d), (a_r, aJ g 64 c_r), (a_count, aI g 8 c_count), (a_newN, aJ g 8 uanewN), (a_newD, aJ g 8 uanewD), (a_newR, aJ g 8 uanewR)] → va_S A s.heap H locs → lv_has ls 14 [(0, .ref mo), (1, .int vK), (2, .int vI), (5, .long y), (7, .long x7), (9, .long r_3), (11, .long x11), (13, .int x13)] → (tg = 0 → ∀ (H : Heap) (locs : List Loc) (ls : Array Slot), va_P D classes [(mo, .inr (5, [.ref a_n, .ref a_d, .ref a_r, .ref a_count, .ref a_newN, .ref a_newD, .ref a_newR, .int rumo, .ref a_out, .int m_outCount, .ref a_root, .ref a_rest, .ref a_square, .ref a_part, .ref a_plus, .ref a_minus, .ref a_low, .ref a_high, .ref a_one, .ref a_two, .int m_lowSign, .int m_highSign, .ref a_otherLow, .ref a_otherHigh, .ref a_digit, .ref a_topA, .ref a_underA, .ref a_topB, .ref a_underB, .ref a_quotient, .ref a_otherQuotient])), (a_n, aJ g 64 c_n), (a_d, aJ g 64 c_d), (a_r, aJ g 64 c_r), (a_count, aI g 8 c_count), (a_newN, aJ g 8 ruanewN), (a_newD, aJ g 8 ruanewD), (a_newR, aJ g 8 ruanewR)] H → va_D A [(mo, .inr (5, [.ref a_n, .ref a_d, .ref a_r, .ref a_count, .ref a_newN, .ref a_newD, .ref a_newR, .int rumo, .ref a_out, .int m_outCount, .ref a_root, .ref a_rest, .ref a_square, .ref a_part, .ref a_plus, .ref a_minus, .ref a_low, .ref a_high, .ref a_one, .ref a_two, .int m_lowSign, .int m_highSign, .ref a_otherLow, .ref a_otherHigh, .ref a_digit, .ref a_topA, .ref a_underA, .ref a_topB, .ref a_underB, .ref a_quotient, .ref a_otherQuotient])), (a_n, aJ g 64 c_n), (a_d, aJ g 64 c_d), (a_r, aJ g 64 c_r), (a_count, aI g 8 c_count), (a_newN, aJ g 8 ruanewN), (a_newD, aJ g 8 ruanewD), (a_newR, aJ g 8 ruanewR)] → va_S A s.heap H locs → lv_has ls 14 [] → W p l e rm_Model_divide s m args below meth c H locs 0 0 Q (F0 m 176 ls [])) → (tg = 1 → ∀ (H : Heap) (locs : List Loc) (ls : Array Slot), va_P D classes [(mo, .inr (5, [.ref a_n, .ref a_d, .ref a_r, .ref a_count, .ref a_newN, .ref a_newD, .ref a_newR, .int rumo, .ref a_out, .int m_outCount, .ref a_root, .ref a_rest, .ref a_square, .ref a_part, .ref a_plus, .ref a_minus, .ref a_low, .ref a_high, .ref a_one, .ref a_two, .int m_lowSign, .int m_highSign, .ref a_otherLow, .ref a_otherHigh, .ref a_digit, .ref a_topA, .ref a_underA, .ref a_topB, .ref a_underB, .ref a_quotient, .ref a_otherQuotient])), (a_n, aJ g 64 c_n), (a_d, aJ g 64 c_d), (a_r, aJ g 64 c_r), (a_count, aI g 8 c_count), (a_newN, aJ g 8 ruanewN), (a_newD, aJ g 8 ruanewD), (a_newR, aJ g 8 ruanewR)] H → va_D A [(mo, .inr (5, [.ref a_n, .ref a_d, .ref a_r, .ref a_count, .ref a_newN, .ref a_newD, .ref a_newR, .int rumo, .ref a_out, .int m_outCount, .ref a_root, .ref a_rest, .ref a_square, .ref a_part, .ref a_plus, .ref a_minus, .ref a_low, .ref a_high, .ref a_one, .ref a_two, .int m_lowSign, .int m_highSign, .ref a_otherLow, .ref a_otherHigh, .ref a_digit, .ref a_topA, .ref a_underA, .ref a_topB, .ref a_underB, .ref a_quotient, .ref a_otherQuotient])), (a_n, aJ g 64 c_n), (a_d, aJ g 64 c_d), (a_r, aJ g 64 c_r), (a_count, aI g 8 c_count), (a_newN, aJ g 8 ruanewN), (a_newD, aJ g 8 ruanewD), (a_newR, aJ g 8 ruanewR)] → va_S A s.heap H locs → lv_has ls 14 [(0, .ref mo), (1, .int vK)] → W p l e rm_Model_divide s m args below meth c H locs 0 0 Q (F0 m 185 ls [])) → W p l e rm_Model_divide s m args below meth c H locs 0 0 Q (F0 m 139 ls []) := by
                intro fu
                induction fu with
                | zero => intro x13 umo uanewN uanewD uanewR tg rumo ruanewN ruanewD ruanewR hm; exact absurd (show (none : Option (Nat × Int32 × (Nat → Int64) × (Nat → Int64) × (Nat → Int64))) = some (tg, rumo, ruanewN, ruanewD, ruanewR) from hm) (fun h => nomatch h)
                | succ fu ih =>
                  intro x13 umo uanewN uanewD uanewR tg rumo ruanewN ruanewD ruanewR hm H locs ls hP hD hS hl kx176 kx185
                  rw [mf_Model_divide_L139] at hm
                  refine lv_iload hx hb d_Model_divide_139 (lv_at hl 7 rfl) ?_
                  refine lv_aload_n hx hb d_Model_divide_141 rfl (lv_at hl 0 rfl) ?_
                  refine va_get (D := D) (ci := 5) (v := .ref a_count) (C := R_Model) (T := F_Model) (N := 31) hx hb htt i_Model hown hK hP 0 rfl rfl 3 (by decide) (htt _ kf_Model_19) (fun _ h9 => h9) rfl d_Model_divide_142 ?_
                  refine lv_iload_n hx hb d_Model_divide_145 rfl (lv_at hl 2 rfl) ?_
                  obtain ⟨h_11, hm⟩ := sd_mg hm
                  refine sd_iald hx hb hK hP 4 rfl h_11 d_Model_divide_146 ?_
                  refine lv_icmp_ge (tgt := 185) hx hb d_Model_divide_147 (by decide) (fun hc => ?_) (fun hc => ?_)
                  · have hm := sd_mt hc hm
                    cases hm
                    exact kx185 rfl H locs ls (hP.sub [0, 1, 2, 3, 4, 5, 6, 7] rfl) (hD.sub [0, 1, 2, 3, 4, 5, 6, 7] (by decide) rfl) hS (lv_sub hl [0, 1] rfl)
                  · have hm := sd_mf hc hm
                    refine lv_aload_n hx hb d_Model_divide_150 rfl (lv_at hl 0 rfl) ?_
                    refine lv_bipush (v := (8 : Int32)) hx hb d_Model_divide_151 (by decide) ?_
                    refine lv_iload_n hx hb d_Model_divide_153 rfl (lv_at hl 2 rfl) ?_
                    refine lv_imul hx hb d_Model_divide_154 ?_
                    refine lv_iload hx hb d_Model_divide_155 (lv_at hl 7 rfl) ?_
                    refine lv_iadd hx hb d_Model_divide_157 ?_
                    refine lv_lload hx hb d_Model_divide_158 (lv_at hl 3 rfl) ?_
                    refine lv_lload hx hb d_Model_divide_160 (lv_at hl 5 rfl) ?_
                    obtain ⟨h_12, hm⟩ := sd_mg hm
                    refine lv_ldiv hx hb d_Model_divide_162 (sd_nzJ h_12) ?_
                    refine lv_lload hx hb d_Model_divide_163 (lv_at hl 4 rfl) ?_
                    refine lv_lload hx hb d_Model_divide_165 (lv_at hl 5 rfl) ?_
                    obtain ⟨h_13, hm⟩ := sd_mg hm
                    refine lv_ldiv hx hb d_Model_divide_167 (sd_nzJ h_13) ?_
                    refine lv_lload hx hb d_Model_divide_168 (lv_at hl 6 rfl) ?_
                    obtain ⟨r_5, umo_1, uanewN_1, uanewD_1, uanewR_1, hc, hm⟩ := sd_mb5 hm
                    refine sd_ci1 (wr := [(a_count, aI g 8 c_count)]) (w2 := [(a_count, aI g 8 c_count), (mo, .inr (5, [.ref a_n, .ref a_d, .ref a_r, .ref a_count, .ref a_newN, .ref a_newD, .ref a_newR, .int umo_1, .ref a_out, .int m_outCount, .ref a_root, .ref a_rest, .ref a_square, .ref a_part, .ref a_plus, .ref a_minus, .ref a_low, .ref a_high, .ref a_one, .ref a_two, .int m_lowSign, .int m_highSign, .ref a_otherLow, .ref a_otherHigh, .ref a_digit, .ref a_topA, .ref a_underA, .ref a_topB, .ref a_underB, .ref a_quotient, .ref a_otherQuotient])), (a_n, aJ g 64 c_n), (a_d, aJ g 64 c_d), (a_r, aJ g 64 c_r), (a_newN, aJ g 8 uanewN_1), (a_newD, aJ g 8 uanewD_1), (a_newR, aJ g 8 uanewR_1)]) (sd_runV (rest := []) (As := [.int (((8 : Int32) * vI) + x13), .long (y / r_3), .long (x7 / r_3), .long x11]) S (ct_Model_multiplyTerm l D g mo a_n a_d a_r a_count a_newN a_newD a_newR a_out a_root a_rest a_square a_part a_plus a_minus a_low a_high a_one a_two a_otherLow a_otherHigh a_digit a_topA a_underA a_topB a_underB a_quotient a_otherQuotient (H.size) (((8 : Int32) * vI) + x13) (y / r_3) (x7 / r_3) x11 umo m_outCount m_lowSign m_highSign c_n c_d c_r uanewN uanewD uanewR F (r_5, umo_1, uanewN_1, uanewD_1, uanewR_1) hc) kl_Model_128 (by decide) (by decide) hK hP hD [0, 1, 2, 3, 5, 6, 7] rfl (by decide) rfl hl d_Model_divide_170 rfl (Nat.le_of_ble_eq_true rfl) ⟨Nat.zero_le _, Nat.zero_le _⟩ 0 rfl rfl) hP hD hS hA [0, 1, 2, 3, 5, 6, 7] [4] rfl rfl (by decide) (by decide) rfl (fun H locs hP hD hS => ?_)
                    refine W.eq (g2 := F0 m 173 ls [.int r_5]) rfl ?_
                    refine lv_if_ne (tgt := 179) hx hb d_Model_divide_173 (by decide) (fun hc => ?_) (fun hc => ?_)
                    · have hm := sd_mf hc hm
                      obtain ⟨x13_1, ex13_1, hm⟩ := sd_mlet hm
                      refine lv_iinc (v := x13_1) (lv' := [(13, .int x13_1), (0, .ref mo), (1, .int vK), (2, .int vI), (5, .long y), (7, .long x7), (9, .long r_3), (11, .long x11)]) hx hb d_Model_divide_179 hl (k := 7) rfl (by rw [ex13_1]; rfl) (by decide) rfl (fun ls hl => ?_)
                      refine lv_goto (tgt := 139) hx hb d_Model_divide_182 (by decide) ?_
                      exact ih x13_1 umo_1 uanewN_1 uanewD_1 uanewR_1 tg rumo ruanewN ruanewD ruanewR hm H locs ls (hP.sub [1, 2, 3, 4, 0, 5, 6, 7] rfl) (hD.sub [1, 2, 3, 4, 0, 5, 6, 7] (by decide) rfl) hS (lv_sub hl [1, 2, 3, 4, 5, 6, 7, 0] rfl) kx176 kx185
                    · have hm := sd_mt hc hm
                      cases hm
                      exact kx176 rfl H locs ls (hP.sub [1, 2, 3, 4, 0, 5, 6, 7] rfl) (hD.sub [1, 2, 3, 4, 0, 5, 6, 7] (by decide) rfl) hS (lv_sub hl [] rfl)
              obtain ⟨tg, rumo, ruanewN, ruanewD, ruanewR, hc, hm⟩ := sd_mb5 hm
              refine L139 F (0 : Int32) (0 : Int32) c_newN c_newD c_newR tg rumo ruanewN ruanewD ruanewR hc H locs ls (hP.sub [0, 1, 2, 3, 4, 5, 6, 7] rfl) (hD.sub [0, 1, 2, 3, 4, 5, 6, 7] (by decide) rfl) hS (lv_sub hl [5, 6, 7, 4, 3, 2, 1, 0] rfl) ?_ ?_
              · intro ht H locs ls hP hD hS hl
                have hm := sd_mt ht hm
                refine lv_bipush (v := (-3 : Int32)) hx hb d_Model_divide_176 (by decide) ?_
                exact sd_i1ret (u := (rumo, c_n, c_d, c_r, c_count, ruanewN, ruanewD, ruanewR)) hQ hx hb hr hlk hK (hP.sub [0, 1, 2, 3, 4, 5, 6, 7] rfl) (hD.sub [0, 1, 2, 3, 4, 5, 6, 7] (by decide) rfl) hS (Option.some.inj hm).symm d_Model_divide_178
              · intro ht H locs ls hP hD hS hl
                have hm := sd_mf (by rw [ht]; decide) hm
                refine lv_aload_n hx hb d_Model_divide_185 rfl (lv_at hl 0 rfl) ?_
                refine lv_iload_n hx hb d_Model_divide_186 rfl (lv_at hl 1 rfl) ?_
                obtain ⟨r_6, uan, uad, uar, uacount, hc, hm⟩ := sd_mb5 hm
                refine sd_ci1 (wr := []) (w2 := [(mo, .inr (5, [.ref a_n, .ref a_d, .ref a_r, .ref a_count, .ref a_newN, .ref a_newD, .ref a_newR, .int rumo, .ref a_out, .int m_outCount, .ref a_root, .ref a_rest, .ref a_square, .ref a_part, .ref a_plus, .ref a_minus, .ref a_low, .ref a_high, .ref a_one, .ref a_two, .int m_lowSign, .int m_highSign, .ref a_otherLow, .ref a_otherHigh, .ref a_digit, .ref a_topA, .ref a_underA, .ref a_topB, .ref a_underB, .ref a_quotient, .ref a_otherQuotient])), (a_n, aJ g 64 uan), (a_d, aJ g 64 uad), (a_r, aJ g 64 uar), (a_count, aI g 8 uacount), (a_newN, aJ g 8 ruanewN), (a_newD, aJ g 8 ruanewD), (a_newR, aJ g 8 ruanewR)]) (sd_runV (rest := []) (As := [.int vK]) S (ct_Model_keep l D g mo a_n a_d a_r a_count a_newN a_newD a_newR a_out a_root a_rest a_square a_part a_plus a_minus a_low a_high a_one a_two a_otherLow a_otherHigh a_digit a_topA a_underA a_topB a_underB a_quotient a_otherQuotient (H.size) vK rumo m_outCount m_lowSign m_highSign c_n c_d c_r c_count ruanewN ruanewD ruanewR F (r_6, uan, uad, uar, uacount) hc) kl_Model_117 (by decide) (by decide) hK hP hD [0, 1, 2, 3, 4, 5, 6, 7] rfl (by decide) rfl hl d_Model_divide_187 rfl (Nat.le_of_ble_eq_true rfl) ⟨Nat.zero_le _, Nat.zero_le _⟩ 0 rfl rfl) hP hD hS hA [0, 1, 2, 3, 4, 5, 6, 7] [] rfl rfl (by decide) (by decide) rfl (fun H locs hP hD hS => ?_)
                refine W.eq (g2 := F0 m 190 ls [.int r_6]) rfl ?_
                exact sd_i1ret (u := (rumo, uan, uad, uar, uacount, ruanewN, ruanewD, ruanewR)) hQ hx hb hr hlk hK (hP.sub [0, 1, 2, 3, 4, 5, 6, 7] rfl) (hD.sub [0, 1, 2, 3, 4, 5, 6, 7] (by decide) rfl) hS (Option.some.inj hm).symm d_Model_divide_190
            · have hm := sd_mt hc hm
              refine lv_bipush (v := (-3 : Int32)) hx hb d_Model_divide_128 (by decide) ?_
              exact sd_i1ret (u := (m_made, c_n, c_d, c_r, c_count, c_newN, c_newD, c_newR)) hQ hx hb hr hlk hK (hP.sub [0, 1, 2, 3, 4, 5, 6, 7] rfl) (hD.sub [0, 1, 2, 3, 4, 5, 6, 7] (by decide) rfl) hS (Option.some.inj hm).symm d_Model_divide_130
          replace hm := hv
          refine sd_lge (tgt := 65) hx hb d_Model_divide_50 d_Model_divide_51 (by decide) (fun hc => ?_) (fun hc => ?_)
          · have hm := sd_mt hc hm
            refine lv_aload_n hx hb d_Model_divide_65 rfl (lv_at hl 1 rfl) ?_
            refine va_get (D := D) (ci := 5) (v := .ref a_d) (C := R_Model) (T := F_Model) (N := 31) hx hb htt i_Model hown hK hP 0 rfl rfl 1 (by decide) (htt _ kf_Model_13) (fun _ h9 => h9) rfl d_Model_divide_66 ?_
            refine lv_iload hx hb d_Model_divide_69 (lv_at hl 0 rfl) ?_
            obtain ⟨h_4, hm⟩ := sd_mg hm
            refine sd_lald hx hb hK hP 2 rfl h_4 d_Model_divide_71 ?_
            cases hm
            exact J72_3 H locs ls (hP.sub [0, 1, 2, 3, 4, 5, 6, 7] rfl) (hD.sub [0, 1, 2, 3, 4, 5, 6, 7] (by decide) rfl) hS (lv_sub hl [1, 2, 3, 0] rfl)
          · have hm := sd_mf hc hm
            refine lv_aload_n hx hb d_Model_divide_54 rfl (lv_at hl 1 rfl) ?_
            refine va_get (D := D) (ci := 5) (v := .ref a_d) (C := R_Model) (T := F_Model) (N := 31) hx hb htt i_Model hown hK hP 0 rfl rfl 1 (by decide) (htt _ kf_Model_13) (fun _ h9 => h9) rfl d_Model_divide_55 ?_
            refine lv_iload hx hb d_Model_divide_58 (lv_at hl 0 rfl) ?_
            obtain ⟨h_5, hm⟩ := sd_mg hm
            refine sd_lald hx hb hK hP 2 rfl h_5 d_Model_divide_60 ?_
            refine lv_lneg hx hb d_Model_divide_61 ?_
            refine lv_goto (tgt := 72) hx hb d_Model_divide_62 (by decide) ?_
            cases hm
            exact J72_3 H locs ls (hP.sub [0, 1, 2, 3, 4, 5, 6, 7] rfl) (hD.sub [0, 1, 2, 3, 4, 5, 6, 7] (by decide) rfl) hS (lv_sub hl [1, 2, 3, 0] rfl)
        · have hm := sd_mf hc hm
          refine lv_bipush (v := (-2 : Int32)) hx hb d_Model_divide_33 (by decide) ?_
          exact sd_i1ret (u := (m_made, c_n, c_d, c_r, c_count, c_newN, c_newD, c_newR)) hQ hx hb hr hlk hK (hP.sub [0, 1, 2, 3, 4, 5, 6, 7] rfl) (hD.sub [0, 1, 2, 3, 4, 5, 6, 7] (by decide) rfl) hS (Option.some.inj hm).symm d_Model_divide_35
      · have hm := sd_mt hc hm
        refine lv_iconst (v := (-1 : Int32)) hx hb d_Model_divide_21 (by decide) ?_
        exact sd_i1ret (u := (m_made, c_n, c_d, c_r, c_count, c_newN, c_newD, c_newR)) hQ hx hb hr hlk hK (hP.sub [0, 1, 2, 3, 4, 5, 6, 7] rfl) (hD.sub [0, 1, 2, 3, 4, 5, 6, 7] (by decide) rfl) hS (Option.some.inj hm).symm d_Model_divide_22
