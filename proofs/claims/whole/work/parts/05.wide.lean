/-! Wide_topOf, Wide_take, Wide_guess, Wide_addSmall, Arrays_fill, Wide_size, Wide_whole, Wide_putLong, Wide_isBelow, Wide_nextPlace, Wide_bitLength, Wide_bits -/
theorem kl_Wide_12 : sd_LC R_Wide 12 := ⟨(sd_in (List.mem_of_getElem? (i := 407) (by decide +kernel)) rfl), (sd_in (List.mem_of_getElem? (i := 274) (by decide +kernel)) rfl), (sd_in (List.mem_of_getElem? (i := 273) (by decide +kernel)) rfl), (sd_in (List.mem_of_getElem? (i := 43) (by decide +kernel)) rfl)⟩
theorem kl_Wide_18 : sd_LS R_Wide 18 y_Arrays_fill b_Arrays_fill 4 none 2 := ⟨(sd_in (List.mem_of_getElem? (i := 408) (by decide +kernel)) rfl), (sd_in (List.mem_of_getElem? (i := 309) (by decide +kernel)) rfl), (sd_in (List.mem_of_getElem? (i := 44) (by decide +kernel)) rfl), (sd_in (List.mem_of_getElem? (i := 310) (by decide +kernel)) rfl), by decide +kernel, by decide +kernel, by decide +kernel⟩
theorem kl_Wide_24 : sd_LS R_Wide 24 y_Wide_take b_Wide_take 9 none 6 := ⟨(sd_in (List.mem_of_getElem? (i := 409) (by decide +kernel)) rfl), (sd_in (List.mem_of_getElem? (i := 349) (by decide +kernel)) rfl), (sd_in (List.mem_of_getElem? (i := 45) (by decide +kernel)) rfl), (sd_in (List.mem_of_getElem? (i := 350) (by decide +kernel)) rfl), by decide +kernel, by decide +kernel, by decide +kernel⟩
theorem kl_Wide_28 : sd_LS R_Wide 28 y_Wide_topOf b_Wide_topOf 2 (some .int) 1 := ⟨(sd_in (List.mem_of_getElem? (i := 492) (by decide +kernel)) rfl), (sd_in (List.mem_of_getElem? (i := 338) (by decide +kernel)) rfl), (sd_in (List.mem_of_getElem? (i := 45) (by decide +kernel)) rfl), (sd_in (List.mem_of_getElem? (i := 339) (by decide +kernel)) rfl), by decide +kernel, by decide +kernel, by decide +kernel⟩
theorem km_Wide_11 : Cond.constant R_Wide 11 (65535 : Int32) ∈ sd_tb := (sd_in (List.mem_of_getElem? (i := 347) (by decide +kernel)) rfl)
theorem km_Wide_9 : Cond.constantLong R_Wide 9 (65535 : Int64) ∈ sd_tb := (sd_in (List.mem_of_getElem? (i := 321) (by decide +kernel)) rfl)
theorem d_Wide_topOf_0 : decode b_Wide_topOf 0 = .ok (.aload_n 0, 1) := by decide +kernel
theorem d_Wide_topOf_1 : decode b_Wide_topOf 1 = .ok (.arraylength, 1) := by decide +kernel
theorem d_Wide_topOf_2 : decode b_Wide_topOf 2 = .ok (.iconst 1, 1) := by decide +kernel
theorem d_Wide_topOf_3 : decode b_Wide_topOf 3 = .ok (.isub, 1) := by decide +kernel
theorem d_Wide_topOf_4 : decode b_Wide_topOf 4 = .ok (.istore_n 1, 1) := by decide +kernel
theorem d_Wide_topOf_5 : decode b_Wide_topOf 5 = .ok (.iload_n 1, 1) := by decide +kernel
theorem d_Wide_topOf_6 : decode b_Wide_topOf 6 = .ok (.ifCond .lt 15, 3) := by decide +kernel
theorem d_Wide_topOf_9 : decode b_Wide_topOf 9 = .ok (.aload_n 0, 1) := by decide +kernel
theorem d_Wide_topOf_10 : decode b_Wide_topOf 10 = .ok (.iload_n 1, 1) := by decide +kernel
theorem d_Wide_topOf_11 : decode b_Wide_topOf 11 = .ok (.iaload, 1) := by decide +kernel
theorem d_Wide_topOf_12 : decode b_Wide_topOf 12 = .ok (.ifCond .ne 9, 3) := by decide +kernel
theorem d_Wide_topOf_15 : decode b_Wide_topOf 15 = .ok (.iinc 1 (-1), 3) := by decide +kernel
theorem d_Wide_topOf_18 : decode b_Wide_topOf 18 = .ok (.goto (-13), 3) := by decide +kernel
theorem d_Wide_topOf_21 : decode b_Wide_topOf 21 = .ok (.iload_n 1, 1) := by decide +kernel
theorem d_Wide_topOf_22 : decode b_Wide_topOf 22 = .ok (.ireturn, 1) := by decide +kernel
def mf_Wide_topOf_L5 (nR : Nat) (cR : Nat → Int32) : Nat → Int32 → Option (Int32)
  | 0, _ => none
  | fu + 1, x1_1 => (if x1_1 < 0 then (some (x1_1)) else (sd_g (sd_ix x1_1 nR) (if (cR x1_1.toNatClampNeg) = 0 then (sd_let (x1_1 + (-1 : Int32)) fun x1_2 => ((mf_Wide_topOf_L5 nR cR fu) x1_2)) else (some (x1_1)))))
def mf_Wide_topOf (F : Nat) (nR : Nat) (cR : Nat → Int32) : Option (Int32) :=
  (sd_let (((nI nR) - (1 : Int32))) fun x1 => (sd_b1 (mf_Wide_topOf_L5 nR cR F x1) fun rx1 => (some (rx1))))
abbrev rm_Wide_topOf : Room := { frames := 0, cells := 0, slots := 0, locals := 0 }
set_option maxHeartbeats 4000000 in
set_option maxRecDepth 100000 in
theorem ct_Wide_topOf (l : Launch) (D : va_G) (g : G4) (aR : Nat) (nR : Nat) (sz : Nat) (cR : Nat → Int32) (F : Nat) (res : Int32) (hm : mf_Wide_topOf F nR cR = some res) : Met l y_Wide_topOf (.code y_Wide_topOf b_Wide_topOf 2 (some .int) :: sd_tb) rm_Wide_topOf (sd_PW D g [.ref aR] sz [(aR, aI g nR cR)]) (sd_Qi0 D g res [(aR, aI g nR cR)] (va_A [(aR, aI g nR cR)] sz)) 0 0 (va_A [(aR, aI g nR cR)] sz) := by
  refine sd_met (Qf := fun A => sd_Qi0 D g res [(aR, aI g nR cR)] A) (own := R_Wide) (by decide +kernel) rfl (Nat.le_of_ble_eq_true rfl) ?_
  intro p e s m args below meth c S hr hlk hK A hA Q hQ H locs hP hD hS ls hl
  have hx := S.1
  have hb := S.2.1
  have hml := S.2.2.1
  have hown := S.2.2.2.1
  have htt := sd_tt S
  replace hl : lv_has ls 2 [(0, .ref aR)] := hl
  unfold mf_Wide_topOf at hm
  refine lv_aload_n hx hb d_Wide_topOf_0 rfl (lv_at hl 0 rfl) ?_
  refine sd_alenI (v := (nI nR)) hx hb hK hP 0 rfl rfl d_Wide_topOf_1 ?_
  refine lv_iconst (v := (1 : Int32)) hx hb d_Wide_topOf_2 (by decide) ?_
  refine lv_isub hx hb d_Wide_topOf_3 ?_
  obtain ⟨x1, ex1, hm⟩ := sd_mlet hm
  refine sd_topi ex1 ?_
  refine lv_istore_n (lv' := [(1, .int x1), (0, .ref aR)]) hx hb d_Wide_topOf_4 rfl hl (by decide) rfl (fun ls hl => ?_)
  have L5 : ∀ (fu : Nat) (x1_1 : Int32) (rx1 : Int32), mf_Wide_topOf_L5 nR cR fu x1_1 = some (rx1) → ∀ (H : Heap) (locs : List Loc) (ls : Array Slot), va_P D classes [(aR, aI g nR cR)] H → va_D A [(aR, aI g nR cR)] → va_S A s.heap H locs → lv_has ls 2 [(0, .ref aR), (1, .int x1_1)] → (∀ (H : Heap) (locs : List Loc) (ls : Array Slot), va_P D classes [(aR, aI g nR cR)] H → va_D A [(aR, aI g nR cR)] → va_S A s.heap H locs → lv_has ls 2 [(1, .int rx1)] → W p l e rm_Wide_topOf s m args below meth c H locs 0 0 Q (F0 m 21 ls [])) → W p l e rm_Wide_topOf s m args below meth c H locs 0 0 Q (F0 m 5 ls []) := by
    intro fu
    induction fu with
    | zero => intro x1_1 rx1 hm; exact absurd (show (none : Option (Int32)) = some (rx1) from hm) (fun h => nomatch h)
    | succ fu ih =>
      intro x1_1 rx1 hm H locs ls hP hD hS hl kx21
      rw [mf_Wide_topOf_L5] at hm
      refine lv_iload_n hx hb d_Wide_topOf_5 rfl (lv_at hl 1 rfl) ?_
      refine lv_if_lt (tgt := 21) hx hb d_Wide_topOf_6 (by decide) (fun hc => ?_) (fun hc => ?_)
      · have hm := sd_mt hc hm
        cases hm
        exact kx21 H locs ls (hP.sub [0] rfl) (hD.sub [0] (by decide) rfl) hS (lv_sub hl [1] rfl)
      · have hm := sd_mf hc hm
        refine lv_aload_n hx hb d_Wide_topOf_9 rfl (lv_at hl 0 rfl) ?_
        refine lv_iload_n hx hb d_Wide_topOf_10 rfl (lv_at hl 1 rfl) ?_
        obtain ⟨h_1, hm⟩ := sd_mg hm
        refine sd_iald hx hb hK hP 0 rfl h_1 d_Wide_topOf_11 ?_
        refine lv_if_ne (tgt := 21) hx hb d_Wide_topOf_12 (by decide) (fun hc => ?_) (fun hc => ?_)
        · have hm := sd_mf hc hm
          cases hm
          exact kx21 H locs ls (hP.sub [0] rfl) (hD.sub [0] (by decide) rfl) hS (lv_sub hl [1] rfl)
        · have hm := sd_mt hc hm
          obtain ⟨x1_2, ex1_2, hm⟩ := sd_mlet hm
          refine lv_iinc (v := x1_2) (lv' := [(1, .int x1_2), (0, .ref aR)]) hx hb d_Wide_topOf_15 hl (k := 1) rfl (by rw [ex1_2]; rfl) (by decide) rfl (fun ls hl => ?_)
          refine lv_goto (tgt := 5) hx hb d_Wide_topOf_18 (by decide) ?_
          exact ih x1_2 rx1 hm H locs ls (hP.sub [0] rfl) (hD.sub [0] (by decide) rfl) hS (lv_sub hl [1, 0] rfl) kx21
  obtain ⟨rx1, hc, hm⟩ := sd_mb1 hm
  refine L5 F x1 rx1 hc H locs ls (hP.sub [0] rfl) (hD.sub [0] (by decide) rfl) hS (lv_sub hl [1, 0] rfl) ?_
  intro H locs ls hP hD hS hl
  refine lv_iload_n hx hb d_Wide_topOf_21 rfl (lv_at hl 0 rfl) ?_
  exact sd_i0ret hQ hx hb hr hlk hK (hP.sub [0] rfl) (hD.sub [0] (by decide) rfl) hS (Option.some.inj hm).symm d_Wide_topOf_22
theorem d_Wide_take_0 : decode b_Wide_take 0 = .ok (.lconst 0, 1) := by decide +kernel
theorem d_Wide_take_1 : decode b_Wide_take 1 = .ok (.lstore 6, 2) := by decide +kernel
theorem d_Wide_take_3 : decode b_Wide_take 3 = .ok (.iload_n 3, 1) := by decide +kernel
theorem d_Wide_take_4 : decode b_Wide_take 4 = .ok (.istore 8, 2) := by decide +kernel
theorem d_Wide_take_6 : decode b_Wide_take 6 = .ok (.iload 8, 2) := by decide +kernel
theorem d_Wide_take_8 : decode b_Wide_take 8 = .ok (.iload 4, 2) := by decide +kernel
theorem d_Wide_take_10 : decode b_Wide_take 10 = .ok (.if_icmp .gt 51, 3) := by decide +kernel
theorem d_Wide_take_13 : decode b_Wide_take 13 = .ok (.lload 6, 2) := by decide +kernel
theorem d_Wide_take_15 : decode b_Wide_take 15 = .ok (.aload_n 0, 1) := by decide +kernel
theorem d_Wide_take_16 : decode b_Wide_take 16 = .ok (.iload 8, 2) := by decide +kernel
theorem d_Wide_take_18 : decode b_Wide_take 18 = .ok (.iload_n 1, 1) := by decide +kernel
theorem d_Wide_take_19 : decode b_Wide_take 19 = .ok (.iadd, 1) := by decide +kernel
theorem d_Wide_take_20 : decode b_Wide_take 20 = .ok (.iaload, 1) := by decide +kernel
theorem d_Wide_take_21 : decode b_Wide_take 21 = .ok (.i2l, 1) := by decide +kernel
theorem d_Wide_take_22 : decode b_Wide_take 22 = .ok (.iload 5, 2) := by decide +kernel
theorem d_Wide_take_24 : decode b_Wide_take 24 = .ok (.i2l, 1) := by decide +kernel
theorem d_Wide_take_25 : decode b_Wide_take 25 = .ok (.aload_n 2, 1) := by decide +kernel
theorem d_Wide_take_26 : decode b_Wide_take 26 = .ok (.iload 8, 2) := by decide +kernel
theorem d_Wide_take_28 : decode b_Wide_take 28 = .ok (.iaload, 1) := by decide +kernel
theorem d_Wide_take_29 : decode b_Wide_take 29 = .ok (.i2l, 1) := by decide +kernel
theorem d_Wide_take_30 : decode b_Wide_take 30 = .ok (.lmul, 1) := by decide +kernel
theorem d_Wide_take_31 : decode b_Wide_take 31 = .ok (.lsub, 1) := by decide +kernel
theorem d_Wide_take_32 : decode b_Wide_take 32 = .ok (.ladd, 1) := by decide +kernel
theorem d_Wide_take_33 : decode b_Wide_take 33 = .ok (.lstore 6, 2) := by decide +kernel
theorem d_Wide_take_35 : decode b_Wide_take 35 = .ok (.aload_n 0, 1) := by decide +kernel
theorem d_Wide_take_36 : decode b_Wide_take 36 = .ok (.iload 8, 2) := by decide +kernel
theorem d_Wide_take_38 : decode b_Wide_take 38 = .ok (.iload_n 1, 1) := by decide +kernel
theorem d_Wide_take_39 : decode b_Wide_take 39 = .ok (.iadd, 1) := by decide +kernel
theorem d_Wide_take_40 : decode b_Wide_take 40 = .ok (.lload 6, 2) := by decide +kernel
theorem d_Wide_take_42 : decode b_Wide_take 42 = .ok (.ldc2_w 9, 3) := by decide +kernel
theorem d_Wide_take_45 : decode b_Wide_take 45 = .ok (.land, 1) := by decide +kernel
theorem d_Wide_take_46 : decode b_Wide_take 46 = .ok (.l2i, 1) := by decide +kernel
theorem d_Wide_take_47 : decode b_Wide_take 47 = .ok (.iastore, 1) := by decide +kernel
theorem d_Wide_take_48 : decode b_Wide_take 48 = .ok (.lload 6, 2) := by decide +kernel
theorem d_Wide_take_50 : decode b_Wide_take 50 = .ok (.bipush 16, 2) := by decide +kernel
theorem d_Wide_take_52 : decode b_Wide_take 52 = .ok (.lshr, 1) := by decide +kernel
theorem d_Wide_take_53 : decode b_Wide_take 53 = .ok (.lstore 6, 2) := by decide +kernel
theorem d_Wide_take_55 : decode b_Wide_take 55 = .ok (.iinc 8 1, 3) := by decide +kernel
theorem d_Wide_take_58 : decode b_Wide_take 58 = .ok (.goto (-52), 3) := by decide +kernel
theorem d_Wide_take_61 : decode b_Wide_take 61 = .ok (.aload_n 0, 1) := by decide +kernel
theorem d_Wide_take_62 : decode b_Wide_take 62 = .ok (.iload 4, 2) := by decide +kernel
theorem d_Wide_take_64 : decode b_Wide_take 64 = .ok (.iload_n 1, 1) := by decide +kernel
theorem d_Wide_take_65 : decode b_Wide_take 65 = .ok (.iadd, 1) := by decide +kernel
theorem d_Wide_take_66 : decode b_Wide_take 66 = .ok (.iconst 1, 1) := by decide +kernel
theorem d_Wide_take_67 : decode b_Wide_take 67 = .ok (.iadd, 1) := by decide +kernel
theorem d_Wide_take_68 : decode b_Wide_take 68 = .ok (.dup2, 1) := by decide +kernel
theorem d_Wide_take_69 : decode b_Wide_take 69 = .ok (.iaload, 1) := by decide +kernel
theorem d_Wide_take_70 : decode b_Wide_take 70 = .ok (.lload 6, 2) := by decide +kernel
theorem d_Wide_take_72 : decode b_Wide_take 72 = .ok (.l2i, 1) := by decide +kernel
theorem d_Wide_take_73 : decode b_Wide_take 73 = .ok (.iadd, 1) := by decide +kernel
theorem d_Wide_take_74 : decode b_Wide_take 74 = .ok (.iastore, 1) := by decide +kernel
theorem d_Wide_take_75 : decode b_Wide_take 75 = .ok (.return_, 1) := by decide +kernel
def mf_Wide_take_L6 (vEnd : Int32) (vOff : Int32) (nT : Nat) (nR : Nat) (vTimes : Int32) (cR : Nat → Int32) : Nat → Int64 → Int32 → (Nat → Int32) → Option (Int64 × (Nat → Int32))
  | 0, _, _, _ => none
  | fu + 1, x6, x8, uaT => (if vEnd < x8 then (some (x6, uaT)) else (sd_g (sd_ix (x8 + vOff) nT) (sd_g (sd_ix x8 nR) (sd_let ((x6 + (((uaT (x8 + vOff).toNatClampNeg).toInt64) - ((vTimes.toInt64) * ((cR x8.toNatClampNeg).toInt64))))) fun x6_1 => (sd_g (sd_ix (x8 + vOff) nT) (sd_let (upd uaT (x8 + vOff).toNatClampNeg ((x6_1 &&& (65535 : Int64)).toInt32)) fun uaT_1 => (sd_let ((x6_1 >>> ((16 : Int32).toInt64 &&& 63))) fun x6_2 => (sd_let (x8 + (1 : Int32)) fun x8_1 => ((mf_Wide_take_L6 vEnd vOff nT nR vTimes cR fu) x6_2 x8_1 uaT_1)))))))))
def mf_Wide_take (F : Nat) (nT : Nat) (nR : Nat) (vOff : Int32) (vStart : Int32) (vEnd : Int32) (vTimes : Int32) (cT : Nat → Int32) (cR : Nat → Int32) : Option ((Nat → Int32)) :=
  (sd_b2 (mf_Wide_take_L6 vEnd vOff nT nR vTimes cR F (0 : Int64) vStart cT) fun rx6 ruaT => (sd_g (sd_ix ((vEnd + vOff) + (1 : Int32)) nT) (sd_g (sd_ix ((vEnd + vOff) + (1 : Int32)) nT) (sd_let (upd ruaT ((vEnd + vOff) + (1 : Int32)).toNatClampNeg ((ruaT ((vEnd + vOff) + (1 : Int32)).toNatClampNeg) + (rx6.toInt32))) fun uaT_2 => (some (uaT_2))))))
abbrev rm_Wide_take : Room := { frames := 0, cells := 0, slots := 0, locals := 0 }
set_option maxHeartbeats 4000000 in
set_option maxRecDepth 100000 in
theorem ct_Wide_take (l : Launch) (D : va_G) (g : G4) (aT : Nat) (aR : Nat) (nT : Nat) (nR : Nat) (sz : Nat) (vOff : Int32) (vStart : Int32) (vEnd : Int32) (vTimes : Int32) (cT : Nat → Int32) (cR : Nat → Int32) (F : Nat) (res : (Nat → Int32)) (hm : mf_Wide_take F nT nR vOff vStart vEnd vTimes cT cR = some res) : Met l y_Wide_take (.code y_Wide_take b_Wide_take 9 none :: sd_tb) rm_Wide_take (sd_PW D g [.ref aT, .int vOff, .ref aR, .int vStart, .int vEnd, .int vTimes] sz [(aT, aI g nT cT), (aR, aI g nR cR)]) (sd_Qv1 D g res (fun u : (Nat → Int32) => [(aT, aI g nT u), (aR, aI g nR cR)]) (va_A [(aT, aI g nT cT), (aR, aI g nR cR)] sz)) 0 0 (va_A [(aT, aI g nT cT), (aR, aI g nR cR)] sz) := by
  refine sd_met (Qf := fun A => sd_Qv1 D g res (fun u : (Nat → Int32) => [(aT, aI g nT u), (aR, aI g nR cR)]) A) (own := R_Wide) (by decide +kernel) rfl (Nat.le_of_ble_eq_true rfl) ?_
  intro p e s m args below meth c S hr hlk hK A hA Q hQ H locs hP hD hS ls hl
  have hx := S.1
  have hb := S.2.1
  have hml := S.2.2.1
  have hown := S.2.2.2.1
  have htt := sd_tt S
  replace hl : lv_has ls 9 [(0, .ref aT), (1, .int vOff), (2, .ref aR), (3, .int vStart), (4, .int vEnd), (5, .int vTimes)] := hl
  unfold mf_Wide_take at hm
  refine lv_lconst (v := (0 : Int64)) hx hb d_Wide_take_0 (by decide) ?_
  refine lv_lstore (lv' := [(6, .long (0 : Int64)), (0, .ref aT), (1, .int vOff), (2, .ref aR), (3, .int vStart), (4, .int vEnd), (5, .int vTimes)]) hx hb d_Wide_take_1 hl (by decide) rfl (fun ls hl => ?_)
  refine lv_iload_n hx hb d_Wide_take_3 rfl (lv_at hl 4 rfl) ?_
  refine lv_istore (lv' := [(8, .int vStart), (6, .long (0 : Int64)), (0, .ref aT), (1, .int vOff), (2, .ref aR), (3, .int vStart), (4, .int vEnd), (5, .int vTimes)]) hx hb d_Wide_take_4 hl (by decide) rfl (fun ls hl => ?_)
  have L6 : ∀ (fu : Nat) (x6 : Int64) (x8 : Int32) (uaT : Nat → Int32) (rx6 : Int64) (ruaT : Nat → Int32), mf_Wide_take_L6 vEnd vOff nT nR vTimes cR fu x6 x8 uaT = some (rx6, ruaT) → ∀ (H : Heap) (locs : List Loc) (ls : Array Slot), va_P D classes [(aT, aI g nT uaT), (aR, aI g nR cR)] H → va_D A [(aT, aI g nT uaT), (aR, aI g nR cR)] → va_S A s.heap H locs → lv_has ls 9 [(0, .ref aT), (1, .int vOff), (2, .ref aR), (4, .int vEnd), (5, .int vTimes), (6, .long x6), (8, .int x8)] → (∀ (H : Heap) (locs : List Loc) (ls : Array Slot), va_P D classes [(aT, aI g nT ruaT), (aR, aI g nR cR)] H → va_D A [(aT, aI g nT ruaT), (aR, aI g nR cR)] → va_S A s.heap H locs → lv_has ls 9 [(0, .ref aT), (1, .int vOff), (4, .int vEnd), (6, .long rx6)] → W p l e rm_Wide_take s m args below meth c H locs 0 0 Q (F0 m 61 ls [])) → W p l e rm_Wide_take s m args below meth c H locs 0 0 Q (F0 m 6 ls []) := by
    intro fu
    induction fu with
    | zero => intro x6 x8 uaT rx6 ruaT hm; exact absurd (show (none : Option (Int64 × (Nat → Int32))) = some (rx6, ruaT) from hm) (fun h => nomatch h)
    | succ fu ih =>
      intro x6 x8 uaT rx6 ruaT hm H locs ls hP hD hS hl kx61
      rw [mf_Wide_take_L6] at hm
      refine lv_iload hx hb d_Wide_take_6 (lv_at hl 6 rfl) ?_
      refine lv_iload hx hb d_Wide_take_8 (lv_at hl 3 rfl) ?_
      refine lv_icmp_gt (tgt := 61) hx hb d_Wide_take_10 (by decide) (fun hc => ?_) (fun hc => ?_)
      · have hm := sd_mt hc hm
        cases hm
        exact kx61 H locs ls (hP.sub [0, 1] rfl) (hD.sub [0, 1] (by decide) rfl) hS (lv_sub hl [0, 1, 3, 5] rfl)
      · have hm := sd_mf hc hm
        refine lv_lload hx hb d_Wide_take_13 (lv_at hl 5 rfl) ?_
        refine lv_aload_n hx hb d_Wide_take_15 rfl (lv_at hl 0 rfl) ?_
        refine lv_iload hx hb d_Wide_take_16 (lv_at hl 6 rfl) ?_
        refine lv_iload_n hx hb d_Wide_take_18 rfl (lv_at hl 1 rfl) ?_
        refine lv_iadd hx hb d_Wide_take_19 ?_
        obtain ⟨h_1, hm⟩ := sd_mg hm
        refine sd_iald hx hb hK hP 0 rfl h_1 d_Wide_take_20 ?_
        refine lv_i2l hx hb d_Wide_take_21 rfl ?_
        refine lv_iload hx hb d_Wide_take_22 (lv_at hl 4 rfl) ?_
        refine lv_i2l hx hb d_Wide_take_24 rfl ?_
        refine lv_aload_n hx hb d_Wide_take_25 rfl (lv_at hl 2 rfl) ?_
        refine lv_iload hx hb d_Wide_take_26 (lv_at hl 6 rfl) ?_
        obtain ⟨h_2, hm⟩ := sd_mg hm
        refine sd_iald hx hb hK hP 1 rfl h_2 d_Wide_take_28 ?_
        refine lv_i2l hx hb d_Wide_take_29 rfl ?_
        refine lv_lmul hx hb d_Wide_take_30 ?_
        refine lv_lsub hx hb d_Wide_take_31 ?_
        refine lv_ladd hx hb d_Wide_take_32 ?_
        obtain ⟨x6_1, ex6_1, hm⟩ := sd_mlet hm
        refine sd_topj ex6_1 ?_
        refine lv_lstore (lv' := [(6, .long x6_1), (0, .ref aT), (1, .int vOff), (2, .ref aR), (4, .int vEnd), (5, .int vTimes), (8, .int x8)]) hx hb d_Wide_take_33 hl (by decide) rfl (fun ls hl => ?_)
        refine lv_aload_n hx hb d_Wide_take_35 rfl (lv_at hl 1 rfl) ?_
        refine lv_iload hx hb d_Wide_take_36 (lv_at hl 6 rfl) ?_
        refine lv_iload_n hx hb d_Wide_take_38 rfl (lv_at hl 2 rfl) ?_
        refine lv_iadd hx hb d_Wide_take_39 ?_
        refine lv_lload hx hb d_Wide_take_40 (lv_at hl 0 rfl) ?_
        refine sd_ldc2 (v := (65535 : Int64)) hx hb hown (htt _ km_Wide_9) d_Wide_take_42 ?_
        refine lv_land hx hb d_Wide_take_45 ?_
        refine lv_l2i hx hb d_Wide_take_46 rfl ?_
        obtain ⟨h_3, hm⟩ := sd_mg hm
        obtain ⟨uaT_1, euaT_1, hm⟩ := sd_mlet hm
        refine sd_iast (f2 := uaT_1) (ws2 := [(aT, aI g nT uaT_1), (aR, aI g nR cR)]) hx hb hK hP hD hS 0 rfl h_3 euaT_1 rfl d_Wide_take_47 (fun H locs hP hD hS => ?_)
        refine lv_lload hx hb d_Wide_take_48 (lv_at hl 0 rfl) ?_
        refine lv_bipush (v := (16 : Int32)) hx hb d_Wide_take_50 (by decide) ?_
        refine lv_lshr hx hb d_Wide_take_52 rfl ?_
        obtain ⟨x6_2, ex6_2, hm⟩ := sd_mlet hm
        refine sd_topj ex6_2 ?_
        refine lv_lstore (lv' := [(6, .long x6_2), (0, .ref aT), (1, .int vOff), (2, .ref aR), (4, .int vEnd), (5, .int vTimes), (8, .int x8)]) hx hb d_Wide_take_53 hl (by decide) rfl (fun ls hl => ?_)
        obtain ⟨x8_1, ex8_1, hm⟩ := sd_mlet hm
        refine lv_iinc (v := x8_1) (lv' := [(8, .int x8_1), (6, .long x6_2), (0, .ref aT), (1, .int vOff), (2, .ref aR), (4, .int vEnd), (5, .int vTimes)]) hx hb d_Wide_take_55 hl (k := 6) rfl (by rw [ex8_1]; rfl) (by decide) rfl (fun ls hl => ?_)
        refine lv_goto (tgt := 6) hx hb d_Wide_take_58 (by decide) ?_
        exact ih x6_2 x8_1 uaT_1 rx6 ruaT hm H locs ls (hP.sub [0, 1] rfl) (hD.sub [0, 1] (by decide) rfl) hS (lv_sub hl [2, 3, 4, 5, 6, 1, 0] rfl) kx61
  obtain ⟨rx6, ruaT, hc, hm⟩ := sd_mb2 hm
  refine L6 F (0 : Int64) vStart cT rx6 ruaT hc H locs ls (hP.sub [0, 1] rfl) (hD.sub [0, 1] (by decide) rfl) hS (lv_sub hl [2, 3, 4, 6, 7, 1, 0] rfl) ?_
  intro H locs ls hP hD hS hl
  refine lv_aload_n hx hb d_Wide_take_61 rfl (lv_at hl 0 rfl) ?_
  refine lv_iload hx hb d_Wide_take_62 (lv_at hl 2 rfl) ?_
  refine lv_iload_n hx hb d_Wide_take_64 rfl (lv_at hl 1 rfl) ?_
  refine lv_iadd hx hb d_Wide_take_65 ?_
  refine lv_iconst (v := (1 : Int32)) hx hb d_Wide_take_66 (by decide) ?_
  refine lv_iadd hx hb d_Wide_take_67 ?_
  refine lv_dup2_11 hx hb d_Wide_take_68 rfl rfl ?_
  obtain ⟨h_4, hm⟩ := sd_mg hm
  refine sd_iald hx hb hK hP 0 rfl h_4 d_Wide_take_69 ?_
  refine lv_lload hx hb d_Wide_take_70 (lv_at hl 3 rfl) ?_
  refine lv_l2i hx hb d_Wide_take_72 rfl ?_
  refine lv_iadd hx hb d_Wide_take_73 ?_
  obtain ⟨h_5, hm⟩ := sd_mg hm
  obtain ⟨uaT_2, euaT_2, hm⟩ := sd_mlet hm
  refine sd_iast (f2 := uaT_2) (ws2 := [(aT, aI g nT uaT_2), (aR, aI g nR cR)]) hx hb hK hP hD hS 0 rfl h_5 euaT_2 rfl d_Wide_take_74 (fun H locs hP hD hS => ?_)
  exact sd_v1ret (u := (uaT_2)) hQ hx hb hr hlk hK (hP.sub [0, 1] rfl) (hD.sub [0, 1] (by decide) rfl) hS (Option.some.inj hm).symm d_Wide_take_75
theorem d_Wide_guess_0 : decode b_Wide_guess 0 = .ok (.iload_n 3, 1) := by decide +kernel
theorem d_Wide_guess_1 : decode b_Wide_guess 1 = .ok (.iload_n 1, 1) := by decide +kernel
theorem d_Wide_guess_2 : decode b_Wide_guess 2 = .ok (.iadd, 1) := by decide +kernel
theorem d_Wide_guess_3 : decode b_Wide_guess 3 = .ok (.istore 4, 2) := by decide +kernel
theorem d_Wide_guess_5 : decode b_Wide_guess 5 = .ok (.aload_n 0, 1) := by decide +kernel
theorem d_Wide_guess_6 : decode b_Wide_guess 6 = .ok (.iload 4, 2) := by decide +kernel
theorem d_Wide_guess_8 : decode b_Wide_guess 8 = .ok (.iconst 1, 1) := by decide +kernel
theorem d_Wide_guess_9 : decode b_Wide_guess 9 = .ok (.iadd, 1) := by decide +kernel
theorem d_Wide_guess_10 : decode b_Wide_guess 10 = .ok (.iaload, 1) := by decide +kernel
theorem d_Wide_guess_11 : decode b_Wide_guess 11 = .ok (.i2l, 1) := by decide +kernel
theorem d_Wide_guess_12 : decode b_Wide_guess 12 = .ok (.bipush 32, 2) := by decide +kernel
theorem d_Wide_guess_14 : decode b_Wide_guess 14 = .ok (.lshl, 1) := by decide +kernel
theorem d_Wide_guess_15 : decode b_Wide_guess 15 = .ok (.aload_n 0, 1) := by decide +kernel
theorem d_Wide_guess_16 : decode b_Wide_guess 16 = .ok (.iload 4, 2) := by decide +kernel
theorem d_Wide_guess_18 : decode b_Wide_guess 18 = .ok (.iaload, 1) := by decide +kernel
theorem d_Wide_guess_19 : decode b_Wide_guess 19 = .ok (.i2l, 1) := by decide +kernel
theorem d_Wide_guess_20 : decode b_Wide_guess 20 = .ok (.bipush 16, 2) := by decide +kernel
theorem d_Wide_guess_22 : decode b_Wide_guess 22 = .ok (.lshl, 1) := by decide +kernel
theorem d_Wide_guess_23 : decode b_Wide_guess 23 = .ok (.ladd, 1) := by decide +kernel
theorem d_Wide_guess_24 : decode b_Wide_guess 24 = .ok (.iload 4, 2) := by decide +kernel
theorem d_Wide_guess_26 : decode b_Wide_guess 26 = .ok (.ifCond .le 12, 3) := by decide +kernel
theorem d_Wide_guess_29 : decode b_Wide_guess 29 = .ok (.aload_n 0, 1) := by decide +kernel
theorem d_Wide_guess_30 : decode b_Wide_guess 30 = .ok (.iload 4, 2) := by decide +kernel
theorem d_Wide_guess_32 : decode b_Wide_guess 32 = .ok (.iconst 1, 1) := by decide +kernel
theorem d_Wide_guess_33 : decode b_Wide_guess 33 = .ok (.isub, 1) := by decide +kernel
theorem d_Wide_guess_34 : decode b_Wide_guess 34 = .ok (.iaload, 1) := by decide +kernel
theorem d_Wide_guess_35 : decode b_Wide_guess 35 = .ok (.goto 4, 3) := by decide +kernel
theorem d_Wide_guess_38 : decode b_Wide_guess 38 = .ok (.iconst 0, 1) := by decide +kernel
theorem d_Wide_guess_39 : decode b_Wide_guess 39 = .ok (.i2l, 1) := by decide +kernel
theorem d_Wide_guess_40 : decode b_Wide_guess 40 = .ok (.ladd, 1) := by decide +kernel
theorem d_Wide_guess_41 : decode b_Wide_guess 41 = .ok (.lstore 5, 2) := by decide +kernel
theorem d_Wide_guess_43 : decode b_Wide_guess 43 = .ok (.aload_n 2, 1) := by decide +kernel
theorem d_Wide_guess_44 : decode b_Wide_guess 44 = .ok (.iload_n 3, 1) := by decide +kernel
theorem d_Wide_guess_45 : decode b_Wide_guess 45 = .ok (.iaload, 1) := by decide +kernel
theorem d_Wide_guess_46 : decode b_Wide_guess 46 = .ok (.i2l, 1) := by decide +kernel
theorem d_Wide_guess_47 : decode b_Wide_guess 47 = .ok (.bipush 16, 2) := by decide +kernel
theorem d_Wide_guess_49 : decode b_Wide_guess 49 = .ok (.lshl, 1) := by decide +kernel
theorem d_Wide_guess_50 : decode b_Wide_guess 50 = .ok (.iload_n 3, 1) := by decide +kernel
theorem d_Wide_guess_51 : decode b_Wide_guess 51 = .ok (.ifCond .le 11, 3) := by decide +kernel
theorem d_Wide_guess_54 : decode b_Wide_guess 54 = .ok (.aload_n 2, 1) := by decide +kernel
theorem d_Wide_guess_55 : decode b_Wide_guess 55 = .ok (.iload_n 3, 1) := by decide +kernel
theorem d_Wide_guess_56 : decode b_Wide_guess 56 = .ok (.iconst 1, 1) := by decide +kernel
theorem d_Wide_guess_57 : decode b_Wide_guess 57 = .ok (.isub, 1) := by decide +kernel
theorem d_Wide_guess_58 : decode b_Wide_guess 58 = .ok (.iaload, 1) := by decide +kernel
theorem d_Wide_guess_59 : decode b_Wide_guess 59 = .ok (.goto 4, 3) := by decide +kernel
theorem d_Wide_guess_62 : decode b_Wide_guess 62 = .ok (.iconst 0, 1) := by decide +kernel
theorem d_Wide_guess_63 : decode b_Wide_guess 63 = .ok (.i2l, 1) := by decide +kernel
theorem d_Wide_guess_64 : decode b_Wide_guess 64 = .ok (.ladd, 1) := by decide +kernel
theorem d_Wide_guess_65 : decode b_Wide_guess 65 = .ok (.lstore 7, 2) := by decide +kernel
theorem d_Wide_guess_67 : decode b_Wide_guess 67 = .ok (.lload 7, 2) := by decide +kernel
theorem d_Wide_guess_69 : decode b_Wide_guess 69 = .ok (.lconst 0, 1) := by decide +kernel
theorem d_Wide_guess_70 : decode b_Wide_guess 70 = .ok (.lcmp, 1) := by decide +kernel
theorem d_Wide_guess_71 : decode b_Wide_guess 71 = .ok (.ifCond .gt 7, 3) := by decide +kernel
theorem d_Wide_guess_74 : decode b_Wide_guess 74 = .ok (.lconst 0, 1) := by decide +kernel
theorem d_Wide_guess_75 : decode b_Wide_guess 75 = .ok (.goto 8, 3) := by decide +kernel
theorem d_Wide_guess_78 : decode b_Wide_guess 78 = .ok (.lload 5, 2) := by decide +kernel
theorem d_Wide_guess_80 : decode b_Wide_guess 80 = .ok (.lload 7, 2) := by decide +kernel
theorem d_Wide_guess_82 : decode b_Wide_guess 82 = .ok (.ldiv, 1) := by decide +kernel
theorem d_Wide_guess_83 : decode b_Wide_guess 83 = .ok (.lstore 9, 2) := by decide +kernel
theorem d_Wide_guess_85 : decode b_Wide_guess 85 = .ok (.lload 9, 2) := by decide +kernel
theorem d_Wide_guess_87 : decode b_Wide_guess 87 = .ok (.ldc2_w 9, 3) := by decide +kernel
theorem d_Wide_guess_90 : decode b_Wide_guess 90 = .ok (.lcmp, 1) := by decide +kernel
theorem d_Wide_guess_91 : decode b_Wide_guess 91 = .ok (.ifCond .le 8, 3) := by decide +kernel
theorem d_Wide_guess_94 : decode b_Wide_guess 94 = .ok (.ldc 11, 2) := by decide +kernel
theorem d_Wide_guess_96 : decode b_Wide_guess 96 = .ok (.goto 6, 3) := by decide +kernel
theorem d_Wide_guess_99 : decode b_Wide_guess 99 = .ok (.lload 9, 2) := by decide +kernel
theorem d_Wide_guess_101 : decode b_Wide_guess 101 = .ok (.l2i, 1) := by decide +kernel
theorem d_Wide_guess_102 : decode b_Wide_guess 102 = .ok (.ireturn, 1) := by decide +kernel
def mf_Wide_guess (F : Nat) (nT : Nat) (nR : Nat) (vOff : Int32) (vTop : Int32) (cT : Nat → Int32) (cR : Nat → Int32) : Option (Int32) :=
  (sd_let ((vTop + vOff)) fun x4 => (sd_g (sd_ix (x4 + (1 : Int32)) nT) (sd_g (sd_ix x4 nT) (sd_b1 (if x4 ≤ 0 then (some ((0 : Int32))) else (sd_g (sd_ix (x4 - (1 : Int32)) nT) (some ((cT (x4 - (1 : Int32)).toNatClampNeg))))) fun y => (sd_let ((((((cT (x4 + (1 : Int32)).toNatClampNeg).toInt64) <<< ((32 : Int32).toInt64 &&& 63)) + (((cT x4.toNatClampNeg).toInt64) <<< ((16 : Int32).toInt64 &&& 63))) + (y.toInt64))) fun x5 => (sd_g (sd_ix vTop nR) (sd_b1 (if vTop ≤ 0 then (some ((0 : Int32))) else (sd_g (sd_ix (vTop - (1 : Int32)) nR) (some ((cR (vTop - (1 : Int32)).toNatClampNeg))))) fun y_1 => (sd_let (((((cR vTop.toNatClampNeg).toInt64) <<< ((16 : Int32).toInt64 &&& 63)) + (y_1.toInt64))) fun x7 => (sd_b1 (if (0 : Int64) < x7 then (sd_g (sd_zJ x7) (some ((x5 / x7)))) else (some ((0 : Int64)))) fun y_2 => (sd_b1 (if y_2 ≤ (65535 : Int64) then (some ((y_2.toInt32))) else (some ((65535 : Int32)))) fun y_3 => (some (y_3))))))))))))
abbrev rm_Wide_guess : Room := { frames := 0, cells := 0, slots := 0, locals := 0 }
set_option maxHeartbeats 4000000 in
set_option maxRecDepth 100000 in
theorem ct_Wide_guess (l : Launch) (D : va_G) (g : G4) (aT : Nat) (aR : Nat) (nT : Nat) (nR : Nat) (sz : Nat) (vOff : Int32) (vTop : Int32) (cT : Nat → Int32) (cR : Nat → Int32) (F : Nat) (res : Int32) (hm : mf_Wide_guess F nT nR vOff vTop cT cR = some res) : Met l y_Wide_guess (.code y_Wide_guess b_Wide_guess 11 (some .int) :: sd_tb) rm_Wide_guess (sd_PW D g [.ref aT, .int vOff, .ref aR, .int vTop] sz [(aT, aI g nT cT), (aR, aI g nR cR)]) (sd_Qi0 D g res [(aT, aI g nT cT), (aR, aI g nR cR)] (va_A [(aT, aI g nT cT), (aR, aI g nR cR)] sz)) 0 0 (va_A [(aT, aI g nT cT), (aR, aI g nR cR)] sz) := by
  refine sd_met (Qf := fun A => sd_Qi0 D g res [(aT, aI g nT cT), (aR, aI g nR cR)] A) (own := R_Wide) (by decide +kernel) rfl (Nat.le_of_ble_eq_true rfl) ?_
  intro p e s m args below meth c S hr hlk hK A hA Q hQ H locs hP hD hS ls hl
  have hx := S.1
  have hb := S.2.1
  have hml := S.2.2.1
  have hown := S.2.2.2.1
  have htt := sd_tt S
  replace hl : lv_has ls 11 [(0, .ref aT), (1, .int vOff), (2, .ref aR), (3, .int vTop)] := hl
  unfold mf_Wide_guess at hm
  refine lv_iload_n hx hb d_Wide_guess_0 rfl (lv_at hl 3 rfl) ?_
  refine lv_iload_n hx hb d_Wide_guess_1 rfl (lv_at hl 1 rfl) ?_
  refine lv_iadd hx hb d_Wide_guess_2 ?_
  obtain ⟨x4, ex4, hm⟩ := sd_mlet hm
  refine sd_topi ex4 ?_
  refine lv_istore (lv' := [(4, .int x4), (0, .ref aT), (1, .int vOff), (2, .ref aR), (3, .int vTop)]) hx hb d_Wide_guess_3 hl (by decide) rfl (fun ls hl => ?_)
  refine lv_aload_n hx hb d_Wide_guess_5 rfl (lv_at hl 1 rfl) ?_
  refine lv_iload hx hb d_Wide_guess_6 (lv_at hl 0 rfl) ?_
  refine lv_iconst (v := (1 : Int32)) hx hb d_Wide_guess_8 (by decide) ?_
  refine lv_iadd hx hb d_Wide_guess_9 ?_
  obtain ⟨h_1, hm⟩ := sd_mg hm
  refine sd_iald hx hb hK hP 0 rfl h_1 d_Wide_guess_10 ?_
  refine lv_i2l hx hb d_Wide_guess_11 rfl ?_
  refine lv_bipush (v := (32 : Int32)) hx hb d_Wide_guess_12 (by decide) ?_
  refine lv_lshl hx hb d_Wide_guess_14 rfl ?_
  refine lv_aload_n hx hb d_Wide_guess_15 rfl (lv_at hl 1 rfl) ?_
  refine lv_iload hx hb d_Wide_guess_16 (lv_at hl 0 rfl) ?_
  obtain ⟨h_2, hm⟩ := sd_mg hm
  refine sd_iald hx hb hK hP 0 rfl h_2 d_Wide_guess_18 ?_
  refine lv_i2l hx hb d_Wide_guess_19 rfl ?_
  refine lv_bipush (v := (16 : Int32)) hx hb d_Wide_guess_20 (by decide) ?_
  refine lv_lshl hx hb d_Wide_guess_22 rfl ?_
  refine lv_ladd hx hb d_Wide_guess_23 ?_
  refine lv_iload hx hb d_Wide_guess_24 (lv_at hl 0 rfl) ?_
  obtain ⟨y, hv, hm⟩ := sd_mb1 hm
  have J39_3 : ∀ (H : Heap) (locs : List Loc) (ls : Array Slot), va_P D classes [(aT, aI g nT cT), (aR, aI g nR cR)] H → va_D A [(aT, aI g nT cT), (aR, aI g nR cR)] → va_S A s.heap H locs → lv_has ls 11 [(2, .ref aR), (3, .int vTop)] → W p l e rm_Wide_guess s m args below meth c H locs 0 0 Q (F0 m 39 ls [.int y, .long ((((cT (x4 + (1 : Int32)).toNatClampNeg).toInt64) <<< ((32 : Int32).toInt64 &&& 63)) + (((cT x4.toNatClampNeg).toInt64) <<< ((16 : Int32).toInt64 &&& 63)))]) := by
    intro H locs ls hP hD hS hl
    refine lv_i2l hx hb d_Wide_guess_39 rfl ?_
    refine lv_ladd hx hb d_Wide_guess_40 ?_
    obtain ⟨x5, ex5, hm⟩ := sd_mlet hm
    refine sd_topj ex5 ?_
    refine lv_lstore (lv' := [(5, .long x5), (2, .ref aR), (3, .int vTop)]) hx hb d_Wide_guess_41 hl (by decide) rfl (fun ls hl => ?_)
    refine lv_aload_n hx hb d_Wide_guess_43 rfl (lv_at hl 1 rfl) ?_
    refine lv_iload_n hx hb d_Wide_guess_44 rfl (lv_at hl 2 rfl) ?_
    obtain ⟨h_5, hm⟩ := sd_mg hm
    refine sd_iald hx hb hK hP 1 rfl h_5 d_Wide_guess_45 ?_
    refine lv_i2l hx hb d_Wide_guess_46 rfl ?_
    refine lv_bipush (v := (16 : Int32)) hx hb d_Wide_guess_47 (by decide) ?_
    refine lv_lshl hx hb d_Wide_guess_49 rfl ?_
    refine lv_iload_n hx hb d_Wide_guess_50 rfl (lv_at hl 2 rfl) ?_
    obtain ⟨y_1, hv, hm⟩ := sd_mb1 hm
    have J63_6 : ∀ (H : Heap) (locs : List Loc) (ls : Array Slot), va_P D classes [(aT, aI g nT cT), (aR, aI g nR cR)] H → va_D A [(aT, aI g nT cT), (aR, aI g nR cR)] → va_S A s.heap H locs → lv_has ls 11 [(5, .long x5)] → W p l e rm_Wide_guess s m args below meth c H locs 0 0 Q (F0 m 63 ls [.int y_1, .long (((cR vTop.toNatClampNeg).toInt64) <<< ((16 : Int32).toInt64 &&& 63))]) := by
      intro H locs ls hP hD hS hl
      refine lv_i2l hx hb d_Wide_guess_63 rfl ?_
      refine lv_ladd hx hb d_Wide_guess_64 ?_
      obtain ⟨x7, ex7, hm⟩ := sd_mlet hm
      refine sd_topj ex7 ?_
      refine lv_lstore (lv' := [(7, .long x7), (5, .long x5)]) hx hb d_Wide_guess_65 hl (by decide) rfl (fun ls hl => ?_)
      refine lv_lload hx hb d_Wide_guess_67 (lv_at hl 0 rfl) ?_
      refine lv_lconst (v := (0 : Int64)) hx hb d_Wide_guess_69 (by decide) ?_
      obtain ⟨y_2, hv, hm⟩ := sd_mb1 hm
      have J83_8 : ∀ (H : Heap) (locs : List Loc) (ls : Array Slot), va_P D classes [(aT, aI g nT cT), (aR, aI g nR cR)] H → va_D A [(aT, aI g nT cT), (aR, aI g nR cR)] → va_S A s.heap H locs → lv_has ls 11 [] → W p l e rm_Wide_guess s m args below meth c H locs 0 0 Q (F0 m 83 ls [.long y_2]) := by
        intro H locs ls hP hD hS hl
        refine lv_lstore (lv' := [(9, .long y_2)]) hx hb d_Wide_guess_83 hl (by decide) rfl (fun ls hl => ?_)
        refine lv_lload hx hb d_Wide_guess_85 (lv_at hl 0 rfl) ?_
        refine sd_ldc2 (v := (65535 : Int64)) hx hb hown (htt _ km_Wide_9) d_Wide_guess_87 ?_
        obtain ⟨y_3, hv, hm⟩ := sd_mb1 hm
        have J102_10 : ∀ (H : Heap) (locs : List Loc) (ls : Array Slot), va_P D classes [(aT, aI g nT cT), (aR, aI g nR cR)] H → va_D A [(aT, aI g nT cT), (aR, aI g nR cR)] → va_S A s.heap H locs → lv_has ls 11 [] → W p l e rm_Wide_guess s m args below meth c H locs 0 0 Q (F0 m 102 ls [.int y_3]) := by
          intro H locs ls hP hD hS hl
          exact sd_i0ret hQ hx hb hr hlk hK (hP.sub [0, 1] rfl) (hD.sub [0, 1] (by decide) rfl) hS (Option.some.inj hm).symm d_Wide_guess_102
        replace hm := hv
        refine sd_lle (tgt := 99) hx hb d_Wide_guess_90 d_Wide_guess_91 (by decide) (fun hc => ?_) (fun hc => ?_)
        · have hm := sd_mt hc hm
          refine lv_lload hx hb d_Wide_guess_99 (lv_at hl 0 rfl) ?_
          refine lv_l2i hx hb d_Wide_guess_101 rfl ?_
          cases hm
          exact J102_10 H locs ls (hP.sub [0, 1] rfl) (hD.sub [0, 1] (by decide) rfl) hS (lv_sub hl [] rfl)
        · have hm := sd_mf hc hm
          refine sd_ldc (v := (65535 : Int32)) hx hb hown (htt _ km_Wide_11) d_Wide_guess_94 ?_
          refine lv_goto (tgt := 102) hx hb d_Wide_guess_96 (by decide) ?_
          cases hm
          exact J102_10 H locs ls (hP.sub [0, 1] rfl) (hD.sub [0, 1] (by decide) rfl) hS (lv_sub hl [] rfl)
      replace hm := hv
      refine sd_lgt (tgt := 78) hx hb d_Wide_guess_70 d_Wide_guess_71 (by decide) (fun hc => ?_) (fun hc => ?_)
      · have hm := sd_mt hc hm
        refine lv_lload hx hb d_Wide_guess_78 (lv_at hl 1 rfl) ?_
        refine lv_lload hx hb d_Wide_guess_80 (lv_at hl 0 rfl) ?_
        obtain ⟨h_9, hm⟩ := sd_mg hm
        refine lv_ldiv hx hb d_Wide_guess_82 (sd_nzJ h_9) ?_
        cases hm
        exact J83_8 H locs ls (hP.sub [0, 1] rfl) (hD.sub [0, 1] (by decide) rfl) hS (lv_sub hl [] rfl)
      · have hm := sd_mf hc hm
        refine lv_lconst (v := (0 : Int64)) hx hb d_Wide_guess_74 (by decide) ?_
        refine lv_goto (tgt := 83) hx hb d_Wide_guess_75 (by decide) ?_
        cases hm
        exact J83_8 H locs ls (hP.sub [0, 1] rfl) (hD.sub [0, 1] (by decide) rfl) hS (lv_sub hl [] rfl)
    replace hm := hv
    refine lv_if_le (tgt := 62) hx hb d_Wide_guess_51 (by decide) (fun hc => ?_) (fun hc => ?_)
    · have hm := sd_mt hc hm
      refine lv_iconst (v := (0 : Int32)) hx hb d_Wide_guess_62 (by decide) ?_
      cases hm
      exact J63_6 H locs ls (hP.sub [0, 1] rfl) (hD.sub [0, 1] (by decide) rfl) hS (lv_sub hl [0] rfl)
    · have hm := sd_mf hc hm
      refine lv_aload_n hx hb d_Wide_guess_54 rfl (lv_at hl 1 rfl) ?_
      refine lv_iload_n hx hb d_Wide_guess_55 rfl (lv_at hl 2 rfl) ?_
      refine lv_iconst (v := (1 : Int32)) hx hb d_Wide_guess_56 (by decide) ?_
      refine lv_isub hx hb d_Wide_guess_57 ?_
      obtain ⟨h_7, hm⟩ := sd_mg hm
      refine sd_iald hx hb hK hP 1 rfl h_7 d_Wide_guess_58 ?_
      refine lv_goto (tgt := 63) hx hb d_Wide_guess_59 (by decide) ?_
      cases hm
      exact J63_6 H locs ls (hP.sub [0, 1] rfl) (hD.sub [0, 1] (by decide) rfl) hS (lv_sub hl [0] rfl)
  replace hm := hv
  refine lv_if_le (tgt := 38) hx hb d_Wide_guess_26 (by decide) (fun hc => ?_) (fun hc => ?_)
  · have hm := sd_mt hc hm
    refine lv_iconst (v := (0 : Int32)) hx hb d_Wide_guess_38 (by decide) ?_
    cases hm
    exact J39_3 H locs ls (hP.sub [0, 1] rfl) (hD.sub [0, 1] (by decide) rfl) hS (lv_sub hl [3, 4] rfl)
  · have hm := sd_mf hc hm
    refine lv_aload_n hx hb d_Wide_guess_29 rfl (lv_at hl 1 rfl) ?_
    refine lv_iload hx hb d_Wide_guess_30 (lv_at hl 0 rfl) ?_
    refine lv_iconst (v := (1 : Int32)) hx hb d_Wide_guess_32 (by decide) ?_
    refine lv_isub hx hb d_Wide_guess_33 ?_
    obtain ⟨h_4, hm⟩ := sd_mg hm
    refine sd_iald hx hb hK hP 0 rfl h_4 d_Wide_guess_34 ?_
    refine lv_goto (tgt := 39) hx hb d_Wide_guess_35 (by decide) ?_
    cases hm
    exact J39_3 H locs ls (hP.sub [0, 1] rfl) (hD.sub [0, 1] (by decide) rfl) hS (lv_sub hl [3, 4] rfl)
theorem d_Wide_addSmall_0 : decode b_Wide_addSmall 0 = .ok (.iload_n 1, 1) := by decide +kernel
theorem d_Wide_addSmall_1 : decode b_Wide_addSmall 1 = .ok (.istore_n 2, 1) := by decide +kernel
theorem d_Wide_addSmall_2 : decode b_Wide_addSmall 2 = .ok (.iconst 0, 1) := by decide +kernel
theorem d_Wide_addSmall_3 : decode b_Wide_addSmall 3 = .ok (.istore_n 3, 1) := by decide +kernel
theorem d_Wide_addSmall_4 : decode b_Wide_addSmall 4 = .ok (.iload_n 3, 1) := by decide +kernel
theorem d_Wide_addSmall_5 : decode b_Wide_addSmall 5 = .ok (.bipush 67, 2) := by decide +kernel
theorem d_Wide_addSmall_7 : decode b_Wide_addSmall 7 = .ok (.if_icmp .ge 27, 3) := by decide +kernel
theorem d_Wide_addSmall_10 : decode b_Wide_addSmall 10 = .ok (.iload_n 2, 1) := by decide +kernel
theorem d_Wide_addSmall_11 : decode b_Wide_addSmall 11 = .ok (.aload_n 0, 1) := by decide +kernel
theorem d_Wide_addSmall_12 : decode b_Wide_addSmall 12 = .ok (.iload_n 3, 1) := by decide +kernel
theorem d_Wide_addSmall_13 : decode b_Wide_addSmall 13 = .ok (.iaload, 1) := by decide +kernel
theorem d_Wide_addSmall_14 : decode b_Wide_addSmall 14 = .ok (.iadd, 1) := by decide +kernel
theorem d_Wide_addSmall_15 : decode b_Wide_addSmall 15 = .ok (.istore_n 2, 1) := by decide +kernel
theorem d_Wide_addSmall_16 : decode b_Wide_addSmall 16 = .ok (.aload_n 0, 1) := by decide +kernel
theorem d_Wide_addSmall_17 : decode b_Wide_addSmall 17 = .ok (.iload_n 3, 1) := by decide +kernel
theorem d_Wide_addSmall_18 : decode b_Wide_addSmall 18 = .ok (.iload_n 2, 1) := by decide +kernel
theorem d_Wide_addSmall_19 : decode b_Wide_addSmall 19 = .ok (.ldc 11, 2) := by decide +kernel
theorem d_Wide_addSmall_21 : decode b_Wide_addSmall 21 = .ok (.iand, 1) := by decide +kernel
theorem d_Wide_addSmall_22 : decode b_Wide_addSmall 22 = .ok (.iastore, 1) := by decide +kernel
theorem d_Wide_addSmall_23 : decode b_Wide_addSmall 23 = .ok (.iload_n 2, 1) := by decide +kernel
theorem d_Wide_addSmall_24 : decode b_Wide_addSmall 24 = .ok (.bipush 16, 2) := by decide +kernel
theorem d_Wide_addSmall_26 : decode b_Wide_addSmall 26 = .ok (.ishr, 1) := by decide +kernel
theorem d_Wide_addSmall_27 : decode b_Wide_addSmall 27 = .ok (.istore_n 2, 1) := by decide +kernel
theorem d_Wide_addSmall_28 : decode b_Wide_addSmall 28 = .ok (.iinc 3 1, 3) := by decide +kernel
theorem d_Wide_addSmall_31 : decode b_Wide_addSmall 31 = .ok (.goto (-27), 3) := by decide +kernel
theorem d_Wide_addSmall_34 : decode b_Wide_addSmall 34 = .ok (.aload_n 0, 1) := by decide +kernel
theorem d_Wide_addSmall_35 : decode b_Wide_addSmall 35 = .ok (.bipush 67, 2) := by decide +kernel
theorem d_Wide_addSmall_37 : decode b_Wide_addSmall 37 = .ok (.dup2, 1) := by decide +kernel
theorem d_Wide_addSmall_38 : decode b_Wide_addSmall 38 = .ok (.iaload, 1) := by decide +kernel
theorem d_Wide_addSmall_39 : decode b_Wide_addSmall 39 = .ok (.iload_n 2, 1) := by decide +kernel
theorem d_Wide_addSmall_40 : decode b_Wide_addSmall 40 = .ok (.iadd, 1) := by decide +kernel
theorem d_Wide_addSmall_41 : decode b_Wide_addSmall 41 = .ok (.iastore, 1) := by decide +kernel
theorem d_Wide_addSmall_42 : decode b_Wide_addSmall 42 = .ok (.return_, 1) := by decide +kernel
def mf_Wide_addSmall_L4 (nE : Nat) : Nat → Int32 → Int32 → (Nat → Int32) → Option (Int32 × (Nat → Int32))
  | 0, _, _, _ => none
  | fu + 1, x2, x3, uaE => (if (67 : Int32) ≤ x3 then (some (x2, uaE)) else (sd_g (sd_ix x3 nE) (sd_let ((x2 + (uaE x3.toNatClampNeg))) fun x2_1 => (sd_g (sd_ix x3 nE) (sd_let (upd uaE x3.toNatClampNeg (x2_1 &&& (65535 : Int32))) fun uaE_1 => (sd_let ((x2_1 >>> ((16 : Int32) &&& 31))) fun x2_2 => (sd_let (x3 + (1 : Int32)) fun x3_1 => ((mf_Wide_addSmall_L4 nE fu) x2_2 x3_1 uaE_1))))))))
def mf_Wide_addSmall (F : Nat) (nE : Nat) (vWhat : Int32) (cE : Nat → Int32) : Option ((Nat → Int32)) :=
  (sd_b2 (mf_Wide_addSmall_L4 nE F vWhat (0 : Int32) cE) fun rx2 ruaE => (sd_g (sd_ix (67 : Int32) nE) (sd_g (sd_ix (67 : Int32) nE) (sd_let (upd ruaE (67 : Int32).toNatClampNeg ((ruaE (67 : Int32).toNatClampNeg) + rx2)) fun uaE_2 => (some (uaE_2))))))
abbrev rm_Wide_addSmall : Room := { frames := 0, cells := 0, slots := 0, locals := 0 }
set_option maxHeartbeats 4000000 in
set_option maxRecDepth 100000 in
theorem ct_Wide_addSmall (l : Launch) (D : va_G) (g : G4) (aE : Nat) (nE : Nat) (sz : Nat) (vWhat : Int32) (cE : Nat → Int32) (F : Nat) (res : (Nat → Int32)) (hm : mf_Wide_addSmall F nE vWhat cE = some res) : Met l y_Wide_addSmall (.code y_Wide_addSmall b_Wide_addSmall 4 none :: sd_tb) rm_Wide_addSmall (sd_PW D g [.ref aE, .int vWhat] sz [(aE, aI g nE cE)]) (sd_Qv1 D g res (fun u : (Nat → Int32) => [(aE, aI g nE u)]) (va_A [(aE, aI g nE cE)] sz)) 0 0 (va_A [(aE, aI g nE cE)] sz) := by
  refine sd_met (Qf := fun A => sd_Qv1 D g res (fun u : (Nat → Int32) => [(aE, aI g nE u)]) A) (own := R_Wide) (by decide +kernel) rfl (Nat.le_of_ble_eq_true rfl) ?_
  intro p e s m args below meth c S hr hlk hK A hA Q hQ H locs hP hD hS ls hl
  have hx := S.1
  have hb := S.2.1
  have hml := S.2.2.1
  have hown := S.2.2.2.1
  have htt := sd_tt S
  replace hl : lv_has ls 4 [(0, .ref aE), (1, .int vWhat)] := hl
  unfold mf_Wide_addSmall at hm
  refine lv_iload_n hx hb d_Wide_addSmall_0 rfl (lv_at hl 1 rfl) ?_
  refine lv_istore_n (lv' := [(2, .int vWhat), (0, .ref aE), (1, .int vWhat)]) hx hb d_Wide_addSmall_1 rfl hl (by decide) rfl (fun ls hl => ?_)
  refine lv_iconst (v := (0 : Int32)) hx hb d_Wide_addSmall_2 (by decide) ?_
  refine lv_istore_n (lv' := [(3, .int (0 : Int32)), (2, .int vWhat), (0, .ref aE), (1, .int vWhat)]) hx hb d_Wide_addSmall_3 rfl hl (by decide) rfl (fun ls hl => ?_)
  have L4 : ∀ (fu : Nat) (x2 : Int32) (x3 : Int32) (uaE : Nat → Int32) (rx2 : Int32) (ruaE : Nat → Int32), mf_Wide_addSmall_L4 nE fu x2 x3 uaE = some (rx2, ruaE) → ∀ (H : Heap) (locs : List Loc) (ls : Array Slot), va_P D classes [(aE, aI g nE uaE)] H → va_D A [(aE, aI g nE uaE)] → va_S A s.heap H locs → lv_has ls 4 [(0, .ref aE), (2, .int x2), (3, .int x3)] → (∀ (H : Heap) (locs : List Loc) (ls : Array Slot), va_P D classes [(aE, aI g nE ruaE)] H → va_D A [(aE, aI g nE ruaE)] → va_S A s.heap H locs → lv_has ls 4 [(0, .ref aE), (2, .int rx2)] → W p l e rm_Wide_addSmall s m args below meth c H locs 0 0 Q (F0 m 34 ls [])) → W p l e rm_Wide_addSmall s m args below meth c H locs 0 0 Q (F0 m 4 ls []) := by
    intro fu
    induction fu with
    | zero => intro x2 x3 uaE rx2 ruaE hm; exact absurd (show (none : Option (Int32 × (Nat → Int32))) = some (rx2, ruaE) from hm) (fun h => nomatch h)
    | succ fu ih =>
      intro x2 x3 uaE rx2 ruaE hm H locs ls hP hD hS hl kx34
      rw [mf_Wide_addSmall_L4] at hm
      refine lv_iload_n hx hb d_Wide_addSmall_4 rfl (lv_at hl 2 rfl) ?_
      refine lv_bipush (v := (67 : Int32)) hx hb d_Wide_addSmall_5 (by decide) ?_
      refine lv_icmp_ge (tgt := 34) hx hb d_Wide_addSmall_7 (by decide) (fun hc => ?_) (fun hc => ?_)
      · have hm := sd_mt hc hm
        cases hm
        exact kx34 H locs ls (hP.sub [0] rfl) (hD.sub [0] (by decide) rfl) hS (lv_sub hl [0, 1] rfl)
      · have hm := sd_mf hc hm
        refine lv_iload_n hx hb d_Wide_addSmall_10 rfl (lv_at hl 1 rfl) ?_
        refine lv_aload_n hx hb d_Wide_addSmall_11 rfl (lv_at hl 0 rfl) ?_
        refine lv_iload_n hx hb d_Wide_addSmall_12 rfl (lv_at hl 2 rfl) ?_
        obtain ⟨h_1, hm⟩ := sd_mg hm
        refine sd_iald hx hb hK hP 0 rfl h_1 d_Wide_addSmall_13 ?_
        refine lv_iadd hx hb d_Wide_addSmall_14 ?_
        obtain ⟨x2_1, ex2_1, hm⟩ := sd_mlet hm
        refine sd_topi ex2_1 ?_
        refine lv_istore_n (lv' := [(2, .int x2_1), (0, .ref aE), (3, .int x3)]) hx hb d_Wide_addSmall_15 rfl hl (by decide) rfl (fun ls hl => ?_)
        refine lv_aload_n hx hb d_Wide_addSmall_16 rfl (lv_at hl 1 rfl) ?_
        refine lv_iload_n hx hb d_Wide_addSmall_17 rfl (lv_at hl 2 rfl) ?_
        refine lv_iload_n hx hb d_Wide_addSmall_18 rfl (lv_at hl 0 rfl) ?_
        refine sd_ldc (v := (65535 : Int32)) hx hb hown (htt _ km_Wide_11) d_Wide_addSmall_19 ?_
        refine lv_iand hx hb d_Wide_addSmall_21 ?_
        obtain ⟨h_2, hm⟩ := sd_mg hm
        obtain ⟨uaE_1, euaE_1, hm⟩ := sd_mlet hm
        refine sd_iast (f2 := uaE_1) (ws2 := [(aE, aI g nE uaE_1)]) hx hb hK hP hD hS 0 rfl h_2 euaE_1 rfl d_Wide_addSmall_22 (fun H locs hP hD hS => ?_)
        refine lv_iload_n hx hb d_Wide_addSmall_23 rfl (lv_at hl 0 rfl) ?_
        refine lv_bipush (v := (16 : Int32)) hx hb d_Wide_addSmall_24 (by decide) ?_
        refine lv_ishr hx hb d_Wide_addSmall_26 ?_
        obtain ⟨x2_2, ex2_2, hm⟩ := sd_mlet hm
        refine sd_topi ex2_2 ?_
        refine lv_istore_n (lv' := [(2, .int x2_2), (0, .ref aE), (3, .int x3)]) hx hb d_Wide_addSmall_27 rfl hl (by decide) rfl (fun ls hl => ?_)
        obtain ⟨x3_1, ex3_1, hm⟩ := sd_mlet hm
        refine lv_iinc (v := x3_1) (lv' := [(3, .int x3_1), (2, .int x2_2), (0, .ref aE)]) hx hb d_Wide_addSmall_28 hl (k := 2) rfl (by rw [ex3_1]; rfl) (by decide) rfl (fun ls hl => ?_)
        refine lv_goto (tgt := 4) hx hb d_Wide_addSmall_31 (by decide) ?_
        exact ih x2_2 x3_1 uaE_1 rx2 ruaE hm H locs ls (hP.sub [0] rfl) (hD.sub [0] (by decide) rfl) hS (lv_sub hl [2, 1, 0] rfl) kx34
  obtain ⟨rx2, ruaE, hc, hm⟩ := sd_mb2 hm
  refine L4 F vWhat (0 : Int32) cE rx2 ruaE hc H locs ls (hP.sub [0] rfl) (hD.sub [0] (by decide) rfl) hS (lv_sub hl [2, 1, 0] rfl) ?_
  intro H locs ls hP hD hS hl
  refine lv_aload_n hx hb d_Wide_addSmall_34 rfl (lv_at hl 0 rfl) ?_
  refine lv_bipush (v := (67 : Int32)) hx hb d_Wide_addSmall_35 (by decide) ?_
  refine lv_dup2_11 hx hb d_Wide_addSmall_37 rfl rfl ?_
  obtain ⟨h_3, hm⟩ := sd_mg hm
  refine sd_iald hx hb hK hP 0 rfl h_3 d_Wide_addSmall_38 ?_
  refine lv_iload_n hx hb d_Wide_addSmall_39 rfl (lv_at hl 1 rfl) ?_
  refine lv_iadd hx hb d_Wide_addSmall_40 ?_
  obtain ⟨h_4, hm⟩ := sd_mg hm
  obtain ⟨uaE_2, euaE_2, hm⟩ := sd_mlet hm
  refine sd_iast (f2 := uaE_2) (ws2 := [(aE, aI g nE uaE_2)]) hx hb hK hP hD hS 0 rfl h_4 euaE_2 rfl d_Wide_addSmall_41 (fun H locs hP hD hS => ?_)
  exact sd_v1ret (u := (uaE_2)) hQ hx hb hr hlk hK (hP.sub [0] rfl) (hD.sub [0] (by decide) rfl) hS (Option.some.inj hm).symm d_Wide_addSmall_42
theorem d_Arrays_fill_0 : decode b_Arrays_fill 0 = .ok (.iconst 0, 1) := by decide +kernel
theorem d_Arrays_fill_1 : decode b_Arrays_fill 1 = .ok (.istore_n 2, 1) := by decide +kernel
theorem d_Arrays_fill_2 : decode b_Arrays_fill 2 = .ok (.aload_n 0, 1) := by decide +kernel
theorem d_Arrays_fill_3 : decode b_Arrays_fill 3 = .ok (.arraylength, 1) := by decide +kernel
theorem d_Arrays_fill_4 : decode b_Arrays_fill 4 = .ok (.istore_n 3, 1) := by decide +kernel
theorem d_Arrays_fill_5 : decode b_Arrays_fill 5 = .ok (.iload_n 2, 1) := by decide +kernel
theorem d_Arrays_fill_6 : decode b_Arrays_fill 6 = .ok (.iload_n 3, 1) := by decide +kernel
theorem d_Arrays_fill_7 : decode b_Arrays_fill 7 = .ok (.if_icmp .ge 13, 3) := by decide +kernel
theorem d_Arrays_fill_10 : decode b_Arrays_fill 10 = .ok (.aload_n 0, 1) := by decide +kernel
theorem d_Arrays_fill_11 : decode b_Arrays_fill 11 = .ok (.iload_n 2, 1) := by decide +kernel
theorem d_Arrays_fill_12 : decode b_Arrays_fill 12 = .ok (.iload_n 1, 1) := by decide +kernel
theorem d_Arrays_fill_13 : decode b_Arrays_fill 13 = .ok (.iastore, 1) := by decide +kernel
theorem d_Arrays_fill_14 : decode b_Arrays_fill 14 = .ok (.iinc 2 1, 3) := by decide +kernel
theorem d_Arrays_fill_17 : decode b_Arrays_fill 17 = .ok (.goto (-12), 3) := by decide +kernel
theorem d_Arrays_fill_20 : decode b_Arrays_fill 20 = .ok (.return_, 1) := by decide +kernel
def mf_Arrays_fill_L5 (x3 : Int32) (nE : Nat) (vWhat : Int32) : Nat → Int32 → (Nat → Int32) → Option ((Nat → Int32))
  | 0, _, _ => none
  | fu + 1, x2, uaE => (if x3 ≤ x2 then (some (uaE)) else (sd_g (sd_ix x2 nE) (sd_let (upd uaE x2.toNatClampNeg vWhat) fun uaE_1 => (sd_let (x2 + (1 : Int32)) fun x2_1 => ((mf_Arrays_fill_L5 x3 nE vWhat fu) x2_1 uaE_1)))))
def mf_Arrays_fill (F : Nat) (nE : Nat) (vWhat : Int32) (cE : Nat → Int32) : Option ((Nat → Int32)) :=
  (sd_let ((nI nE)) fun x3 => (sd_b1 (mf_Arrays_fill_L5 x3 nE vWhat F (0 : Int32) cE) fun ruaE => (some (ruaE))))
abbrev rm_Arrays_fill : Room := { frames := 0, cells := 0, slots := 0, locals := 0 }
set_option maxHeartbeats 4000000 in
set_option maxRecDepth 100000 in
theorem ct_Arrays_fill (l : Launch) (D : va_G) (g : G4) (aE : Nat) (nE : Nat) (sz : Nat) (vWhat : Int32) (cE : Nat → Int32) (F : Nat) (res : (Nat → Int32)) (hm : mf_Arrays_fill F nE vWhat cE = some res) : Met l y_Arrays_fill (.code y_Arrays_fill b_Arrays_fill 4 none :: sd_tb) rm_Arrays_fill (sd_PW D g [.ref aE, .int vWhat] sz [(aE, aI g nE cE)]) (sd_Qv1 D g res (fun u : (Nat → Int32) => [(aE, aI g nE u)]) (va_A [(aE, aI g nE cE)] sz)) 0 0 (va_A [(aE, aI g nE cE)] sz) := by
  refine sd_met (Qf := fun A => sd_Qv1 D g res (fun u : (Nat → Int32) => [(aE, aI g nE u)]) A) (own := R_Arrays) (by decide +kernel) rfl (Nat.le_of_ble_eq_true rfl) ?_
  intro p e s m args below meth c S hr hlk hK A hA Q hQ H locs hP hD hS ls hl
  have hx := S.1
  have hb := S.2.1
  have hml := S.2.2.1
  have hown := S.2.2.2.1
  have htt := sd_tt S
  replace hl : lv_has ls 4 [(0, .ref aE), (1, .int vWhat)] := hl
  unfold mf_Arrays_fill at hm
  refine lv_iconst (v := (0 : Int32)) hx hb d_Arrays_fill_0 (by decide) ?_
  refine lv_istore_n (lv' := [(2, .int (0 : Int32)), (0, .ref aE), (1, .int vWhat)]) hx hb d_Arrays_fill_1 rfl hl (by decide) rfl (fun ls hl => ?_)
  refine lv_aload_n hx hb d_Arrays_fill_2 rfl (lv_at hl 1 rfl) ?_
  refine sd_alenI (v := (nI nE)) hx hb hK hP 0 rfl rfl d_Arrays_fill_3 ?_
  obtain ⟨x3, ex3, hm⟩ := sd_mlet hm
  refine sd_topi ex3 ?_
  refine lv_istore_n (lv' := [(3, .int x3), (2, .int (0 : Int32)), (0, .ref aE), (1, .int vWhat)]) hx hb d_Arrays_fill_4 rfl hl (by decide) rfl (fun ls hl => ?_)
  have L5 : ∀ (fu : Nat) (x2 : Int32) (uaE : Nat → Int32) (ruaE : Nat → Int32), mf_Arrays_fill_L5 x3 nE vWhat fu x2 uaE = some (ruaE) → ∀ (H : Heap) (locs : List Loc) (ls : Array Slot), va_P D classes [(aE, aI g nE uaE)] H → va_D A [(aE, aI g nE uaE)] → va_S A s.heap H locs → lv_has ls 4 [(0, .ref aE), (1, .int vWhat), (2, .int x2), (3, .int x3)] → (∀ (H : Heap) (locs : List Loc) (ls : Array Slot), va_P D classes [(aE, aI g nE ruaE)] H → va_D A [(aE, aI g nE ruaE)] → va_S A s.heap H locs → lv_has ls 4 [] → W p l e rm_Arrays_fill s m args below meth c H locs 0 0 Q (F0 m 20 ls [])) → W p l e rm_Arrays_fill s m args below meth c H locs 0 0 Q (F0 m 5 ls []) := by
    intro fu
    induction fu with
    | zero => intro x2 uaE ruaE hm; exact absurd (show (none : Option ((Nat → Int32))) = some (ruaE) from hm) (fun h => nomatch h)
    | succ fu ih =>
      intro x2 uaE ruaE hm H locs ls hP hD hS hl kx20
      rw [mf_Arrays_fill_L5] at hm
      refine lv_iload_n hx hb d_Arrays_fill_5 rfl (lv_at hl 2 rfl) ?_
      refine lv_iload_n hx hb d_Arrays_fill_6 rfl (lv_at hl 3 rfl) ?_
      refine lv_icmp_ge (tgt := 20) hx hb d_Arrays_fill_7 (by decide) (fun hc => ?_) (fun hc => ?_)
      · have hm := sd_mt hc hm
        cases hm
        exact kx20 H locs ls (hP.sub [0] rfl) (hD.sub [0] (by decide) rfl) hS (lv_sub hl [] rfl)
      · have hm := sd_mf hc hm
        refine lv_aload_n hx hb d_Arrays_fill_10 rfl (lv_at hl 0 rfl) ?_
        refine lv_iload_n hx hb d_Arrays_fill_11 rfl (lv_at hl 2 rfl) ?_
        refine lv_iload_n hx hb d_Arrays_fill_12 rfl (lv_at hl 1 rfl) ?_
        obtain ⟨h_1, hm⟩ := sd_mg hm
        obtain ⟨uaE_1, euaE_1, hm⟩ := sd_mlet hm
        refine sd_iast (f2 := uaE_1) (ws2 := [(aE, aI g nE uaE_1)]) hx hb hK hP hD hS 0 rfl h_1 euaE_1 rfl d_Arrays_fill_13 (fun H locs hP hD hS => ?_)
        obtain ⟨x2_1, ex2_1, hm⟩ := sd_mlet hm
        refine lv_iinc (v := x2_1) (lv' := [(2, .int x2_1), (0, .ref aE), (1, .int vWhat), (3, .int x3)]) hx hb d_Arrays_fill_14 hl (k := 2) rfl (by rw [ex2_1]; rfl) (by decide) rfl (fun ls hl => ?_)
        refine lv_goto (tgt := 5) hx hb d_Arrays_fill_17 (by decide) ?_
        exact ih x2_1 uaE_1 ruaE hm H locs ls (hP.sub [0] rfl) (hD.sub [0] (by decide) rfl) hS (lv_sub hl [1, 2, 0, 3] rfl) kx20
  obtain ⟨ruaE, hc, hm⟩ := sd_mb1 hm
  refine L5 F (0 : Int32) cE ruaE hc H locs ls (hP.sub [0] rfl) (hD.sub [0] (by decide) rfl) hS (lv_sub hl [2, 3, 1, 0] rfl) ?_
  intro H locs ls hP hD hS hl
  exact sd_v1ret (u := (ruaE)) hQ hx hb hr hlk hK (hP.sub [0] rfl) (hD.sub [0] (by decide) rfl) hS (Option.some.inj hm).symm d_Arrays_fill_20
theorem d_Wide_size_0 : decode b_Wide_size 0 = .ok (.aload_n 0, 1) := by decide +kernel
theorem d_Wide_size_1 : decode b_Wide_size 1 = .ok (.bipush 67, 2) := by decide +kernel
theorem d_Wide_size_3 : decode b_Wide_size 3 = .ok (.iaload, 1) := by decide +kernel
theorem d_Wide_size_4 : decode b_Wide_size 4 = .ok (.ifCond .lt 13, 3) := by decide +kernel
theorem d_Wide_size_7 : decode b_Wide_size 7 = .ok (.aload_n 0, 1) := by decide +kernel
theorem d_Wide_size_8 : decode b_Wide_size 8 = .ok (.iconst 0, 1) := by decide +kernel
theorem d_Wide_size_9 : decode b_Wide_size 9 = .ok (.aload_n 1, 1) := by decide +kernel
theorem d_Wide_size_10 : decode b_Wide_size 10 = .ok (.iconst 0, 1) := by decide +kernel
theorem d_Wide_size_11 : decode b_Wide_size 11 = .ok (.bipush 68, 2) := by decide +kernel
theorem d_Wide_size_13 : decode b_Wide_size 13 = .ok (.invokestatic 12, 3) := by decide +kernel
theorem d_Wide_size_16 : decode b_Wide_size 16 = .ok (.return_, 1) := by decide +kernel
theorem d_Wide_size_17 : decode b_Wide_size 17 = .ok (.aload_n 1, 1) := by decide +kernel
theorem d_Wide_size_18 : decode b_Wide_size 18 = .ok (.iconst 0, 1) := by decide +kernel
theorem d_Wide_size_19 : decode b_Wide_size 19 = .ok (.invokestatic 18, 3) := by decide +kernel
theorem d_Wide_size_22 : decode b_Wide_size 22 = .ok (.aload_n 1, 1) := by decide +kernel
theorem d_Wide_size_23 : decode b_Wide_size 23 = .ok (.iconst 0, 1) := by decide +kernel
theorem d_Wide_size_24 : decode b_Wide_size 24 = .ok (.aload_n 0, 1) := by decide +kernel
theorem d_Wide_size_25 : decode b_Wide_size 25 = .ok (.iconst 0, 1) := by decide +kernel
theorem d_Wide_size_26 : decode b_Wide_size 26 = .ok (.bipush 66, 2) := by decide +kernel
theorem d_Wide_size_28 : decode b_Wide_size 28 = .ok (.iconst 1, 1) := by decide +kernel
theorem d_Wide_size_29 : decode b_Wide_size 29 = .ok (.invokestatic 24, 3) := by decide +kernel
theorem d_Wide_size_32 : decode b_Wide_size 32 = .ok (.aload_n 1, 1) := by decide +kernel
theorem d_Wide_size_33 : decode b_Wide_size 33 = .ok (.bipush 67, 2) := by decide +kernel
theorem d_Wide_size_35 : decode b_Wide_size 35 = .ok (.dup2, 1) := by decide +kernel
theorem d_Wide_size_36 : decode b_Wide_size 36 = .ok (.iaload, 1) := by decide +kernel
theorem d_Wide_size_37 : decode b_Wide_size 37 = .ok (.aload_n 0, 1) := by decide +kernel
theorem d_Wide_size_38 : decode b_Wide_size 38 = .ok (.bipush 67, 2) := by decide +kernel
theorem d_Wide_size_40 : decode b_Wide_size 40 = .ok (.iaload, 1) := by decide +kernel
theorem d_Wide_size_41 : decode b_Wide_size 41 = .ok (.isub, 1) := by decide +kernel
theorem d_Wide_size_42 : decode b_Wide_size 42 = .ok (.iastore, 1) := by decide +kernel
theorem d_Wide_size_43 : decode b_Wide_size 43 = .ok (.return_, 1) := by decide +kernel
def mf_Wide_size (F : Nat) (nE : Nat) (nT : Nat) (cE : Nat → Int32) (cT : Nat → Int32) : Option ((Nat → Int32)) :=
  (sd_g (sd_ix (67 : Int32) nE) (if (cE (67 : Int32).toNatClampNeg) < 0 then (sd_b1 (mf_Arrays_fill F nT (0 : Int32) cT) fun uaT => (sd_b1 (mf_Wide_take F nT nE (0 : Int32) (0 : Int32) (66 : Int32) (1 : Int32) uaT cE) fun uaT_1 => (sd_g (sd_ix (67 : Int32) nT) (sd_g (sd_ix (67 : Int32) nE) (sd_g (sd_ix (67 : Int32) nT) (sd_let (upd uaT_1 (67 : Int32).toNatClampNeg ((uaT_1 (67 : Int32).toNatClampNeg) - (cE (67 : Int32).toNatClampNeg))) fun uaT_2 => (some (uaT_2)))))))) else (sd_g (sd_cp (0 : Int32) (0 : Int32) (68 : Int32) nE nT) (sd_let (va_cpy cE cT (0 : Int32).toNatClampNeg (0 : Int32).toNatClampNeg (68 : Int32).toNatClampNeg) fun uaT_3 => (some (uaT_3))))))
abbrev rm_Wide_size : Room := { frames := 1, cells := 0, slots := 0, locals := 80 }
set_option maxHeartbeats 4000000 in
set_option maxRecDepth 100000 in
theorem ct_Wide_size (l : Launch) (D : va_G) (g : G4) (aE : Nat) (aT : Nat) (nE : Nat) (nT : Nat) (sz : Nat) (cE : Nat → Int32) (cT : Nat → Int32) (F : Nat) (res : (Nat → Int32)) (hm : mf_Wide_size F nE nT cE cT = some res) : Met l y_Wide_size (.code y_Wide_size b_Wide_size 2 none :: sd_tb) rm_Wide_size (sd_PW D g [.ref aE, .ref aT] sz [(aE, aI g nE cE), (aT, aI g nT cT)]) (sd_Qv1 D g res (fun u : (Nat → Int32) => [(aE, aI g nE cE), (aT, aI g nT u)]) (va_A [(aE, aI g nE cE), (aT, aI g nT cT)] sz)) 0 0 (va_A [(aE, aI g nE cE), (aT, aI g nT cT)] sz) := by
  refine sd_met (Qf := fun A => sd_Qv1 D g res (fun u : (Nat → Int32) => [(aE, aI g nE cE), (aT, aI g nT u)]) A) (own := R_Wide) (by decide +kernel) rfl (Nat.le_of_ble_eq_true rfl) ?_
  intro p e s m args below meth c S hr hlk hK A hA Q hQ H locs hP hD hS ls hl
  have hx := S.1
  have hb := S.2.1
  have hml := S.2.2.1
  have hown := S.2.2.2.1
  have htt := sd_tt S
  replace hl : lv_has ls 2 [(0, .ref aE), (1, .ref aT)] := hl
  unfold mf_Wide_size at hm
  refine lv_aload_n hx hb d_Wide_size_0 rfl (lv_at hl 0 rfl) ?_
  refine lv_bipush (v := (67 : Int32)) hx hb d_Wide_size_1 (by decide) ?_
  obtain ⟨h_1, hm⟩ := sd_mg hm
  refine sd_iald hx hb hK hP 0 rfl h_1 d_Wide_size_3 ?_
  refine lv_if_lt (tgt := 17) hx hb d_Wide_size_4 (by decide) (fun hc => ?_) (fun hc => ?_)
  · have hm := sd_mt hc hm
    refine lv_aload_n hx hb d_Wide_size_17 rfl (lv_at hl 1 rfl) ?_
    refine lv_iconst (v := (0 : Int32)) hx hb d_Wide_size_18 (by decide) ?_
    obtain ⟨uaT, hc, hm⟩ := sd_mb1 hm
    refine sd_cv1 (wr := [(aE, aI g nE cE)]) (w2 := [(aE, aI g nE cE), (aT, aI g nT uaT)]) (sd_runS (rest := []) (As := [.ref aT, .int (0 : Int32)]) S (ct_Arrays_fill l D g aT nT (H.size) (0 : Int32) cT F (uaT) hc) kl_Wide_18 (by decide) (by decide) hK hP hD [1] rfl (by decide) rfl hl d_Wide_size_19 rfl (Nat.le_of_ble_eq_true rfl) ⟨Nat.zero_le _, Nat.zero_le _⟩) hP hD hS hA [1] [0] rfl rfl (by decide) (by decide) rfl (fun H locs hP hD hS => ?_)
    refine lv_aload_n hx hb d_Wide_size_22 rfl (lv_at hl 1 rfl) ?_
    refine lv_iconst (v := (0 : Int32)) hx hb d_Wide_size_23 (by decide) ?_
    refine lv_aload_n hx hb d_Wide_size_24 rfl (lv_at hl 0 rfl) ?_
    refine lv_iconst (v := (0 : Int32)) hx hb d_Wide_size_25 (by decide) ?_
    refine lv_bipush (v := (66 : Int32)) hx hb d_Wide_size_26 (by decide) ?_
    refine lv_iconst (v := (1 : Int32)) hx hb d_Wide_size_28 (by decide) ?_
    obtain ⟨uaT_1, hc, hm⟩ := sd_mb1 hm
    refine sd_cv1 (wr := []) (w2 := [(aT, aI g nT uaT_1), (aE, aI g nE cE)]) (sd_runS (rest := []) (As := [.ref aT, .int (0 : Int32), .ref aE, .int (0 : Int32), .int (66 : Int32), .int (1 : Int32)]) S (ct_Wide_take l D g aT aE nT nE (H.size) (0 : Int32) (0 : Int32) (66 : Int32) (1 : Int32) uaT cE F (uaT_1) hc) kl_Wide_24 (by decide) (by decide) hK hP hD [1, 0] rfl (by decide) rfl hl d_Wide_size_29 rfl (Nat.le_of_ble_eq_true rfl) ⟨Nat.zero_le _, Nat.zero_le _⟩) hP hD hS hA [1, 0] [] rfl rfl (by decide) (by decide) rfl (fun H locs hP hD hS => ?_)
    refine lv_aload_n hx hb d_Wide_size_32 rfl (lv_at hl 1 rfl) ?_
    refine lv_bipush (v := (67 : Int32)) hx hb d_Wide_size_33 (by decide) ?_
    refine lv_dup2_11 hx hb d_Wide_size_35 rfl rfl ?_
    obtain ⟨h_2, hm⟩ := sd_mg hm
    refine sd_iald hx hb hK hP 0 rfl h_2 d_Wide_size_36 ?_
    refine lv_aload_n hx hb d_Wide_size_37 rfl (lv_at hl 0 rfl) ?_
    refine lv_bipush (v := (67 : Int32)) hx hb d_Wide_size_38 (by decide) ?_
    obtain ⟨h_3, hm⟩ := sd_mg hm
    refine sd_iald hx hb hK hP 1 rfl h_3 d_Wide_size_40 ?_
    refine lv_isub hx hb d_Wide_size_41 ?_
    obtain ⟨h_4, hm⟩ := sd_mg hm
    obtain ⟨uaT_2, euaT_2, hm⟩ := sd_mlet hm
    refine sd_iast (f2 := uaT_2) (ws2 := [(aT, aI g nT uaT_2), (aE, aI g nE cE)]) hx hb hK hP hD hS 0 rfl h_4 euaT_2 rfl d_Wide_size_42 (fun H locs hP hD hS => ?_)
    exact sd_v1ret (u := (uaT_2)) hQ hx hb hr hlk hK (hP.sub [1, 0] rfl) (hD.sub [1, 0] (by decide) rfl) hS (Option.some.inj hm).symm d_Wide_size_43
  · have hm := sd_mf hc hm
    refine lv_aload_n hx hb d_Wide_size_7 rfl (lv_at hl 0 rfl) ?_
    refine lv_iconst (v := (0 : Int32)) hx hb d_Wide_size_8 (by decide) ?_
    refine lv_aload_n hx hb d_Wide_size_9 rfl (lv_at hl 1 rfl) ?_
    refine lv_iconst (v := (0 : Int32)) hx hb d_Wide_size_10 (by decide) ?_
    refine lv_bipush (v := (68 : Int32)) hx hb d_Wide_size_11 (by decide) ?_
    obtain ⟨h_5, hm⟩ := sd_mg hm
    obtain ⟨uaT_3, euaT_3, hm⟩ := sd_mlet hm
    refine sd_copyI (f2 := uaT_3) (ws2 := [(aE, aI g nE cE), (aT, aI g nT uaT_3)]) hx hb hml hown kl_Wide_12 htt hl hK hP hD hS 0 1 rfl rfl h_5 euaT_3 rfl d_Wide_size_13 (Nat.le_of_ble_eq_true rfl) (Nat.le_of_ble_eq_true rfl) (fun H locs hP hD hS => ?_)
    exact sd_v1ret (u := (uaT_3)) hQ hx hb hr hlk hK (hP.sub [0, 1] rfl) (hD.sub [0, 1] (by decide) rfl) hS (Option.some.inj hm).symm d_Wide_size_16
theorem d_Wide_whole_0 : decode b_Wide_whole 0 = .ok (.aload_n 0, 1) := by decide +kernel
theorem d_Wide_whole_1 : decode b_Wide_whole 1 = .ok (.bipush 67, 2) := by decide +kernel
theorem d_Wide_whole_3 : decode b_Wide_whole 3 = .ok (.iaload, 1) := by decide +kernel
theorem d_Wide_whole_4 : decode b_Wide_whole 4 = .ok (.i2l, 1) := by decide +kernel
theorem d_Wide_whole_5 : decode b_Wide_whole 5 = .ok (.lstore_n 1, 1) := by decide +kernel
theorem d_Wide_whole_6 : decode b_Wide_whole 6 = .ok (.bipush 66, 2) := by decide +kernel
theorem d_Wide_whole_8 : decode b_Wide_whole 8 = .ok (.istore_n 3, 1) := by decide +kernel
theorem d_Wide_whole_9 : decode b_Wide_whole 9 = .ok (.iload_n 3, 1) := by decide +kernel
theorem d_Wide_whole_10 : decode b_Wide_whole 10 = .ok (.bipush 64, 2) := by decide +kernel
theorem d_Wide_whole_12 : decode b_Wide_whole 12 = .ok (.if_icmp .lt 19, 3) := by decide +kernel
theorem d_Wide_whole_15 : decode b_Wide_whole 15 = .ok (.lload_n 1, 1) := by decide +kernel
theorem d_Wide_whole_16 : decode b_Wide_whole 16 = .ok (.bipush 16, 2) := by decide +kernel
theorem d_Wide_whole_18 : decode b_Wide_whole 18 = .ok (.lshl, 1) := by decide +kernel
theorem d_Wide_whole_19 : decode b_Wide_whole 19 = .ok (.aload_n 0, 1) := by decide +kernel
theorem d_Wide_whole_20 : decode b_Wide_whole 20 = .ok (.iload_n 3, 1) := by decide +kernel
theorem d_Wide_whole_21 : decode b_Wide_whole 21 = .ok (.iaload, 1) := by decide +kernel
theorem d_Wide_whole_22 : decode b_Wide_whole 22 = .ok (.i2l, 1) := by decide +kernel
theorem d_Wide_whole_23 : decode b_Wide_whole 23 = .ok (.ladd, 1) := by decide +kernel
theorem d_Wide_whole_24 : decode b_Wide_whole 24 = .ok (.lstore_n 1, 1) := by decide +kernel
theorem d_Wide_whole_25 : decode b_Wide_whole 25 = .ok (.iinc 3 (-1), 3) := by decide +kernel
theorem d_Wide_whole_28 : decode b_Wide_whole 28 = .ok (.goto (-19), 3) := by decide +kernel
theorem d_Wide_whole_31 : decode b_Wide_whole 31 = .ok (.lload_n 1, 1) := by decide +kernel
theorem d_Wide_whole_32 : decode b_Wide_whole 32 = .ok (.lreturn, 1) := by decide +kernel
def mf_Wide_whole_L9 (nE : Nat) (cE : Nat → Int32) : Nat → Int64 → Int32 → Option (Int64)
  | 0, _, _ => none
  | fu + 1, x1_1, x3 => (if x3 < (64 : Int32) then (some (x1_1)) else (sd_g (sd_ix x3 nE) (sd_let (((x1_1 <<< ((16 : Int32).toInt64 &&& 63)) + ((cE x3.toNatClampNeg).toInt64))) fun x1_2 => (sd_let (x3 + (-1 : Int32)) fun x3_1 => ((mf_Wide_whole_L9 nE cE fu) x1_2 x3_1)))))
def mf_Wide_whole (F : Nat) (nE : Nat) (cE : Nat → Int32) : Option (Int64) :=
  (sd_g (sd_ix (67 : Int32) nE) (sd_let (((cE (67 : Int32).toNatClampNeg).toInt64)) fun x1 => (sd_b1 (mf_Wide_whole_L9 nE cE F x1 (66 : Int32)) fun rx1 => (some (rx1)))))
abbrev rm_Wide_whole : Room := { frames := 0, cells := 0, slots := 0, locals := 0 }
set_option maxHeartbeats 4000000 in
set_option maxRecDepth 100000 in
theorem ct_Wide_whole (l : Launch) (D : va_G) (g : G4) (aE : Nat) (nE : Nat) (sz : Nat) (cE : Nat → Int32) (F : Nat) (res : Int64) (hm : mf_Wide_whole F nE cE = some res) : Met l y_Wide_whole (.code y_Wide_whole b_Wide_whole 4 (some .long) :: sd_tb) rm_Wide_whole (sd_PW D g [.ref aE] sz [(aE, aI g nE cE)]) (sd_Ql0 D g res [(aE, aI g nE cE)] (va_A [(aE, aI g nE cE)] sz)) 0 0 (va_A [(aE, aI g nE cE)] sz) := by
  refine sd_met (Qf := fun A => sd_Ql0 D g res [(aE, aI g nE cE)] A) (own := R_Wide) (by decide +kernel) rfl (Nat.le_of_ble_eq_true rfl) ?_
  intro p e s m args below meth c S hr hlk hK A hA Q hQ H locs hP hD hS ls hl
  have hx := S.1
  have hb := S.2.1
  have hml := S.2.2.1
  have hown := S.2.2.2.1
  have htt := sd_tt S
  replace hl : lv_has ls 4 [(0, .ref aE)] := hl
  unfold mf_Wide_whole at hm
  refine lv_aload_n hx hb d_Wide_whole_0 rfl (lv_at hl 0 rfl) ?_
  refine lv_bipush (v := (67 : Int32)) hx hb d_Wide_whole_1 (by decide) ?_
  obtain ⟨h_1, hm⟩ := sd_mg hm
  refine sd_iald hx hb hK hP 0 rfl h_1 d_Wide_whole_3 ?_
  refine lv_i2l hx hb d_Wide_whole_4 rfl ?_
  obtain ⟨x1, ex1, hm⟩ := sd_mlet hm
  refine sd_topj ex1 ?_
  refine lv_lstore_n (lv' := [(1, .long x1), (0, .ref aE)]) hx hb d_Wide_whole_5 rfl hl (by decide) rfl (fun ls hl => ?_)
  refine lv_bipush (v := (66 : Int32)) hx hb d_Wide_whole_6 (by decide) ?_
  refine lv_istore_n (lv' := [(3, .int (66 : Int32)), (1, .long x1), (0, .ref aE)]) hx hb d_Wide_whole_8 rfl hl (by decide) rfl (fun ls hl => ?_)
  have L9 : ∀ (fu : Nat) (x1_1 : Int64) (x3 : Int32) (rx1 : Int64), mf_Wide_whole_L9 nE cE fu x1_1 x3 = some (rx1) → ∀ (H : Heap) (locs : List Loc) (ls : Array Slot), va_P D classes [(aE, aI g nE cE)] H → va_D A [(aE, aI g nE cE)] → va_S A s.heap H locs → lv_has ls 4 [(0, .ref aE), (1, .long x1_1), (3, .int x3)] → (∀ (H : Heap) (locs : List Loc) (ls : Array Slot), va_P D classes [(aE, aI g nE cE)] H → va_D A [(aE, aI g nE cE)] → va_S A s.heap H locs → lv_has ls 4 [(1, .long rx1)] → W p l e rm_Wide_whole s m args below meth c H locs 0 0 Q (F0 m 31 ls [])) → W p l e rm_Wide_whole s m args below meth c H locs 0 0 Q (F0 m 9 ls []) := by
    intro fu
    induction fu with
    | zero => intro x1_1 x3 rx1 hm; exact absurd (show (none : Option (Int64)) = some (rx1) from hm) (fun h => nomatch h)
    | succ fu ih =>
      intro x1_1 x3 rx1 hm H locs ls hP hD hS hl kx31
      rw [mf_Wide_whole_L9] at hm
      refine lv_iload_n hx hb d_Wide_whole_9 rfl (lv_at hl 2 rfl) ?_
      refine lv_bipush (v := (64 : Int32)) hx hb d_Wide_whole_10 (by decide) ?_
      refine lv_icmp_lt (tgt := 31) hx hb d_Wide_whole_12 (by decide) (fun hc => ?_) (fun hc => ?_)
      · have hm := sd_mt hc hm
        cases hm
        exact kx31 H locs ls (hP.sub [0] rfl) (hD.sub [0] (by decide) rfl) hS (lv_sub hl [1] rfl)
      · have hm := sd_mf hc hm
        refine lv_lload_n hx hb d_Wide_whole_15 rfl (lv_at hl 1 rfl) ?_
        refine lv_bipush (v := (16 : Int32)) hx hb d_Wide_whole_16 (by decide) ?_
        refine lv_lshl hx hb d_Wide_whole_18 rfl ?_
        refine lv_aload_n hx hb d_Wide_whole_19 rfl (lv_at hl 0 rfl) ?_
        refine lv_iload_n hx hb d_Wide_whole_20 rfl (lv_at hl 2 rfl) ?_
        obtain ⟨h_2, hm⟩ := sd_mg hm
        refine sd_iald hx hb hK hP 0 rfl h_2 d_Wide_whole_21 ?_
        refine lv_i2l hx hb d_Wide_whole_22 rfl ?_
        refine lv_ladd hx hb d_Wide_whole_23 ?_
        obtain ⟨x1_2, ex1_2, hm⟩ := sd_mlet hm
        refine sd_topj ex1_2 ?_
        refine lv_lstore_n (lv' := [(1, .long x1_2), (0, .ref aE), (3, .int x3)]) hx hb d_Wide_whole_24 rfl hl (by decide) rfl (fun ls hl => ?_)
        obtain ⟨x3_1, ex3_1, hm⟩ := sd_mlet hm
        refine lv_iinc (v := x3_1) (lv' := [(3, .int x3_1), (1, .long x1_2), (0, .ref aE)]) hx hb d_Wide_whole_25 hl (k := 2) rfl (by rw [ex3_1]; rfl) (by decide) rfl (fun ls hl => ?_)
        refine lv_goto (tgt := 9) hx hb d_Wide_whole_28 (by decide) ?_
        exact ih x1_2 x3_1 rx1 hm H locs ls (hP.sub [0] rfl) (hD.sub [0] (by decide) rfl) hS (lv_sub hl [2, 1, 0] rfl) kx31
  obtain ⟨rx1, hc, hm⟩ := sd_mb1 hm
  refine L9 F x1 (66 : Int32) rx1 hc H locs ls (hP.sub [0] rfl) (hD.sub [0] (by decide) rfl) hS (lv_sub hl [2, 1, 0] rfl) ?_
  intro H locs ls hP hD hS hl
  refine lv_lload_n hx hb d_Wide_whole_31 rfl (lv_at hl 0 rfl) ?_
  exact sd_l0ret hQ hx hb hr hlk hK (hP.sub [0] rfl) (hD.sub [0] (by decide) rfl) hS (Option.some.inj hm).symm d_Wide_whole_32
theorem d_Wide_putLong_0 : decode b_Wide_putLong 0 = .ok (.lload_n 2, 1) := by decide +kernel
theorem d_Wide_putLong_1 : decode b_Wide_putLong 1 = .ok (.lstore 4, 2) := by decide +kernel
theorem d_Wide_putLong_3 : decode b_Wide_putLong 3 = .ok (.iload_n 1, 1) := by decide +kernel
theorem d_Wide_putLong_4 : decode b_Wide_putLong 4 = .ok (.istore 6, 2) := by decide +kernel
theorem d_Wide_putLong_6 : decode b_Wide_putLong 6 = .ok (.iload 6, 2) := by decide +kernel
theorem d_Wide_putLong_8 : decode b_Wide_putLong 8 = .ok (.aload_n 0, 1) := by decide +kernel
theorem d_Wide_putLong_9 : decode b_Wide_putLong 9 = .ok (.arraylength, 1) := by decide +kernel
theorem d_Wide_putLong_10 : decode b_Wide_putLong 10 = .ok (.if_icmp .ge 34, 3) := by decide +kernel
theorem d_Wide_putLong_13 : decode b_Wide_putLong 13 = .ok (.lload 4, 2) := by decide +kernel
theorem d_Wide_putLong_15 : decode b_Wide_putLong 15 = .ok (.lconst 0, 1) := by decide +kernel
theorem d_Wide_putLong_16 : decode b_Wide_putLong 16 = .ok (.lcmp, 1) := by decide +kernel
theorem d_Wide_putLong_17 : decode b_Wide_putLong 17 = .ok (.ifCond .eq 27, 3) := by decide +kernel
theorem d_Wide_putLong_20 : decode b_Wide_putLong 20 = .ok (.aload_n 0, 1) := by decide +kernel
theorem d_Wide_putLong_21 : decode b_Wide_putLong 21 = .ok (.iload 6, 2) := by decide +kernel
theorem d_Wide_putLong_23 : decode b_Wide_putLong 23 = .ok (.lload 4, 2) := by decide +kernel
theorem d_Wide_putLong_25 : decode b_Wide_putLong 25 = .ok (.ldc2_w 9, 3) := by decide +kernel
theorem d_Wide_putLong_28 : decode b_Wide_putLong 28 = .ok (.land, 1) := by decide +kernel
theorem d_Wide_putLong_29 : decode b_Wide_putLong 29 = .ok (.l2i, 1) := by decide +kernel
theorem d_Wide_putLong_30 : decode b_Wide_putLong 30 = .ok (.iastore, 1) := by decide +kernel
theorem d_Wide_putLong_31 : decode b_Wide_putLong 31 = .ok (.lload 4, 2) := by decide +kernel
theorem d_Wide_putLong_33 : decode b_Wide_putLong 33 = .ok (.bipush 16, 2) := by decide +kernel
theorem d_Wide_putLong_35 : decode b_Wide_putLong 35 = .ok (.lushr, 1) := by decide +kernel
theorem d_Wide_putLong_36 : decode b_Wide_putLong 36 = .ok (.lstore 4, 2) := by decide +kernel
theorem d_Wide_putLong_38 : decode b_Wide_putLong 38 = .ok (.iinc 6 1, 3) := by decide +kernel
theorem d_Wide_putLong_41 : decode b_Wide_putLong 41 = .ok (.goto (-35), 3) := by decide +kernel
theorem d_Wide_putLong_44 : decode b_Wide_putLong 44 = .ok (.return_, 1) := by decide +kernel
def mf_Wide_putLong_L6 (nR : Nat) : Nat → Int64 → Int32 → (Nat → Int32) → Option ((Nat → Int32))
  | 0, _, _, _ => none
  | fu + 1, x4, x6, uaR => (if (nI nR) ≤ x6 then (some (uaR)) else (if x4 = (0 : Int64) then (some (uaR)) else (sd_g (sd_ix x6 nR) (sd_let (upd uaR x6.toNatClampNeg ((x4 &&& (65535 : Int64)).toInt32)) fun uaR_1 => (sd_let (((x4.toUInt64 >>> ((16 : Int32).toInt64.toUInt64 &&& Int64.toUInt64 63)).toInt64)) fun x4_1 => (sd_let (x6 + (1 : Int32)) fun x6_1 => ((mf_Wide_putLong_L6 nR fu) x4_1 x6_1 uaR_1)))))))
def mf_Wide_putLong (F : Nat) (nR : Nat) (vAt : Int32) (vWhat : Int64) (cR : Nat → Int32) : Option ((Nat → Int32)) :=
  (sd_b1 (mf_Wide_putLong_L6 nR F vWhat vAt cR) fun ruaR => (some (ruaR)))
abbrev rm_Wide_putLong : Room := { frames := 0, cells := 0, slots := 0, locals := 0 }
set_option maxHeartbeats 4000000 in
set_option maxRecDepth 100000 in
theorem ct_Wide_putLong (l : Launch) (D : va_G) (g : G4) (aR : Nat) (nR : Nat) (sz : Nat) (vAt : Int32) (vWhat : Int64) (cR : Nat → Int32) (F : Nat) (res : (Nat → Int32)) (hm : mf_Wide_putLong F nR vAt vWhat cR = some res) : Met l y_Wide_putLong (.code y_Wide_putLong b_Wide_putLong 7 none :: sd_tb) rm_Wide_putLong (sd_PW D g [.ref aR, .int vAt, .long vWhat] sz [(aR, aI g nR cR)]) (sd_Qv1 D g res (fun u : (Nat → Int32) => [(aR, aI g nR u)]) (va_A [(aR, aI g nR cR)] sz)) 0 0 (va_A [(aR, aI g nR cR)] sz) := by
  refine sd_met (Qf := fun A => sd_Qv1 D g res (fun u : (Nat → Int32) => [(aR, aI g nR u)]) A) (own := R_Wide) (by decide +kernel) rfl (Nat.le_of_ble_eq_true rfl) ?_
  intro p e s m args below meth c S hr hlk hK A hA Q hQ H locs hP hD hS ls hl
  have hx := S.1
  have hb := S.2.1
  have hml := S.2.2.1
  have hown := S.2.2.2.1
  have htt := sd_tt S
  replace hl : lv_has ls 7 [(0, .ref aR), (1, .int vAt), (2, .long vWhat)] := hl
  unfold mf_Wide_putLong at hm
  refine lv_lload_n hx hb d_Wide_putLong_0 rfl (lv_at hl 2 rfl) ?_
  refine lv_lstore (lv' := [(4, .long vWhat), (0, .ref aR), (1, .int vAt), (2, .long vWhat)]) hx hb d_Wide_putLong_1 hl (by decide) rfl (fun ls hl => ?_)
  refine lv_iload_n hx hb d_Wide_putLong_3 rfl (lv_at hl 2 rfl) ?_
  refine lv_istore (lv' := [(6, .int vAt), (4, .long vWhat), (0, .ref aR), (1, .int vAt), (2, .long vWhat)]) hx hb d_Wide_putLong_4 hl (by decide) rfl (fun ls hl => ?_)
  have L6 : ∀ (fu : Nat) (x4 : Int64) (x6 : Int32) (uaR : Nat → Int32) (ruaR : Nat → Int32), mf_Wide_putLong_L6 nR fu x4 x6 uaR = some (ruaR) → ∀ (H : Heap) (locs : List Loc) (ls : Array Slot), va_P D classes [(aR, aI g nR uaR)] H → va_D A [(aR, aI g nR uaR)] → va_S A s.heap H locs → lv_has ls 7 [(0, .ref aR), (4, .long x4), (6, .int x6)] → (∀ (H : Heap) (locs : List Loc) (ls : Array Slot), va_P D classes [(aR, aI g nR ruaR)] H → va_D A [(aR, aI g nR ruaR)] → va_S A s.heap H locs → lv_has ls 7 [] → W p l e rm_Wide_putLong s m args below meth c H locs 0 0 Q (F0 m 44 ls [])) → W p l e rm_Wide_putLong s m args below meth c H locs 0 0 Q (F0 m 6 ls []) := by
    intro fu
    induction fu with
    | zero => intro x4 x6 uaR ruaR hm; exact absurd (show (none : Option ((Nat → Int32))) = some (ruaR) from hm) (fun h => nomatch h)
    | succ fu ih =>
      intro x4 x6 uaR ruaR hm H locs ls hP hD hS hl kx44
      rw [mf_Wide_putLong_L6] at hm
      refine lv_iload hx hb d_Wide_putLong_6 (lv_at hl 2 rfl) ?_
      refine lv_aload_n hx hb d_Wide_putLong_8 rfl (lv_at hl 0 rfl) ?_
      refine sd_alenI (v := (nI nR)) hx hb hK hP 0 rfl rfl d_Wide_putLong_9 ?_
      refine lv_icmp_ge (tgt := 44) hx hb d_Wide_putLong_10 (by decide) (fun hc => ?_) (fun hc => ?_)
      · have hm := sd_mt hc hm
        cases hm
        exact kx44 H locs ls (hP.sub [0] rfl) (hD.sub [0] (by decide) rfl) hS (lv_sub hl [] rfl)
      · have hm := sd_mf hc hm
        refine lv_lload hx hb d_Wide_putLong_13 (lv_at hl 1 rfl) ?_
        refine lv_lconst (v := (0 : Int64)) hx hb d_Wide_putLong_15 (by decide) ?_
        refine sd_leq (tgt := 44) hx hb d_Wide_putLong_16 d_Wide_putLong_17 (by decide) (fun hc => ?_) (fun hc => ?_)
        · have hm := sd_mt hc hm
          cases hm
          exact kx44 H locs ls (hP.sub [0] rfl) (hD.sub [0] (by decide) rfl) hS (lv_sub hl [] rfl)
        · have hm := sd_mf hc hm
          refine lv_aload_n hx hb d_Wide_putLong_20 rfl (lv_at hl 0 rfl) ?_
          refine lv_iload hx hb d_Wide_putLong_21 (lv_at hl 2 rfl) ?_
          refine lv_lload hx hb d_Wide_putLong_23 (lv_at hl 1 rfl) ?_
          refine sd_ldc2 (v := (65535 : Int64)) hx hb hown (htt _ km_Wide_9) d_Wide_putLong_25 ?_
          refine lv_land hx hb d_Wide_putLong_28 ?_
          refine lv_l2i hx hb d_Wide_putLong_29 rfl ?_
          obtain ⟨h_1, hm⟩ := sd_mg hm
          obtain ⟨uaR_1, euaR_1, hm⟩ := sd_mlet hm
          refine sd_iast (f2 := uaR_1) (ws2 := [(aR, aI g nR uaR_1)]) hx hb hK hP hD hS 0 rfl h_1 euaR_1 rfl d_Wide_putLong_30 (fun H locs hP hD hS => ?_)
          refine lv_lload hx hb d_Wide_putLong_31 (lv_at hl 1 rfl) ?_
          refine lv_bipush (v := (16 : Int32)) hx hb d_Wide_putLong_33 (by decide) ?_
          refine lv_lushr hx hb d_Wide_putLong_35 rfl ?_
          obtain ⟨x4_1, ex4_1, hm⟩ := sd_mlet hm
          refine sd_topj ex4_1 ?_
          refine lv_lstore (lv' := [(4, .long x4_1), (0, .ref aR), (6, .int x6)]) hx hb d_Wide_putLong_36 hl (by decide) rfl (fun ls hl => ?_)
          obtain ⟨x6_1, ex6_1, hm⟩ := sd_mlet hm
          refine lv_iinc (v := x6_1) (lv' := [(6, .int x6_1), (4, .long x4_1), (0, .ref aR)]) hx hb d_Wide_putLong_38 hl (k := 2) rfl (by rw [ex6_1]; rfl) (by decide) rfl (fun ls hl => ?_)
          refine lv_goto (tgt := 6) hx hb d_Wide_putLong_41 (by decide) ?_
          exact ih x4_1 x6_1 uaR_1 ruaR hm H locs ls (hP.sub [0] rfl) (hD.sub [0] (by decide) rfl) hS (lv_sub hl [2, 1, 0] rfl) kx44
  obtain ⟨ruaR, hc, hm⟩ := sd_mb1 hm
  refine L6 F vWhat vAt cR ruaR hc H locs ls (hP.sub [0] rfl) (hD.sub [0] (by decide) rfl) hS (lv_sub hl [2, 1, 0] rfl) ?_
  intro H locs ls hP hD hS hl
  exact sd_v1ret (u := (ruaR)) hQ hx hb hr hlk hK (hP.sub [0] rfl) (hD.sub [0] (by decide) rfl) hS (Option.some.inj hm).symm d_Wide_putLong_44
theorem d_Wide_isBelow_0 : decode b_Wide_isBelow 0 = .ok (.bipush 67, 2) := by decide +kernel
theorem d_Wide_isBelow_2 : decode b_Wide_isBelow 2 = .ok (.istore_n 2, 1) := by decide +kernel
theorem d_Wide_isBelow_3 : decode b_Wide_isBelow 3 = .ok (.iload_n 2, 1) := by decide +kernel
theorem d_Wide_isBelow_4 : decode b_Wide_isBelow 4 = .ok (.ifCond .lt 33, 3) := by decide +kernel
theorem d_Wide_isBelow_7 : decode b_Wide_isBelow 7 = .ok (.aload_n 0, 1) := by decide +kernel
theorem d_Wide_isBelow_8 : decode b_Wide_isBelow 8 = .ok (.iload_n 2, 1) := by decide +kernel
theorem d_Wide_isBelow_9 : decode b_Wide_isBelow 9 = .ok (.iaload, 1) := by decide +kernel
theorem d_Wide_isBelow_10 : decode b_Wide_isBelow 10 = .ok (.aload_n 1, 1) := by decide +kernel
theorem d_Wide_isBelow_11 : decode b_Wide_isBelow 11 = .ok (.iload_n 2, 1) := by decide +kernel
theorem d_Wide_isBelow_12 : decode b_Wide_isBelow 12 = .ok (.iaload, 1) := by decide +kernel
theorem d_Wide_isBelow_13 : decode b_Wide_isBelow 13 = .ok (.if_icmp .eq 18, 3) := by decide +kernel
theorem d_Wide_isBelow_16 : decode b_Wide_isBelow 16 = .ok (.aload_n 0, 1) := by decide +kernel
theorem d_Wide_isBelow_17 : decode b_Wide_isBelow 17 = .ok (.iload_n 2, 1) := by decide +kernel
theorem d_Wide_isBelow_18 : decode b_Wide_isBelow 18 = .ok (.iaload, 1) := by decide +kernel
theorem d_Wide_isBelow_19 : decode b_Wide_isBelow 19 = .ok (.aload_n 1, 1) := by decide +kernel
theorem d_Wide_isBelow_20 : decode b_Wide_isBelow 20 = .ok (.iload_n 2, 1) := by decide +kernel
theorem d_Wide_isBelow_21 : decode b_Wide_isBelow 21 = .ok (.iaload, 1) := by decide +kernel
theorem d_Wide_isBelow_22 : decode b_Wide_isBelow 22 = .ok (.if_icmp .ge 7, 3) := by decide +kernel
theorem d_Wide_isBelow_25 : decode b_Wide_isBelow 25 = .ok (.iconst 1, 1) := by decide +kernel
theorem d_Wide_isBelow_26 : decode b_Wide_isBelow 26 = .ok (.goto 4, 3) := by decide +kernel
theorem d_Wide_isBelow_29 : decode b_Wide_isBelow 29 = .ok (.iconst 0, 1) := by decide +kernel
theorem d_Wide_isBelow_30 : decode b_Wide_isBelow 30 = .ok (.ireturn, 1) := by decide +kernel
theorem d_Wide_isBelow_31 : decode b_Wide_isBelow 31 = .ok (.iinc 2 (-1), 3) := by decide +kernel
theorem d_Wide_isBelow_34 : decode b_Wide_isBelow 34 = .ok (.goto (-31), 3) := by decide +kernel
theorem d_Wide_isBelow_37 : decode b_Wide_isBelow 37 = .ok (.iconst 0, 1) := by decide +kernel
theorem d_Wide_isBelow_38 : decode b_Wide_isBelow 38 = .ok (.ireturn, 1) := by decide +kernel
def mf_Wide_isBelow_L3 (nE : Nat) (nT : Nat) (cE : Nat → Int32) (cT : Nat → Int32) : Nat → Int32 → Option (Nat × Int32)
  | 0, _ => none
  | fu + 1, x2 => (if x2 < 0 then (some (1, x2)) else (sd_g (sd_ix x2 nE) (sd_g (sd_ix x2 nT) (if (cE x2.toNatClampNeg) = (cT x2.toNatClampNeg) then (sd_let (x2 + (-1 : Int32)) fun x2_1 => ((mf_Wide_isBelow_L3 nE nT cE cT fu) x2_1)) else (some (0, x2))))))
def mf_Wide_isBelow (F : Nat) (nE : Nat) (nT : Nat) (cE : Nat → Int32) (cT : Nat → Int32) : Option (Int32) :=
  (sd_b2 (mf_Wide_isBelow_L3 nE nT cE cT F (67 : Int32)) fun tg rx2 => (if tg = 0 then (sd_g (sd_ix rx2 nE) (sd_g (sd_ix rx2 nT) (sd_b1 (if (cT rx2.toNatClampNeg) ≤ (cE rx2.toNatClampNeg) then (some ((0 : Int32))) else (some ((1 : Int32)))) fun y => (sd_g (sd_b01 y) (some (y)))))) else (some ((0 : Int32)))))
abbrev rm_Wide_isBelow : Room := { frames := 0, cells := 0, slots := 0, locals := 0 }
set_option maxHeartbeats 4000000 in
set_option maxRecDepth 100000 in
theorem ct_Wide_isBelow (l : Launch) (D : va_G) (g : G4) (aE : Nat) (aT : Nat) (nE : Nat) (nT : Nat) (sz : Nat) (cE : Nat → Int32) (cT : Nat → Int32) (F : Nat) (res : Int32) (hm : mf_Wide_isBelow F nE nT cE cT = some res) : Met l y_Wide_isBelow (.code y_Wide_isBelow b_Wide_isBelow 3 (some .boolean) :: sd_tb) rm_Wide_isBelow (sd_PW D g [.ref aE, .ref aT] sz [(aE, aI g nE cE), (aT, aI g nT cT)]) (sd_Qi0 D g res [(aE, aI g nE cE), (aT, aI g nT cT)] (va_A [(aE, aI g nE cE), (aT, aI g nT cT)] sz)) 0 0 (va_A [(aE, aI g nE cE), (aT, aI g nT cT)] sz) := by
  refine sd_met (Qf := fun A => sd_Qi0 D g res [(aE, aI g nE cE), (aT, aI g nT cT)] A) (own := R_Wide) (by decide +kernel) rfl (Nat.le_of_ble_eq_true rfl) ?_
  intro p e s m args below meth c S hr hlk hK A hA Q hQ H locs hP hD hS ls hl
  have hx := S.1
  have hb := S.2.1
  have hml := S.2.2.1
  have hown := S.2.2.2.1
  have htt := sd_tt S
  replace hl : lv_has ls 3 [(0, .ref aE), (1, .ref aT)] := hl
  unfold mf_Wide_isBelow at hm
  refine lv_bipush (v := (67 : Int32)) hx hb d_Wide_isBelow_0 (by decide) ?_
  refine lv_istore_n (lv' := [(2, .int (67 : Int32)), (0, .ref aE), (1, .ref aT)]) hx hb d_Wide_isBelow_2 rfl hl (by decide) rfl (fun ls hl => ?_)
  have L3 : ∀ (fu : Nat) (x2 : Int32) (tg : Nat) (rx2 : Int32), mf_Wide_isBelow_L3 nE nT cE cT fu x2 = some (tg, rx2) → ∀ (H : Heap) (locs : List Loc) (ls : Array Slot), va_P D classes [(aE, aI g nE cE), (aT, aI g nT cT)] H → va_D A [(aE, aI g nE cE), (aT, aI g nT cT)] → va_S A s.heap H locs → lv_has ls 3 [(0, .ref aE), (1, .ref aT), (2, .int x2)] → (tg = 0 → ∀ (H : Heap) (locs : List Loc) (ls : Array Slot), va_P D classes [(aE, aI g nE cE), (aT, aI g nT cT)] H → va_D A [(aE, aI g nE cE), (aT, aI g nT cT)] → va_S A s.heap H locs → lv_has ls 3 [(0, .ref aE), (1, .ref aT), (2, .int rx2)] → W p l e rm_Wide_isBelow s m args below meth c H locs 0 0 Q (F0 m 16 ls [])) → (tg = 1 → ∀ (H : Heap) (locs : List Loc) (ls : Array Slot), va_P D classes [(aE, aI g nE cE), (aT, aI g nT cT)] H → va_D A [(aE, aI g nE cE), (aT, aI g nT cT)] → va_S A s.heap H locs → lv_has ls 3 [] → W p l e rm_Wide_isBelow s m args below meth c H locs 0 0 Q (F0 m 37 ls [])) → W p l e rm_Wide_isBelow s m args below meth c H locs 0 0 Q (F0 m 3 ls []) := by
    intro fu
    induction fu with
    | zero => intro x2 tg rx2 hm; exact absurd (show (none : Option (Nat × Int32)) = some (tg, rx2) from hm) (fun h => nomatch h)
    | succ fu ih =>
      intro x2 tg rx2 hm H locs ls hP hD hS hl kx16 kx37
      rw [mf_Wide_isBelow_L3] at hm
      refine lv_iload_n hx hb d_Wide_isBelow_3 rfl (lv_at hl 2 rfl) ?_
      refine lv_if_lt (tgt := 37) hx hb d_Wide_isBelow_4 (by decide) (fun hc => ?_) (fun hc => ?_)
      · have hm := sd_mt hc hm
        cases hm
        exact kx37 rfl H locs ls (hP.sub [0, 1] rfl) (hD.sub [0, 1] (by decide) rfl) hS (lv_sub hl [] rfl)
      · have hm := sd_mf hc hm
        refine lv_aload_n hx hb d_Wide_isBelow_7 rfl (lv_at hl 0 rfl) ?_
        refine lv_iload_n hx hb d_Wide_isBelow_8 rfl (lv_at hl 2 rfl) ?_
        obtain ⟨h_1, hm⟩ := sd_mg hm
        refine sd_iald hx hb hK hP 0 rfl h_1 d_Wide_isBelow_9 ?_
        refine lv_aload_n hx hb d_Wide_isBelow_10 rfl (lv_at hl 1 rfl) ?_
        refine lv_iload_n hx hb d_Wide_isBelow_11 rfl (lv_at hl 2 rfl) ?_
        obtain ⟨h_2, hm⟩ := sd_mg hm
        refine sd_iald hx hb hK hP 1 rfl h_2 d_Wide_isBelow_12 ?_
        refine lv_icmp_eq (tgt := 31) hx hb d_Wide_isBelow_13 (by decide) (fun hc => ?_) (fun hc => ?_)
        · have hm := sd_mt hc hm
          obtain ⟨x2_1, ex2_1, hm⟩ := sd_mlet hm
          refine lv_iinc (v := x2_1) (lv' := [(2, .int x2_1), (0, .ref aE), (1, .ref aT)]) hx hb d_Wide_isBelow_31 hl (k := 2) rfl (by rw [ex2_1]; rfl) (by decide) rfl (fun ls hl => ?_)
          refine lv_goto (tgt := 3) hx hb d_Wide_isBelow_34 (by decide) ?_
          exact ih x2_1 tg rx2 hm H locs ls (hP.sub [0, 1] rfl) (hD.sub [0, 1] (by decide) rfl) hS (lv_sub hl [1, 2, 0] rfl) kx16 kx37
        · have hm := sd_mf hc hm
          cases hm
          exact kx16 rfl H locs ls (hP.sub [0, 1] rfl) (hD.sub [0, 1] (by decide) rfl) hS (lv_sub hl [0, 1, 2] rfl)
  obtain ⟨tg, rx2, hc, hm⟩ := sd_mb2 hm
  refine L3 F (67 : Int32) tg rx2 hc H locs ls (hP.sub [0, 1] rfl) (hD.sub [0, 1] (by decide) rfl) hS (lv_sub hl [1, 2, 0] rfl) ?_ ?_
  · intro ht H locs ls hP hD hS hl
    have hm := sd_mt ht hm
    refine lv_aload_n hx hb d_Wide_isBelow_16 rfl (lv_at hl 0 rfl) ?_
    refine lv_iload_n hx hb d_Wide_isBelow_17 rfl (lv_at hl 2 rfl) ?_
    obtain ⟨h_3, hm⟩ := sd_mg hm
    refine sd_iald hx hb hK hP 0 rfl h_3 d_Wide_isBelow_18 ?_
    refine lv_aload_n hx hb d_Wide_isBelow_19 rfl (lv_at hl 1 rfl) ?_
    refine lv_iload_n hx hb d_Wide_isBelow_20 rfl (lv_at hl 2 rfl) ?_
    obtain ⟨h_4, hm⟩ := sd_mg hm
    refine sd_iald hx hb hK hP 1 rfl h_4 d_Wide_isBelow_21 ?_
    obtain ⟨y, hv, hm⟩ := sd_mb1 hm
    have J30_5 : ∀ (H : Heap) (locs : List Loc) (ls : Array Slot), va_P D classes [(aE, aI g nE cE), (aT, aI g nT cT)] H → va_D A [(aE, aI g nE cE), (aT, aI g nT cT)] → va_S A s.heap H locs → lv_has ls 3 [] → W p l e rm_Wide_isBelow s m args below meth c H locs 0 0 Q (F0 m 30 ls [.int y]) := by
      intro H locs ls hP hD hS hl
      obtain ⟨h_6, hm⟩ := sd_mg hm
      exact sd_z0ret hQ hx hb hr hlk (sd_zb h_6) hK (hP.sub [0, 1] rfl) (hD.sub [0, 1] (by decide) rfl) hS (Option.some.inj hm).symm d_Wide_isBelow_30
    replace hm := hv
    refine lv_icmp_ge (tgt := 29) hx hb d_Wide_isBelow_22 (by decide) (fun hc => ?_) (fun hc => ?_)
    · have hm := sd_mt hc hm
      refine lv_iconst (v := (0 : Int32)) hx hb d_Wide_isBelow_29 (by decide) ?_
      cases hm
      exact J30_5 H locs ls (hP.sub [0, 1] rfl) (hD.sub [0, 1] (by decide) rfl) hS (lv_sub hl [] rfl)
    · have hm := sd_mf hc hm
      refine lv_iconst (v := (1 : Int32)) hx hb d_Wide_isBelow_25 (by decide) ?_
      refine lv_goto (tgt := 30) hx hb d_Wide_isBelow_26 (by decide) ?_
      cases hm
      exact J30_5 H locs ls (hP.sub [0, 1] rfl) (hD.sub [0, 1] (by decide) rfl) hS (lv_sub hl [] rfl)
  · intro ht H locs ls hP hD hS hl
    have hm := sd_mf (by rw [ht]; decide) hm
    refine lv_iconst (v := (0 : Int32)) hx hb d_Wide_isBelow_37 (by decide) ?_
    exact sd_z0ret hQ hx hb hr hlk rfl hK (hP.sub [0, 1] rfl) (hD.sub [0, 1] (by decide) rfl) hS (Option.some.inj hm).symm d_Wide_isBelow_38
theorem d_Wide_nextPlace_0 : decode b_Wide_nextPlace 0 = .ok (.iconst 0, 1) := by decide +kernel
theorem d_Wide_nextPlace_1 : decode b_Wide_nextPlace 1 = .ok (.istore_n 1, 1) := by decide +kernel
theorem d_Wide_nextPlace_2 : decode b_Wide_nextPlace 2 = .ok (.iconst 0, 1) := by decide +kernel
theorem d_Wide_nextPlace_3 : decode b_Wide_nextPlace 3 = .ok (.istore_n 2, 1) := by decide +kernel
theorem d_Wide_nextPlace_4 : decode b_Wide_nextPlace 4 = .ok (.iload_n 2, 1) := by decide +kernel
theorem d_Wide_nextPlace_5 : decode b_Wide_nextPlace 5 = .ok (.bipush 64, 2) := by decide +kernel
theorem d_Wide_nextPlace_7 : decode b_Wide_nextPlace 7 = .ok (.if_icmp .ge 30, 3) := by decide +kernel
theorem d_Wide_nextPlace_10 : decode b_Wide_nextPlace 10 = .ok (.iload_n 1, 1) := by decide +kernel
theorem d_Wide_nextPlace_11 : decode b_Wide_nextPlace 11 = .ok (.aload_n 0, 1) := by decide +kernel
theorem d_Wide_nextPlace_12 : decode b_Wide_nextPlace 12 = .ok (.iload_n 2, 1) := by decide +kernel
theorem d_Wide_nextPlace_13 : decode b_Wide_nextPlace 13 = .ok (.iaload, 1) := by decide +kernel
theorem d_Wide_nextPlace_14 : decode b_Wide_nextPlace 14 = .ok (.bipush 10, 2) := by decide +kernel
theorem d_Wide_nextPlace_16 : decode b_Wide_nextPlace 16 = .ok (.imul, 1) := by decide +kernel
theorem d_Wide_nextPlace_17 : decode b_Wide_nextPlace 17 = .ok (.iadd, 1) := by decide +kernel
theorem d_Wide_nextPlace_18 : decode b_Wide_nextPlace 18 = .ok (.istore_n 1, 1) := by decide +kernel
theorem d_Wide_nextPlace_19 : decode b_Wide_nextPlace 19 = .ok (.aload_n 0, 1) := by decide +kernel
theorem d_Wide_nextPlace_20 : decode b_Wide_nextPlace 20 = .ok (.iload_n 2, 1) := by decide +kernel
theorem d_Wide_nextPlace_21 : decode b_Wide_nextPlace 21 = .ok (.iload_n 1, 1) := by decide +kernel
theorem d_Wide_nextPlace_22 : decode b_Wide_nextPlace 22 = .ok (.ldc 11, 2) := by decide +kernel
theorem d_Wide_nextPlace_24 : decode b_Wide_nextPlace 24 = .ok (.iand, 1) := by decide +kernel
theorem d_Wide_nextPlace_25 : decode b_Wide_nextPlace 25 = .ok (.iastore, 1) := by decide +kernel
theorem d_Wide_nextPlace_26 : decode b_Wide_nextPlace 26 = .ok (.iload_n 1, 1) := by decide +kernel
theorem d_Wide_nextPlace_27 : decode b_Wide_nextPlace 27 = .ok (.bipush 16, 2) := by decide +kernel
theorem d_Wide_nextPlace_29 : decode b_Wide_nextPlace 29 = .ok (.ishr, 1) := by decide +kernel
theorem d_Wide_nextPlace_30 : decode b_Wide_nextPlace 30 = .ok (.istore_n 1, 1) := by decide +kernel
theorem d_Wide_nextPlace_31 : decode b_Wide_nextPlace 31 = .ok (.iinc 2 1, 3) := by decide +kernel
theorem d_Wide_nextPlace_34 : decode b_Wide_nextPlace 34 = .ok (.goto (-30), 3) := by decide +kernel
theorem d_Wide_nextPlace_37 : decode b_Wide_nextPlace 37 = .ok (.iload_n 1, 1) := by decide +kernel
theorem d_Wide_nextPlace_38 : decode b_Wide_nextPlace 38 = .ok (.ireturn, 1) := by decide +kernel
def mf_Wide_nextPlace_L4 (nE : Nat) : Nat → Int32 → Int32 → (Nat → Int32) → Option (Int32 × (Nat → Int32))
  | 0, _, _, _ => none
  | fu + 1, x1, x2, uaE => (if (64 : Int32) ≤ x2 then (some (x1, uaE)) else (sd_g (sd_ix x2 nE) (sd_let ((x1 + ((uaE x2.toNatClampNeg) * (10 : Int32)))) fun x1_1 => (sd_g (sd_ix x2 nE) (sd_let (upd uaE x2.toNatClampNeg (x1_1 &&& (65535 : Int32))) fun uaE_1 => (sd_let ((x1_1 >>> ((16 : Int32) &&& 31))) fun x1_2 => (sd_let (x2 + (1 : Int32)) fun x2_1 => ((mf_Wide_nextPlace_L4 nE fu) x1_2 x2_1 uaE_1))))))))
def mf_Wide_nextPlace (F : Nat) (nE : Nat) (cE : Nat → Int32) : Option (Int32 × (Nat → Int32)) :=
  (sd_b2 (mf_Wide_nextPlace_L4 nE F (0 : Int32) (0 : Int32) cE) fun rx1 ruaE => (some (rx1, ruaE)))
abbrev rm_Wide_nextPlace : Room := { frames := 0, cells := 0, slots := 0, locals := 0 }
set_option maxHeartbeats 4000000 in
set_option maxRecDepth 100000 in
theorem ct_Wide_nextPlace (l : Launch) (D : va_G) (g : G4) (aE : Nat) (nE : Nat) (sz : Nat) (cE : Nat → Int32) (F : Nat) (res : Int32 × (Nat → Int32)) (hm : mf_Wide_nextPlace F nE cE = some res) : Met l y_Wide_nextPlace (.code y_Wide_nextPlace b_Wide_nextPlace 3 (some .int) :: sd_tb) rm_Wide_nextPlace (sd_PW D g [.ref aE] sz [(aE, aI g nE cE)]) (sd_Qi1 D g res (fun u : (Nat → Int32) => [(aE, aI g nE u)]) (va_A [(aE, aI g nE cE)] sz)) 0 0 (va_A [(aE, aI g nE cE)] sz) := by
  refine sd_met (Qf := fun A => sd_Qi1 D g res (fun u : (Nat → Int32) => [(aE, aI g nE u)]) A) (own := R_Wide) (by decide +kernel) rfl (Nat.le_of_ble_eq_true rfl) ?_
  intro p e s m args below meth c S hr hlk hK A hA Q hQ H locs hP hD hS ls hl
  have hx := S.1
  have hb := S.2.1
  have hml := S.2.2.1
  have hown := S.2.2.2.1
  have htt := sd_tt S
  replace hl : lv_has ls 3 [(0, .ref aE)] := hl
  unfold mf_Wide_nextPlace at hm
  refine lv_iconst (v := (0 : Int32)) hx hb d_Wide_nextPlace_0 (by decide) ?_
  refine lv_istore_n (lv' := [(1, .int (0 : Int32)), (0, .ref aE)]) hx hb d_Wide_nextPlace_1 rfl hl (by decide) rfl (fun ls hl => ?_)
  refine lv_iconst (v := (0 : Int32)) hx hb d_Wide_nextPlace_2 (by decide) ?_
  refine lv_istore_n (lv' := [(2, .int (0 : Int32)), (1, .int (0 : Int32)), (0, .ref aE)]) hx hb d_Wide_nextPlace_3 rfl hl (by decide) rfl (fun ls hl => ?_)
  have L4 : ∀ (fu : Nat) (x1 : Int32) (x2 : Int32) (uaE : Nat → Int32) (rx1 : Int32) (ruaE : Nat → Int32), mf_Wide_nextPlace_L4 nE fu x1 x2 uaE = some (rx1, ruaE) → ∀ (H : Heap) (locs : List Loc) (ls : Array Slot), va_P D classes [(aE, aI g nE uaE)] H → va_D A [(aE, aI g nE uaE)] → va_S A s.heap H locs → lv_has ls 3 [(0, .ref aE), (1, .int x1), (2, .int x2)] → (∀ (H : Heap) (locs : List Loc) (ls : Array Slot), va_P D classes [(aE, aI g nE ruaE)] H → va_D A [(aE, aI g nE ruaE)] → va_S A s.heap H locs → lv_has ls 3 [(1, .int rx1)] → W p l e rm_Wide_nextPlace s m args below meth c H locs 0 0 Q (F0 m 37 ls [])) → W p l e rm_Wide_nextPlace s m args below meth c H locs 0 0 Q (F0 m 4 ls []) := by
    intro fu
    induction fu with
    | zero => intro x1 x2 uaE rx1 ruaE hm; exact absurd (show (none : Option (Int32 × (Nat → Int32))) = some (rx1, ruaE) from hm) (fun h => nomatch h)
    | succ fu ih =>
      intro x1 x2 uaE rx1 ruaE hm H locs ls hP hD hS hl kx37
      rw [mf_Wide_nextPlace_L4] at hm
      refine lv_iload_n hx hb d_Wide_nextPlace_4 rfl (lv_at hl 2 rfl) ?_
      refine lv_bipush (v := (64 : Int32)) hx hb d_Wide_nextPlace_5 (by decide) ?_
      refine lv_icmp_ge (tgt := 37) hx hb d_Wide_nextPlace_7 (by decide) (fun hc => ?_) (fun hc => ?_)
      · have hm := sd_mt hc hm
        cases hm
        exact kx37 H locs ls (hP.sub [0] rfl) (hD.sub [0] (by decide) rfl) hS (lv_sub hl [1] rfl)
      · have hm := sd_mf hc hm
        refine lv_iload_n hx hb d_Wide_nextPlace_10 rfl (lv_at hl 1 rfl) ?_
        refine lv_aload_n hx hb d_Wide_nextPlace_11 rfl (lv_at hl 0 rfl) ?_
        refine lv_iload_n hx hb d_Wide_nextPlace_12 rfl (lv_at hl 2 rfl) ?_
        obtain ⟨h_1, hm⟩ := sd_mg hm
        refine sd_iald hx hb hK hP 0 rfl h_1 d_Wide_nextPlace_13 ?_
        refine lv_bipush (v := (10 : Int32)) hx hb d_Wide_nextPlace_14 (by decide) ?_
        refine lv_imul hx hb d_Wide_nextPlace_16 ?_
        refine lv_iadd hx hb d_Wide_nextPlace_17 ?_
        obtain ⟨x1_1, ex1_1, hm⟩ := sd_mlet hm
        refine sd_topi ex1_1 ?_
        refine lv_istore_n (lv' := [(1, .int x1_1), (0, .ref aE), (2, .int x2)]) hx hb d_Wide_nextPlace_18 rfl hl (by decide) rfl (fun ls hl => ?_)
        refine lv_aload_n hx hb d_Wide_nextPlace_19 rfl (lv_at hl 1 rfl) ?_
        refine lv_iload_n hx hb d_Wide_nextPlace_20 rfl (lv_at hl 2 rfl) ?_
        refine lv_iload_n hx hb d_Wide_nextPlace_21 rfl (lv_at hl 0 rfl) ?_
        refine sd_ldc (v := (65535 : Int32)) hx hb hown (htt _ km_Wide_11) d_Wide_nextPlace_22 ?_
        refine lv_iand hx hb d_Wide_nextPlace_24 ?_
        obtain ⟨h_2, hm⟩ := sd_mg hm
        obtain ⟨uaE_1, euaE_1, hm⟩ := sd_mlet hm
        refine sd_iast (f2 := uaE_1) (ws2 := [(aE, aI g nE uaE_1)]) hx hb hK hP hD hS 0 rfl h_2 euaE_1 rfl d_Wide_nextPlace_25 (fun H locs hP hD hS => ?_)
        refine lv_iload_n hx hb d_Wide_nextPlace_26 rfl (lv_at hl 0 rfl) ?_
        refine lv_bipush (v := (16 : Int32)) hx hb d_Wide_nextPlace_27 (by decide) ?_
        refine lv_ishr hx hb d_Wide_nextPlace_29 ?_
        obtain ⟨x1_2, ex1_2, hm⟩ := sd_mlet hm
        refine sd_topi ex1_2 ?_
        refine lv_istore_n (lv' := [(1, .int x1_2), (0, .ref aE), (2, .int x2)]) hx hb d_Wide_nextPlace_30 rfl hl (by decide) rfl (fun ls hl => ?_)
        obtain ⟨x2_1, ex2_1, hm⟩ := sd_mlet hm
        refine lv_iinc (v := x2_1) (lv' := [(2, .int x2_1), (1, .int x1_2), (0, .ref aE)]) hx hb d_Wide_nextPlace_31 hl (k := 2) rfl (by rw [ex2_1]; rfl) (by decide) rfl (fun ls hl => ?_)
        refine lv_goto (tgt := 4) hx hb d_Wide_nextPlace_34 (by decide) ?_
        exact ih x1_2 x2_1 uaE_1 rx1 ruaE hm H locs ls (hP.sub [0] rfl) (hD.sub [0] (by decide) rfl) hS (lv_sub hl [2, 1, 0] rfl) kx37
  obtain ⟨rx1, ruaE, hc, hm⟩ := sd_mb2 hm
  refine L4 F (0 : Int32) (0 : Int32) cE rx1 ruaE hc H locs ls (hP.sub [0] rfl) (hD.sub [0] (by decide) rfl) hS (lv_sub hl [2, 1, 0] rfl) ?_
  intro H locs ls hP hD hS hl
  refine lv_iload_n hx hb d_Wide_nextPlace_37 rfl (lv_at hl 0 rfl) ?_
  exact sd_i1ret (u := (ruaE)) hQ hx hb hr hlk hK (hP.sub [0] rfl) (hD.sub [0] (by decide) rfl) hS (Option.some.inj hm).symm d_Wide_nextPlace_38
theorem d_Wide_bitLength_0 : decode b_Wide_bitLength 0 = .ok (.aload_n 0, 1) := by decide +kernel
theorem d_Wide_bitLength_1 : decode b_Wide_bitLength 1 = .ok (.invokestatic 28, 3) := by decide +kernel
theorem d_Wide_bitLength_4 : decode b_Wide_bitLength 4 = .ok (.istore_n 1, 1) := by decide +kernel
theorem d_Wide_bitLength_5 : decode b_Wide_bitLength 5 = .ok (.iconst 0, 1) := by decide +kernel
theorem d_Wide_bitLength_6 : decode b_Wide_bitLength 6 = .ok (.istore_n 2, 1) := by decide +kernel
theorem d_Wide_bitLength_7 : decode b_Wide_bitLength 7 = .ok (.iconst 0, 1) := by decide +kernel
theorem d_Wide_bitLength_8 : decode b_Wide_bitLength 8 = .ok (.istore_n 3, 1) := by decide +kernel
theorem d_Wide_bitLength_9 : decode b_Wide_bitLength 9 = .ok (.iload_n 3, 1) := by decide +kernel
theorem d_Wide_bitLength_10 : decode b_Wide_bitLength 10 = .ok (.bipush 16, 2) := by decide +kernel
theorem d_Wide_bitLength_12 : decode b_Wide_bitLength 12 = .ok (.if_icmp .ge 33, 3) := by decide +kernel
theorem d_Wide_bitLength_15 : decode b_Wide_bitLength 15 = .ok (.iload_n 1, 1) := by decide +kernel
theorem d_Wide_bitLength_16 : decode b_Wide_bitLength 16 = .ok (.ifCond .lt 29, 3) := by decide +kernel
theorem d_Wide_bitLength_19 : decode b_Wide_bitLength 19 = .ok (.aload_n 0, 1) := by decide +kernel
theorem d_Wide_bitLength_20 : decode b_Wide_bitLength 20 = .ok (.iload_n 1, 1) := by decide +kernel
theorem d_Wide_bitLength_21 : decode b_Wide_bitLength 21 = .ok (.iaload, 1) := by decide +kernel
theorem d_Wide_bitLength_22 : decode b_Wide_bitLength 22 = .ok (.iload_n 3, 1) := by decide +kernel
theorem d_Wide_bitLength_23 : decode b_Wide_bitLength 23 = .ok (.ishr, 1) := by decide +kernel
theorem d_Wide_bitLength_24 : decode b_Wide_bitLength 24 = .ok (.iconst 1, 1) := by decide +kernel
theorem d_Wide_bitLength_25 : decode b_Wide_bitLength 25 = .ok (.iand, 1) := by decide +kernel
theorem d_Wide_bitLength_26 : decode b_Wide_bitLength 26 = .ok (.iconst 1, 1) := by decide +kernel
theorem d_Wide_bitLength_27 : decode b_Wide_bitLength 27 = .ok (.if_icmp .ne 12, 3) := by decide +kernel
theorem d_Wide_bitLength_30 : decode b_Wide_bitLength 30 = .ok (.iload_n 1, 1) := by decide +kernel
theorem d_Wide_bitLength_31 : decode b_Wide_bitLength 31 = .ok (.bipush 16, 2) := by decide +kernel
theorem d_Wide_bitLength_33 : decode b_Wide_bitLength 33 = .ok (.imul, 1) := by decide +kernel
theorem d_Wide_bitLength_34 : decode b_Wide_bitLength 34 = .ok (.iload_n 3, 1) := by decide +kernel
theorem d_Wide_bitLength_35 : decode b_Wide_bitLength 35 = .ok (.iadd, 1) := by decide +kernel
theorem d_Wide_bitLength_36 : decode b_Wide_bitLength 36 = .ok (.iconst 1, 1) := by decide +kernel
theorem d_Wide_bitLength_37 : decode b_Wide_bitLength 37 = .ok (.iadd, 1) := by decide +kernel
theorem d_Wide_bitLength_38 : decode b_Wide_bitLength 38 = .ok (.istore_n 2, 1) := by decide +kernel
theorem d_Wide_bitLength_39 : decode b_Wide_bitLength 39 = .ok (.iinc 3 1, 3) := by decide +kernel
theorem d_Wide_bitLength_42 : decode b_Wide_bitLength 42 = .ok (.goto (-33), 3) := by decide +kernel
theorem d_Wide_bitLength_45 : decode b_Wide_bitLength 45 = .ok (.iload_n 2, 1) := by decide +kernel
theorem d_Wide_bitLength_46 : decode b_Wide_bitLength 46 = .ok (.ireturn, 1) := by decide +kernel
def mf_Wide_bitLength_L9 (r : Int32) (nE : Nat) (cE : Nat → Int32) : Nat → Int32 → Int32 → Option (Int32)
  | 0, _, _ => none
  | fu + 1, x2, x3 => (if (16 : Int32) ≤ x3 then (some (x2)) else (if r < 0 then (some (x2)) else (sd_g (sd_ix r nE) (sd_b1 (if (((cE r.toNatClampNeg) >>> (x3 &&& 31)) &&& (1 : Int32)) = (1 : Int32) then (sd_let ((((r * (16 : Int32)) + x3) + (1 : Int32))) fun x2_2 => (some (x2_2))) else (some (x2))) fun x2_1 => (sd_let (x3 + (1 : Int32)) fun x3_1 => ((mf_Wide_bitLength_L9 r nE cE fu) x2_1 x3_1))))))
def mf_Wide_bitLength (F : Nat) (nE : Nat) (cE : Nat → Int32) : Option (Int32) :=
  (sd_b1 (mf_Wide_topOf F nE cE) fun r => (sd_b1 (mf_Wide_bitLength_L9 r nE cE F (0 : Int32) (0 : Int32)) fun rx2 => (some (rx2))))
abbrev rm_Wide_bitLength : Room := { frames := 1, cells := 0, slots := 0, locals := 21 }
set_option maxHeartbeats 4000000 in
set_option maxRecDepth 100000 in
theorem ct_Wide_bitLength (l : Launch) (D : va_G) (g : G4) (aE : Nat) (nE : Nat) (sz : Nat) (cE : Nat → Int32) (F : Nat) (res : Int32) (hm : mf_Wide_bitLength F nE cE = some res) : Met l y_Wide_bitLength (.code y_Wide_bitLength b_Wide_bitLength 4 (some .int) :: sd_tb) rm_Wide_bitLength (sd_PW D g [.ref aE] sz [(aE, aI g nE cE)]) (sd_Qi0 D g res [(aE, aI g nE cE)] (va_A [(aE, aI g nE cE)] sz)) 0 0 (va_A [(aE, aI g nE cE)] sz) := by
  refine sd_met (Qf := fun A => sd_Qi0 D g res [(aE, aI g nE cE)] A) (own := R_Wide) (by decide +kernel) rfl (Nat.le_of_ble_eq_true rfl) ?_
  intro p e s m args below meth c S hr hlk hK A hA Q hQ H locs hP hD hS ls hl
  have hx := S.1
  have hb := S.2.1
  have hml := S.2.2.1
  have hown := S.2.2.2.1
  have htt := sd_tt S
  replace hl : lv_has ls 4 [(0, .ref aE)] := hl
  unfold mf_Wide_bitLength at hm
  refine lv_aload_n hx hb d_Wide_bitLength_0 rfl (lv_at hl 0 rfl) ?_
  obtain ⟨r, hc, hm⟩ := sd_mb1 hm
  refine sd_ci0 (wr := []) (w2 := [(aE, aI g nE cE)]) (sd_runS (rest := []) (As := [.ref aE]) S (ct_Wide_topOf l D g aE nE (H.size) cE F (r) hc) kl_Wide_28 (by decide) (by decide) hK hP hD [0] rfl (by decide) rfl hl d_Wide_bitLength_1 rfl (Nat.le_of_ble_eq_true rfl) ⟨Nat.zero_le _, Nat.zero_le _⟩) hP hD hS hA [0] [] rfl rfl (by decide) (by decide) rfl (fun H locs hP hD hS => ?_)
  refine W.eq (g2 := F0 m 4 ls [.int r]) rfl ?_
  refine lv_istore_n (lv' := [(1, .int r), (0, .ref aE)]) hx hb d_Wide_bitLength_4 rfl hl (by decide) rfl (fun ls hl => ?_)
  refine lv_iconst (v := (0 : Int32)) hx hb d_Wide_bitLength_5 (by decide) ?_
  refine lv_istore_n (lv' := [(2, .int (0 : Int32)), (1, .int r), (0, .ref aE)]) hx hb d_Wide_bitLength_6 rfl hl (by decide) rfl (fun ls hl => ?_)
  refine lv_iconst (v := (0 : Int32)) hx hb d_Wide_bitLength_7 (by decide) ?_
  refine lv_istore_n (lv' := [(3, .int (0 : Int32)), (2, .int (0 : Int32)), (1, .int r), (0, .ref aE)]) hx hb d_Wide_bitLength_8 rfl hl (by decide) rfl (fun ls hl => ?_)
  have L9 : ∀ (fu : Nat) (x2 : Int32) (x3 : Int32) (rx2 : Int32), mf_Wide_bitLength_L9 r nE cE fu x2 x3 = some (rx2) → ∀ (H : Heap) (locs : List Loc) (ls : Array Slot), va_P D classes [(aE, aI g nE cE)] H → va_D A [(aE, aI g nE cE)] → va_S A s.heap H locs → lv_has ls 4 [(0, .ref aE), (1, .int r), (2, .int x2), (3, .int x3)] → (∀ (H : Heap) (locs : List Loc) (ls : Array Slot), va_P D classes [(aE, aI g nE cE)] H → va_D A [(aE, aI g nE cE)] → va_S A s.heap H locs → lv_has ls 4 [(2, .int rx2)] → W p l e rm_Wide_bitLength s m args below meth c H locs 0 0 Q (F0 m 45 ls [])) → W p l e rm_Wide_bitLength s m args below meth c H locs 0 0 Q (F0 m 9 ls []) := by
    intro fu
    induction fu with
    | zero => intro x2 x3 rx2 hm; exact absurd (show (none : Option (Int32)) = some (rx2) from hm) (fun h => nomatch h)
    | succ fu ih =>
      intro x2 x3 rx2 hm H locs ls hP hD hS hl kx45
      rw [mf_Wide_bitLength_L9] at hm
      refine lv_iload_n hx hb d_Wide_bitLength_9 rfl (lv_at hl 3 rfl) ?_
      refine lv_bipush (v := (16 : Int32)) hx hb d_Wide_bitLength_10 (by decide) ?_
      refine lv_icmp_ge (tgt := 45) hx hb d_Wide_bitLength_12 (by decide) (fun hc => ?_) (fun hc => ?_)
      · have hm := sd_mt hc hm
        cases hm
        exact kx45 H locs ls (hP.sub [0] rfl) (hD.sub [0] (by decide) rfl) hS (lv_sub hl [2] rfl)
      · have hm := sd_mf hc hm
        refine lv_iload_n hx hb d_Wide_bitLength_15 rfl (lv_at hl 1 rfl) ?_
        refine lv_if_lt (tgt := 45) hx hb d_Wide_bitLength_16 (by decide) (fun hc => ?_) (fun hc => ?_)
        · have hm := sd_mt hc hm
          cases hm
          exact kx45 H locs ls (hP.sub [0] rfl) (hD.sub [0] (by decide) rfl) hS (lv_sub hl [2] rfl)
        · have hm := sd_mf hc hm
          refine lv_aload_n hx hb d_Wide_bitLength_19 rfl (lv_at hl 0 rfl) ?_
          refine lv_iload_n hx hb d_Wide_bitLength_20 rfl (lv_at hl 1 rfl) ?_
          obtain ⟨h_1, hm⟩ := sd_mg hm
          refine sd_iald hx hb hK hP 0 rfl h_1 d_Wide_bitLength_21 ?_
          refine lv_iload_n hx hb d_Wide_bitLength_22 rfl (lv_at hl 3 rfl) ?_
          refine lv_ishr hx hb d_Wide_bitLength_23 ?_
          refine lv_iconst (v := (1 : Int32)) hx hb d_Wide_bitLength_24 (by decide) ?_
          refine lv_iand hx hb d_Wide_bitLength_25 ?_
          refine lv_iconst (v := (1 : Int32)) hx hb d_Wide_bitLength_26 (by decide) ?_
          obtain ⟨x2_1, hv, hm⟩ := sd_mb1 hm
          have J39_2 : ∀ (H : Heap) (locs : List Loc) (ls : Array Slot), va_P D classes [(aE, aI g nE cE)] H → va_D A [(aE, aI g nE cE)] → va_S A s.heap H locs → lv_has ls 4 [(0, .ref aE), (1, .int r), (2, .int x2_1), (3, .int x3)] → W p l e rm_Wide_bitLength s m args below meth c H locs 0 0 Q (F0 m 39 ls []) := by
            intro H locs ls hP hD hS hl
            obtain ⟨x3_1, ex3_1, hm⟩ := sd_mlet hm
            refine lv_iinc (v := x3_1) (lv' := [(3, .int x3_1), (0, .ref aE), (1, .int r), (2, .int x2_1)]) hx hb d_Wide_bitLength_39 hl (k := 3) rfl (by rw [ex3_1]; rfl) (by decide) rfl (fun ls hl => ?_)
            refine lv_goto (tgt := 9) hx hb d_Wide_bitLength_42 (by decide) ?_
            exact ih x2_1 x3_1 rx2 hm H locs ls (hP.sub [0] rfl) (hD.sub [0] (by decide) rfl) hS (lv_sub hl [1, 2, 3, 0] rfl) kx45
          replace hm := hv
          refine lv_icmp_ne (tgt := 39) hx hb d_Wide_bitLength_27 (by decide) (fun hc => ?_) (fun hc => ?_)
          · have hm := sd_mf hc hm
            cases hm
            exact J39_2 H locs ls (hP.sub [0] rfl) (hD.sub [0] (by decide) rfl) hS (lv_sub hl [0, 1, 2, 3] rfl)
          · have hm := sd_mt hc hm
            refine lv_iload_n hx hb d_Wide_bitLength_30 rfl (lv_at hl 1 rfl) ?_
            refine lv_bipush (v := (16 : Int32)) hx hb d_Wide_bitLength_31 (by decide) ?_
            refine lv_imul hx hb d_Wide_bitLength_33 ?_
            refine lv_iload_n hx hb d_Wide_bitLength_34 rfl (lv_at hl 3 rfl) ?_
            refine lv_iadd hx hb d_Wide_bitLength_35 ?_
            refine lv_iconst (v := (1 : Int32)) hx hb d_Wide_bitLength_36 (by decide) ?_
            refine lv_iadd hx hb d_Wide_bitLength_37 ?_
            obtain ⟨x2_2, ex2_2, hm⟩ := sd_mlet hm
            refine sd_topi ex2_2 ?_
            refine lv_istore_n (lv' := [(2, .int x2_2), (0, .ref aE), (1, .int r), (3, .int x3)]) hx hb d_Wide_bitLength_38 rfl hl (by decide) rfl (fun ls hl => ?_)
            cases hm
            exact J39_2 H locs ls (hP.sub [0] rfl) (hD.sub [0] (by decide) rfl) hS (lv_sub hl [1, 2, 0, 3] rfl)
  obtain ⟨rx2, hc, hm⟩ := sd_mb1 hm
  refine L9 F (0 : Int32) (0 : Int32) rx2 hc H locs ls (hP.sub [0] rfl) (hD.sub [0] (by decide) rfl) hS (lv_sub hl [3, 2, 1, 0] rfl) ?_
  intro H locs ls hP hD hS hl
  refine lv_iload_n hx hb d_Wide_bitLength_45 rfl (lv_at hl 0 rfl) ?_
  exact sd_i0ret hQ hx hb hr hlk hK (hP.sub [0] rfl) (hD.sub [0] (by decide) rfl) hS (Option.some.inj hm).symm d_Wide_bitLength_46
theorem d_Wide_bits_0 : decode b_Wide_bits 0 = .ok (.lconst 0, 1) := by decide +kernel
theorem d_Wide_bits_1 : decode b_Wide_bits 1 = .ok (.lstore_n 3, 1) := by decide +kernel
theorem d_Wide_bits_2 : decode b_Wide_bits 2 = .ok (.iload_n 1, 1) := by decide +kernel
theorem d_Wide_bits_3 : decode b_Wide_bits 3 = .ok (.istore 5, 2) := by decide +kernel
theorem d_Wide_bits_5 : decode b_Wide_bits 5 = .ok (.iload 5, 2) := by decide +kernel
theorem d_Wide_bits_7 : decode b_Wide_bits 7 = .ok (.iload_n 1, 1) := by decide +kernel
theorem d_Wide_bits_8 : decode b_Wide_bits 8 = .ok (.iload_n 2, 1) := by decide +kernel
theorem d_Wide_bits_9 : decode b_Wide_bits 9 = .ok (.isub, 1) := by decide +kernel
theorem d_Wide_bits_10 : decode b_Wide_bits 10 = .ok (.if_icmp .le 35, 3) := by decide +kernel
theorem d_Wide_bits_13 : decode b_Wide_bits 13 = .ok (.iload 5, 2) := by decide +kernel
theorem d_Wide_bits_15 : decode b_Wide_bits 15 = .ok (.ifCond .lt 30, 3) := by decide +kernel
theorem d_Wide_bits_18 : decode b_Wide_bits 18 = .ok (.lload_n 3, 1) := by decide +kernel
theorem d_Wide_bits_19 : decode b_Wide_bits 19 = .ok (.iconst 1, 1) := by decide +kernel
theorem d_Wide_bits_20 : decode b_Wide_bits 20 = .ok (.lshl, 1) := by decide +kernel
theorem d_Wide_bits_21 : decode b_Wide_bits 21 = .ok (.aload_n 0, 1) := by decide +kernel
theorem d_Wide_bits_22 : decode b_Wide_bits 22 = .ok (.iload 5, 2) := by decide +kernel
theorem d_Wide_bits_24 : decode b_Wide_bits 24 = .ok (.bipush 16, 2) := by decide +kernel
theorem d_Wide_bits_26 : decode b_Wide_bits 26 = .ok (.idiv, 1) := by decide +kernel
theorem d_Wide_bits_27 : decode b_Wide_bits 27 = .ok (.iaload, 1) := by decide +kernel
theorem d_Wide_bits_28 : decode b_Wide_bits 28 = .ok (.iload 5, 2) := by decide +kernel
theorem d_Wide_bits_30 : decode b_Wide_bits 30 = .ok (.bipush 16, 2) := by decide +kernel
theorem d_Wide_bits_32 : decode b_Wide_bits 32 = .ok (.irem, 1) := by decide +kernel
theorem d_Wide_bits_33 : decode b_Wide_bits 33 = .ok (.ishr, 1) := by decide +kernel
theorem d_Wide_bits_34 : decode b_Wide_bits 34 = .ok (.iconst 1, 1) := by decide +kernel
theorem d_Wide_bits_35 : decode b_Wide_bits 35 = .ok (.iand, 1) := by decide +kernel
theorem d_Wide_bits_36 : decode b_Wide_bits 36 = .ok (.i2l, 1) := by decide +kernel
theorem d_Wide_bits_37 : decode b_Wide_bits 37 = .ok (.lor, 1) := by decide +kernel
theorem d_Wide_bits_38 : decode b_Wide_bits 38 = .ok (.lstore_n 3, 1) := by decide +kernel
theorem d_Wide_bits_39 : decode b_Wide_bits 39 = .ok (.iinc 5 (-1), 3) := by decide +kernel
theorem d_Wide_bits_42 : decode b_Wide_bits 42 = .ok (.goto (-37), 3) := by decide +kernel
theorem d_Wide_bits_45 : decode b_Wide_bits 45 = .ok (.lload_n 3, 1) := by decide +kernel
theorem d_Wide_bits_46 : decode b_Wide_bits 46 = .ok (.lreturn, 1) := by decide +kernel
def mf_Wide_bits_L5 (vFirst : Int32) (vCount : Int32) (nE : Nat) (cE : Nat → Int32) : Nat → Int64 → Int32 → Option (Int64)
  | 0, _, _ => none
  | fu + 1, x3, x5 => (if x5 ≤ (vFirst - vCount) then (some (x3)) else (if x5 < 0 then (some (x3)) else (sd_g (sd_ix (x5 / (16 : Int32)) nE) (sd_let (((x3 <<< ((1 : Int32).toInt64 &&& 63)) ||| ((((cE (x5 / (16 : Int32)).toNatClampNeg) >>> ((x5 - x5 / (16 : Int32) * (16 : Int32)) &&& 31)) &&& (1 : Int32)).toInt64))) fun x3_1 => (sd_let (x5 + (-1 : Int32)) fun x5_1 => ((mf_Wide_bits_L5 vFirst vCount nE cE fu) x3_1 x5_1))))))
def mf_Wide_bits (F : Nat) (nE : Nat) (vFirst : Int32) (vCount : Int32) (cE : Nat → Int32) : Option (Int64) :=
  (sd_b1 (mf_Wide_bits_L5 vFirst vCount nE cE F (0 : Int64) vFirst) fun rx3 => (some (rx3)))
abbrev rm_Wide_bits : Room := { frames := 0, cells := 0, slots := 0, locals := 0 }
set_option maxHeartbeats 4000000 in
set_option maxRecDepth 100000 in
theorem ct_Wide_bits (l : Launch) (D : va_G) (g : G4) (aE : Nat) (nE : Nat) (sz : Nat) (vFirst : Int32) (vCount : Int32) (cE : Nat → Int32) (F : Nat) (res : Int64) (hm : mf_Wide_bits F nE vFirst vCount cE = some res) : Met l y_Wide_bits (.code y_Wide_bits b_Wide_bits 6 (some .long) :: sd_tb) rm_Wide_bits (sd_PW D g [.ref aE, .int vFirst, .int vCount] sz [(aE, aI g nE cE)]) (sd_Ql0 D g res [(aE, aI g nE cE)] (va_A [(aE, aI g nE cE)] sz)) 0 0 (va_A [(aE, aI g nE cE)] sz) := by
  refine sd_met (Qf := fun A => sd_Ql0 D g res [(aE, aI g nE cE)] A) (own := R_Wide) (by decide +kernel) rfl (Nat.le_of_ble_eq_true rfl) ?_
  intro p e s m args below meth c S hr hlk hK A hA Q hQ H locs hP hD hS ls hl
  have hx := S.1
  have hb := S.2.1
  have hml := S.2.2.1
  have hown := S.2.2.2.1
  have htt := sd_tt S
  replace hl : lv_has ls 6 [(0, .ref aE), (1, .int vFirst), (2, .int vCount)] := hl
  unfold mf_Wide_bits at hm
  refine lv_lconst (v := (0 : Int64)) hx hb d_Wide_bits_0 (by decide) ?_
  refine lv_lstore_n (lv' := [(3, .long (0 : Int64)), (0, .ref aE), (1, .int vFirst), (2, .int vCount)]) hx hb d_Wide_bits_1 rfl hl (by decide) rfl (fun ls hl => ?_)
  refine lv_iload_n hx hb d_Wide_bits_2 rfl (lv_at hl 2 rfl) ?_
  refine lv_istore (lv' := [(5, .int vFirst), (3, .long (0 : Int64)), (0, .ref aE), (1, .int vFirst), (2, .int vCount)]) hx hb d_Wide_bits_3 hl (by decide) rfl (fun ls hl => ?_)
  have L5 : ∀ (fu : Nat) (x3 : Int64) (x5 : Int32) (rx3 : Int64), mf_Wide_bits_L5 vFirst vCount nE cE fu x3 x5 = some (rx3) → ∀ (H : Heap) (locs : List Loc) (ls : Array Slot), va_P D classes [(aE, aI g nE cE)] H → va_D A [(aE, aI g nE cE)] → va_S A s.heap H locs → lv_has ls 6 [(0, .ref aE), (1, .int vFirst), (2, .int vCount), (3, .long x3), (5, .int x5)] → (∀ (H : Heap) (locs : List Loc) (ls : Array Slot), va_P D classes [(aE, aI g nE cE)] H → va_D A [(aE, aI g nE cE)] → va_S A s.heap H locs → lv_has ls 6 [(3, .long rx3)] → W p l e rm_Wide_bits s m args below meth c H locs 0 0 Q (F0 m 45 ls [])) → W p l e rm_Wide_bits s m args below meth c H locs 0 0 Q (F0 m 5 ls []) := by
    intro fu
    induction fu with
    | zero => intro x3 x5 rx3 hm; exact absurd (show (none : Option (Int64)) = some (rx3) from hm) (fun h => nomatch h)
    | succ fu ih =>
      intro x3 x5 rx3 hm H locs ls hP hD hS hl kx45
      rw [mf_Wide_bits_L5] at hm
      refine lv_iload hx hb d_Wide_bits_5 (lv_at hl 4 rfl) ?_
      refine lv_iload_n hx hb d_Wide_bits_7 rfl (lv_at hl 1 rfl) ?_
      refine lv_iload_n hx hb d_Wide_bits_8 rfl (lv_at hl 2 rfl) ?_
      refine lv_isub hx hb d_Wide_bits_9 ?_
      refine lv_icmp_le (tgt := 45) hx hb d_Wide_bits_10 (by decide) (fun hc => ?_) (fun hc => ?_)
      · have hm := sd_mt hc hm
        cases hm
        exact kx45 H locs ls (hP.sub [0] rfl) (hD.sub [0] (by decide) rfl) hS (lv_sub hl [3] rfl)
      · have hm := sd_mf hc hm
        refine lv_iload hx hb d_Wide_bits_13 (lv_at hl 4 rfl) ?_
        refine lv_if_lt (tgt := 45) hx hb d_Wide_bits_15 (by decide) (fun hc => ?_) (fun hc => ?_)
        · have hm := sd_mt hc hm
          cases hm
          exact kx45 H locs ls (hP.sub [0] rfl) (hD.sub [0] (by decide) rfl) hS (lv_sub hl [3] rfl)
        · have hm := sd_mf hc hm
          refine lv_lload_n hx hb d_Wide_bits_18 rfl (lv_at hl 3 rfl) ?_
          refine lv_iconst (v := (1 : Int32)) hx hb d_Wide_bits_19 (by decide) ?_
          refine lv_lshl hx hb d_Wide_bits_20 rfl ?_
          refine lv_aload_n hx hb d_Wide_bits_21 rfl (lv_at hl 0 rfl) ?_
          refine lv_iload hx hb d_Wide_bits_22 (lv_at hl 4 rfl) ?_
          refine lv_bipush (v := (16 : Int32)) hx hb d_Wide_bits_24 (by decide) ?_
          refine lv_idiv hx hb d_Wide_bits_26 (by decide) ?_
          obtain ⟨h_1, hm⟩ := sd_mg hm
          refine sd_iald hx hb hK hP 0 rfl h_1 d_Wide_bits_27 ?_
          refine lv_iload hx hb d_Wide_bits_28 (lv_at hl 4 rfl) ?_
          refine lv_bipush (v := (16 : Int32)) hx hb d_Wide_bits_30 (by decide) ?_
          refine lv_irem hx hb d_Wide_bits_32 (by decide) ?_
          refine lv_ishr hx hb d_Wide_bits_33 ?_
          refine lv_iconst (v := (1 : Int32)) hx hb d_Wide_bits_34 (by decide) ?_
          refine lv_iand hx hb d_Wide_bits_35 ?_
          refine lv_i2l hx hb d_Wide_bits_36 rfl ?_
          refine lv_lor hx hb d_Wide_bits_37 ?_
          obtain ⟨x3_1, ex3_1, hm⟩ := sd_mlet hm
          refine sd_topj ex3_1 ?_
          refine lv_lstore_n (lv' := [(3, .long x3_1), (0, .ref aE), (1, .int vFirst), (2, .int vCount), (5, .int x5)]) hx hb d_Wide_bits_38 rfl hl (by decide) rfl (fun ls hl => ?_)
          obtain ⟨x5_1, ex5_1, hm⟩ := sd_mlet hm
          refine lv_iinc (v := x5_1) (lv' := [(5, .int x5_1), (3, .long x3_1), (0, .ref aE), (1, .int vFirst), (2, .int vCount)]) hx hb d_Wide_bits_39 hl (k := 4) rfl (by rw [ex5_1]; rfl) (by decide) rfl (fun ls hl => ?_)
          refine lv_goto (tgt := 5) hx hb d_Wide_bits_42 (by decide) ?_
          exact ih x3_1 x5_1 rx3 hm H locs ls (hP.sub [0] rfl) (hD.sub [0] (by decide) rfl) hS (lv_sub hl [2, 3, 4, 1, 0] rfl) kx45
  obtain ⟨rx3, hc, hm⟩ := sd_mb1 hm
  refine L5 F (0 : Int64) vFirst rx3 hc H locs ls (hP.sub [0] rfl) (hD.sub [0] (by decide) rfl) hS (lv_sub hl [2, 3, 4, 1, 0] rfl) ?_
  intro H locs ls hP hD hS hl
  refine lv_lload_n hx hb d_Wide_bits_45 rfl (lv_at hl 0 rfl) ?_
  exact sd_l0ret hQ hx hb hr hlk hK (hP.sub [0] rfl) (hD.sub [0] (by decide) rfl) hS (Option.some.inj hm).symm d_Wide_bits_46
