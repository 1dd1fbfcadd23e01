/-! Sum_count, Sum_isFraction, Sum_top, Sum_bottom, Sum_isWhole, Sum_isSameAs, Sum_isSameAs2, Sum_clear, Sum_put, Sum_become, Sum_move -/
theorem kf_Sum_13 : Cond.fieldLink R_Sum 13 "SurdDesk$Sum" "bottoms" "[J" ∈ sd_tb := (sd_in (List.mem_of_getElem? (i := 68) (by decide +kernel)) rfl)
theorem kf_Sum_16 : Cond.fieldLink R_Sum 16 "SurdDesk$Sum" "radicands" "[J" ∈ sd_tb := (sd_in (List.mem_of_getElem? (i := 71) (by decide +kernel)) rfl)
theorem kf_Sum_28 : Cond.fieldLink R_Sum 28 "SurdDesk$Sum" "count" "I" ∈ sd_tb := (sd_in (List.mem_of_getElem? (i := 84) (by decide +kernel)) rfl)
theorem kf_Sum_75 : Cond.fieldLink R_Sum 75 "SurdDesk$Sum" "endsAreKnown" "Z" ∈ sd_tb := (sd_in (List.mem_of_getElem? (i := 83) (by decide +kernel)) rfl)
theorem kf_Sum_9 : Cond.fieldLink R_Sum 9 "SurdDesk$Sum" "tops" "[J" ∈ sd_tb := (sd_in (List.mem_of_getElem? (i := 65) (by decide +kernel)) rfl)
theorem kl_Sum_32 : sd_LV R_Sum 32 y_Sum_isFraction b_Sum_isFraction 1 (some .boolean) 0 := ⟨(sd_in (List.mem_of_getElem? (i := 512) (by decide +kernel)) rfl), (sd_in (List.mem_of_getElem? (i := 223) (by decide +kernel)) rfl), (sd_in (List.mem_of_getElem? (i := 224) (by decide +kernel)) rfl), (sd_in (List.mem_of_getElem? (i := 36) (by decide +kernel)) rfl), (sd_in (List.mem_of_getElem? (i := 225) (by decide +kernel)) rfl), by decide +kernel, by decide +kernel, by decide +kernel⟩
theorem kl_Sum_36 : sd_LV R_Sum 36 y_Sum_bottom b_Sum_bottom 1 (some .long) 0 := ⟨(sd_in (List.mem_of_getElem? (i := 513) (by decide +kernel)) rfl), (sd_in (List.mem_of_getElem? (i := 231) (by decide +kernel)) rfl), (sd_in (List.mem_of_getElem? (i := 232) (by decide +kernel)) rfl), (sd_in (List.mem_of_getElem? (i := 36) (by decide +kernel)) rfl), (sd_in (List.mem_of_getElem? (i := 233) (by decide +kernel)) rfl), by decide +kernel, by decide +kernel, by decide +kernel⟩
theorem kl_Sum_40 : sd_LV R_Sum 40 y_Sum_clear b_Sum_clear 1 none 0 := ⟨(sd_in (List.mem_of_getElem? (i := 210) (by decide +kernel)) rfl), (sd_in (List.mem_of_getElem? (i := 212) (by decide +kernel)) rfl), (sd_in (List.mem_of_getElem? (i := 0) (by decide +kernel)) rfl), (sd_in (List.mem_of_getElem? (i := 36) (by decide +kernel)) rfl), (sd_in (List.mem_of_getElem? (i := 213) (by decide +kernel)) rfl), by decide +kernel, by decide +kernel, by decide +kernel⟩
theorem kl_Sum_43 : sd_LV R_Sum 43 y_Sum_put b_Sum_put 8 none 4 := ⟨(sd_in (List.mem_of_getElem? (i := 214) (by decide +kernel)) rfl), (sd_in (List.mem_of_getElem? (i := 216) (by decide +kernel)) rfl), (sd_in (List.mem_of_getElem? (i := 1) (by decide +kernel)) rfl), (sd_in (List.mem_of_getElem? (i := 36) (by decide +kernel)) rfl), (sd_in (List.mem_of_getElem? (i := 217) (by decide +kernel)) rfl), by decide +kernel, by decide +kernel, by decide +kernel⟩
theorem kl_Sum_87 : sd_LC R_Sum 87 := ⟨(sd_in (List.mem_of_getElem? (i := 272) (by decide +kernel)) rfl), (sd_in (List.mem_of_getElem? (i := 274) (by decide +kernel)) rfl), (sd_in (List.mem_of_getElem? (i := 273) (by decide +kernel)) rfl), (sd_in (List.mem_of_getElem? (i := 43) (by decide +kernel)) rfl)⟩
theorem d_Sum_count_0 : decode b_Sum_count 0 = .ok (.aload_n 0, 1) := by decide +kernel
theorem d_Sum_count_1 : decode b_Sum_count 1 = .ok (.getfield 28, 3) := by decide +kernel
theorem d_Sum_count_4 : decode b_Sum_count 4 = .ok (.ireturn, 1) := by decide +kernel
def mf_Sum_count (F : Nat) (xk : Int32) (xn : Int32) : Option (Int32) :=
  (some (xn))
abbrev rm_Sum_count : Room := { frames := 0, cells := 0, slots := 0, locals := 0 }
set_option maxHeartbeats 4000000 in
set_option maxRecDepth 100000 in
theorem ct_Sum_count (l : Launch) (D : va_G) (g : G4) (xs : Nat) (xat : Nat) (xab : Nat) (xar : Nat) (xal : Nat) (xah : Nat) (sz : Nat) (xk : Int32) (xn : Int32) (F : Nat) (res : Int32) (hm : mf_Sum_count F xk xn = some res) : Met l y_Sum_count (.code y_Sum_count b_Sum_count 1 (some .int) :: sd_tb) rm_Sum_count (sd_PW D g [.ref xs] sz [(xs, .inr (0, [.ref xat, .ref xab, .ref xar, .ref xal, .ref xah, .int xk, .int xn]))]) (sd_Qi0 D g res [(xs, .inr (0, [.ref xat, .ref xab, .ref xar, .ref xal, .ref xah, .int xk, .int xn]))] (va_A [(xs, .inr (0, [.ref xat, .ref xab, .ref xar, .ref xal, .ref xah, .int xk, .int xn]))] sz)) 0 0 (va_A [(xs, .inr (0, [.ref xat, .ref xab, .ref xar, .ref xal, .ref xah, .int xk, .int xn]))] sz) := by
  refine sd_met (Qf := fun A => sd_Qi0 D g res [(xs, .inr (0, [.ref xat, .ref xab, .ref xar, .ref xal, .ref xah, .int xk, .int xn]))] A) (own := R_Sum) (by decide +kernel) rfl (Nat.le_of_ble_eq_true rfl) ?_
  intro p e s m args below meth c S hr hlk hK A hA Q hQ H locs hP hD hS ls hl
  have hx := S.1
  have hb := S.2.1
  have hml := S.2.2.1
  have hown := S.2.2.2.1
  have htt := sd_tt S
  replace hl : lv_has ls 1 [(0, .ref xs)] := hl
  unfold mf_Sum_count at hm
  refine lv_aload_n hx hb d_Sum_count_0 rfl (lv_at hl 0 rfl) ?_
  refine va_get (D := D) (ci := 0) (v := .int xn) (C := R_Sum) (T := F_Sum) (N := 7) hx hb htt i_Sum hown hK hP 0 rfl rfl 6 (by decide) (htt _ kf_Sum_28) (fun _ h9 => h9) rfl d_Sum_count_1 ?_
  exact sd_i0ret hQ hx hb hr hlk hK (hP.sub [0] rfl) (hD.sub [0] (by decide) rfl) hS (Option.some.inj hm).symm d_Sum_count_4
theorem d_Sum_isFraction_0 : decode b_Sum_isFraction 0 = .ok (.aload_n 0, 1) := by decide +kernel
theorem d_Sum_isFraction_1 : decode b_Sum_isFraction 1 = .ok (.getfield 28, 3) := by decide +kernel
theorem d_Sum_isFraction_4 : decode b_Sum_isFraction 4 = .ok (.ifCond .eq 22, 3) := by decide +kernel
theorem d_Sum_isFraction_7 : decode b_Sum_isFraction 7 = .ok (.aload_n 0, 1) := by decide +kernel
theorem d_Sum_isFraction_8 : decode b_Sum_isFraction 8 = .ok (.getfield 28, 3) := by decide +kernel
theorem d_Sum_isFraction_11 : decode b_Sum_isFraction 11 = .ok (.iconst 1, 1) := by decide +kernel
theorem d_Sum_isFraction_12 : decode b_Sum_isFraction 12 = .ok (.if_icmp .ne 18, 3) := by decide +kernel
theorem d_Sum_isFraction_15 : decode b_Sum_isFraction 15 = .ok (.aload_n 0, 1) := by decide +kernel
theorem d_Sum_isFraction_16 : decode b_Sum_isFraction 16 = .ok (.getfield 16, 3) := by decide +kernel
theorem d_Sum_isFraction_19 : decode b_Sum_isFraction 19 = .ok (.iconst 0, 1) := by decide +kernel
theorem d_Sum_isFraction_20 : decode b_Sum_isFraction 20 = .ok (.laload, 1) := by decide +kernel
theorem d_Sum_isFraction_21 : decode b_Sum_isFraction 21 = .ok (.lconst 1, 1) := by decide +kernel
theorem d_Sum_isFraction_22 : decode b_Sum_isFraction 22 = .ok (.lcmp, 1) := by decide +kernel
theorem d_Sum_isFraction_23 : decode b_Sum_isFraction 23 = .ok (.ifCond .ne 7, 3) := by decide +kernel
theorem d_Sum_isFraction_26 : decode b_Sum_isFraction 26 = .ok (.iconst 1, 1) := by decide +kernel
theorem d_Sum_isFraction_27 : decode b_Sum_isFraction 27 = .ok (.goto 4, 3) := by decide +kernel
theorem d_Sum_isFraction_30 : decode b_Sum_isFraction 30 = .ok (.iconst 0, 1) := by decide +kernel
theorem d_Sum_isFraction_31 : decode b_Sum_isFraction 31 = .ok (.ireturn, 1) := by decide +kernel
def mf_Sum_isFraction (F : Nat) (xk : Int32) (xn : Int32) (xR : Nat → Int64) : Option (Int32) :=
  (sd_b1 (if xn = 0 then (some ((1 : Int32))) else (if xn = (1 : Int32) then (if (xR (0 : Int32).toNatClampNeg) = (1 : Int64) then (some ((1 : Int32))) else (some ((0 : Int32)))) else (some ((0 : Int32))))) fun y => (sd_g (sd_b01 y) (some (y))))
abbrev rm_Sum_isFraction : Room := { frames := 0, cells := 0, slots := 0, locals := 0 }
set_option maxHeartbeats 4000000 in
set_option maxRecDepth 100000 in
theorem ct_Sum_isFraction (l : Launch) (D : va_G) (g : G4) (xs : Nat) (xat : Nat) (xab : Nat) (xar : Nat) (xal : Nat) (xah : Nat) (sz : Nat) (xk : Int32) (xn : Int32) (xR : Nat → Int64) (F : Nat) (res : Int32) (hm : mf_Sum_isFraction F xk xn xR = some res) : Met l y_Sum_isFraction (.code y_Sum_isFraction b_Sum_isFraction 1 (some .boolean) :: sd_tb) rm_Sum_isFraction (sd_PW D g [.ref xs] sz [(xs, .inr (0, [.ref xat, .ref xab, .ref xar, .ref xal, .ref xah, .int xk, .int xn])), (xar, aJ g 8 xR)]) (sd_Qi0 D g res [(xs, .inr (0, [.ref xat, .ref xab, .ref xar, .ref xal, .ref xah, .int xk, .int xn])), (xar, aJ g 8 xR)] (va_A [(xs, .inr (0, [.ref xat, .ref xab, .ref xar, .ref xal, .ref xah, .int xk, .int xn])), (xar, aJ g 8 xR)] sz)) 0 0 (va_A [(xs, .inr (0, [.ref xat, .ref xab, .ref xar, .ref xal, .ref xah, .int xk, .int xn])), (xar, aJ g 8 xR)] sz) := by
  refine sd_met (Qf := fun A => sd_Qi0 D g res [(xs, .inr (0, [.ref xat, .ref xab, .ref xar, .ref xal, .ref xah, .int xk, .int xn])), (xar, aJ g 8 xR)] A) (own := R_Sum) (by decide +kernel) rfl (Nat.le_of_ble_eq_true rfl) ?_
  intro p e s m args below meth c S hr hlk hK A hA Q hQ H locs hP hD hS ls hl
  have hx := S.1
  have hb := S.2.1
  have hml := S.2.2.1
  have hown := S.2.2.2.1
  have htt := sd_tt S
  replace hl : lv_has ls 1 [(0, .ref xs)] := hl
  unfold mf_Sum_isFraction at hm
  refine lv_aload_n hx hb d_Sum_isFraction_0 rfl (lv_at hl 0 rfl) ?_
  refine va_get (D := D) (ci := 0) (v := .int xn) (C := R_Sum) (T := F_Sum) (N := 7) hx hb htt i_Sum hown hK hP 0 rfl rfl 6 (by decide) (htt _ kf_Sum_28) (fun _ h9 => h9) rfl d_Sum_isFraction_1 ?_
  obtain ⟨y, hv, hm⟩ := sd_mb1 hm
  have J31_1 : ∀ (H : Heap) (locs : List Loc) (ls : Array Slot), va_P D classes [(xs, .inr (0, [.ref xat, .ref xab, .ref xar, .ref xal, .ref xah, .int xk, .int xn])), (xar, aJ g 8 xR)] H → va_D A [(xs, .inr (0, [.ref xat, .ref xab, .ref xar, .ref xal, .ref xah, .int xk, .int xn])), (xar, aJ g 8 xR)] → va_S A s.heap H locs → lv_has ls 1 [] → W p l e rm_Sum_isFraction s m args below meth c H locs 0 0 Q (F0 m 31 ls [.int y]) := by
    intro H locs ls hP hD hS hl
    obtain ⟨h_2, hm⟩ := sd_mg hm
    exact sd_z0ret hQ hx hb hr hlk (sd_zb h_2) hK (hP.sub [0, 1] rfl) (hD.sub [0, 1] (by decide) rfl) hS (Option.some.inj hm).symm d_Sum_isFraction_31
  replace hm := hv
  refine lv_if_eq (tgt := 26) hx hb d_Sum_isFraction_4 (by decide) (fun hc => ?_) (fun hc => ?_)
  · have hm := sd_mt hc hm
    refine lv_iconst (v := (1 : Int32)) hx hb d_Sum_isFraction_26 (by decide) ?_
    refine lv_goto (tgt := 31) hx hb d_Sum_isFraction_27 (by decide) ?_
    cases hm
    exact J31_1 H locs ls (hP.sub [0, 1] rfl) (hD.sub [0, 1] (by decide) rfl) hS (lv_sub hl [] rfl)
  · have hm := sd_mf hc hm
    refine lv_aload_n hx hb d_Sum_isFraction_7 rfl (lv_at hl 0 rfl) ?_
    refine va_get (D := D) (ci := 0) (v := .int xn) (C := R_Sum) (T := F_Sum) (N := 7) hx hb htt i_Sum hown hK hP 0 rfl rfl 6 (by decide) (htt _ kf_Sum_28) (fun _ h9 => h9) rfl d_Sum_isFraction_8 ?_
    refine lv_iconst (v := (1 : Int32)) hx hb d_Sum_isFraction_11 (by decide) ?_
    refine lv_icmp_ne (tgt := 30) hx hb d_Sum_isFraction_12 (by decide) (fun hc => ?_) (fun hc => ?_)
    · have hm := sd_mf hc hm
      refine lv_iconst (v := (0 : Int32)) hx hb d_Sum_isFraction_30 (by decide) ?_
      cases hm
      exact J31_1 H locs ls (hP.sub [0, 1] rfl) (hD.sub [0, 1] (by decide) rfl) hS (lv_sub hl [] rfl)
    · have hm := sd_mt hc hm
      refine lv_aload_n hx hb d_Sum_isFraction_15 rfl (lv_at hl 0 rfl) ?_
      refine va_get (D := D) (ci := 0) (v := .ref xar) (C := R_Sum) (T := F_Sum) (N := 7) hx hb htt i_Sum hown hK hP 0 rfl rfl 2 (by decide) (htt _ kf_Sum_16) (fun _ h9 => h9) rfl d_Sum_isFraction_16 ?_
      refine lv_iconst (v := (0 : Int32)) hx hb d_Sum_isFraction_19 (by decide) ?_
      refine sd_lald hx hb hK hP 1 rfl (by decide) d_Sum_isFraction_20 ?_
      refine lv_lconst (v := (1 : Int64)) hx hb d_Sum_isFraction_21 (by decide) ?_
      refine sd_lne (tgt := 30) hx hb d_Sum_isFraction_22 d_Sum_isFraction_23 (by decide) (fun hc => ?_) (fun hc => ?_)
      · have hm := sd_mf hc hm
        refine lv_iconst (v := (0 : Int32)) hx hb d_Sum_isFraction_30 (by decide) ?_
        cases hm
        exact J31_1 H locs ls (hP.sub [0, 1] rfl) (hD.sub [0, 1] (by decide) rfl) hS (lv_sub hl [] rfl)
      · have hm := sd_mt hc hm
        refine lv_iconst (v := (1 : Int32)) hx hb d_Sum_isFraction_26 (by decide) ?_
        refine lv_goto (tgt := 31) hx hb d_Sum_isFraction_27 (by decide) ?_
        cases hm
        exact J31_1 H locs ls (hP.sub [0, 1] rfl) (hD.sub [0, 1] (by decide) rfl) hS (lv_sub hl [] rfl)
theorem d_Sum_top_0 : decode b_Sum_top 0 = .ok (.aload_n 0, 1) := by decide +kernel
theorem d_Sum_top_1 : decode b_Sum_top 1 = .ok (.getfield 28, 3) := by decide +kernel
theorem d_Sum_top_4 : decode b_Sum_top 4 = .ok (.ifCond .ne 7, 3) := by decide +kernel
theorem d_Sum_top_7 : decode b_Sum_top 7 = .ok (.lconst 0, 1) := by decide +kernel
theorem d_Sum_top_8 : decode b_Sum_top 8 = .ok (.goto 9, 3) := by decide +kernel
theorem d_Sum_top_11 : decode b_Sum_top 11 = .ok (.aload_n 0, 1) := by decide +kernel
theorem d_Sum_top_12 : decode b_Sum_top 12 = .ok (.getfield 9, 3) := by decide +kernel
theorem d_Sum_top_15 : decode b_Sum_top 15 = .ok (.iconst 0, 1) := by decide +kernel
theorem d_Sum_top_16 : decode b_Sum_top 16 = .ok (.laload, 1) := by decide +kernel
theorem d_Sum_top_17 : decode b_Sum_top 17 = .ok (.lreturn, 1) := by decide +kernel
def mf_Sum_top (F : Nat) (xk : Int32) (xn : Int32) (xT : Nat → Int64) : Option (Int64) :=
  (sd_b1 (if xn = 0 then (some ((0 : Int64))) else (some ((xT (0 : Int32).toNatClampNeg)))) fun y => (some (y)))
abbrev rm_Sum_top : Room := { frames := 0, cells := 0, slots := 0, locals := 0 }
set_option maxHeartbeats 4000000 in
set_option maxRecDepth 100000 in
theorem ct_Sum_top (l : Launch) (D : va_G) (g : G4) (xs : Nat) (xat : Nat) (xab : Nat) (xar : Nat) (xal : Nat) (xah : Nat) (sz : Nat) (xk : Int32) (xn : Int32) (xT : Nat → Int64) (F : Nat) (res : Int64) (hm : mf_Sum_top F xk xn xT = some res) : Met l y_Sum_top (.code y_Sum_top b_Sum_top 1 (some .long) :: sd_tb) rm_Sum_top (sd_PW D g [.ref xs] sz [(xs, .inr (0, [.ref xat, .ref xab, .ref xar, .ref xal, .ref xah, .int xk, .int xn])), (xat, aJ g 8 xT)]) (sd_Ql0 D g res [(xs, .inr (0, [.ref xat, .ref xab, .ref xar, .ref xal, .ref xah, .int xk, .int xn])), (xat, aJ g 8 xT)] (va_A [(xs, .inr (0, [.ref xat, .ref xab, .ref xar, .ref xal, .ref xah, .int xk, .int xn])), (xat, aJ g 8 xT)] sz)) 0 0 (va_A [(xs, .inr (0, [.ref xat, .ref xab, .ref xar, .ref xal, .ref xah, .int xk, .int xn])), (xat, aJ g 8 xT)] sz) := by
  refine sd_met (Qf := fun A => sd_Ql0 D g res [(xs, .inr (0, [.ref xat, .ref xab, .ref xar, .ref xal, .ref xah, .int xk, .int xn])), (xat, aJ g 8 xT)] A) (own := R_Sum) (by decide +kernel) rfl (Nat.le_of_ble_eq_true rfl) ?_
  intro p e s m args below meth c S hr hlk hK A hA Q hQ H locs hP hD hS ls hl
  have hx := S.1
  have hb := S.2.1
  have hml := S.2.2.1
  have hown := S.2.2.2.1
  have htt := sd_tt S
  replace hl : lv_has ls 1 [(0, .ref xs)] := hl
  unfold mf_Sum_top at hm
  refine lv_aload_n hx hb d_Sum_top_0 rfl (lv_at hl 0 rfl) ?_
  refine va_get (D := D) (ci := 0) (v := .int xn) (C := R_Sum) (T := F_Sum) (N := 7) hx hb htt i_Sum hown hK hP 0 rfl rfl 6 (by decide) (htt _ kf_Sum_28) (fun _ h9 => h9) rfl d_Sum_top_1 ?_
  obtain ⟨y, hv, hm⟩ := sd_mb1 hm
  have J17_1 : ∀ (H : Heap) (locs : List Loc) (ls : Array Slot), va_P D classes [(xs, .inr (0, [.ref xat, .ref xab, .ref xar, .ref xal, .ref xah, .int xk, .int xn])), (xat, aJ g 8 xT)] H → va_D A [(xs, .inr (0, [.ref xat, .ref xab, .ref xar, .ref xal, .ref xah, .int xk, .int xn])), (xat, aJ g 8 xT)] → va_S A s.heap H locs → lv_has ls 1 [] → W p l e rm_Sum_top s m args below meth c H locs 0 0 Q (F0 m 17 ls [.long y]) := by
    intro H locs ls hP hD hS hl
    exact sd_l0ret hQ hx hb hr hlk hK (hP.sub [0, 1] rfl) (hD.sub [0, 1] (by decide) rfl) hS (Option.some.inj hm).symm d_Sum_top_17
  replace hm := hv
  refine lv_if_ne (tgt := 11) hx hb d_Sum_top_4 (by decide) (fun hc => ?_) (fun hc => ?_)
  · have hm := sd_mf hc hm
    refine lv_aload_n hx hb d_Sum_top_11 rfl (lv_at hl 0 rfl) ?_
    refine va_get (D := D) (ci := 0) (v := .ref xat) (C := R_Sum) (T := F_Sum) (N := 7) hx hb htt i_Sum hown hK hP 0 rfl rfl 0 (by decide) (htt _ kf_Sum_9) (fun _ h9 => h9) rfl d_Sum_top_12 ?_
    refine lv_iconst (v := (0 : Int32)) hx hb d_Sum_top_15 (by decide) ?_
    refine sd_lald hx hb hK hP 1 rfl (by decide) d_Sum_top_16 ?_
    cases hm
    exact J17_1 H locs ls (hP.sub [0, 1] rfl) (hD.sub [0, 1] (by decide) rfl) hS (lv_sub hl [] rfl)
  · have hm := sd_mt hc hm
    refine lv_lconst (v := (0 : Int64)) hx hb d_Sum_top_7 (by decide) ?_
    refine lv_goto (tgt := 17) hx hb d_Sum_top_8 (by decide) ?_
    cases hm
    exact J17_1 H locs ls (hP.sub [0, 1] rfl) (hD.sub [0, 1] (by decide) rfl) hS (lv_sub hl [] rfl)
theorem d_Sum_bottom_0 : decode b_Sum_bottom 0 = .ok (.aload_n 0, 1) := by decide +kernel
theorem d_Sum_bottom_1 : decode b_Sum_bottom 1 = .ok (.getfield 28, 3) := by decide +kernel
theorem d_Sum_bottom_4 : decode b_Sum_bottom 4 = .ok (.ifCond .ne 7, 3) := by decide +kernel
theorem d_Sum_bottom_7 : decode b_Sum_bottom 7 = .ok (.lconst 1, 1) := by decide +kernel
theorem d_Sum_bottom_8 : decode b_Sum_bottom 8 = .ok (.goto 9, 3) := by decide +kernel
theorem d_Sum_bottom_11 : decode b_Sum_bottom 11 = .ok (.aload_n 0, 1) := by decide +kernel
theorem d_Sum_bottom_12 : decode b_Sum_bottom 12 = .ok (.getfield 13, 3) := by decide +kernel
theorem d_Sum_bottom_15 : decode b_Sum_bottom 15 = .ok (.iconst 0, 1) := by decide +kernel
theorem d_Sum_bottom_16 : decode b_Sum_bottom 16 = .ok (.laload, 1) := by decide +kernel
theorem d_Sum_bottom_17 : decode b_Sum_bottom 17 = .ok (.lreturn, 1) := by decide +kernel
def mf_Sum_bottom (F : Nat) (xk : Int32) (xn : Int32) (xB : Nat → Int64) : Option (Int64) :=
  (sd_b1 (if xn = 0 then (some ((1 : Int64))) else (some ((xB (0 : Int32).toNatClampNeg)))) fun y => (some (y)))
abbrev rm_Sum_bottom : Room := { frames := 0, cells := 0, slots := 0, locals := 0 }
set_option maxHeartbeats 4000000 in
set_option maxRecDepth 100000 in
theorem ct_Sum_bottom (l : Launch) (D : va_G) (g : G4) (xs : Nat) (xat : Nat) (xab : Nat) (xar : Nat) (xal : Nat) (xah : Nat) (sz : Nat) (xk : Int32) (xn : Int32) (xB : Nat → Int64) (F : Nat) (res : Int64) (hm : mf_Sum_bottom F xk xn xB = some res) : Met l y_Sum_bottom (.code y_Sum_bottom b_Sum_bottom 1 (some .long) :: sd_tb) rm_Sum_bottom (sd_PW D g [.ref xs] sz [(xs, .inr (0, [.ref xat, .ref xab, .ref xar, .ref xal, .ref xah, .int xk, .int xn])), (xab, aJ g 8 xB)]) (sd_Ql0 D g res [(xs, .inr (0, [.ref xat, .ref xab, .ref xar, .ref xal, .ref xah, .int xk, .int xn])), (xab, aJ g 8 xB)] (va_A [(xs, .inr (0, [.ref xat, .ref xab, .ref xar, .ref xal, .ref xah, .int xk, .int xn])), (xab, aJ g 8 xB)] sz)) 0 0 (va_A [(xs, .inr (0, [.ref xat, .ref xab, .ref xar, .ref xal, .ref xah, .int xk, .int xn])), (xab, aJ g 8 xB)] sz) := by
  refine sd_met (Qf := fun A => sd_Ql0 D g res [(xs, .inr (0, [.ref xat, .ref xab, .ref xar, .ref xal, .ref xah, .int xk, .int xn])), (xab, aJ g 8 xB)] A) (own := R_Sum) (by decide +kernel) rfl (Nat.le_of_ble_eq_true rfl) ?_
  intro p e s m args below meth c S hr hlk hK A hA Q hQ H locs hP hD hS ls hl
  have hx := S.1
  have hb := S.2.1
  have hml := S.2.2.1
  have hown := S.2.2.2.1
  have htt := sd_tt S
  replace hl : lv_has ls 1 [(0, .ref xs)] := hl
  unfold mf_Sum_bottom at hm
  refine lv_aload_n hx hb d_Sum_bottom_0 rfl (lv_at hl 0 rfl) ?_
  refine va_get (D := D) (ci := 0) (v := .int xn) (C := R_Sum) (T := F_Sum) (N := 7) hx hb htt i_Sum hown hK hP 0 rfl rfl 6 (by decide) (htt _ kf_Sum_28) (fun _ h9 => h9) rfl d_Sum_bottom_1 ?_
  obtain ⟨y, hv, hm⟩ := sd_mb1 hm
  have J17_1 : ∀ (H : Heap) (locs : List Loc) (ls : Array Slot), va_P D classes [(xs, .inr (0, [.ref xat, .ref xab, .ref xar, .ref xal, .ref xah, .int xk, .int xn])), (xab, aJ g 8 xB)] H → va_D A [(xs, .inr (0, [.ref xat, .ref xab, .ref xar, .ref xal, .ref xah, .int xk, .int xn])), (xab, aJ g 8 xB)] → va_S A s.heap H locs → lv_has ls 1 [] → W p l e rm_Sum_bottom s m args below meth c H locs 0 0 Q (F0 m 17 ls [.long y]) := by
    intro H locs ls hP hD hS hl
    exact sd_l0ret hQ hx hb hr hlk hK (hP.sub [0, 1] rfl) (hD.sub [0, 1] (by decide) rfl) hS (Option.some.inj hm).symm d_Sum_bottom_17
  replace hm := hv
  refine lv_if_ne (tgt := 11) hx hb d_Sum_bottom_4 (by decide) (fun hc => ?_) (fun hc => ?_)
  · have hm := sd_mf hc hm
    refine lv_aload_n hx hb d_Sum_bottom_11 rfl (lv_at hl 0 rfl) ?_
    refine va_get (D := D) (ci := 0) (v := .ref xab) (C := R_Sum) (T := F_Sum) (N := 7) hx hb htt i_Sum hown hK hP 0 rfl rfl 1 (by decide) (htt _ kf_Sum_13) (fun _ h9 => h9) rfl d_Sum_bottom_12 ?_
    refine lv_iconst (v := (0 : Int32)) hx hb d_Sum_bottom_15 (by decide) ?_
    refine sd_lald hx hb hK hP 1 rfl (by decide) d_Sum_bottom_16 ?_
    cases hm
    exact J17_1 H locs ls (hP.sub [0, 1] rfl) (hD.sub [0, 1] (by decide) rfl) hS (lv_sub hl [] rfl)
  · have hm := sd_mt hc hm
    refine lv_lconst (v := (1 : Int64)) hx hb d_Sum_bottom_7 (by decide) ?_
    refine lv_goto (tgt := 17) hx hb d_Sum_bottom_8 (by decide) ?_
    cases hm
    exact J17_1 H locs ls (hP.sub [0, 1] rfl) (hD.sub [0, 1] (by decide) rfl) hS (lv_sub hl [] rfl)
theorem d_Sum_isWhole_0 : decode b_Sum_isWhole 0 = .ok (.aload_n 0, 1) := by decide +kernel
theorem d_Sum_isWhole_1 : decode b_Sum_isWhole 1 = .ok (.invokevirtual 32, 3) := by decide +kernel
theorem d_Sum_isWhole_4 : decode b_Sum_isWhole 4 = .ok (.ifCond .eq 16, 3) := by decide +kernel
theorem d_Sum_isWhole_7 : decode b_Sum_isWhole 7 = .ok (.aload_n 0, 1) := by decide +kernel
theorem d_Sum_isWhole_8 : decode b_Sum_isWhole 8 = .ok (.invokevirtual 36, 3) := by decide +kernel
theorem d_Sum_isWhole_11 : decode b_Sum_isWhole 11 = .ok (.lconst 1, 1) := by decide +kernel
theorem d_Sum_isWhole_12 : decode b_Sum_isWhole 12 = .ok (.lcmp, 1) := by decide +kernel
theorem d_Sum_isWhole_13 : decode b_Sum_isWhole 13 = .ok (.ifCond .ne 7, 3) := by decide +kernel
theorem d_Sum_isWhole_16 : decode b_Sum_isWhole 16 = .ok (.iconst 1, 1) := by decide +kernel
theorem d_Sum_isWhole_17 : decode b_Sum_isWhole 17 = .ok (.goto 4, 3) := by decide +kernel
theorem d_Sum_isWhole_20 : decode b_Sum_isWhole 20 = .ok (.iconst 0, 1) := by decide +kernel
theorem d_Sum_isWhole_21 : decode b_Sum_isWhole 21 = .ok (.ireturn, 1) := by decide +kernel
def mf_Sum_isWhole (F : Nat) (xk : Int32) (xn : Int32) (xB : Nat → Int64) (xR : Nat → Int64) : Option (Int32) :=
  (sd_b1 (mf_Sum_isFraction F xk xn xR) fun r => (sd_b1 (if r = 0 then (some ((0 : Int32))) else (sd_b1 (mf_Sum_bottom F xk xn xB) fun r_1 => (if r_1 = (1 : Int64) then (some ((1 : Int32))) else (some ((0 : Int32)))))) fun y => (sd_g (sd_b01 y) (some (y)))))
abbrev rm_Sum_isWhole : Room := { frames := 1, cells := 0, slots := 0, locals := 20 }
set_option maxHeartbeats 4000000 in
set_option maxRecDepth 100000 in
theorem ct_Sum_isWhole (l : Launch) (D : va_G) (g : G4) (xs : Nat) (xat : Nat) (xab : Nat) (xar : Nat) (xal : Nat) (xah : Nat) (sz : Nat) (xk : Int32) (xn : Int32) (xB : Nat → Int64) (xR : Nat → Int64) (F : Nat) (res : Int32) (hm : mf_Sum_isWhole F xk xn xB xR = some res) : Met l y_Sum_isWhole (.code y_Sum_isWhole b_Sum_isWhole 1 (some .boolean) :: sd_tb) rm_Sum_isWhole (sd_PW D g [.ref xs] sz [(xs, .inr (0, [.ref xat, .ref xab, .ref xar, .ref xal, .ref xah, .int xk, .int xn])), (xab, aJ g 8 xB), (xar, aJ g 8 xR)]) (sd_Qi0 D g res [(xs, .inr (0, [.ref xat, .ref xab, .ref xar, .ref xal, .ref xah, .int xk, .int xn])), (xab, aJ g 8 xB), (xar, aJ g 8 xR)] (va_A [(xs, .inr (0, [.ref xat, .ref xab, .ref xar, .ref xal, .ref xah, .int xk, .int xn])), (xab, aJ g 8 xB), (xar, aJ g 8 xR)] sz)) 0 0 (va_A [(xs, .inr (0, [.ref xat, .ref xab, .ref xar, .ref xal, .ref xah, .int xk, .int xn])), (xab, aJ g 8 xB), (xar, aJ g 8 xR)] sz) := by
  refine sd_met (Qf := fun A => sd_Qi0 D g res [(xs, .inr (0, [.ref xat, .ref xab, .ref xar, .ref xal, .ref xah, .int xk, .int xn])), (xab, aJ g 8 xB), (xar, aJ g 8 xR)] A) (own := R_Sum) (by decide +kernel) rfl (Nat.le_of_ble_eq_true rfl) ?_
  intro p e s m args below meth c S hr hlk hK A hA Q hQ H locs hP hD hS ls hl
  have hx := S.1
  have hb := S.2.1
  have hml := S.2.2.1
  have hown := S.2.2.2.1
  have htt := sd_tt S
  replace hl : lv_has ls 1 [(0, .ref xs)] := hl
  unfold mf_Sum_isWhole at hm
  refine lv_aload_n hx hb d_Sum_isWhole_0 rfl (lv_at hl 0 rfl) ?_
  obtain ⟨r, hc, hm⟩ := sd_mb1 hm
  refine sd_ci0 (wr := [(xab, aJ g 8 xB)]) (w2 := [(xab, aJ g 8 xB), (xs, .inr (0, [.ref xat, .ref xab, .ref xar, .ref xal, .ref xah, .int xk, .int xn])), (xar, aJ g 8 xR)]) (sd_runV (rest := []) (As := []) S (ct_Sum_isFraction l D g xs xat xab xar xal xah (H.size) xk xn xR F (r) hc) kl_Sum_32 (by decide) (by decide) hK hP hD [0, 2] rfl (by decide) rfl hl d_Sum_isWhole_1 rfl (Nat.le_of_ble_eq_true rfl) ⟨Nat.zero_le _, Nat.zero_le _⟩ 0 rfl rfl) hP hD hS hA [0, 2] [1] rfl rfl (by decide) (by decide) rfl (fun H locs hP hD hS => ?_)
  refine W.eq (g2 := F0 m 4 ls [.int r]) rfl ?_
  obtain ⟨y, hv, hm⟩ := sd_mb1 hm
  have J21_1 : ∀ (H : Heap) (locs : List Loc) (ls : Array Slot), va_P D classes [(xab, aJ g 8 xB), (xs, .inr (0, [.ref xat, .ref xab, .ref xar, .ref xal, .ref xah, .int xk, .int xn])), (xar, aJ g 8 xR)] H → va_D A [(xab, aJ g 8 xB), (xs, .inr (0, [.ref xat, .ref xab, .ref xar, .ref xal, .ref xah, .int xk, .int xn])), (xar, aJ g 8 xR)] → va_S A s.heap H locs → lv_has ls 1 [] → W p l e rm_Sum_isWhole s m args below meth c H locs 0 0 Q (F0 m 21 ls [.int y]) := by
    intro H locs ls hP hD hS hl
    obtain ⟨h_2, hm⟩ := sd_mg hm
    exact sd_z0ret hQ hx hb hr hlk (sd_zb h_2) hK (hP.sub [1, 0, 2] rfl) (hD.sub [1, 0, 2] (by decide) rfl) hS (Option.some.inj hm).symm d_Sum_isWhole_21
  replace hm := hv
  refine lv_if_eq (tgt := 20) hx hb d_Sum_isWhole_4 (by decide) (fun hc => ?_) (fun hc => ?_)
  · have hm := sd_mt hc hm
    refine lv_iconst (v := (0 : Int32)) hx hb d_Sum_isWhole_20 (by decide) ?_
    cases hm
    exact J21_1 H locs ls (hP.sub [0, 1, 2] rfl) (hD.sub [0, 1, 2] (by decide) rfl) hS (lv_sub hl [] rfl)
  · have hm := sd_mf hc hm
    refine lv_aload_n hx hb d_Sum_isWhole_7 rfl (lv_at hl 0 rfl) ?_
    obtain ⟨r_1, hc, hm⟩ := sd_mb1 hm
    refine sd_cl0 (wr := [(xar, aJ g 8 xR)]) (w2 := [(xar, aJ g 8 xR), (xs, .inr (0, [.ref xat, .ref xab, .ref xar, .ref xal, .ref xah, .int xk, .int xn])), (xab, aJ g 8 xB)]) (sd_runV (rest := []) (As := []) S (ct_Sum_bottom l D g xs xat xab xar xal xah (H.size) xk xn xB F (r_1) hc) kl_Sum_36 (by decide) (by decide) hK hP hD [1, 0] rfl (by decide) rfl hl d_Sum_isWhole_8 rfl (Nat.le_of_ble_eq_true rfl) ⟨Nat.zero_le _, Nat.zero_le _⟩ 1 rfl rfl) hP hD hS hA [1, 0] [2] rfl rfl (by decide) (by decide) rfl (fun H locs hP hD hS => ?_)
    refine W.eq (g2 := F0 m 11 ls [.long r_1]) rfl ?_
    refine lv_lconst (v := (1 : Int64)) hx hb d_Sum_isWhole_11 (by decide) ?_
    refine sd_lne (tgt := 20) hx hb d_Sum_isWhole_12 d_Sum_isWhole_13 (by decide) (fun hc => ?_) (fun hc => ?_)
    · have hm := sd_mf hc hm
      refine lv_iconst (v := (0 : Int32)) hx hb d_Sum_isWhole_20 (by decide) ?_
      cases hm
      exact J21_1 H locs ls (hP.sub [2, 1, 0] rfl) (hD.sub [2, 1, 0] (by decide) rfl) hS (lv_sub hl [] rfl)
    · have hm := sd_mt hc hm
      refine lv_iconst (v := (1 : Int32)) hx hb d_Sum_isWhole_16 (by decide) ?_
      refine lv_goto (tgt := 21) hx hb d_Sum_isWhole_17 (by decide) ?_
      cases hm
      exact J21_1 H locs ls (hP.sub [2, 1, 0] rfl) (hD.sub [2, 1, 0] (by decide) rfl) hS (lv_sub hl [] rfl)
theorem d_Sum_isSameAs_0 : decode b_Sum_isSameAs 0 = .ok (.aload_n 0, 1) := by decide +kernel
theorem d_Sum_isSameAs_1 : decode b_Sum_isSameAs 1 = .ok (.getfield 28, 3) := by decide +kernel
theorem d_Sum_isSameAs_4 : decode b_Sum_isSameAs 4 = .ok (.aload_n 1, 1) := by decide +kernel
theorem d_Sum_isSameAs_5 : decode b_Sum_isSameAs 5 = .ok (.getfield 28, 3) := by decide +kernel
theorem d_Sum_isSameAs_8 : decode b_Sum_isSameAs 8 = .ok (.if_icmp .eq 5, 3) := by decide +kernel
theorem d_Sum_isSameAs_11 : decode b_Sum_isSameAs 11 = .ok (.iconst 0, 1) := by decide +kernel
theorem d_Sum_isSameAs_12 : decode b_Sum_isSameAs 12 = .ok (.ireturn, 1) := by decide +kernel
theorem d_Sum_isSameAs_13 : decode b_Sum_isSameAs 13 = .ok (.iconst 0, 1) := by decide +kernel
theorem d_Sum_isSameAs_14 : decode b_Sum_isSameAs 14 = .ok (.istore_n 2, 1) := by decide +kernel
theorem d_Sum_isSameAs_15 : decode b_Sum_isSameAs 15 = .ok (.iload_n 2, 1) := by decide +kernel
theorem d_Sum_isSameAs_16 : decode b_Sum_isSameAs 16 = .ok (.aload_n 0, 1) := by decide +kernel
theorem d_Sum_isSameAs_17 : decode b_Sum_isSameAs 17 = .ok (.getfield 28, 3) := by decide +kernel
theorem d_Sum_isSameAs_20 : decode b_Sum_isSameAs 20 = .ok (.if_icmp .ge 59, 3) := by decide +kernel
theorem d_Sum_isSameAs_23 : decode b_Sum_isSameAs 23 = .ok (.aload_n 0, 1) := by decide +kernel
theorem d_Sum_isSameAs_24 : decode b_Sum_isSameAs 24 = .ok (.getfield 9, 3) := by decide +kernel
theorem d_Sum_isSameAs_27 : decode b_Sum_isSameAs 27 = .ok (.iload_n 2, 1) := by decide +kernel
theorem d_Sum_isSameAs_28 : decode b_Sum_isSameAs 28 = .ok (.laload, 1) := by decide +kernel
theorem d_Sum_isSameAs_29 : decode b_Sum_isSameAs 29 = .ok (.aload_n 1, 1) := by decide +kernel
theorem d_Sum_isSameAs_30 : decode b_Sum_isSameAs 30 = .ok (.getfield 9, 3) := by decide +kernel
theorem d_Sum_isSameAs_33 : decode b_Sum_isSameAs 33 = .ok (.iload_n 2, 1) := by decide +kernel
theorem d_Sum_isSameAs_34 : decode b_Sum_isSameAs 34 = .ok (.laload, 1) := by decide +kernel
theorem d_Sum_isSameAs_35 : decode b_Sum_isSameAs 35 = .ok (.lcmp, 1) := by decide +kernel
theorem d_Sum_isSameAs_36 : decode b_Sum_isSameAs 36 = .ok (.ifCond .ne 35, 3) := by decide +kernel
theorem d_Sum_isSameAs_39 : decode b_Sum_isSameAs 39 = .ok (.aload_n 0, 1) := by decide +kernel
theorem d_Sum_isSameAs_40 : decode b_Sum_isSameAs 40 = .ok (.getfield 13, 3) := by decide +kernel
theorem d_Sum_isSameAs_43 : decode b_Sum_isSameAs 43 = .ok (.iload_n 2, 1) := by decide +kernel
theorem d_Sum_isSameAs_44 : decode b_Sum_isSameAs 44 = .ok (.laload, 1) := by decide +kernel
theorem d_Sum_isSameAs_45 : decode b_Sum_isSameAs 45 = .ok (.aload_n 1, 1) := by decide +kernel
theorem d_Sum_isSameAs_46 : decode b_Sum_isSameAs 46 = .ok (.getfield 13, 3) := by decide +kernel
theorem d_Sum_isSameAs_49 : decode b_Sum_isSameAs 49 = .ok (.iload_n 2, 1) := by decide +kernel
theorem d_Sum_isSameAs_50 : decode b_Sum_isSameAs 50 = .ok (.laload, 1) := by decide +kernel
theorem d_Sum_isSameAs_51 : decode b_Sum_isSameAs 51 = .ok (.lcmp, 1) := by decide +kernel
theorem d_Sum_isSameAs_52 : decode b_Sum_isSameAs 52 = .ok (.ifCond .ne 19, 3) := by decide +kernel
theorem d_Sum_isSameAs_55 : decode b_Sum_isSameAs 55 = .ok (.aload_n 0, 1) := by decide +kernel
theorem d_Sum_isSameAs_56 : decode b_Sum_isSameAs 56 = .ok (.getfield 16, 3) := by decide +kernel
theorem d_Sum_isSameAs_59 : decode b_Sum_isSameAs 59 = .ok (.iload_n 2, 1) := by decide +kernel
theorem d_Sum_isSameAs_60 : decode b_Sum_isSameAs 60 = .ok (.laload, 1) := by decide +kernel
theorem d_Sum_isSameAs_61 : decode b_Sum_isSameAs 61 = .ok (.aload_n 1, 1) := by decide +kernel
theorem d_Sum_isSameAs_62 : decode b_Sum_isSameAs 62 = .ok (.getfield 16, 3) := by decide +kernel
theorem d_Sum_isSameAs_65 : decode b_Sum_isSameAs 65 = .ok (.iload_n 2, 1) := by decide +kernel
theorem d_Sum_isSameAs_66 : decode b_Sum_isSameAs 66 = .ok (.laload, 1) := by decide +kernel
theorem d_Sum_isSameAs_67 : decode b_Sum_isSameAs 67 = .ok (.lcmp, 1) := by decide +kernel
theorem d_Sum_isSameAs_68 : decode b_Sum_isSameAs 68 = .ok (.ifCond .eq 5, 3) := by decide +kernel
theorem d_Sum_isSameAs_71 : decode b_Sum_isSameAs 71 = .ok (.iconst 0, 1) := by decide +kernel
theorem d_Sum_isSameAs_72 : decode b_Sum_isSameAs 72 = .ok (.ireturn, 1) := by decide +kernel
theorem d_Sum_isSameAs_73 : decode b_Sum_isSameAs 73 = .ok (.iinc 2 1, 3) := by decide +kernel
theorem d_Sum_isSameAs_76 : decode b_Sum_isSameAs 76 = .ok (.goto (-61), 3) := by decide +kernel
theorem d_Sum_isSameAs_79 : decode b_Sum_isSameAs 79 = .ok (.iconst 1, 1) := by decide +kernel
theorem d_Sum_isSameAs_80 : decode b_Sum_isSameAs 80 = .ok (.ireturn, 1) := by decide +kernel
def mf_Sum_isSameAs_L15 (xn : Int32) (xT : Nat → Int64) (yT : Nat → Int64) (xB : Nat → Int64) (yB : Nat → Int64) (xR : Nat → Int64) (yR : Nat → Int64) : Nat → Int32 → Option (Nat)
  | 0, _ => none
  | fu + 1, x2 => (if xn ≤ x2 then (some (1)) else (sd_g (sd_ix x2 8) (sd_g (sd_ix x2 8) (if (xT x2.toNatClampNeg) = (yT x2.toNatClampNeg) then (sd_g (sd_ix x2 8) (sd_g (sd_ix x2 8) (if (xB x2.toNatClampNeg) = (yB x2.toNatClampNeg) then (sd_g (sd_ix x2 8) (sd_g (sd_ix x2 8) (if (xR x2.toNatClampNeg) = (yR x2.toNatClampNeg) then (sd_let (x2 + (1 : Int32)) fun x2_1 => ((mf_Sum_isSameAs_L15 xn xT yT xB yB xR yR fu) x2_1)) else (some (0))))) else (some (0))))) else (some (0))))))
def mf_Sum_isSameAs (F : Nat) (xk : Int32) (xn : Int32) (xT : Nat → Int64) (xB : Nat → Int64) (xR : Nat → Int64) (yk : Int32) (yn : Int32) (yT : Nat → Int64) (yB : Nat → Int64) (yR : Nat → Int64) : Option (Int32) :=
  (if xn = yn then (sd_b1 (mf_Sum_isSameAs_L15 xn xT yT xB yB xR yR F (0 : Int32)) fun tg => (if tg = 0 then (some ((0 : Int32))) else (some ((1 : Int32))))) else (some ((0 : Int32))))
abbrev rm_Sum_isSameAs : Room := { frames := 0, cells := 0, slots := 0, locals := 0 }
set_option maxHeartbeats 4000000 in
set_option maxRecDepth 100000 in
theorem ct_Sum_isSameAs (l : Launch) (D : va_G) (g : G4) (xs : Nat) (xat : Nat) (xab : Nat) (xar : Nat) (xal : Nat) (xah : Nat) (ys : Nat) (yat : Nat) (yab : Nat) (yar : Nat) (yal : Nat) (yah : Nat) (sz : Nat) (xk : Int32) (xn : Int32) (xT : Nat → Int64) (xB : Nat → Int64) (xR : Nat → Int64) (yk : Int32) (yn : Int32) (yT : Nat → Int64) (yB : Nat → Int64) (yR : Nat → Int64) (F : Nat) (res : Int32) (hm : mf_Sum_isSameAs F xk xn xT xB xR yk yn yT yB yR = some res) : Met l y_Sum_isSameAs (.code y_Sum_isSameAs b_Sum_isSameAs 3 (some .boolean) :: sd_tb) rm_Sum_isSameAs (sd_PW D g [.ref xs, .ref ys] sz [(xs, .inr (0, [.ref xat, .ref xab, .ref xar, .ref xal, .ref xah, .int xk, .int xn])), (xat, aJ g 8 xT), (xab, aJ g 8 xB), (xar, aJ g 8 xR), (ys, .inr (0, [.ref yat, .ref yab, .ref yar, .ref yal, .ref yah, .int yk, .int yn])), (yat, aJ g 8 yT), (yab, aJ g 8 yB), (yar, aJ g 8 yR)]) (sd_Qi0 D g res [(xs, .inr (0, [.ref xat, .ref xab, .ref xar, .ref xal, .ref xah, .int xk, .int xn])), (xat, aJ g 8 xT), (xab, aJ g 8 xB), (xar, aJ g 8 xR), (ys, .inr (0, [.ref yat, .ref yab, .ref yar, .ref yal, .ref yah, .int yk, .int yn])), (yat, aJ g 8 yT), (yab, aJ g 8 yB), (yar, aJ g 8 yR)] (va_A [(xs, .inr (0, [.ref xat, .ref xab, .ref xar, .ref xal, .ref xah, .int xk, .int xn])), (xat, aJ g 8 xT), (xab, aJ g 8 xB), (xar, aJ g 8 xR), (ys, .inr (0, [.ref yat, .ref yab, .ref yar, .ref yal, .ref yah, .int yk, .int yn])), (yat, aJ g 8 yT), (yab, aJ g 8 yB), (yar, aJ g 8 yR)] sz)) 0 0 (va_A [(xs, .inr (0, [.ref xat, .ref xab, .ref xar, .ref xal, .ref xah, .int xk, .int xn])), (xat, aJ g 8 xT), (xab, aJ g 8 xB), (xar, aJ g 8 xR), (ys, .inr (0, [.ref yat, .ref yab, .ref yar, .ref yal, .ref yah, .int yk, .int yn])), (yat, aJ g 8 yT), (yab, aJ g 8 yB), (yar, aJ g 8 yR)] sz) := by
  refine sd_met (Qf := fun A => sd_Qi0 D g res [(xs, .inr (0, [.ref xat, .ref xab, .ref xar, .ref xal, .ref xah, .int xk, .int xn])), (xat, aJ g 8 xT), (xab, aJ g 8 xB), (xar, aJ g 8 xR), (ys, .inr (0, [.ref yat, .ref yab, .ref yar, .ref yal, .ref yah, .int yk, .int yn])), (yat, aJ g 8 yT), (yab, aJ g 8 yB), (yar, aJ g 8 yR)] A) (own := R_Sum) (by decide +kernel) rfl (Nat.le_of_ble_eq_true rfl) ?_
  intro p e s m args below meth c S hr hlk hK A hA Q hQ H locs hP hD hS ls hl
  have hx := S.1
  have hb := S.2.1
  have hml := S.2.2.1
  have hown := S.2.2.2.1
  have htt := sd_tt S
  replace hl : lv_has ls 3 [(0, .ref xs), (1, .ref ys)] := hl
  unfold mf_Sum_isSameAs at hm
  refine lv_aload_n hx hb d_Sum_isSameAs_0 rfl (lv_at hl 0 rfl) ?_
  refine va_get (D := D) (ci := 0) (v := .int xn) (C := R_Sum) (T := F_Sum) (N := 7) hx hb htt i_Sum hown hK hP 0 rfl rfl 6 (by decide) (htt _ kf_Sum_28) (fun _ h9 => h9) rfl d_Sum_isSameAs_1 ?_
  refine lv_aload_n hx hb d_Sum_isSameAs_4 rfl (lv_at hl 1 rfl) ?_
  refine va_get (D := D) (ci := 0) (v := .int yn) (C := R_Sum) (T := F_Sum) (N := 7) hx hb htt i_Sum hown hK hP 4 rfl rfl 6 (by decide) (htt _ kf_Sum_28) (fun _ h9 => h9) rfl d_Sum_isSameAs_5 ?_
  refine lv_icmp_eq (tgt := 13) hx hb d_Sum_isSameAs_8 (by decide) (fun hc => ?_) (fun hc => ?_)
  · have hm := sd_mt hc hm
    refine lv_iconst (v := (0 : Int32)) hx hb d_Sum_isSameAs_13 (by decide) ?_
    refine lv_istore_n (lv' := [(2, .int (0 : Int32)), (0, .ref xs), (1, .ref ys)]) hx hb d_Sum_isSameAs_14 rfl hl (by decide) rfl (fun ls hl => ?_)
    have L15 : ∀ (fu : Nat) (x2 : Int32) (tg : Nat), mf_Sum_isSameAs_L15 xn xT yT xB yB xR yR fu x2 = some (tg) → ∀ (H : Heap) (locs : List Loc) (ls : Array Slot), va_P D classes [(xs, .inr (0, [.ref xat, .ref xab, .ref xar, .ref xal, .ref xah, .int xk, .int xn])), (xat, aJ g 8 xT), (xab, aJ g 8 xB), (xar, aJ g 8 xR), (ys, .inr (0, [.ref yat, .ref yab, .ref yar, .ref yal, .ref yah, .int yk, .int yn])), (yat, aJ g 8 yT), (yab, aJ g 8 yB), (yar, aJ g 8 yR)] H → va_D A [(xs, .inr (0, [.ref xat, .ref xab, .ref xar, .ref xal, .ref xah, .int xk, .int xn])), (xat, aJ g 8 xT), (xab, aJ g 8 xB), (xar, aJ g 8 xR), (ys, .inr (0, [.ref yat, .ref yab, .ref yar, .ref yal, .ref yah, .int yk, .int yn])), (yat, aJ g 8 yT), (yab, aJ g 8 yB), (yar, aJ g 8 yR)] → va_S A s.heap H locs → lv_has ls 3 [(0, .ref xs), (1, .ref ys), (2, .int x2)] → (tg = 0 → ∀ (H : Heap) (locs : List Loc) (ls : Array Slot), va_P D classes [(xs, .inr (0, [.ref xat, .ref xab, .ref xar, .ref xal, .ref xah, .int xk, .int xn])), (xat, aJ g 8 xT), (xab, aJ g 8 xB), (xar, aJ g 8 xR), (ys, .inr (0, [.ref yat, .ref yab, .ref yar, .ref yal, .ref yah, .int yk, .int yn])), (yat, aJ g 8 yT), (yab, aJ g 8 yB), (yar, aJ g 8 yR)] H → va_D A [(xs, .inr (0, [.ref xat, .ref xab, .ref xar, .ref xal, .ref xah, .int xk, .int xn])), (xat, aJ g 8 xT), (xab, aJ g 8 xB), (xar, aJ g 8 xR), (ys, .inr (0, [.ref yat, .ref yab, .ref yar, .ref yal, .ref yah, .int yk, .int yn])), (yat, aJ g 8 yT), (yab, aJ g 8 yB), (yar, aJ g 8 yR)] → va_S A s.heap H locs → lv_has ls 3 [] → W p l e rm_Sum_isSameAs s m args below meth c H locs 0 0 Q (F0 m 71 ls [])) → (tg = 1 → ∀ (H : Heap) (locs : List Loc) (ls : Array Slot), va_P D classes [(xs, .inr (0, [.ref xat, .ref xab, .ref xar, .ref xal, .ref xah, .int xk, .int xn])), (xat, aJ g 8 xT), (xab, aJ g 8 xB), (xar, aJ g 8 xR), (ys, .inr (0, [.ref yat, .ref yab, .ref yar, .ref yal, .ref yah, .int yk, .int yn])), (yat, aJ g 8 yT), (yab, aJ g 8 yB), (yar, aJ g 8 yR)] H → va_D A [(xs, .inr (0, [.ref xat, .ref xab, .ref xar, .ref xal, .ref xah, .int xk, .int xn])), (xat, aJ g 8 xT), (xab, aJ g 8 xB), (xar, aJ g 8 xR), (ys, .inr (0, [.ref yat, .ref yab, .ref yar, .ref yal, .ref yah, .int yk, .int yn])), (yat, aJ g 8 yT), (yab, aJ g 8 yB), (yar, aJ g 8 yR)] → va_S A s.heap H locs → lv_has ls 3 [] → W p l e rm_Sum_isSameAs s m args below meth c H locs 0 0 Q (F0 m 79 ls [])) → W p l e rm_Sum_isSameAs s m args below meth c H locs 0 0 Q (F0 m 15 ls []) := by
      intro fu
      induction fu with
      | zero => intro x2 tg hm; exact absurd (show (none : Option (Nat)) = some (tg) from hm) (fun h => nomatch h)
      | succ fu ih =>
        intro x2 tg hm H locs ls hP hD hS hl kx71 kx79
        rw [mf_Sum_isSameAs_L15] at hm
        refine lv_iload_n hx hb d_Sum_isSameAs_15 rfl (lv_at hl 2 rfl) ?_
        refine lv_aload_n hx hb d_Sum_isSameAs_16 rfl (lv_at hl 0 rfl) ?_
        refine va_get (D := D) (ci := 0) (v := .int xn) (C := R_Sum) (T := F_Sum) (N := 7) hx hb htt i_Sum hown hK hP 0 rfl rfl 6 (by decide) (htt _ kf_Sum_28) (fun _ h9 => h9) rfl d_Sum_isSameAs_17 ?_
        refine lv_icmp_ge (tgt := 79) hx hb d_Sum_isSameAs_20 (by decide) (fun hc => ?_) (fun hc => ?_)
        · have hm := sd_mt hc hm
          cases hm
          exact kx79 rfl H locs ls (hP.sub [0, 1, 2, 3, 4, 5, 6, 7] rfl) (hD.sub [0, 1, 2, 3, 4, 5, 6, 7] (by decide) rfl) hS (lv_sub hl [] rfl)
        · have hm := sd_mf hc hm
          refine lv_aload_n hx hb d_Sum_isSameAs_23 rfl (lv_at hl 0 rfl) ?_
          refine va_get (D := D) (ci := 0) (v := .ref xat) (C := R_Sum) (T := F_Sum) (N := 7) hx hb htt i_Sum hown hK hP 0 rfl rfl 0 (by decide) (htt _ kf_Sum_9) (fun _ h9 => h9) rfl d_Sum_isSameAs_24 ?_
          refine lv_iload_n hx hb d_Sum_isSameAs_27 rfl (lv_at hl 2 rfl) ?_
          obtain ⟨h_1, hm⟩ := sd_mg hm
          refine sd_lald hx hb hK hP 1 rfl h_1 d_Sum_isSameAs_28 ?_
          refine lv_aload_n hx hb d_Sum_isSameAs_29 rfl (lv_at hl 1 rfl) ?_
          refine va_get (D := D) (ci := 0) (v := .ref yat) (C := R_Sum) (T := F_Sum) (N := 7) hx hb htt i_Sum hown hK hP 4 rfl rfl 0 (by decide) (htt _ kf_Sum_9) (fun _ h9 => h9) rfl d_Sum_isSameAs_30 ?_
          refine lv_iload_n hx hb d_Sum_isSameAs_33 rfl (lv_at hl 2 rfl) ?_
          obtain ⟨h_2, hm⟩ := sd_mg hm
          refine sd_lald hx hb hK hP 5 rfl h_2 d_Sum_isSameAs_34 ?_
          refine sd_lne (tgt := 71) hx hb d_Sum_isSameAs_35 d_Sum_isSameAs_36 (by decide) (fun hc => ?_) (fun hc => ?_)
          · have hm := sd_mf hc hm
            cases hm
            exact kx71 rfl H locs ls (hP.sub [0, 1, 2, 3, 4, 5, 6, 7] rfl) (hD.sub [0, 1, 2, 3, 4, 5, 6, 7] (by decide) rfl) hS (lv_sub hl [] rfl)
          · have hm := sd_mt hc hm
            refine lv_aload_n hx hb d_Sum_isSameAs_39 rfl (lv_at hl 0 rfl) ?_
            refine va_get (D := D) (ci := 0) (v := .ref xab) (C := R_Sum) (T := F_Sum) (N := 7) hx hb htt i_Sum hown hK hP 0 rfl rfl 1 (by decide) (htt _ kf_Sum_13) (fun _ h9 => h9) rfl d_Sum_isSameAs_40 ?_
            refine lv_iload_n hx hb d_Sum_isSameAs_43 rfl (lv_at hl 2 rfl) ?_
            obtain ⟨h_3, hm⟩ := sd_mg hm
            refine sd_lald hx hb hK hP 2 rfl h_3 d_Sum_isSameAs_44 ?_
            refine lv_aload_n hx hb d_Sum_isSameAs_45 rfl (lv_at hl 1 rfl) ?_
            refine va_get (D := D) (ci := 0) (v := .ref yab) (C := R_Sum) (T := F_Sum) (N := 7) hx hb htt i_Sum hown hK hP 4 rfl rfl 1 (by decide) (htt _ kf_Sum_13) (fun _ h9 => h9) rfl d_Sum_isSameAs_46 ?_
            refine lv_iload_n hx hb d_Sum_isSameAs_49 rfl (lv_at hl 2 rfl) ?_
            obtain ⟨h_4, hm⟩ := sd_mg hm
            refine sd_lald hx hb hK hP 6 rfl h_4 d_Sum_isSameAs_50 ?_
            refine sd_lne (tgt := 71) hx hb d_Sum_isSameAs_51 d_Sum_isSameAs_52 (by decide) (fun hc => ?_) (fun hc => ?_)
            · have hm := sd_mf hc hm
              cases hm
              exact kx71 rfl H locs ls (hP.sub [0, 1, 2, 3, 4, 5, 6, 7] rfl) (hD.sub [0, 1, 2, 3, 4, 5, 6, 7] (by decide) rfl) hS (lv_sub hl [] rfl)
            · have hm := sd_mt hc hm
              refine lv_aload_n hx hb d_Sum_isSameAs_55 rfl (lv_at hl 0 rfl) ?_
              refine va_get (D := D) (ci := 0) (v := .ref xar) (C := R_Sum) (T := F_Sum) (N := 7) hx hb htt i_Sum hown hK hP 0 rfl rfl 2 (by decide) (htt _ kf_Sum_16) (fun _ h9 => h9) rfl d_Sum_isSameAs_56 ?_
              refine lv_iload_n hx hb d_Sum_isSameAs_59 rfl (lv_at hl 2 rfl) ?_
              obtain ⟨h_5, hm⟩ := sd_mg hm
              refine sd_lald hx hb hK hP 3 rfl h_5 d_Sum_isSameAs_60 ?_
              refine lv_aload_n hx hb d_Sum_isSameAs_61 rfl (lv_at hl 1 rfl) ?_
              refine va_get (D := D) (ci := 0) (v := .ref yar) (C := R_Sum) (T := F_Sum) (N := 7) hx hb htt i_Sum hown hK hP 4 rfl rfl 2 (by decide) (htt _ kf_Sum_16) (fun _ h9 => h9) rfl d_Sum_isSameAs_62 ?_
              refine lv_iload_n hx hb d_Sum_isSameAs_65 rfl (lv_at hl 2 rfl) ?_
              obtain ⟨h_6, hm⟩ := sd_mg hm
              refine sd_lald hx hb hK hP 7 rfl h_6 d_Sum_isSameAs_66 ?_
              refine sd_leq (tgt := 73) hx hb d_Sum_isSameAs_67 d_Sum_isSameAs_68 (by decide) (fun hc => ?_) (fun hc => ?_)
              · have hm := sd_mt hc hm
                obtain ⟨x2_1, ex2_1, hm⟩ := sd_mlet hm
                refine lv_iinc (v := x2_1) (lv' := [(2, .int x2_1), (0, .ref xs), (1, .ref ys)]) hx hb d_Sum_isSameAs_73 hl (k := 2) rfl (by rw [ex2_1]; rfl) (by decide) rfl (fun ls hl => ?_)
                refine lv_goto (tgt := 15) hx hb d_Sum_isSameAs_76 (by decide) ?_
                exact ih x2_1 tg hm H locs ls (hP.sub [0, 1, 2, 3, 4, 5, 6, 7] rfl) (hD.sub [0, 1, 2, 3, 4, 5, 6, 7] (by decide) rfl) hS (lv_sub hl [1, 2, 0] rfl) kx71 kx79
              · have hm := sd_mf hc hm
                cases hm
                exact kx71 rfl H locs ls (hP.sub [0, 1, 2, 3, 4, 5, 6, 7] rfl) (hD.sub [0, 1, 2, 3, 4, 5, 6, 7] (by decide) rfl) hS (lv_sub hl [] rfl)
    obtain ⟨tg, hc, hm⟩ := sd_mb1 hm
    refine L15 F (0 : Int32) tg hc H locs ls (hP.sub [0, 1, 2, 3, 4, 5, 6, 7] rfl) (hD.sub [0, 1, 2, 3, 4, 5, 6, 7] (by decide) rfl) hS (lv_sub hl [1, 2, 0] rfl) ?_ ?_
    · intro ht H locs ls hP hD hS hl
      have hm := sd_mt ht hm
      refine lv_iconst (v := (0 : Int32)) hx hb d_Sum_isSameAs_71 (by decide) ?_
      exact sd_z0ret hQ hx hb hr hlk rfl hK (hP.sub [0, 1, 2, 3, 4, 5, 6, 7] rfl) (hD.sub [0, 1, 2, 3, 4, 5, 6, 7] (by decide) rfl) hS (Option.some.inj hm).symm d_Sum_isSameAs_72
    · intro ht H locs ls hP hD hS hl
      have hm := sd_mf (by rw [ht]; decide) hm
      refine lv_iconst (v := (1 : Int32)) hx hb d_Sum_isSameAs_79 (by decide) ?_
      exact sd_z0ret hQ hx hb hr hlk rfl hK (hP.sub [0, 1, 2, 3, 4, 5, 6, 7] rfl) (hD.sub [0, 1, 2, 3, 4, 5, 6, 7] (by decide) rfl) hS (Option.some.inj hm).symm d_Sum_isSameAs_80
  · have hm := sd_mf hc hm
    refine lv_iconst (v := (0 : Int32)) hx hb d_Sum_isSameAs_11 (by decide) ?_
    exact sd_z0ret hQ hx hb hr hlk rfl hK (hP.sub [0, 1, 2, 3, 4, 5, 6, 7] rfl) (hD.sub [0, 1, 2, 3, 4, 5, 6, 7] (by decide) rfl) hS (Option.some.inj hm).symm d_Sum_isSameAs_12
abbrev rm_Sum_isSameAs2 : Room := { frames := 0, cells := 0, slots := 0, locals := 0 }
set_option maxHeartbeats 4000000 in
set_option maxRecDepth 100000 in
theorem ct_Sum_isSameAs2 (l : Launch) (D : va_G) (g : G4) (xs : Nat) (xat : Nat) (xab : Nat) (xar : Nat) (xal : Nat) (xah : Nat) (sz : Nat) (xk : Int32) (xn : Int32) (xT : Nat → Int64) (xB : Nat → Int64) (xR : Nat → Int64) (F : Nat) (res : Int32) (hm : mf_Sum_isSameAs F xk xn xT xB xR xk xn xT xB xR = some res) : Met l y_Sum_isSameAs (.code y_Sum_isSameAs b_Sum_isSameAs 3 (some .boolean) :: sd_tb) rm_Sum_isSameAs2 (sd_PW D g [.ref xs, .ref xs] sz [(xs, .inr (0, [.ref xat, .ref xab, .ref xar, .ref xal, .ref xah, .int xk, .int xn])), (xat, aJ g 8 xT), (xab, aJ g 8 xB), (xar, aJ g 8 xR)]) (sd_Qi0 D g res [(xs, .inr (0, [.ref xat, .ref xab, .ref xar, .ref xal, .ref xah, .int xk, .int xn])), (xat, aJ g 8 xT), (xab, aJ g 8 xB), (xar, aJ g 8 xR)] (va_A [(xs, .inr (0, [.ref xat, .ref xab, .ref xar, .ref xal, .ref xah, .int xk, .int xn])), (xat, aJ g 8 xT), (xab, aJ g 8 xB), (xar, aJ g 8 xR)] sz)) 0 0 (va_A [(xs, .inr (0, [.ref xat, .ref xab, .ref xar, .ref xal, .ref xah, .int xk, .int xn])), (xat, aJ g 8 xT), (xab, aJ g 8 xB), (xar, aJ g 8 xR)] sz) := by
  refine sd_met (Qf := fun A => sd_Qi0 D g res [(xs, .inr (0, [.ref xat, .ref xab, .ref xar, .ref xal, .ref xah, .int xk, .int xn])), (xat, aJ g 8 xT), (xab, aJ g 8 xB), (xar, aJ g 8 xR)] A) (own := R_Sum) (by decide +kernel) rfl (Nat.le_of_ble_eq_true rfl) ?_
  intro p e s m args below meth c S hr hlk hK A hA Q hQ H locs hP hD hS ls hl
  have hx := S.1
  have hb := S.2.1
  have hml := S.2.2.1
  have hown := S.2.2.2.1
  have htt := sd_tt S
  replace hl : lv_has ls 3 [(0, .ref xs), (1, .ref xs)] := hl
  unfold mf_Sum_isSameAs at hm
  refine lv_aload_n hx hb d_Sum_isSameAs_0 rfl (lv_at hl 0 rfl) ?_
  refine va_get (D := D) (ci := 0) (v := .int xn) (C := R_Sum) (T := F_Sum) (N := 7) hx hb htt i_Sum hown hK hP 0 rfl rfl 6 (by decide) (htt _ kf_Sum_28) (fun _ h9 => h9) rfl d_Sum_isSameAs_1 ?_
  refine lv_aload_n hx hb d_Sum_isSameAs_4 rfl (lv_at hl 1 rfl) ?_
  refine va_get (D := D) (ci := 0) (v := .int xn) (C := R_Sum) (T := F_Sum) (N := 7) hx hb htt i_Sum hown hK hP 0 rfl rfl 6 (by decide) (htt _ kf_Sum_28) (fun _ h9 => h9) rfl d_Sum_isSameAs_5 ?_
  refine lv_icmp_eq (tgt := 13) hx hb d_Sum_isSameAs_8 (by decide) (fun hc => ?_) (fun hc => ?_)
  · have hm := sd_mt hc hm
    refine lv_iconst (v := (0 : Int32)) hx hb d_Sum_isSameAs_13 (by decide) ?_
    refine lv_istore_n (lv' := [(2, .int (0 : Int32)), (0, .ref xs), (1, .ref xs)]) hx hb d_Sum_isSameAs_14 rfl hl (by decide) rfl (fun ls hl => ?_)
    have L15 : ∀ (fu : Nat) (x2 : Int32) (tg : Nat), mf_Sum_isSameAs_L15 xn xT xT xB xB xR xR fu x2 = some (tg) → ∀ (H : Heap) (locs : List Loc) (ls : Array Slot), va_P D classes [(xs, .inr (0, [.ref xat, .ref xab, .ref xar, .ref xal, .ref xah, .int xk, .int xn])), (xat, aJ g 8 xT), (xab, aJ g 8 xB), (xar, aJ g 8 xR)] H → va_D A [(xs, .inr (0, [.ref xat, .ref xab, .ref xar, .ref xal, .ref xah, .int xk, .int xn])), (xat, aJ g 8 xT), (xab, aJ g 8 xB), (xar, aJ g 8 xR)] → va_S A s.heap H locs → lv_has ls 3 [(0, .ref xs), (1, .ref xs), (2, .int x2)] → (tg = 0 → ∀ (H : Heap) (locs : List Loc) (ls : Array Slot), va_P D classes [(xs, .inr (0, [.ref xat, .ref xab, .ref xar, .ref xal, .ref xah, .int xk, .int xn])), (xat, aJ g 8 xT), (xab, aJ g 8 xB), (xar, aJ g 8 xR)] H → va_D A [(xs, .inr (0, [.ref xat, .ref xab, .ref xar, .ref xal, .ref xah, .int xk, .int xn])), (xat, aJ g 8 xT), (xab, aJ g 8 xB), (xar, aJ g 8 xR)] → va_S A s.heap H locs → lv_has ls 3 [] → W p l e rm_Sum_isSameAs2 s m args below meth c H locs 0 0 Q (F0 m 71 ls [])) → (tg = 1 → ∀ (H : Heap) (locs : List Loc) (ls : Array Slot), va_P D classes [(xs, .inr (0, [.ref xat, .ref xab, .ref xar, .ref xal, .ref xah, .int xk, .int xn])), (xat, aJ g 8 xT), (xab, aJ g 8 xB), (xar, aJ g 8 xR)] H → va_D A [(xs, .inr (0, [.ref xat, .ref xab, .ref xar, .ref xal, .ref xah, .int xk, .int xn])), (xat, aJ g 8 xT), (xab, aJ g 8 xB), (xar, aJ g 8 xR)] → va_S A s.heap H locs → lv_has ls 3 [] → W p l e rm_Sum_isSameAs2 s m args below meth c H locs 0 0 Q (F0 m 79 ls [])) → W p l e rm_Sum_isSameAs2 s m args below meth c H locs 0 0 Q (F0 m 15 ls []) := by
      intro fu
      induction fu with
      | zero => intro x2 tg hm; exact absurd (show (none : Option (Nat)) = some (tg) from hm) (fun h => nomatch h)
      | succ fu ih =>
        intro x2 tg hm H locs ls hP hD hS hl kx71 kx79
        rw [mf_Sum_isSameAs_L15] at hm
        refine lv_iload_n hx hb d_Sum_isSameAs_15 rfl (lv_at hl 2 rfl) ?_
        refine lv_aload_n hx hb d_Sum_isSameAs_16 rfl (lv_at hl 0 rfl) ?_
        refine va_get (D := D) (ci := 0) (v := .int xn) (C := R_Sum) (T := F_Sum) (N := 7) hx hb htt i_Sum hown hK hP 0 rfl rfl 6 (by decide) (htt _ kf_Sum_28) (fun _ h9 => h9) rfl d_Sum_isSameAs_17 ?_
        refine lv_icmp_ge (tgt := 79) hx hb d_Sum_isSameAs_20 (by decide) (fun hc => ?_) (fun hc => ?_)
        · have hm := sd_mt hc hm
          cases hm
          exact kx79 rfl H locs ls (hP.sub [0, 1, 2, 3] rfl) (hD.sub [0, 1, 2, 3] (by decide) rfl) hS (lv_sub hl [] rfl)
        · have hm := sd_mf hc hm
          refine lv_aload_n hx hb d_Sum_isSameAs_23 rfl (lv_at hl 0 rfl) ?_
          refine va_get (D := D) (ci := 0) (v := .ref xat) (C := R_Sum) (T := F_Sum) (N := 7) hx hb htt i_Sum hown hK hP 0 rfl rfl 0 (by decide) (htt _ kf_Sum_9) (fun _ h9 => h9) rfl d_Sum_isSameAs_24 ?_
          refine lv_iload_n hx hb d_Sum_isSameAs_27 rfl (lv_at hl 2 rfl) ?_
          obtain ⟨h_1, hm⟩ := sd_mg hm
          refine sd_lald hx hb hK hP 1 rfl h_1 d_Sum_isSameAs_28 ?_
          refine lv_aload_n hx hb d_Sum_isSameAs_29 rfl (lv_at hl 1 rfl) ?_
          refine va_get (D := D) (ci := 0) (v := .ref xat) (C := R_Sum) (T := F_Sum) (N := 7) hx hb htt i_Sum hown hK hP 0 rfl rfl 0 (by decide) (htt _ kf_Sum_9) (fun _ h9 => h9) rfl d_Sum_isSameAs_30 ?_
          refine lv_iload_n hx hb d_Sum_isSameAs_33 rfl (lv_at hl 2 rfl) ?_
          obtain ⟨h_2, hm⟩ := sd_mg hm
          refine sd_lald hx hb hK hP 1 rfl h_2 d_Sum_isSameAs_34 ?_
          refine sd_lne (tgt := 71) hx hb d_Sum_isSameAs_35 d_Sum_isSameAs_36 (by decide) (fun hc => ?_) (fun hc => ?_)
          · have hm := sd_mf hc hm
            cases hm
            exact kx71 rfl H locs ls (hP.sub [0, 1, 2, 3] rfl) (hD.sub [0, 1, 2, 3] (by decide) rfl) hS (lv_sub hl [] rfl)
          · have hm := sd_mt hc hm
            refine lv_aload_n hx hb d_Sum_isSameAs_39 rfl (lv_at hl 0 rfl) ?_
            refine va_get (D := D) (ci := 0) (v := .ref xab) (C := R_Sum) (T := F_Sum) (N := 7) hx hb htt i_Sum hown hK hP 0 rfl rfl 1 (by decide) (htt _ kf_Sum_13) (fun _ h9 => h9) rfl d_Sum_isSameAs_40 ?_
            refine lv_iload_n hx hb d_Sum_isSameAs_43 rfl (lv_at hl 2 rfl) ?_
            obtain ⟨h_3, hm⟩ := sd_mg hm
            refine sd_lald hx hb hK hP 2 rfl h_3 d_Sum_isSameAs_44 ?_
            refine lv_aload_n hx hb d_Sum_isSameAs_45 rfl (lv_at hl 1 rfl) ?_
            refine va_get (D := D) (ci := 0) (v := .ref xab) (C := R_Sum) (T := F_Sum) (N := 7) hx hb htt i_Sum hown hK hP 0 rfl rfl 1 (by decide) (htt _ kf_Sum_13) (fun _ h9 => h9) rfl d_Sum_isSameAs_46 ?_
            refine lv_iload_n hx hb d_Sum_isSameAs_49 rfl (lv_at hl 2 rfl) ?_
            obtain ⟨h_4, hm⟩ := sd_mg hm
            refine sd_lald hx hb hK hP 2 rfl h_4 d_Sum_isSameAs_50 ?_
            refine sd_lne (tgt := 71) hx hb d_Sum_isSameAs_51 d_Sum_isSameAs_52 (by decide) (fun hc => ?_) (fun hc => ?_)
            · have hm := sd_mf hc hm
              cases hm
              exact kx71 rfl H locs ls (hP.sub [0, 1, 2, 3] rfl) (hD.sub [0, 1, 2, 3] (by decide) rfl) hS (lv_sub hl [] rfl)
            · have hm := sd_mt hc hm
              refine lv_aload_n hx hb d_Sum_isSameAs_55 rfl (lv_at hl 0 rfl) ?_
              refine va_get (D := D) (ci := 0) (v := .ref xar) (C := R_Sum) (T := F_Sum) (N := 7) hx hb htt i_Sum hown hK hP 0 rfl rfl 2 (by decide) (htt _ kf_Sum_16) (fun _ h9 => h9) rfl d_Sum_isSameAs_56 ?_
              refine lv_iload_n hx hb d_Sum_isSameAs_59 rfl (lv_at hl 2 rfl) ?_
              obtain ⟨h_5, hm⟩ := sd_mg hm
              refine sd_lald hx hb hK hP 3 rfl h_5 d_Sum_isSameAs_60 ?_
              refine lv_aload_n hx hb d_Sum_isSameAs_61 rfl (lv_at hl 1 rfl) ?_
              refine va_get (D := D) (ci := 0) (v := .ref xar) (C := R_Sum) (T := F_Sum) (N := 7) hx hb htt i_Sum hown hK hP 0 rfl rfl 2 (by decide) (htt _ kf_Sum_16) (fun _ h9 => h9) rfl d_Sum_isSameAs_62 ?_
              refine lv_iload_n hx hb d_Sum_isSameAs_65 rfl (lv_at hl 2 rfl) ?_
              obtain ⟨h_6, hm⟩ := sd_mg hm
              refine sd_lald hx hb hK hP 3 rfl h_6 d_Sum_isSameAs_66 ?_
              refine sd_leq (tgt := 73) hx hb d_Sum_isSameAs_67 d_Sum_isSameAs_68 (by decide) (fun hc => ?_) (fun hc => ?_)
              · have hm := sd_mt hc hm
                obtain ⟨x2_1, ex2_1, hm⟩ := sd_mlet hm
                refine lv_iinc (v := x2_1) (lv' := [(2, .int x2_1), (0, .ref xs), (1, .ref xs)]) hx hb d_Sum_isSameAs_73 hl (k := 2) rfl (by rw [ex2_1]; rfl) (by decide) rfl (fun ls hl => ?_)
                refine lv_goto (tgt := 15) hx hb d_Sum_isSameAs_76 (by decide) ?_
                exact ih x2_1 tg hm H locs ls (hP.sub [0, 1, 2, 3] rfl) (hD.sub [0, 1, 2, 3] (by decide) rfl) hS (lv_sub hl [1, 2, 0] rfl) kx71 kx79
              · have hm := sd_mf hc hm
                cases hm
                exact kx71 rfl H locs ls (hP.sub [0, 1, 2, 3] rfl) (hD.sub [0, 1, 2, 3] (by decide) rfl) hS (lv_sub hl [] rfl)
    obtain ⟨tg, hc, hm⟩ := sd_mb1 hm
    refine L15 F (0 : Int32) tg hc H locs ls (hP.sub [0, 1, 2, 3] rfl) (hD.sub [0, 1, 2, 3] (by decide) rfl) hS (lv_sub hl [1, 2, 0] rfl) ?_ ?_
    · intro ht H locs ls hP hD hS hl
      have hm := sd_mt ht hm
      refine lv_iconst (v := (0 : Int32)) hx hb d_Sum_isSameAs_71 (by decide) ?_
      exact sd_z0ret hQ hx hb hr hlk rfl hK (hP.sub [0, 1, 2, 3] rfl) (hD.sub [0, 1, 2, 3] (by decide) rfl) hS (Option.some.inj hm).symm d_Sum_isSameAs_72
    · intro ht H locs ls hP hD hS hl
      have hm := sd_mf (by rw [ht]; decide) hm
      refine lv_iconst (v := (1 : Int32)) hx hb d_Sum_isSameAs_79 (by decide) ?_
      exact sd_z0ret hQ hx hb hr hlk rfl hK (hP.sub [0, 1, 2, 3] rfl) (hD.sub [0, 1, 2, 3] (by decide) rfl) hS (Option.some.inj hm).symm d_Sum_isSameAs_80
  · have hm := sd_mf hc hm
    refine lv_iconst (v := (0 : Int32)) hx hb d_Sum_isSameAs_11 (by decide) ?_
    exact sd_z0ret hQ hx hb hr hlk rfl hK (hP.sub [0, 1, 2, 3] rfl) (hD.sub [0, 1, 2, 3] (by decide) rfl) hS (Option.some.inj hm).symm d_Sum_isSameAs_12
theorem d_Sum_clear_0 : decode b_Sum_clear 0 = .ok (.aload_n 0, 1) := by decide +kernel
theorem d_Sum_clear_1 : decode b_Sum_clear 1 = .ok (.iconst 0, 1) := by decide +kernel
theorem d_Sum_clear_2 : decode b_Sum_clear 2 = .ok (.putfield 28, 3) := by decide +kernel
theorem d_Sum_clear_5 : decode b_Sum_clear 5 = .ok (.aload_n 0, 1) := by decide +kernel
theorem d_Sum_clear_6 : decode b_Sum_clear 6 = .ok (.iconst 0, 1) := by decide +kernel
theorem d_Sum_clear_7 : decode b_Sum_clear 7 = .ok (.putfield 75, 3) := by decide +kernel
theorem d_Sum_clear_10 : decode b_Sum_clear 10 = .ok (.return_, 1) := by decide +kernel
def mf_Sum_clear (F : Nat) (xk : Int32) (xn : Int32) : Option (Int32 × Int32) :=
  (some ((0 : Int32), (0 : Int32)))
abbrev rm_Sum_clear : Room := { frames := 0, cells := 0, slots := 0, locals := 0 }
set_option maxHeartbeats 4000000 in
set_option maxRecDepth 100000 in
theorem ct_Sum_clear (l : Launch) (D : va_G) (g : G4) (xs : Nat) (xat : Nat) (xab : Nat) (xar : Nat) (xal : Nat) (xah : Nat) (sz : Nat) (xk : Int32) (xn : Int32) (F : Nat) (res : Int32 × Int32) (hm : mf_Sum_clear F xk xn = some res) : Met l y_Sum_clear (.code y_Sum_clear b_Sum_clear 1 none :: sd_tb) rm_Sum_clear (sd_PW D g [.ref xs] sz [(xs, .inr (0, [.ref xat, .ref xab, .ref xar, .ref xal, .ref xah, .int xk, .int xn]))]) (sd_Qv1 D g res (fun u : Int32 × Int32 => [(xs, .inr (0, [.ref xat, .ref xab, .ref xar, .ref xal, .ref xah, .int (u.1), .int (u.2)]))]) (va_A [(xs, .inr (0, [.ref xat, .ref xab, .ref xar, .ref xal, .ref xah, .int xk, .int xn]))] sz)) 0 0 (va_A [(xs, .inr (0, [.ref xat, .ref xab, .ref xar, .ref xal, .ref xah, .int xk, .int xn]))] sz) := by
  refine sd_met (Qf := fun A => sd_Qv1 D g res (fun u : Int32 × Int32 => [(xs, .inr (0, [.ref xat, .ref xab, .ref xar, .ref xal, .ref xah, .int (u.1), .int (u.2)]))]) A) (own := R_Sum) (by decide +kernel) rfl (Nat.le_of_ble_eq_true rfl) ?_
  intro p e s m args below meth c S hr hlk hK A hA Q hQ H locs hP hD hS ls hl
  have hx := S.1
  have hb := S.2.1
  have hml := S.2.2.1
  have hown := S.2.2.2.1
  have htt := sd_tt S
  replace hl : lv_has ls 1 [(0, .ref xs)] := hl
  unfold mf_Sum_clear at hm
  refine lv_aload_n hx hb d_Sum_clear_0 rfl (lv_at hl 0 rfl) ?_
  refine lv_iconst (v := (0 : Int32)) hx hb d_Sum_clear_1 (by decide) ?_
  refine sd_put (ci := 0) (v := .int (0 : Int32)) (ty := .int) (C := R_Sum) (T := F_Sum) (N := 7) (ws2 := [(xs, .inr (0, [.ref xat, .ref xab, .ref xar, .ref xal, .ref xah, .int xk, .int (0 : Int32)]))]) hx hb htt i_Sum t_Sum t_Sum_ok n_Sum hown hK hP hD hS 0 rfl rfl 6 (by decide) kf_Sum_28 (fun _ h9 => h9) rfl (by decide +kernel) rfl rfl (Nat.le_of_ble_eq_true rfl) rfl d_Sum_clear_2 (fun H locs hP hD hS => ?_)
  refine lv_aload_n hx hb d_Sum_clear_5 rfl (lv_at hl 0 rfl) ?_
  refine lv_iconst (v := (0 : Int32)) hx hb d_Sum_clear_6 (by decide) ?_
  refine sd_put (ci := 0) (v := .int (0 : Int32)) (ty := .boolean) (C := R_Sum) (T := F_Sum) (N := 7) (ws2 := [(xs, .inr (0, [.ref xat, .ref xab, .ref xar, .ref xal, .ref xah, .int (0 : Int32), .int (0 : Int32)]))]) hx hb htt i_Sum t_Sum t_Sum_ok n_Sum hown hK hP hD hS 0 rfl rfl 5 (by decide) kf_Sum_75 (fun _ h9 => h9) rfl (by decide +kernel) rfl rfl (Nat.le_of_ble_eq_true rfl) rfl d_Sum_clear_7 (fun H locs hP hD hS => ?_)
  exact sd_v1ret (u := ((0 : Int32), (0 : Int32))) hQ hx hb hr hlk hK (hP.sub [0] rfl) (hD.sub [0] (by decide) rfl) hS (Option.some.inj hm).symm d_Sum_clear_10
theorem d_Sum_put_0 : decode b_Sum_put 0 = .ok (.aload_n 0, 1) := by decide +kernel
theorem d_Sum_put_1 : decode b_Sum_put 1 = .ok (.getfield 9, 3) := by decide +kernel
theorem d_Sum_put_4 : decode b_Sum_put 4 = .ok (.iload_n 1, 1) := by decide +kernel
theorem d_Sum_put_5 : decode b_Sum_put 5 = .ok (.lload_n 2, 1) := by decide +kernel
theorem d_Sum_put_6 : decode b_Sum_put 6 = .ok (.lastore, 1) := by decide +kernel
theorem d_Sum_put_7 : decode b_Sum_put 7 = .ok (.aload_n 0, 1) := by decide +kernel
theorem d_Sum_put_8 : decode b_Sum_put 8 = .ok (.getfield 13, 3) := by decide +kernel
theorem d_Sum_put_11 : decode b_Sum_put 11 = .ok (.iload_n 1, 1) := by decide +kernel
theorem d_Sum_put_12 : decode b_Sum_put 12 = .ok (.lload 4, 2) := by decide +kernel
theorem d_Sum_put_14 : decode b_Sum_put 14 = .ok (.lastore, 1) := by decide +kernel
theorem d_Sum_put_15 : decode b_Sum_put 15 = .ok (.aload_n 0, 1) := by decide +kernel
theorem d_Sum_put_16 : decode b_Sum_put 16 = .ok (.getfield 16, 3) := by decide +kernel
theorem d_Sum_put_19 : decode b_Sum_put 19 = .ok (.iload_n 1, 1) := by decide +kernel
theorem d_Sum_put_20 : decode b_Sum_put 20 = .ok (.lload 6, 2) := by decide +kernel
theorem d_Sum_put_22 : decode b_Sum_put 22 = .ok (.lastore, 1) := by decide +kernel
theorem d_Sum_put_23 : decode b_Sum_put 23 = .ok (.return_, 1) := by decide +kernel
def mf_Sum_put (F : Nat) (vK : Int32) (vTop : Int64) (vBot : Int64) (vRad : Int64) (xk : Int32) (xn : Int32) (xT : Nat → Int64) (xB : Nat → Int64) (xR : Nat → Int64) : Option ((Nat → Int64) × (Nat → Int64) × (Nat → Int64)) :=
  (sd_g (sd_ix vK 8) (sd_let (vp_updL xT vK.toNatClampNeg vTop) fun uxat => (sd_g (sd_ix vK 8) (sd_let (vp_updL xB vK.toNatClampNeg vBot) fun uxab => (sd_g (sd_ix vK 8) (sd_let (vp_updL xR vK.toNatClampNeg vRad) fun uxar => (some (uxat, uxab, uxar))))))))
abbrev rm_Sum_put : Room := { frames := 0, cells := 0, slots := 0, locals := 0 }
set_option maxHeartbeats 4000000 in
set_option maxRecDepth 100000 in
theorem ct_Sum_put (l : Launch) (D : va_G) (g : G4) (xs : Nat) (xat : Nat) (xab : Nat) (xar : Nat) (xal : Nat) (xah : Nat) (sz : Nat) (vK : Int32) (vTop : Int64) (vBot : Int64) (vRad : Int64) (xk : Int32) (xn : Int32) (xT : Nat → Int64) (xB : Nat → Int64) (xR : Nat → Int64) (F : Nat) (res : (Nat → Int64) × (Nat → Int64) × (Nat → Int64)) (hm : mf_Sum_put F vK vTop vBot vRad xk xn xT xB xR = some res) : Met l y_Sum_put (.code y_Sum_put b_Sum_put 8 none :: sd_tb) rm_Sum_put (sd_PW D g [.ref xs, .int vK, .long vTop, .long vBot, .long vRad] sz [(xs, .inr (0, [.ref xat, .ref xab, .ref xar, .ref xal, .ref xah, .int xk, .int xn])), (xat, aJ g 8 xT), (xab, aJ g 8 xB), (xar, aJ g 8 xR)]) (sd_Qv1 D g res (fun u : (Nat → Int64) × (Nat → Int64) × (Nat → Int64) => [(xs, .inr (0, [.ref xat, .ref xab, .ref xar, .ref xal, .ref xah, .int xk, .int xn])), (xat, aJ g 8 (u.1)), (xab, aJ g 8 (u.2.1)), (xar, aJ g 8 (u.2.2))]) (va_A [(xs, .inr (0, [.ref xat, .ref xab, .ref xar, .ref xal, .ref xah, .int xk, .int xn])), (xat, aJ g 8 xT), (xab, aJ g 8 xB), (xar, aJ g 8 xR)] sz)) 0 0 (va_A [(xs, .inr (0, [.ref xat, .ref xab, .ref xar, .ref xal, .ref xah, .int xk, .int xn])), (xat, aJ g 8 xT), (xab, aJ g 8 xB), (xar, aJ g 8 xR)] sz) := by
  refine sd_met (Qf := fun A => sd_Qv1 D g res (fun u : (Nat → Int64) × (Nat → Int64) × (Nat → Int64) => [(xs, .inr (0, [.ref xat, .ref xab, .ref xar, .ref xal, .ref xah, .int xk, .int xn])), (xat, aJ g 8 (u.1)), (xab, aJ g 8 (u.2.1)), (xar, aJ g 8 (u.2.2))]) A) (own := R_Sum) (by decide +kernel) rfl (Nat.le_of_ble_eq_true rfl) ?_
  intro p e s m args below meth c S hr hlk hK A hA Q hQ H locs hP hD hS ls hl
  have hx := S.1
  have hb := S.2.1
  have hml := S.2.2.1
  have hown := S.2.2.2.1
  have htt := sd_tt S
  replace hl : lv_has ls 8 [(0, .ref xs), (1, .int vK), (2, .long vTop), (4, .long vBot), (6, .long vRad)] := hl
  unfold mf_Sum_put at hm
  refine lv_aload_n hx hb d_Sum_put_0 rfl (lv_at hl 0 rfl) ?_
  refine va_get (D := D) (ci := 0) (v := .ref xat) (C := R_Sum) (T := F_Sum) (N := 7) hx hb htt i_Sum hown hK hP 0 rfl rfl 0 (by decide) (htt _ kf_Sum_9) (fun _ h9 => h9) rfl d_Sum_put_1 ?_
  refine lv_iload_n hx hb d_Sum_put_4 rfl (lv_at hl 1 rfl) ?_
  refine lv_lload_n hx hb d_Sum_put_5 rfl (lv_at hl 2 rfl) ?_
  obtain ⟨h_1, hm⟩ := sd_mg hm
  obtain ⟨uxat, euxat, hm⟩ := sd_mlet hm
  refine sd_last (f2 := uxat) (ws2 := [(xs, .inr (0, [.ref xat, .ref xab, .ref xar, .ref xal, .ref xah, .int xk, .int xn])), (xat, aJ g 8 uxat), (xab, aJ g 8 xB), (xar, aJ g 8 xR)]) hx hb hK hP hD hS 1 rfl h_1 euxat rfl d_Sum_put_6 (fun H locs hP hD hS => ?_)
  refine lv_aload_n hx hb d_Sum_put_7 rfl (lv_at hl 0 rfl) ?_
  refine va_get (D := D) (ci := 0) (v := .ref xab) (C := R_Sum) (T := F_Sum) (N := 7) hx hb htt i_Sum hown hK hP 0 rfl rfl 1 (by decide) (htt _ kf_Sum_13) (fun _ h9 => h9) rfl d_Sum_put_8 ?_
  refine lv_iload_n hx hb d_Sum_put_11 rfl (lv_at hl 1 rfl) ?_
  refine lv_lload hx hb d_Sum_put_12 (lv_at hl 3 rfl) ?_
  obtain ⟨h_2, hm⟩ := sd_mg hm
  obtain ⟨uxab, euxab, hm⟩ := sd_mlet hm
  refine sd_last (f2 := uxab) (ws2 := [(xs, .inr (0, [.ref xat, .ref xab, .ref xar, .ref xal, .ref xah, .int xk, .int xn])), (xat, aJ g 8 uxat), (xab, aJ g 8 uxab), (xar, aJ g 8 xR)]) hx hb hK hP hD hS 2 rfl h_2 euxab rfl d_Sum_put_14 (fun H locs hP hD hS => ?_)
  refine lv_aload_n hx hb d_Sum_put_15 rfl (lv_at hl 0 rfl) ?_
  refine va_get (D := D) (ci := 0) (v := .ref xar) (C := R_Sum) (T := F_Sum) (N := 7) hx hb htt i_Sum hown hK hP 0 rfl rfl 2 (by decide) (htt _ kf_Sum_16) (fun _ h9 => h9) rfl d_Sum_put_16 ?_
  refine lv_iload_n hx hb d_Sum_put_19 rfl (lv_at hl 1 rfl) ?_
  refine lv_lload hx hb d_Sum_put_20 (lv_at hl 4 rfl) ?_
  obtain ⟨h_3, hm⟩ := sd_mg hm
  obtain ⟨uxar, euxar, hm⟩ := sd_mlet hm
  refine sd_last (f2 := uxar) (ws2 := [(xs, .inr (0, [.ref xat, .ref xab, .ref xar, .ref xal, .ref xah, .int xk, .int xn])), (xat, aJ g 8 uxat), (xab, aJ g 8 uxab), (xar, aJ g 8 uxar)]) hx hb hK hP hD hS 3 rfl h_3 euxar rfl d_Sum_put_22 (fun H locs hP hD hS => ?_)
  exact sd_v1ret (u := (uxat, uxab, uxar)) hQ hx hb hr hlk hK (hP.sub [0, 1, 2, 3] rfl) (hD.sub [0, 1, 2, 3] (by decide) rfl) hS (Option.some.inj hm).symm d_Sum_put_23
theorem d_Sum_become_0 : decode b_Sum_become 0 = .ok (.aload_n 0, 1) := by decide +kernel
theorem d_Sum_become_1 : decode b_Sum_become 1 = .ok (.invokevirtual 40, 3) := by decide +kernel
theorem d_Sum_become_4 : decode b_Sum_become 4 = .ok (.lload_n 1, 1) := by decide +kernel
theorem d_Sum_become_5 : decode b_Sum_become 5 = .ok (.lconst 0, 1) := by decide +kernel
theorem d_Sum_become_6 : decode b_Sum_become 6 = .ok (.lcmp, 1) := by decide +kernel
theorem d_Sum_become_7 : decode b_Sum_become 7 = .ok (.ifCond .eq 17, 3) := by decide +kernel
theorem d_Sum_become_10 : decode b_Sum_become 10 = .ok (.aload_n 0, 1) := by decide +kernel
theorem d_Sum_become_11 : decode b_Sum_become 11 = .ok (.iconst 0, 1) := by decide +kernel
theorem d_Sum_become_12 : decode b_Sum_become 12 = .ok (.lload_n 1, 1) := by decide +kernel
theorem d_Sum_become_13 : decode b_Sum_become 13 = .ok (.lload_n 3, 1) := by decide +kernel
theorem d_Sum_become_14 : decode b_Sum_become 14 = .ok (.lload 5, 2) := by decide +kernel
theorem d_Sum_become_16 : decode b_Sum_become 16 = .ok (.invokevirtual 43, 3) := by decide +kernel
theorem d_Sum_become_19 : decode b_Sum_become 19 = .ok (.aload_n 0, 1) := by decide +kernel
theorem d_Sum_become_20 : decode b_Sum_become 20 = .ok (.iconst 1, 1) := by decide +kernel
theorem d_Sum_become_21 : decode b_Sum_become 21 = .ok (.putfield 28, 3) := by decide +kernel
theorem d_Sum_become_24 : decode b_Sum_become 24 = .ok (.return_, 1) := by decide +kernel
def mf_Sum_become (F : Nat) (vTop : Int64) (vBot : Int64) (vRad : Int64) (xk : Int32) (xn : Int32) (xT : Nat → Int64) (xB : Nat → Int64) (xR : Nat → Int64) : Option (Int32 × Int32 × (Nat → Int64) × (Nat → Int64) × (Nat → Int64)) :=
  (sd_b2 (mf_Sum_clear F xk xn) fun uxs uxs_1 => (sd_b4 (if vTop = (0 : Int64) then (some (xT, xB, xR, uxs_1)) else (sd_b3 (mf_Sum_put F (0 : Int32) vTop vBot vRad uxs uxs_1 xT xB xR) fun uxat_1 uxab_1 uxar_1 => (some (uxat_1, uxab_1, uxar_1, (1 : Int32))))) fun uxat uxab uxar uxs_2 => (some (uxs, uxs_2, uxat, uxab, uxar))))
abbrev rm_Sum_become : Room := { frames := 1, cells := 0, slots := 0, locals := 27 }
set_option maxHeartbeats 4000000 in
set_option maxRecDepth 100000 in
theorem ct_Sum_become (l : Launch) (D : va_G) (g : G4) (xs : Nat) (xat : Nat) (xab : Nat) (xar : Nat) (xal : Nat) (xah : Nat) (sz : Nat) (vTop : Int64) (vBot : Int64) (vRad : Int64) (xk : Int32) (xn : Int32) (xT : Nat → Int64) (xB : Nat → Int64) (xR : Nat → Int64) (F : Nat) (res : Int32 × Int32 × (Nat → Int64) × (Nat → Int64) × (Nat → Int64)) (hm : mf_Sum_become F vTop vBot vRad xk xn xT xB xR = some res) : Met l y_Sum_become (.code y_Sum_become b_Sum_become 7 none :: sd_tb) rm_Sum_become (sd_PW D g [.ref xs, .long vTop, .long vBot, .long vRad] sz [(xs, .inr (0, [.ref xat, .ref xab, .ref xar, .ref xal, .ref xah, .int xk, .int xn])), (xat, aJ g 8 xT), (xab, aJ g 8 xB), (xar, aJ g 8 xR)]) (sd_Qv1 D g res (fun u : Int32 × Int32 × (Nat → Int64) × (Nat → Int64) × (Nat → Int64) => [(xs, .inr (0, [.ref xat, .ref xab, .ref xar, .ref xal, .ref xah, .int (u.1), .int (u.2.1)])), (xat, aJ g 8 (u.2.2.1)), (xab, aJ g 8 (u.2.2.2.1)), (xar, aJ g 8 (u.2.2.2.2))]) (va_A [(xs, .inr (0, [.ref xat, .ref xab, .ref xar, .ref xal, .ref xah, .int xk, .int xn])), (xat, aJ g 8 xT), (xab, aJ g 8 xB), (xar, aJ g 8 xR)] sz)) 0 0 (va_A [(xs, .inr (0, [.ref xat, .ref xab, .ref xar, .ref xal, .ref xah, .int xk, .int xn])), (xat, aJ g 8 xT), (xab, aJ g 8 xB), (xar, aJ g 8 xR)] sz) := by
  refine sd_met (Qf := fun A => sd_Qv1 D g res (fun u : Int32 × Int32 × (Nat → Int64) × (Nat → Int64) × (Nat → Int64) => [(xs, .inr (0, [.ref xat, .ref xab, .ref xar, .ref xal, .ref xah, .int (u.1), .int (u.2.1)])), (xat, aJ g 8 (u.2.2.1)), (xab, aJ g 8 (u.2.2.2.1)), (xar, aJ g 8 (u.2.2.2.2))]) A) (own := R_Sum) (by decide +kernel) rfl (Nat.le_of_ble_eq_true rfl) ?_
  intro p e s m args below meth c S hr hlk hK A hA Q hQ H locs hP hD hS ls hl
  have hx := S.1
  have hb := S.2.1
  have hml := S.2.2.1
  have hown := S.2.2.2.1
  have htt := sd_tt S
  replace hl : lv_has ls 7 [(0, .ref xs), (1, .long vTop), (3, .long vBot), (5, .long vRad)] := hl
  unfold mf_Sum_become at hm
  refine lv_aload_n hx hb d_Sum_become_0 rfl (lv_at hl 0 rfl) ?_
  obtain ⟨uxs, uxs_1, hc, hm⟩ := sd_mb2 hm
  refine sd_cv1 (wr := [(xat, aJ g 8 xT), (xab, aJ g 8 xB), (xar, aJ g 8 xR)]) (w2 := [(xat, aJ g 8 xT), (xab, aJ g 8 xB), (xar, aJ g 8 xR), (xs, .inr (0, [.ref xat, .ref xab, .ref xar, .ref xal, .ref xah, .int uxs, .int uxs_1]))]) (sd_runV (rest := []) (As := []) S (ct_Sum_clear l D g xs xat xab xar xal xah (H.size) xk xn F (uxs, uxs_1) hc) kl_Sum_40 (by decide) (by decide) hK hP hD [0] rfl (by decide) rfl hl d_Sum_become_1 rfl (Nat.le_of_ble_eq_true rfl) ⟨Nat.zero_le _, Nat.zero_le _⟩ 0 rfl rfl) hP hD hS hA [0] [1, 2, 3] rfl rfl (by decide) (by decide) rfl (fun H locs hP hD hS => ?_)
  refine lv_lload_n hx hb d_Sum_become_4 rfl (lv_at hl 1 rfl) ?_
  refine lv_lconst (v := (0 : Int64)) hx hb d_Sum_become_5 (by decide) ?_
  obtain ⟨uxat, uxab, uxar, uxs_2, hv, hm⟩ := sd_mb4 hm
  have J24_1 : ∀ (H : Heap) (locs : List Loc) (ls : Array Slot), va_P D classes [(xat, aJ g 8 uxat), (xab, aJ g 8 uxab), (xar, aJ g 8 uxar), (xs, .inr (0, [.ref xat, .ref xab, .ref xar, .ref xal, .ref xah, .int uxs, .int uxs_2]))] H → va_D A [(xat, aJ g 8 uxat), (xab, aJ g 8 uxab), (xar, aJ g 8 uxar), (xs, .inr (0, [.ref xat, .ref xab, .ref xar, .ref xal, .ref xah, .int uxs, .int uxs_2]))] → va_S A s.heap H locs → lv_has ls 7 [] → W p l e rm_Sum_become s m args below meth c H locs 0 0 Q (F0 m 24 ls []) := by
    intro H locs ls hP hD hS hl
    exact sd_v1ret (u := (uxs, uxs_2, uxat, uxab, uxar)) hQ hx hb hr hlk hK (hP.sub [3, 0, 1, 2] rfl) (hD.sub [3, 0, 1, 2] (by decide) rfl) hS (Option.some.inj hm).symm d_Sum_become_24
  replace hm := hv
  refine sd_leq (tgt := 24) hx hb d_Sum_become_6 d_Sum_become_7 (by decide) (fun hc => ?_) (fun hc => ?_)
  · have hm := sd_mt hc hm
    cases hm
    exact J24_1 H locs ls (hP.sub [0, 1, 2, 3] rfl) (hD.sub [0, 1, 2, 3] (by decide) rfl) hS (lv_sub hl [] rfl)
  · have hm := sd_mf hc hm
    refine lv_aload_n hx hb d_Sum_become_10 rfl (lv_at hl 0 rfl) ?_
    refine lv_iconst (v := (0 : Int32)) hx hb d_Sum_become_11 (by decide) ?_
    refine lv_lload_n hx hb d_Sum_become_12 rfl (lv_at hl 1 rfl) ?_
    refine lv_lload_n hx hb d_Sum_become_13 rfl (lv_at hl 2 rfl) ?_
    refine lv_lload hx hb d_Sum_become_14 (lv_at hl 3 rfl) ?_
    obtain ⟨uxat_1, uxab_1, uxar_1, hc, hm⟩ := sd_mb3 hm
    refine sd_cv1 (wr := []) (w2 := [(xs, .inr (0, [.ref xat, .ref xab, .ref xar, .ref xal, .ref xah, .int uxs, .int uxs_1])), (xat, aJ g 8 uxat_1), (xab, aJ g 8 uxab_1), (xar, aJ g 8 uxar_1)]) (sd_runV (rest := []) (As := [.int (0 : Int32), .long vTop, .long vBot, .long vRad]) S (ct_Sum_put l D g xs xat xab xar xal xah (H.size) (0 : Int32) vTop vBot vRad uxs uxs_1 xT xB xR F (uxat_1, uxab_1, uxar_1) hc) kl_Sum_43 (by decide) (by decide) hK hP hD [3, 0, 1, 2] rfl (by decide) rfl hl d_Sum_become_16 rfl (Nat.le_of_ble_eq_true rfl) ⟨Nat.zero_le _, Nat.zero_le _⟩ 3 rfl rfl) hP hD hS hA [3, 0, 1, 2] [] rfl rfl (by decide) (by decide) rfl (fun H locs hP hD hS => ?_)
    refine lv_aload_n hx hb d_Sum_become_19 rfl (lv_at hl 0 rfl) ?_
    refine lv_iconst (v := (1 : Int32)) hx hb d_Sum_become_20 (by decide) ?_
    refine sd_put (ci := 0) (v := .int (1 : Int32)) (ty := .int) (C := R_Sum) (T := F_Sum) (N := 7) (ws2 := [(xs, .inr (0, [.ref xat, .ref xab, .ref xar, .ref xal, .ref xah, .int uxs, .int (1 : Int32)])), (xat, aJ g 8 uxat_1), (xab, aJ g 8 uxab_1), (xar, aJ g 8 uxar_1)]) hx hb htt i_Sum t_Sum t_Sum_ok n_Sum hown hK hP hD hS 0 rfl rfl 6 (by decide) kf_Sum_28 (fun _ h9 => h9) rfl (by decide +kernel) rfl rfl (Nat.le_of_ble_eq_true rfl) rfl d_Sum_become_21 (fun H locs hP hD hS => ?_)
    cases hm
    exact J24_1 H locs ls (hP.sub [1, 2, 3, 0] rfl) (hD.sub [1, 2, 3, 0] (by decide) rfl) hS (lv_sub hl [] rfl)
theorem d_Sum_move_0 : decode b_Sum_move 0 = .ok (.aload_n 0, 1) := by decide +kernel
theorem d_Sum_move_1 : decode b_Sum_move 1 = .ok (.getfield 9, 3) := by decide +kernel
theorem d_Sum_move_4 : decode b_Sum_move 4 = .ok (.iload_n 1, 1) := by decide +kernel
theorem d_Sum_move_5 : decode b_Sum_move 5 = .ok (.aload_n 0, 1) := by decide +kernel
theorem d_Sum_move_6 : decode b_Sum_move 6 = .ok (.getfield 9, 3) := by decide +kernel
theorem d_Sum_move_9 : decode b_Sum_move 9 = .ok (.iload_n 2, 1) := by decide +kernel
theorem d_Sum_move_10 : decode b_Sum_move 10 = .ok (.aload_n 0, 1) := by decide +kernel
theorem d_Sum_move_11 : decode b_Sum_move 11 = .ok (.getfield 28, 3) := by decide +kernel
theorem d_Sum_move_14 : decode b_Sum_move 14 = .ok (.iload_n 1, 1) := by decide +kernel
theorem d_Sum_move_15 : decode b_Sum_move 15 = .ok (.isub, 1) := by decide +kernel
theorem d_Sum_move_16 : decode b_Sum_move 16 = .ok (.invokestatic 87, 3) := by decide +kernel
theorem d_Sum_move_19 : decode b_Sum_move 19 = .ok (.aload_n 0, 1) := by decide +kernel
theorem d_Sum_move_20 : decode b_Sum_move 20 = .ok (.getfield 13, 3) := by decide +kernel
theorem d_Sum_move_23 : decode b_Sum_move 23 = .ok (.iload_n 1, 1) := by decide +kernel
theorem d_Sum_move_24 : decode b_Sum_move 24 = .ok (.aload_n 0, 1) := by decide +kernel
theorem d_Sum_move_25 : decode b_Sum_move 25 = .ok (.getfield 13, 3) := by decide +kernel
theorem d_Sum_move_28 : decode b_Sum_move 28 = .ok (.iload_n 2, 1) := by decide +kernel
theorem d_Sum_move_29 : decode b_Sum_move 29 = .ok (.aload_n 0, 1) := by decide +kernel
theorem d_Sum_move_30 : decode b_Sum_move 30 = .ok (.getfield 28, 3) := by decide +kernel
theorem d_Sum_move_33 : decode b_Sum_move 33 = .ok (.iload_n 1, 1) := by decide +kernel
theorem d_Sum_move_34 : decode b_Sum_move 34 = .ok (.isub, 1) := by decide +kernel
theorem d_Sum_move_35 : decode b_Sum_move 35 = .ok (.invokestatic 87, 3) := by decide +kernel
theorem d_Sum_move_38 : decode b_Sum_move 38 = .ok (.aload_n 0, 1) := by decide +kernel
theorem d_Sum_move_39 : decode b_Sum_move 39 = .ok (.getfield 16, 3) := by decide +kernel
theorem d_Sum_move_42 : decode b_Sum_move 42 = .ok (.iload_n 1, 1) := by decide +kernel
theorem d_Sum_move_43 : decode b_Sum_move 43 = .ok (.aload_n 0, 1) := by decide +kernel
theorem d_Sum_move_44 : decode b_Sum_move 44 = .ok (.getfield 16, 3) := by decide +kernel
theorem d_Sum_move_47 : decode b_Sum_move 47 = .ok (.iload_n 2, 1) := by decide +kernel
theorem d_Sum_move_48 : decode b_Sum_move 48 = .ok (.aload_n 0, 1) := by decide +kernel
theorem d_Sum_move_49 : decode b_Sum_move 49 = .ok (.getfield 28, 3) := by decide +kernel
theorem d_Sum_move_52 : decode b_Sum_move 52 = .ok (.iload_n 1, 1) := by decide +kernel
theorem d_Sum_move_53 : decode b_Sum_move 53 = .ok (.isub, 1) := by decide +kernel
theorem d_Sum_move_54 : decode b_Sum_move 54 = .ok (.invokestatic 87, 3) := by decide +kernel
theorem d_Sum_move_57 : decode b_Sum_move 57 = .ok (.return_, 1) := by decide +kernel
def mf_Sum_move (F : Nat) (vFrom : Int32) (vTo : Int32) (xk : Int32) (xn : Int32) (xT : Nat → Int64) (xB : Nat → Int64) (xR : Nat → Int64) : Option ((Nat → Int64) × (Nat → Int64) × (Nat → Int64)) :=
  (sd_g (sd_cp vFrom vTo (xn - vFrom) 8 8) (sd_let (va_cpy xT xT vFrom.toNatClampNeg vTo.toNatClampNeg (xn - vFrom).toNatClampNeg) fun uxat => (sd_g (sd_cp vFrom vTo (xn - vFrom) 8 8) (sd_let (va_cpy xB xB vFrom.toNatClampNeg vTo.toNatClampNeg (xn - vFrom).toNatClampNeg) fun uxab => (sd_g (sd_cp vFrom vTo (xn - vFrom) 8 8) (sd_let (va_cpy xR xR vFrom.toNatClampNeg vTo.toNatClampNeg (xn - vFrom).toNatClampNeg) fun uxar => (some (uxat, uxab, uxar))))))))
abbrev rm_Sum_move : Room := { frames := 1, cells := 0, slots := 0, locals := 80 }
set_option maxHeartbeats 4000000 in
set_option maxRecDepth 100000 in
theorem ct_Sum_move (l : Launch) (D : va_G) (g : G4) (xs : Nat) (xat : Nat) (xab : Nat) (xar : Nat) (xal : Nat) (xah : Nat) (sz : Nat) (vFrom : Int32) (vTo : Int32) (xk : Int32) (xn : Int32) (xT : Nat → Int64) (xB : Nat → Int64) (xR : Nat → Int64) (F : Nat) (res : (Nat → Int64) × (Nat → Int64) × (Nat → Int64)) (hm : mf_Sum_move F vFrom vTo xk xn xT xB xR = some res) : Met l y_Sum_move (.code y_Sum_move b_Sum_move 3 none :: sd_tb) rm_Sum_move (sd_PW D g [.ref xs, .int vFrom, .int vTo] sz [(xs, .inr (0, [.ref xat, .ref xab, .ref xar, .ref xal, .ref xah, .int xk, .int xn])), (xat, aJ g 8 xT), (xab, aJ g 8 xB), (xar, aJ g 8 xR)]) (sd_Qv1 D g res (fun u : (Nat → Int64) × (Nat → Int64) × (Nat → Int64) => [(xs, .inr (0, [.ref xat, .ref xab, .ref xar, .ref xal, .ref xah, .int xk, .int xn])), (xat, aJ g 8 (u.1)), (xab, aJ g 8 (u.2.1)), (xar, aJ g 8 (u.2.2))]) (va_A [(xs, .inr (0, [.ref xat, .ref xab, .ref xar, .ref xal, .ref xah, .int xk, .int xn])), (xat, aJ g 8 xT), (xab, aJ g 8 xB), (xar, aJ g 8 xR)] sz)) 0 0 (va_A [(xs, .inr (0, [.ref xat, .ref xab, .ref xar, .ref xal, .ref xah, .int xk, .int xn])), (xat, aJ g 8 xT), (xab, aJ g 8 xB), (xar, aJ g 8 xR)] sz) := by
  refine sd_met (Qf := fun A => sd_Qv1 D g res (fun u : (Nat → Int64) × (Nat → Int64) × (Nat → Int64) => [(xs, .inr (0, [.ref xat, .ref xab, .ref xar, .ref xal, .ref xah, .int xk, .int xn])), (xat, aJ g 8 (u.1)), (xab, aJ g 8 (u.2.1)), (xar, aJ g 8 (u.2.2))]) A) (own := R_Sum) (by decide +kernel) rfl (Nat.le_of_ble_eq_true rfl) ?_
  intro p e s m args below meth c S hr hlk hK A hA Q hQ H locs hP hD hS ls hl
  have hx := S.1
  have hb := S.2.1
  have hml := S.2.2.1
  have hown := S.2.2.2.1
  have htt := sd_tt S
  replace hl : lv_has ls 3 [(0, .ref xs), (1, .int vFrom), (2, .int vTo)] := hl
  unfold mf_Sum_move at hm
  refine lv_aload_n hx hb d_Sum_move_0 rfl (lv_at hl 0 rfl) ?_
  refine va_get (D := D) (ci := 0) (v := .ref xat) (C := R_Sum) (T := F_Sum) (N := 7) hx hb htt i_Sum hown hK hP 0 rfl rfl 0 (by decide) (htt _ kf_Sum_9) (fun _ h9 => h9) rfl d_Sum_move_1 ?_
  refine lv_iload_n hx hb d_Sum_move_4 rfl (lv_at hl 1 rfl) ?_
  refine lv_aload_n hx hb d_Sum_move_5 rfl (lv_at hl 0 rfl) ?_
  refine va_get (D := D) (ci := 0) (v := .ref xat) (C := R_Sum) (T := F_Sum) (N := 7) hx hb htt i_Sum hown hK hP 0 rfl rfl 0 (by decide) (htt _ kf_Sum_9) (fun _ h9 => h9) rfl d_Sum_move_6 ?_
  refine lv_iload_n hx hb d_Sum_move_9 rfl (lv_at hl 2 rfl) ?_
  refine lv_aload_n hx hb d_Sum_move_10 rfl (lv_at hl 0 rfl) ?_
  refine va_get (D := D) (ci := 0) (v := .int xn) (C := R_Sum) (T := F_Sum) (N := 7) hx hb htt i_Sum hown hK hP 0 rfl rfl 6 (by decide) (htt _ kf_Sum_28) (fun _ h9 => h9) rfl d_Sum_move_11 ?_
  refine lv_iload_n hx hb d_Sum_move_14 rfl (lv_at hl 1 rfl) ?_
  refine lv_isub hx hb d_Sum_move_15 ?_
  obtain ⟨h_1, hm⟩ := sd_mg hm
  obtain ⟨uxat, euxat, hm⟩ := sd_mlet hm
  refine sd_copyJ (f2 := uxat) (ws2 := [(xs, .inr (0, [.ref xat, .ref xab, .ref xar, .ref xal, .ref xah, .int xk, .int xn])), (xat, aJ g 8 uxat), (xab, aJ g 8 xB), (xar, aJ g 8 xR)]) hx hb hml hown kl_Sum_87 htt hl hK hP hD hS 1 1 rfl rfl h_1 euxat rfl d_Sum_move_16 (Nat.le_of_ble_eq_true rfl) (Nat.le_of_ble_eq_true rfl) (fun H locs hP hD hS => ?_)
  refine lv_aload_n hx hb d_Sum_move_19 rfl (lv_at hl 0 rfl) ?_
  refine va_get (D := D) (ci := 0) (v := .ref xab) (C := R_Sum) (T := F_Sum) (N := 7) hx hb htt i_Sum hown hK hP 0 rfl rfl 1 (by decide) (htt _ kf_Sum_13) (fun _ h9 => h9) rfl d_Sum_move_20 ?_
  refine lv_iload_n hx hb d_Sum_move_23 rfl (lv_at hl 1 rfl) ?_
  refine lv_aload_n hx hb d_Sum_move_24 rfl (lv_at hl 0 rfl) ?_
  refine va_get (D := D) (ci := 0) (v := .ref xab) (C := R_Sum) (T := F_Sum) (N := 7) hx hb htt i_Sum hown hK hP 0 rfl rfl 1 (by decide) (htt _ kf_Sum_13) (fun _ h9 => h9) rfl d_Sum_move_25 ?_
  refine lv_iload_n hx hb d_Sum_move_28 rfl (lv_at hl 2 rfl) ?_
  refine lv_aload_n hx hb d_Sum_move_29 rfl (lv_at hl 0 rfl) ?_
  refine va_get (D := D) (ci := 0) (v := .int xn) (C := R_Sum) (T := F_Sum) (N := 7) hx hb htt i_Sum hown hK hP 0 rfl rfl 6 (by decide) (htt _ kf_Sum_28) (fun _ h9 => h9) rfl d_Sum_move_30 ?_
  refine lv_iload_n hx hb d_Sum_move_33 rfl (lv_at hl 1 rfl) ?_
  refine lv_isub hx hb d_Sum_move_34 ?_
  obtain ⟨h_2, hm⟩ := sd_mg hm
  obtain ⟨uxab, euxab, hm⟩ := sd_mlet hm
  refine sd_copyJ (f2 := uxab) (ws2 := [(xs, .inr (0, [.ref xat, .ref xab, .ref xar, .ref xal, .ref xah, .int xk, .int xn])), (xat, aJ g 8 uxat), (xab, aJ g 8 uxab), (xar, aJ g 8 xR)]) hx hb hml hown kl_Sum_87 htt hl hK hP hD hS 2 2 rfl rfl h_2 euxab rfl d_Sum_move_35 (Nat.le_of_ble_eq_true rfl) (Nat.le_of_ble_eq_true rfl) (fun H locs hP hD hS => ?_)
  refine lv_aload_n hx hb d_Sum_move_38 rfl (lv_at hl 0 rfl) ?_
  refine va_get (D := D) (ci := 0) (v := .ref xar) (C := R_Sum) (T := F_Sum) (N := 7) hx hb htt i_Sum hown hK hP 0 rfl rfl 2 (by decide) (htt _ kf_Sum_16) (fun _ h9 => h9) rfl d_Sum_move_39 ?_
  refine lv_iload_n hx hb d_Sum_move_42 rfl (lv_at hl 1 rfl) ?_
  refine lv_aload_n hx hb d_Sum_move_43 rfl (lv_at hl 0 rfl) ?_
  refine va_get (D := D) (ci := 0) (v := .ref xar) (C := R_Sum) (T := F_Sum) (N := 7) hx hb htt i_Sum hown hK hP 0 rfl rfl 2 (by decide) (htt _ kf_Sum_16) (fun _ h9 => h9) rfl d_Sum_move_44 ?_
  refine lv_iload_n hx hb d_Sum_move_47 rfl (lv_at hl 2 rfl) ?_
  refine lv_aload_n hx hb d_Sum_move_48 rfl (lv_at hl 0 rfl) ?_
  refine va_get (D := D) (ci := 0) (v := .int xn) (C := R_Sum) (T := F_Sum) (N := 7) hx hb htt i_Sum hown hK hP 0 rfl rfl 6 (by decide) (htt _ kf_Sum_28) (fun _ h9 => h9) rfl d_Sum_move_49 ?_
  refine lv_iload_n hx hb d_Sum_move_52 rfl (lv_at hl 1 rfl) ?_
  refine lv_isub hx hb d_Sum_move_53 ?_
  obtain ⟨h_3, hm⟩ := sd_mg hm
  obtain ⟨uxar, euxar, hm⟩ := sd_mlet hm
  refine sd_copyJ (f2 := uxar) (ws2 := [(xs, .inr (0, [.ref xat, .ref xab, .ref xar, .ref xal, .ref xah, .int xk, .int xn])), (xat, aJ g 8 uxat), (xab, aJ g 8 uxab), (xar, aJ g 8 uxar)]) hx hb hml hown kl_Sum_87 htt hl hK hP hD hS 3 3 rfl rfl h_3 euxar rfl d_Sum_move_54 (Nat.le_of_ble_eq_true rfl) (Nat.le_of_ble_eq_true rfl) (fun H locs hP hD hS => ?_)
  exact sd_v1ret (u := (uxat, uxab, uxar)) hQ hx hb hr hlk hK (hP.sub [0, 1, 2, 3] rfl) (hD.sub [0, 1, 2, 3] (by decide) rfl) hS (Option.some.inj hm).symm d_Sum_move_57
