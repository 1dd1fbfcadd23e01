/-! Model_set, Model_copy, Model_size, Model_bits, Model_bit, Model_compareRows, Model_addRows, Model_subtract, Model_addSmall, Model_multiplyRow, Model_twice, Model_shift, Model_unshift -/
theorem kl_Model_140 : sd_LS R_Model 140 y_Model_size b_Model_size 2 (some .int) 1 := ⟨(sd_in (List.mem_of_getElem? (i := 698) (by decide +kernel)) rfl), (sd_in (List.mem_of_getElem? (i := 699) (by decide +kernel)) rfl), (sd_in (List.mem_of_getElem? (i := 40) (by decide +kernel)) rfl), (sd_in (List.mem_of_getElem? (i := 700) (by decide +kernel)) rfl), by decide +kernel, by decide +kernel, by decide +kernel⟩
theorem kl_Model_144 : sd_LS R_Model 144 y_Long_nlz b_Long_nlz 3 (some .int) 1 := ⟨(sd_in (List.mem_of_getElem? (i := 714) (by decide +kernel)) rfl), (sd_in (List.mem_of_getElem? (i := 715) (by decide +kernel)) rfl), (sd_in (List.mem_of_getElem? (i := 47) (by decide +kernel)) rfl), (sd_in (List.mem_of_getElem? (i := 716) (by decide +kernel)) rfl), by decide +kernel, by decide +kernel, by decide +kernel⟩
theorem kl_Model_150 : sd_LS R_Model 150 Lib.Math.max.name Lib.Math.max.code 2 (some .int) 2 := ⟨(sd_in (List.mem_of_getElem? (i := 743) (by decide +kernel)) rfl), (sd_in (List.mem_of_getElem? (i := 744) (by decide +kernel)) rfl), (sd_in (List.mem_of_getElem? (i := 42) (by decide +kernel)) rfl), (sd_in (List.mem_of_getElem? (i := 745) (by decide +kernel)) rfl), by decide +kernel, by decide +kernel, by decide +kernel⟩
theorem kl_Model_154 : sd_LS R_Model 154 Lib.Math.min.name Lib.Math.min.code 2 (some .int) 2 := ⟨(sd_in (List.mem_of_getElem? (i := 701) (by decide +kernel)) rfl), (sd_in (List.mem_of_getElem? (i := 702) (by decide +kernel)) rfl), (sd_in (List.mem_of_getElem? (i := 42) (by decide +kernel)) rfl), (sd_in (List.mem_of_getElem? (i := 703) (by decide +kernel)) rfl), by decide +kernel, by decide +kernel, by decide +kernel⟩
theorem km_Model_138 : Cond.constantLong R_Model 138 (4294967295 : Int64) ∈ sd_tb := (sd_in (List.mem_of_getElem? (i := 690) (by decide +kernel)) rfl)
theorem d_Model_set_0 : decode b_Model_set 0 = .ok (.iconst 0, 1) := by decide +kernel
theorem d_Model_set_1 : decode b_Model_set 1 = .ok (.istore_n 3, 1) := by decide +kernel
theorem d_Model_set_2 : decode b_Model_set 2 = .ok (.iload_n 3, 1) := by decide +kernel
theorem d_Model_set_3 : decode b_Model_set 3 = .ok (.bipush 76, 2) := by decide +kernel
theorem d_Model_set_5 : decode b_Model_set 5 = .ok (.if_icmp .ge 13, 3) := by decide +kernel
theorem d_Model_set_8 : decode b_Model_set 8 = .ok (.aload_n 0, 1) := by decide +kernel
theorem d_Model_set_9 : decode b_Model_set 9 = .ok (.iload_n 3, 1) := by decide +kernel
theorem d_Model_set_10 : decode b_Model_set 10 = .ok (.lconst 0, 1) := by decide +kernel
theorem d_Model_set_11 : decode b_Model_set 11 = .ok (.lastore, 1) := by decide +kernel
theorem d_Model_set_12 : decode b_Model_set 12 = .ok (.iinc 3 1, 3) := by decide +kernel
theorem d_Model_set_15 : decode b_Model_set 15 = .ok (.goto (-13), 3) := by decide +kernel
theorem d_Model_set_18 : decode b_Model_set 18 = .ok (.aload_n 0, 1) := by decide +kernel
theorem d_Model_set_19 : decode b_Model_set 19 = .ok (.iconst 0, 1) := by decide +kernel
theorem d_Model_set_20 : decode b_Model_set 20 = .ok (.lload_n 1, 1) := by decide +kernel
theorem d_Model_set_21 : decode b_Model_set 21 = .ok (.ldc2_w 138, 3) := by decide +kernel
theorem d_Model_set_24 : decode b_Model_set 24 = .ok (.land, 1) := by decide +kernel
theorem d_Model_set_25 : decode b_Model_set 25 = .ok (.lastore, 1) := by decide +kernel
theorem d_Model_set_26 : decode b_Model_set 26 = .ok (.aload_n 0, 1) := by decide +kernel
theorem d_Model_set_27 : decode b_Model_set 27 = .ok (.iconst 1, 1) := by decide +kernel
theorem d_Model_set_28 : decode b_Model_set 28 = .ok (.lload_n 1, 1) := by decide +kernel
theorem d_Model_set_29 : decode b_Model_set 29 = .ok (.bipush 32, 2) := by decide +kernel
theorem d_Model_set_31 : decode b_Model_set 31 = .ok (.lushr, 1) := by decide +kernel
theorem d_Model_set_32 : decode b_Model_set 32 = .ok (.lastore, 1) := by decide +kernel
theorem d_Model_set_33 : decode b_Model_set 33 = .ok (.return_, 1) := by decide +kernel
def mf_Model_set_L2  : Nat → Int32 → (Nat → Int64) → Option ((Nat → Int64))
  | 0, _, _ => none
  | fu + 1, x3, uaE => (if (76 : Int32) ≤ x3 then (some (uaE)) else (sd_g (sd_ix x3 76) (sd_let (vp_updL uaE x3.toNatClampNeg (0 : Int64)) fun uaE_1 => (sd_let (x3 + (1 : Int32)) fun x3_1 => ((mf_Model_set_L2  fu) x3_1 uaE_1)))))
def mf_Model_set (F : Nat) (vV : Int64) (cE : Nat → Int64) : Option ((Nat → Int64)) :=
  (sd_b1 (mf_Model_set_L2  F (0 : Int32) cE) fun ruaE => (sd_let (vp_updL ruaE (0 : Int32).toNatClampNeg (vV &&& (4294967295 : Int64))) fun uaE_2 => (sd_let (vp_updL uaE_2 (1 : Int32).toNatClampNeg ((vV.toUInt64 >>> ((32 : Int32).toInt64.toUInt64 &&& Int64.toUInt64 63)).toInt64)) fun uaE_3 => (some (uaE_3)))))
abbrev rm_Model_set : Room := { frames := 0, cells := 0, slots := 0, locals := 0 }
set_option maxHeartbeats 4000000 in
set_option maxRecDepth 100000 in
theorem ct_Model_set (l : Launch) (D : va_G) (g : G4) (aE : Nat) (sz : Nat) (vV : Int64) (cE : Nat → Int64) (F : Nat) (res : (Nat → Int64)) (hm : mf_Model_set F vV cE = some res) : Met l y_Model_set (.code y_Model_set b_Model_set 4 none :: sd_tb) rm_Model_set (sd_PW D g [.ref aE, .long vV] sz [(aE, aJ g 76 cE)]) (sd_Qv1 D g res (fun u : (Nat → Int64) => [(aE, aJ g 76 u)]) (va_A [(aE, aJ g 76 cE)] sz)) 0 0 (va_A [(aE, aJ g 76 cE)] sz) := by
  refine sd_met (Qf := fun A => sd_Qv1 D g res (fun u : (Nat → Int64) => [(aE, aJ g 76 u)]) A) (own := R_Model) (by decide +kernel) rfl (Nat.le_of_ble_eq_true rfl) ?_
  intro p e s m args below meth c S hr hlk hK A hA Q hQ H locs hP hD hS ls hl
  have hx := S.1
  have hb := S.2.1
  have hml := S.2.2.1
  have hown := S.2.2.2.1
  have htt := sd_tt S
  replace hl : lv_has ls 4 [(0, .ref aE), (1, .long vV)] := hl
  unfold mf_Model_set at hm
  refine lv_iconst (v := (0 : Int32)) hx hb d_Model_set_0 (by decide) ?_
  refine lv_istore_n (lv' := [(3, .int (0 : Int32)), (0, .ref aE), (1, .long vV)]) hx hb d_Model_set_1 rfl hl (by decide) rfl (fun ls hl => ?_)
  have L2 : ∀ (fu : Nat) (x3 : Int32) (uaE : Nat → Int64) (ruaE : Nat → Int64), mf_Model_set_L2  fu x3 uaE = some (ruaE) → ∀ (H : Heap) (locs : List Loc) (ls : Array Slot), va_P D classes [(aE, aJ g 76 uaE)] H → va_D A [(aE, aJ g 76 uaE)] → va_S A s.heap H locs → lv_has ls 4 [(0, .ref aE), (1, .long vV), (3, .int x3)] → (∀ (H : Heap) (locs : List Loc) (ls : Array Slot), va_P D classes [(aE, aJ g 76 ruaE)] H → va_D A [(aE, aJ g 76 ruaE)] → va_S A s.heap H locs → lv_has ls 4 [(0, .ref aE), (1, .long vV)] → W p l e rm_Model_set s m args below meth c H locs 0 0 Q (F0 m 18 ls [])) → W p l e rm_Model_set s m args below meth c H locs 0 0 Q (F0 m 2 ls []) := by
    intro fu
    induction fu with
    | zero => intro x3 uaE ruaE hm; exact absurd (show (none : Option ((Nat → Int64))) = some (ruaE) from hm) (fun h => nomatch h)
    | succ fu ih =>
      intro x3 uaE ruaE hm H locs ls hP hD hS hl kx18
      rw [mf_Model_set_L2] at hm
      refine lv_iload_n hx hb d_Model_set_2 rfl (lv_at hl 2 rfl) ?_
      refine lv_bipush (v := (76 : Int32)) hx hb d_Model_set_3 (by decide) ?_
      refine lv_icmp_ge (tgt := 18) hx hb d_Model_set_5 (by decide) (fun hc => ?_) (fun hc => ?_)
      · have hm := sd_mt hc hm
        cases hm
        exact kx18 H locs ls (hP.sub [0] rfl) (hD.sub [0] (by decide) rfl) hS (lv_sub hl [0, 1] rfl)
      · have hm := sd_mf hc hm
        refine lv_aload_n hx hb d_Model_set_8 rfl (lv_at hl 0 rfl) ?_
        refine lv_iload_n hx hb d_Model_set_9 rfl (lv_at hl 2 rfl) ?_
        refine lv_lconst (v := (0 : Int64)) hx hb d_Model_set_10 (by decide) ?_
        obtain ⟨h_1, hm⟩ := sd_mg hm
        obtain ⟨uaE_1, euaE_1, hm⟩ := sd_mlet hm
        refine sd_last (f2 := uaE_1) (ws2 := [(aE, aJ g 76 uaE_1)]) hx hb hK hP hD hS 0 rfl h_1 euaE_1 rfl d_Model_set_11 (fun H locs hP hD hS => ?_)
        obtain ⟨x3_1, ex3_1, hm⟩ := sd_mlet hm
        refine lv_iinc (v := x3_1) (lv' := [(3, .int x3_1), (0, .ref aE), (1, .long vV)]) hx hb d_Model_set_12 hl (k := 2) rfl (by rw [ex3_1]; rfl) (by decide) rfl (fun ls hl => ?_)
        refine lv_goto (tgt := 2) hx hb d_Model_set_15 (by decide) ?_
        exact ih x3_1 uaE_1 ruaE hm H locs ls (hP.sub [0] rfl) (hD.sub [0] (by decide) rfl) hS (lv_sub hl [1, 2, 0] rfl) kx18
  obtain ⟨ruaE, hc, hm⟩ := sd_mb1 hm
  refine L2 F (0 : Int32) cE ruaE hc H locs ls (hP.sub [0] rfl) (hD.sub [0] (by decide) rfl) hS (lv_sub hl [1, 2, 0] rfl) ?_
  intro H locs ls hP hD hS hl
  refine lv_aload_n hx hb d_Model_set_18 rfl (lv_at hl 0 rfl) ?_
  refine lv_iconst (v := (0 : Int32)) hx hb d_Model_set_19 (by decide) ?_
  refine lv_lload_n hx hb d_Model_set_20 rfl (lv_at hl 1 rfl) ?_
  refine sd_ldc2 (v := (4294967295 : Int64)) hx hb hown (htt _ km_Model_138) d_Model_set_21 ?_
  refine lv_land hx hb d_Model_set_24 ?_
  obtain ⟨uaE_2, euaE_2, hm⟩ := sd_mlet hm
  refine sd_last (f2 := uaE_2) (ws2 := [(aE, aJ g 76 uaE_2)]) hx hb hK hP hD hS 0 rfl (by decide) euaE_2 rfl d_Model_set_25 (fun H locs hP hD hS => ?_)
  refine lv_aload_n hx hb d_Model_set_26 rfl (lv_at hl 0 rfl) ?_
  refine lv_iconst (v := (1 : Int32)) hx hb d_Model_set_27 (by decide) ?_
  refine lv_lload_n hx hb d_Model_set_28 rfl (lv_at hl 1 rfl) ?_
  refine lv_bipush (v := (32 : Int32)) hx hb d_Model_set_29 (by decide) ?_
  refine lv_lushr hx hb d_Model_set_31 rfl ?_
  obtain ⟨uaE_3, euaE_3, hm⟩ := sd_mlet hm
  refine sd_last (f2 := uaE_3) (ws2 := [(aE, aJ g 76 uaE_3)]) hx hb hK hP hD hS 0 rfl (by decide) euaE_3 rfl d_Model_set_32 (fun H locs hP hD hS => ?_)
  exact sd_v1ret (u := (uaE_3)) hQ hx hb hr hlk hK (hP.sub [0] rfl) (hD.sub [0] (by decide) rfl) hS (Option.some.inj hm).symm d_Model_set_33
theorem d_Model_copy_0 : decode b_Model_copy 0 = .ok (.iconst 0, 1) := by decide +kernel
theorem d_Model_copy_1 : decode b_Model_copy 1 = .ok (.istore_n 2, 1) := by decide +kernel
theorem d_Model_copy_2 : decode b_Model_copy 2 = .ok (.iload_n 2, 1) := by decide +kernel
theorem d_Model_copy_3 : decode b_Model_copy 3 = .ok (.bipush 76, 2) := by decide +kernel
theorem d_Model_copy_5 : decode b_Model_copy 5 = .ok (.if_icmp .ge 15, 3) := by decide +kernel
theorem d_Model_copy_8 : decode b_Model_copy 8 = .ok (.aload_n 1, 1) := by decide +kernel
theorem d_Model_copy_9 : decode b_Model_copy 9 = .ok (.iload_n 2, 1) := by decide +kernel
theorem d_Model_copy_10 : decode b_Model_copy 10 = .ok (.aload_n 0, 1) := by decide +kernel
theorem d_Model_copy_11 : decode b_Model_copy 11 = .ok (.iload_n 2, 1) := by decide +kernel
theorem d_Model_copy_12 : decode b_Model_copy 12 = .ok (.laload, 1) := by decide +kernel
theorem d_Model_copy_13 : decode b_Model_copy 13 = .ok (.lastore, 1) := by decide +kernel
theorem d_Model_copy_14 : decode b_Model_copy 14 = .ok (.iinc 2 1, 3) := by decide +kernel
theorem d_Model_copy_17 : decode b_Model_copy 17 = .ok (.goto (-15), 3) := by decide +kernel
theorem d_Model_copy_20 : decode b_Model_copy 20 = .ok (.return_, 1) := by decide +kernel
def mf_Model_copy_L2 (cE : Nat → Int64) : Nat → Int32 → (Nat → Int64) → Option ((Nat → Int64))
  | 0, _, _ => none
  | fu + 1, x2, uaT => (if (76 : Int32) ≤ x2 then (some (uaT)) else (sd_g (sd_ix x2 76) (sd_g (sd_ix x2 76) (sd_let (vp_updL uaT x2.toNatClampNeg (cE x2.toNatClampNeg)) fun uaT_1 => (sd_let (x2 + (1 : Int32)) fun x2_1 => ((mf_Model_copy_L2 cE fu) x2_1 uaT_1))))))
def mf_Model_copy (F : Nat) (cE : Nat → Int64) (cT : Nat → Int64) : Option ((Nat → Int64)) :=
  (sd_b1 (mf_Model_copy_L2 cE F (0 : Int32) cT) fun ruaT => (some (ruaT)))
abbrev rm_Model_copy : Room := { frames := 0, cells := 0, slots := 0, locals := 0 }
set_option maxHeartbeats 4000000 in
set_option maxRecDepth 100000 in
theorem ct_Model_copy (l : Launch) (D : va_G) (g : G4) (aE : Nat) (aT : Nat) (sz : Nat) (cE : Nat → Int64) (cT : Nat → Int64) (F : Nat) (res : (Nat → Int64)) (hm : mf_Model_copy F cE cT = some res) : Met l y_Model_copy (.code y_Model_copy b_Model_copy 3 none :: sd_tb) rm_Model_copy (sd_PW D g [.ref aE, .ref aT] sz [(aE, aJ g 76 cE), (aT, aJ g 76 cT)]) (sd_Qv1 D g res (fun u : (Nat → Int64) => [(aE, aJ g 76 cE), (aT, aJ g 76 u)]) (va_A [(aE, aJ g 76 cE), (aT, aJ g 76 cT)] sz)) 0 0 (va_A [(aE, aJ g 76 cE), (aT, aJ g 76 cT)] sz) := by
  refine sd_met (Qf := fun A => sd_Qv1 D g res (fun u : (Nat → Int64) => [(aE, aJ g 76 cE), (aT, aJ g 76 u)]) A) (own := R_Model) (by decide +kernel) rfl (Nat.le_of_ble_eq_true rfl) ?_
  intro p e s m args below meth c S hr hlk hK A hA Q hQ H locs hP hD hS ls hl
  have hx := S.1
  have hb := S.2.1
  have hml := S.2.2.1
  have hown := S.2.2.2.1
  have htt := sd_tt S
  replace hl : lv_has ls 3 [(0, .ref aE), (1, .ref aT)] := hl
  unfold mf_Model_copy at hm
  refine lv_iconst (v := (0 : Int32)) hx hb d_Model_copy_0 (by decide) ?_
  refine lv_istore_n (lv' := [(2, .int (0 : Int32)), (0, .ref aE), (1, .ref aT)]) hx hb d_Model_copy_1 rfl hl (by decide) rfl (fun ls hl => ?_)
  have L2 : ∀ (fu : Nat) (x2 : Int32) (uaT : Nat → Int64) (ruaT : Nat → Int64), mf_Model_copy_L2 cE fu x2 uaT = some (ruaT) → ∀ (H : Heap) (locs : List Loc) (ls : Array Slot), va_P D classes [(aE, aJ g 76 cE), (aT, aJ g 76 uaT)] H → va_D A [(aE, aJ g 76 cE), (aT, aJ g 76 uaT)] → va_S A s.heap H locs → lv_has ls 3 [(0, .ref aE), (1, .ref aT), (2, .int x2)] → (∀ (H : Heap) (locs : List Loc) (ls : Array Slot), va_P D classes [(aE, aJ g 76 cE), (aT, aJ g 76 ruaT)] H → va_D A [(aE, aJ g 76 cE), (aT, aJ g 76 ruaT)] → va_S A s.heap H locs → lv_has ls 3 [] → W p l e rm_Model_copy s m args below meth c H locs 0 0 Q (F0 m 20 ls [])) → W p l e rm_Model_copy s m args below meth c H locs 0 0 Q (F0 m 2 ls []) := by
    intro fu
    induction fu with
    | zero => intro x2 uaT ruaT hm; exact absurd (show (none : Option ((Nat → Int64))) = some (ruaT) from hm) (fun h => nomatch h)
    | succ fu ih =>
      intro x2 uaT ruaT hm H locs ls hP hD hS hl kx20
      rw [mf_Model_copy_L2] at hm
      refine lv_iload_n hx hb d_Model_copy_2 rfl (lv_at hl 2 rfl) ?_
      refine lv_bipush (v := (76 : Int32)) hx hb d_Model_copy_3 (by decide) ?_
      refine lv_icmp_ge (tgt := 20) hx hb d_Model_copy_5 (by decide) (fun hc => ?_) (fun hc => ?_)
      · have hm := sd_mt hc hm
        cases hm
        exact kx20 H locs ls (hP.sub [0, 1] rfl) (hD.sub [0, 1] (by decide) rfl) hS (lv_sub hl [] rfl)
      · have hm := sd_mf hc hm
        refine lv_aload_n hx hb d_Model_copy_8 rfl (lv_at hl 1 rfl) ?_
        refine lv_iload_n hx hb d_Model_copy_9 rfl (lv_at hl 2 rfl) ?_
        refine lv_aload_n hx hb d_Model_copy_10 rfl (lv_at hl 0 rfl) ?_
        refine lv_iload_n hx hb d_Model_copy_11 rfl (lv_at hl 2 rfl) ?_
        obtain ⟨h_1, hm⟩ := sd_mg hm
        refine sd_lald hx hb hK hP 0 rfl h_1 d_Model_copy_12 ?_
        obtain ⟨h_2, hm⟩ := sd_mg hm
        obtain ⟨uaT_1, euaT_1, hm⟩ := sd_mlet hm
        refine sd_last (f2 := uaT_1) (ws2 := [(aE, aJ g 76 cE), (aT, aJ g 76 uaT_1)]) hx hb hK hP hD hS 1 rfl h_2 euaT_1 rfl d_Model_copy_13 (fun H locs hP hD hS => ?_)
        obtain ⟨x2_1, ex2_1, hm⟩ := sd_mlet hm
        refine lv_iinc (v := x2_1) (lv' := [(2, .int x2_1), (0, .ref aE), (1, .ref aT)]) hx hb d_Model_copy_14 hl (k := 2) rfl (by rw [ex2_1]; rfl) (by decide) rfl (fun ls hl => ?_)
        refine lv_goto (tgt := 2) hx hb d_Model_copy_17 (by decide) ?_
        exact ih x2_1 uaT_1 ruaT hm H locs ls (hP.sub [0, 1] rfl) (hD.sub [0, 1] (by decide) rfl) hS (lv_sub hl [1, 2, 0] rfl) kx20
  obtain ⟨ruaT, hc, hm⟩ := sd_mb1 hm
  refine L2 F (0 : Int32) cT ruaT hc H locs ls (hP.sub [0, 1] rfl) (hD.sub [0, 1] (by decide) rfl) hS (lv_sub hl [1, 2, 0] rfl) ?_
  intro H locs ls hP hD hS hl
  exact sd_v1ret (u := (ruaT)) hQ hx hb hr hlk hK (hP.sub [0, 1] rfl) (hD.sub [0, 1] (by decide) rfl) hS (Option.some.inj hm).symm d_Model_copy_20
theorem d_Model_size_0 : decode b_Model_size 0 = .ok (.bipush 76, 2) := by decide +kernel
theorem d_Model_size_2 : decode b_Model_size 2 = .ok (.istore_n 1, 1) := by decide +kernel
theorem d_Model_size_3 : decode b_Model_size 3 = .ok (.iload_n 1, 1) := by decide +kernel
theorem d_Model_size_4 : decode b_Model_size 4 = .ok (.ifCond .le 19, 3) := by decide +kernel
theorem d_Model_size_7 : decode b_Model_size 7 = .ok (.aload_n 0, 1) := by decide +kernel
theorem d_Model_size_8 : decode b_Model_size 8 = .ok (.iload_n 1, 1) := by decide +kernel
theorem d_Model_size_9 : decode b_Model_size 9 = .ok (.iconst 1, 1) := by decide +kernel
theorem d_Model_size_10 : decode b_Model_size 10 = .ok (.isub, 1) := by decide +kernel
theorem d_Model_size_11 : decode b_Model_size 11 = .ok (.laload, 1) := by decide +kernel
theorem d_Model_size_12 : decode b_Model_size 12 = .ok (.lconst 0, 1) := by decide +kernel
theorem d_Model_size_13 : decode b_Model_size 13 = .ok (.lcmp, 1) := by decide +kernel
theorem d_Model_size_14 : decode b_Model_size 14 = .ok (.ifCond .ne 9, 3) := by decide +kernel
theorem d_Model_size_17 : decode b_Model_size 17 = .ok (.iinc 1 (-1), 3) := by decide +kernel
theorem d_Model_size_20 : decode b_Model_size 20 = .ok (.goto (-17), 3) := by decide +kernel
theorem d_Model_size_23 : decode b_Model_size 23 = .ok (.iload_n 1, 1) := by decide +kernel
theorem d_Model_size_24 : decode b_Model_size 24 = .ok (.ireturn, 1) := by decide +kernel
def mf_Model_size_L3 (cE : Nat → Int64) : Nat → Int32 → Option (Int32)
  | 0, _ => none
  | fu + 1, x1 => (if x1 ≤ 0 then (some (x1)) else (sd_g (sd_ix (x1 - (1 : Int32)) 76) (if (cE (x1 - (1 : Int32)).toNatClampNeg) = (0 : Int64) then (sd_let (x1 + (-1 : Int32)) fun x1_1 => ((mf_Model_size_L3 cE fu) x1_1)) else (some (x1)))))
def mf_Model_size (F : Nat) (cE : Nat → Int64) : Option (Int32) :=
  (sd_b1 (mf_Model_size_L3 cE F (76 : Int32)) fun rx1 => (some (rx1)))
abbrev rm_Model_size : Room := { frames := 0, cells := 0, slots := 0, locals := 0 }
set_option maxHeartbeats 4000000 in
set_option maxRecDepth 100000 in
theorem ct_Model_size (l : Launch) (D : va_G) (g : G4) (aE : Nat) (sz : Nat) (cE : Nat → Int64) (F : Nat) (res : Int32) (hm : mf_Model_size F cE = some res) : Met l y_Model_size (.code y_Model_size b_Model_size 2 (some .int) :: sd_tb) rm_Model_size (sd_PW D g [.ref aE] sz [(aE, aJ g 76 cE)]) (sd_Qi0 D g res [(aE, aJ g 76 cE)] (va_A [(aE, aJ g 76 cE)] sz)) 0 0 (va_A [(aE, aJ g 76 cE)] sz) := by
  refine sd_met (Qf := fun A => sd_Qi0 D g res [(aE, aJ g 76 cE)] A) (own := R_Model) (by decide +kernel) rfl (Nat.le_of_ble_eq_true rfl) ?_
  intro p e s m args below meth c S hr hlk hK A hA Q hQ H locs hP hD hS ls hl
  have hx := S.1
  have hb := S.2.1
  have hml := S.2.2.1
  have hown := S.2.2.2.1
  have htt := sd_tt S
  replace hl : lv_has ls 2 [(0, .ref aE)] := hl
  unfold mf_Model_size at hm
  refine lv_bipush (v := (76 : Int32)) hx hb d_Model_size_0 (by decide) ?_
  refine lv_istore_n (lv' := [(1, .int (76 : Int32)), (0, .ref aE)]) hx hb d_Model_size_2 rfl hl (by decide) rfl (fun ls hl => ?_)
  have L3 : ∀ (fu : Nat) (x1 : Int32) (rx1 : Int32), mf_Model_size_L3 cE fu x1 = some (rx1) → ∀ (H : Heap) (locs : List Loc) (ls : Array Slot), va_P D classes [(aE, aJ g 76 cE)] H → va_D A [(aE, aJ g 76 cE)] → va_S A s.heap H locs → lv_has ls 2 [(0, .ref aE), (1, .int x1)] → (∀ (H : Heap) (locs : List Loc) (ls : Array Slot), va_P D classes [(aE, aJ g 76 cE)] H → va_D A [(aE, aJ g 76 cE)] → va_S A s.heap H locs → lv_has ls 2 [(1, .int rx1)] → W p l e rm_Model_size s m args below meth c H locs 0 0 Q (F0 m 23 ls [])) → W p l e rm_Model_size s m args below meth c H locs 0 0 Q (F0 m 3 ls []) := by
    intro fu
    induction fu with
    | zero => intro x1 rx1 hm; exact absurd (show (none : Option (Int32)) = some (rx1) from hm) (fun h => nomatch h)
    | succ fu ih =>
      intro x1 rx1 hm H locs ls hP hD hS hl kx23
      rw [mf_Model_size_L3] at hm
      refine lv_iload_n hx hb d_Model_size_3 rfl (lv_at hl 1 rfl) ?_
      refine lv_if_le (tgt := 23) hx hb d_Model_size_4 (by decide) (fun hc => ?_) (fun hc => ?_)
      · have hm := sd_mt hc hm
        cases hm
        exact kx23 H locs ls (hP.sub [0] rfl) (hD.sub [0] (by decide) rfl) hS (lv_sub hl [1] rfl)
      · have hm := sd_mf hc hm
        refine lv_aload_n hx hb d_Model_size_7 rfl (lv_at hl 0 rfl) ?_
        refine lv_iload_n hx hb d_Model_size_8 rfl (lv_at hl 1 rfl) ?_
        refine lv_iconst (v := (1 : Int32)) hx hb d_Model_size_9 (by decide) ?_
        refine lv_isub hx hb d_Model_size_10 ?_
        obtain ⟨h_1, hm⟩ := sd_mg hm
        refine sd_lald hx hb hK hP 0 rfl h_1 d_Model_size_11 ?_
        refine lv_lconst (v := (0 : Int64)) hx hb d_Model_size_12 (by decide) ?_
        refine sd_lne (tgt := 23) hx hb d_Model_size_13 d_Model_size_14 (by decide) (fun hc => ?_) (fun hc => ?_)
        · have hm := sd_mf hc hm
          cases hm
          exact kx23 H locs ls (hP.sub [0] rfl) (hD.sub [0] (by decide) rfl) hS (lv_sub hl [1] rfl)
        · have hm := sd_mt hc hm
          obtain ⟨x1_1, ex1_1, hm⟩ := sd_mlet hm
          refine lv_iinc (v := x1_1) (lv' := [(1, .int x1_1), (0, .ref aE)]) hx hb d_Model_size_17 hl (k := 1) rfl (by rw [ex1_1]; rfl) (by decide) rfl (fun ls hl => ?_)
          refine lv_goto (tgt := 3) hx hb d_Model_size_20 (by decide) ?_
          exact ih x1_1 rx1 hm H locs ls (hP.sub [0] rfl) (hD.sub [0] (by decide) rfl) hS (lv_sub hl [1, 0] rfl) kx23
  obtain ⟨rx1, hc, hm⟩ := sd_mb1 hm
  refine L3 F (76 : Int32) rx1 hc H locs ls (hP.sub [0] rfl) (hD.sub [0] (by decide) rfl) hS (lv_sub hl [1, 0] rfl) ?_
  intro H locs ls hP hD hS hl
  refine lv_iload_n hx hb d_Model_size_23 rfl (lv_at hl 0 rfl) ?_
  exact sd_i0ret hQ hx hb hr hlk hK (hP.sub [0] rfl) (hD.sub [0] (by decide) rfl) hS (Option.some.inj hm).symm d_Model_size_24
theorem d_Model_bits_0 : decode b_Model_bits 0 = .ok (.aload_n 0, 1) := by decide +kernel
theorem d_Model_bits_1 : decode b_Model_bits 1 = .ok (.invokestatic 140, 3) := by decide +kernel
theorem d_Model_bits_4 : decode b_Model_bits 4 = .ok (.istore_n 1, 1) := by decide +kernel
theorem d_Model_bits_5 : decode b_Model_bits 5 = .ok (.iload_n 1, 1) := by decide +kernel
theorem d_Model_bits_6 : decode b_Model_bits 6 = .ok (.ifCond .ne 7, 3) := by decide +kernel
theorem d_Model_bits_9 : decode b_Model_bits 9 = .ok (.iconst 0, 1) := by decide +kernel
theorem d_Model_bits_10 : decode b_Model_bits 10 = .ok (.goto 19, 3) := by decide +kernel
theorem d_Model_bits_13 : decode b_Model_bits 13 = .ok (.bipush 32, 2) := by decide +kernel
theorem d_Model_bits_15 : decode b_Model_bits 15 = .ok (.iload_n 1, 1) := by decide +kernel
theorem d_Model_bits_16 : decode b_Model_bits 16 = .ok (.imul, 1) := by decide +kernel
theorem d_Model_bits_17 : decode b_Model_bits 17 = .ok (.aload_n 0, 1) := by decide +kernel
theorem d_Model_bits_18 : decode b_Model_bits 18 = .ok (.iload_n 1, 1) := by decide +kernel
theorem d_Model_bits_19 : decode b_Model_bits 19 = .ok (.iconst 1, 1) := by decide +kernel
theorem d_Model_bits_20 : decode b_Model_bits 20 = .ok (.isub, 1) := by decide +kernel
theorem d_Model_bits_21 : decode b_Model_bits 21 = .ok (.laload, 1) := by decide +kernel
theorem d_Model_bits_22 : decode b_Model_bits 22 = .ok (.invokestatic 144, 3) := by decide +kernel
theorem d_Model_bits_25 : decode b_Model_bits 25 = .ok (.bipush 32, 2) := by decide +kernel
theorem d_Model_bits_27 : decode b_Model_bits 27 = .ok (.isub, 1) := by decide +kernel
theorem d_Model_bits_28 : decode b_Model_bits 28 = .ok (.isub, 1) := by decide +kernel
theorem d_Model_bits_29 : decode b_Model_bits 29 = .ok (.ireturn, 1) := by decide +kernel
def mf_Model_bits (F : Nat) (cE : Nat → Int64) : Option (Int32) :=
  (sd_b1 (mf_Model_size F cE) fun r => (sd_b1 (if r = 0 then (some ((0 : Int32))) else (sd_g (sd_ix (r - (1 : Int32)) 76) (sd_b1 (mf_Long_nlz F (cE (r - (1 : Int32)).toNatClampNeg)) fun r_1 => (some ((((32 : Int32) * r) - (r_1 - (32 : Int32)))))))) fun y => (some (y))))
abbrev rm_Model_bits : Room := { frames := 2, cells := 0, slots := 0, locals := 43 }
set_option maxHeartbeats 4000000 in
set_option maxRecDepth 100000 in
theorem ct_Model_bits (l : Launch) (D : va_G) (g : G4) (aE : Nat) (sz : Nat) (cE : Nat → Int64) (F : Nat) (res : Int32) (hm : mf_Model_bits F cE = some res) : Met l y_Model_bits (.code y_Model_bits b_Model_bits 2 (some .int) :: sd_tb) rm_Model_bits (sd_PW D g [.ref aE] sz [(aE, aJ g 76 cE)]) (sd_Qi0 D g res [(aE, aJ g 76 cE)] (va_A [(aE, aJ g 76 cE)] sz)) 0 0 (va_A [(aE, aJ g 76 cE)] sz) := by
  refine sd_met (Qf := fun A => sd_Qi0 D g res [(aE, aJ g 76 cE)] A) (own := R_Model) (by decide +kernel) rfl (Nat.le_of_ble_eq_true rfl) ?_
  intro p e s m args below meth c S hr hlk hK A hA Q hQ H locs hP hD hS ls hl
  have hx := S.1
  have hb := S.2.1
  have hml := S.2.2.1
  have hown := S.2.2.2.1
  have htt := sd_tt S
  replace hl : lv_has ls 2 [(0, .ref aE)] := hl
  unfold mf_Model_bits at hm
  refine lv_aload_n hx hb d_Model_bits_0 rfl (lv_at hl 0 rfl) ?_
  obtain ⟨r, hc, hm⟩ := sd_mb1 hm
  refine sd_ci0 (wr := []) (w2 := [(aE, aJ g 76 cE)]) (sd_runS (rest := []) (As := [.ref aE]) S (ct_Model_size l D g aE (H.size) cE F (r) hc) kl_Model_140 (by decide) (by decide) hK hP hD [0] rfl (by decide) rfl hl d_Model_bits_1 rfl (Nat.le_of_ble_eq_true rfl) ⟨Nat.zero_le _, Nat.zero_le _⟩) hP hD hS hA [0] [] rfl rfl (by decide) (by decide) rfl (fun H locs hP hD hS => ?_)
  refine W.eq (g2 := F0 m 4 ls [.int r]) rfl ?_
  refine lv_istore_n (lv' := [(1, .int r), (0, .ref aE)]) hx hb d_Model_bits_4 rfl hl (by decide) rfl (fun ls hl => ?_)
  refine lv_iload_n hx hb d_Model_bits_5 rfl (lv_at hl 0 rfl) ?_
  obtain ⟨y, hv, hm⟩ := sd_mb1 hm
  have J29_1 : ∀ (H : Heap) (locs : List Loc) (ls : Array Slot), va_P D classes [(aE, aJ g 76 cE)] H → va_D A [(aE, aJ g 76 cE)] → va_S A s.heap H locs → lv_has ls 2 [] → W p l e rm_Model_bits s m args below meth c H locs 0 0 Q (F0 m 29 ls [.int y]) := by
    intro H locs ls hP hD hS hl
    exact sd_i0ret hQ hx hb hr hlk hK (hP.sub [0] rfl) (hD.sub [0] (by decide) rfl) hS (Option.some.inj hm).symm d_Model_bits_29
  replace hm := hv
  refine lv_if_ne (tgt := 13) hx hb d_Model_bits_6 (by decide) (fun hc => ?_) (fun hc => ?_)
  · have hm := sd_mf hc hm
    refine lv_bipush (v := (32 : Int32)) hx hb d_Model_bits_13 (by decide) ?_
    refine lv_iload_n hx hb d_Model_bits_15 rfl (lv_at hl 0 rfl) ?_
    refine lv_imul hx hb d_Model_bits_16 ?_
    refine lv_aload_n hx hb d_Model_bits_17 rfl (lv_at hl 1 rfl) ?_
    refine lv_iload_n hx hb d_Model_bits_18 rfl (lv_at hl 0 rfl) ?_
    refine lv_iconst (v := (1 : Int32)) hx hb d_Model_bits_19 (by decide) ?_
    refine lv_isub hx hb d_Model_bits_20 ?_
    obtain ⟨h_2, hm⟩ := sd_mg hm
    refine sd_lald hx hb hK hP 0 rfl h_2 d_Model_bits_21 ?_
    obtain ⟨r_1, hc, hm⟩ := sd_mb1 hm
    refine sd_ci0 (wr := [(aE, aJ g 76 cE)]) (w2 := [(aE, aJ g 76 cE)]) (sd_runS (rest := [.int ((32 : Int32) * r)]) (As := [.long (cE (r - (1 : Int32)).toNatClampNeg)]) S (ct_Long_nlz l D g (H.size) (cE (r - (1 : Int32)).toNatClampNeg) F (r_1) hc) kl_Model_144 (by decide) (by decide) hK hP hD [] rfl (by decide) rfl hl d_Model_bits_22 rfl (Nat.le_of_ble_eq_true rfl) ⟨Nat.zero_le _, Nat.zero_le _⟩) hP hD hS hA [] [0] rfl rfl (by decide) (by decide) rfl (fun H locs hP hD hS => ?_)
    refine W.eq (g2 := F0 m 25 ls [.int r_1, .int ((32 : Int32) * r)]) rfl ?_
    refine lv_bipush (v := (32 : Int32)) hx hb d_Model_bits_25 (by decide) ?_
    refine lv_isub hx hb d_Model_bits_27 ?_
    refine lv_isub hx hb d_Model_bits_28 ?_
    cases hm
    exact J29_1 H locs ls (hP.sub [0] rfl) (hD.sub [0] (by decide) rfl) hS (lv_sub hl [] rfl)
  · have hm := sd_mt hc hm
    refine lv_iconst (v := (0 : Int32)) hx hb d_Model_bits_9 (by decide) ?_
    refine lv_goto (tgt := 29) hx hb d_Model_bits_10 (by decide) ?_
    cases hm
    exact J29_1 H locs ls (hP.sub [0] rfl) (hD.sub [0] (by decide) rfl) hS (lv_sub hl [] rfl)
theorem d_Model_bit_0 : decode b_Model_bit 0 = .ok (.aload_n 0, 1) := by decide +kernel
theorem d_Model_bit_1 : decode b_Model_bit 1 = .ok (.iload_n 1, 1) := by decide +kernel
theorem d_Model_bit_2 : decode b_Model_bit 2 = .ok (.bipush 32, 2) := by decide +kernel
theorem d_Model_bit_4 : decode b_Model_bit 4 = .ok (.idiv, 1) := by decide +kernel
theorem d_Model_bit_5 : decode b_Model_bit 5 = .ok (.laload, 1) := by decide +kernel
theorem d_Model_bit_6 : decode b_Model_bit 6 = .ok (.iload_n 1, 1) := by decide +kernel
theorem d_Model_bit_7 : decode b_Model_bit 7 = .ok (.bipush 32, 2) := by decide +kernel
theorem d_Model_bit_9 : decode b_Model_bit 9 = .ok (.irem, 1) := by decide +kernel
theorem d_Model_bit_10 : decode b_Model_bit 10 = .ok (.lshr, 1) := by decide +kernel
theorem d_Model_bit_11 : decode b_Model_bit 11 = .ok (.lconst 1, 1) := by decide +kernel
theorem d_Model_bit_12 : decode b_Model_bit 12 = .ok (.land, 1) := by decide +kernel
theorem d_Model_bit_13 : decode b_Model_bit 13 = .ok (.l2i, 1) := by decide +kernel
theorem d_Model_bit_14 : decode b_Model_bit 14 = .ok (.ireturn, 1) := by decide +kernel
def mf_Model_bit (F : Nat) (vK : Int32) (cE : Nat → Int64) : Option (Int32) :=
  (sd_g (sd_ix (vK / (32 : Int32)) 76) (some (((((cE (vK / (32 : Int32)).toNatClampNeg) >>> ((vK - vK / (32 : Int32) * (32 : Int32)).toInt64 &&& 63)) &&& (1 : Int64)).toInt32))))
abbrev rm_Model_bit : Room := { frames := 0, cells := 0, slots := 0, locals := 0 }
set_option maxHeartbeats 4000000 in
set_option maxRecDepth 100000 in
theorem ct_Model_bit (l : Launch) (D : va_G) (g : G4) (aE : Nat) (sz : Nat) (vK : Int32) (cE : Nat → Int64) (F : Nat) (res : Int32) (hm : mf_Model_bit F vK cE = some res) : Met l y_Model_bit (.code y_Model_bit b_Model_bit 2 (some .int) :: sd_tb) rm_Model_bit (sd_PW D g [.ref aE, .int vK] sz [(aE, aJ g 76 cE)]) (sd_Qi0 D g res [(aE, aJ g 76 cE)] (va_A [(aE, aJ g 76 cE)] sz)) 0 0 (va_A [(aE, aJ g 76 cE)] sz) := by
  refine sd_met (Qf := fun A => sd_Qi0 D g res [(aE, aJ g 76 cE)] A) (own := R_Model) (by decide +kernel) rfl (Nat.le_of_ble_eq_true rfl) ?_
  intro p e s m args below meth c S hr hlk hK A hA Q hQ H locs hP hD hS ls hl
  have hx := S.1
  have hb := S.2.1
  have hml := S.2.2.1
  have hown := S.2.2.2.1
  have htt := sd_tt S
  replace hl : lv_has ls 2 [(0, .ref aE), (1, .int vK)] := hl
  unfold mf_Model_bit at hm
  refine lv_aload_n hx hb d_Model_bit_0 rfl (lv_at hl 0 rfl) ?_
  refine lv_iload_n hx hb d_Model_bit_1 rfl (lv_at hl 1 rfl) ?_
  refine lv_bipush (v := (32 : Int32)) hx hb d_Model_bit_2 (by decide) ?_
  refine lv_idiv hx hb d_Model_bit_4 (by decide) ?_
  obtain ⟨h_1, hm⟩ := sd_mg hm
  refine sd_lald hx hb hK hP 0 rfl h_1 d_Model_bit_5 ?_
  refine lv_iload_n hx hb d_Model_bit_6 rfl (lv_at hl 1 rfl) ?_
  refine lv_bipush (v := (32 : Int32)) hx hb d_Model_bit_7 (by decide) ?_
  refine lv_irem hx hb d_Model_bit_9 (by decide) ?_
  refine lv_lshr hx hb d_Model_bit_10 rfl ?_
  refine lv_lconst (v := (1 : Int64)) hx hb d_Model_bit_11 (by decide) ?_
  refine lv_land hx hb d_Model_bit_12 ?_
  refine lv_l2i hx hb d_Model_bit_13 rfl ?_
  exact sd_i0ret hQ hx hb hr hlk hK (hP.sub [0] rfl) (hD.sub [0] (by decide) rfl) hS (Option.some.inj hm).symm d_Model_bit_14
theorem d_Model_compareRows_0 : decode b_Model_compareRows 0 = .ok (.bipush 75, 2) := by decide +kernel
theorem d_Model_compareRows_2 : decode b_Model_compareRows 2 = .ok (.istore_n 2, 1) := by decide +kernel
theorem d_Model_compareRows_3 : decode b_Model_compareRows 3 = .ok (.iload_n 2, 1) := by decide +kernel
theorem d_Model_compareRows_4 : decode b_Model_compareRows 4 = .ok (.ifCond .lt 35, 3) := by decide +kernel
theorem d_Model_compareRows_7 : decode b_Model_compareRows 7 = .ok (.aload_n 0, 1) := by decide +kernel
theorem d_Model_compareRows_8 : decode b_Model_compareRows 8 = .ok (.iload_n 2, 1) := by decide +kernel
theorem d_Model_compareRows_9 : decode b_Model_compareRows 9 = .ok (.laload, 1) := by decide +kernel
theorem d_Model_compareRows_10 : decode b_Model_compareRows 10 = .ok (.aload_n 1, 1) := by decide +kernel
theorem d_Model_compareRows_11 : decode b_Model_compareRows 11 = .ok (.iload_n 2, 1) := by decide +kernel
theorem d_Model_compareRows_12 : decode b_Model_compareRows 12 = .ok (.laload, 1) := by decide +kernel
theorem d_Model_compareRows_13 : decode b_Model_compareRows 13 = .ok (.lcmp, 1) := by decide +kernel
theorem d_Model_compareRows_14 : decode b_Model_compareRows 14 = .ok (.ifCond .eq 19, 3) := by decide +kernel
theorem d_Model_compareRows_17 : decode b_Model_compareRows 17 = .ok (.aload_n 0, 1) := by decide +kernel
theorem d_Model_compareRows_18 : decode b_Model_compareRows 18 = .ok (.iload_n 2, 1) := by decide +kernel
theorem d_Model_compareRows_19 : decode b_Model_compareRows 19 = .ok (.laload, 1) := by decide +kernel
theorem d_Model_compareRows_20 : decode b_Model_compareRows 20 = .ok (.aload_n 1, 1) := by decide +kernel
theorem d_Model_compareRows_21 : decode b_Model_compareRows 21 = .ok (.iload_n 2, 1) := by decide +kernel
theorem d_Model_compareRows_22 : decode b_Model_compareRows 22 = .ok (.laload, 1) := by decide +kernel
theorem d_Model_compareRows_23 : decode b_Model_compareRows 23 = .ok (.lcmp, 1) := by decide +kernel
theorem d_Model_compareRows_24 : decode b_Model_compareRows 24 = .ok (.ifCond .ge 7, 3) := by decide +kernel
theorem d_Model_compareRows_27 : decode b_Model_compareRows 27 = .ok (.iconst (-1), 1) := by decide +kernel
theorem d_Model_compareRows_28 : decode b_Model_compareRows 28 = .ok (.goto 4, 3) := by decide +kernel
theorem d_Model_compareRows_31 : decode b_Model_compareRows 31 = .ok (.iconst 1, 1) := by decide +kernel
theorem d_Model_compareRows_32 : decode b_Model_compareRows 32 = .ok (.ireturn, 1) := by decide +kernel
theorem d_Model_compareRows_33 : decode b_Model_compareRows 33 = .ok (.iinc 2 (-1), 3) := by decide +kernel
theorem d_Model_compareRows_36 : decode b_Model_compareRows 36 = .ok (.goto (-33), 3) := by decide +kernel
theorem d_Model_compareRows_39 : decode b_Model_compareRows 39 = .ok (.iconst 0, 1) := by decide +kernel
theorem d_Model_compareRows_40 : decode b_Model_compareRows 40 = .ok (.ireturn, 1) := by decide +kernel
def mf_Model_compareRows_L3 (cE : Nat → Int64) (cT : Nat → Int64) : Nat → Int32 → Option (Nat × Int32)
  | 0, _ => none
  | fu + 1, x2 => (if x2 < 0 then (some (1, x2)) else (sd_g (sd_ix x2 76) (sd_g (sd_ix x2 76) (if (cE x2.toNatClampNeg) = (cT x2.toNatClampNeg) then (sd_let (x2 + (-1 : Int32)) fun x2_1 => ((mf_Model_compareRows_L3 cE cT fu) x2_1)) else (some (0, x2))))))
def mf_Model_compareRows (F : Nat) (cE : Nat → Int64) (cT : Nat → Int64) : Option (Int32) :=
  (sd_b2 (mf_Model_compareRows_L3 cE cT F (75 : Int32)) fun tg rx2 => (if tg = 0 then (sd_g (sd_ix rx2 76) (sd_g (sd_ix rx2 76) (sd_b1 (if (cT rx2.toNatClampNeg) ≤ (cE rx2.toNatClampNeg) then (some ((1 : Int32))) else (some ((-1 : Int32)))) fun y => (some (y))))) else (some ((0 : Int32)))))
abbrev rm_Model_compareRows : Room := { frames := 0, cells := 0, slots := 0, locals := 0 }
set_option maxHeartbeats 4000000 in
set_option maxRecDepth 100000 in
theorem ct_Model_compareRows (l : Launch) (D : va_G) (g : G4) (aE : Nat) (aT : Nat) (sz : Nat) (cE : Nat → Int64) (cT : Nat → Int64) (F : Nat) (res : Int32) (hm : mf_Model_compareRows F cE cT = some res) : Met l y_Model_compareRows (.code y_Model_compareRows b_Model_compareRows 3 (some .int) :: sd_tb) rm_Model_compareRows (sd_PW D g [.ref aE, .ref aT] sz [(aE, aJ g 76 cE), (aT, aJ g 76 cT)]) (sd_Qi0 D g res [(aE, aJ g 76 cE), (aT, aJ g 76 cT)] (va_A [(aE, aJ g 76 cE), (aT, aJ g 76 cT)] sz)) 0 0 (va_A [(aE, aJ g 76 cE), (aT, aJ g 76 cT)] sz) := by
  refine sd_met (Qf := fun A => sd_Qi0 D g res [(aE, aJ g 76 cE), (aT, aJ g 76 cT)] A) (own := R_Model) (by decide +kernel) rfl (Nat.le_of_ble_eq_true rfl) ?_
  intro p e s m args below meth c S hr hlk hK A hA Q hQ H locs hP hD hS ls hl
  have hx := S.1
  have hb := S.2.1
  have hml := S.2.2.1
  have hown := S.2.2.2.1
  have htt := sd_tt S
  replace hl : lv_has ls 3 [(0, .ref aE), (1, .ref aT)] := hl
  unfold mf_Model_compareRows at hm
  refine lv_bipush (v := (75 : Int32)) hx hb d_Model_compareRows_0 (by decide) ?_
  refine lv_istore_n (lv' := [(2, .int (75 : Int32)), (0, .ref aE), (1, .ref aT)]) hx hb d_Model_compareRows_2 rfl hl (by decide) rfl (fun ls hl => ?_)
  have L3 : ∀ (fu : Nat) (x2 : Int32) (tg : Nat) (rx2 : Int32), mf_Model_compareRows_L3 cE cT fu x2 = some (tg, rx2) → ∀ (H : Heap) (locs : List Loc) (ls : Array Slot), va_P D classes [(aE, aJ g 76 cE), (aT, aJ g 76 cT)] H → va_D A [(aE, aJ g 76 cE), (aT, aJ g 76 cT)] → va_S A s.heap H locs → lv_has ls 3 [(0, .ref aE), (1, .ref aT), (2, .int x2)] → (tg = 0 → ∀ (H : Heap) (locs : List Loc) (ls : Array Slot), va_P D classes [(aE, aJ g 76 cE), (aT, aJ g 76 cT)] H → va_D A [(aE, aJ g 76 cE), (aT, aJ g 76 cT)] → va_S A s.heap H locs → lv_has ls 3 [(0, .ref aE), (1, .ref aT), (2, .int rx2)] → W p l e rm_Model_compareRows s m args below meth c H locs 0 0 Q (F0 m 17 ls [])) → (tg = 1 → ∀ (H : Heap) (locs : List Loc) (ls : Array Slot), va_P D classes [(aE, aJ g 76 cE), (aT, aJ g 76 cT)] H → va_D A [(aE, aJ g 76 cE), (aT, aJ g 76 cT)] → va_S A s.heap H locs → lv_has ls 3 [] → W p l e rm_Model_compareRows s m args below meth c H locs 0 0 Q (F0 m 39 ls [])) → W p l e rm_Model_compareRows s m args below meth c H locs 0 0 Q (F0 m 3 ls []) := by
    intro fu
    induction fu with
    | zero => intro x2 tg rx2 hm; exact absurd (show (none : Option (Nat × Int32)) = some (tg, rx2) from hm) (fun h => nomatch h)
    | succ fu ih =>
      intro x2 tg rx2 hm H locs ls hP hD hS hl kx17 kx39
      rw [mf_Model_compareRows_L3] at hm
      refine lv_iload_n hx hb d_Model_compareRows_3 rfl (lv_at hl 2 rfl) ?_
      refine lv_if_lt (tgt := 39) hx hb d_Model_compareRows_4 (by decide) (fun hc => ?_) (fun hc => ?_)
      · have hm := sd_mt hc hm
        cases hm
        exact kx39 rfl H locs ls (hP.sub [0, 1] rfl) (hD.sub [0, 1] (by decide) rfl) hS (lv_sub hl [] rfl)
      · have hm := sd_mf hc hm
        refine lv_aload_n hx hb d_Model_compareRows_7 rfl (lv_at hl 0 rfl) ?_
        refine lv_iload_n hx hb d_Model_compareRows_8 rfl (lv_at hl 2 rfl) ?_
        obtain ⟨h_1, hm⟩ := sd_mg hm
        refine sd_lald hx hb hK hP 0 rfl h_1 d_Model_compareRows_9 ?_
        refine lv_aload_n hx hb d_Model_compareRows_10 rfl (lv_at hl 1 rfl) ?_
        refine lv_iload_n hx hb d_Model_compareRows_11 rfl (lv_at hl 2 rfl) ?_
        obtain ⟨h_2, hm⟩ := sd_mg hm
        refine sd_lald hx hb hK hP 1 rfl h_2 d_Model_compareRows_12 ?_
        refine sd_leq (tgt := 33) hx hb d_Model_compareRows_13 d_Model_compareRows_14 (by decide) (fun hc => ?_) (fun hc => ?_)
        · have hm := sd_mt hc hm
          obtain ⟨x2_1, ex2_1, hm⟩ := sd_mlet hm
          refine lv_iinc (v := x2_1) (lv' := [(2, .int x2_1), (0, .ref aE), (1, .ref aT)]) hx hb d_Model_compareRows_33 hl (k := 2) rfl (by rw [ex2_1]; rfl) (by decide) rfl (fun ls hl => ?_)
          refine lv_goto (tgt := 3) hx hb d_Model_compareRows_36 (by decide) ?_
          exact ih x2_1 tg rx2 hm H locs ls (hP.sub [0, 1] rfl) (hD.sub [0, 1] (by decide) rfl) hS (lv_sub hl [1, 2, 0] rfl) kx17 kx39
        · have hm := sd_mf hc hm
          cases hm
          exact kx17 rfl H locs ls (hP.sub [0, 1] rfl) (hD.sub [0, 1] (by decide) rfl) hS (lv_sub hl [0, 1, 2] rfl)
  obtain ⟨tg, rx2, hc, hm⟩ := sd_mb2 hm
  refine L3 F (75 : Int32) tg rx2 hc H locs ls (hP.sub [0, 1] rfl) (hD.sub [0, 1] (by decide) rfl) hS (lv_sub hl [1, 2, 0] rfl) ?_ ?_
  · intro ht H locs ls hP hD hS hl
    have hm := sd_mt ht hm
    refine lv_aload_n hx hb d_Model_compareRows_17 rfl (lv_at hl 0 rfl) ?_
    refine lv_iload_n hx hb d_Model_compareRows_18 rfl (lv_at hl 2 rfl) ?_
    obtain ⟨h_3, hm⟩ := sd_mg hm
    refine sd_lald hx hb hK hP 0 rfl h_3 d_Model_compareRows_19 ?_
    refine lv_aload_n hx hb d_Model_compareRows_20 rfl (lv_at hl 1 rfl) ?_
    refine lv_iload_n hx hb d_Model_compareRows_21 rfl (lv_at hl 2 rfl) ?_
    obtain ⟨h_4, hm⟩ := sd_mg hm
    refine sd_lald hx hb hK hP 1 rfl h_4 d_Model_compareRows_22 ?_
    obtain ⟨y, hv, hm⟩ := sd_mb1 hm
    have J32_5 : ∀ (H : Heap) (locs : List Loc) (ls : Array Slot), va_P D classes [(aE, aJ g 76 cE), (aT, aJ g 76 cT)] H → va_D A [(aE, aJ g 76 cE), (aT, aJ g 76 cT)] → va_S A s.heap H locs → lv_has ls 3 [] → W p l e rm_Model_compareRows s m args below meth c H locs 0 0 Q (F0 m 32 ls [.int y]) := by
      intro H locs ls hP hD hS hl
      exact sd_i0ret hQ hx hb hr hlk hK (hP.sub [0, 1] rfl) (hD.sub [0, 1] (by decide) rfl) hS (Option.some.inj hm).symm d_Model_compareRows_32
    replace hm := hv
    refine sd_lge (tgt := 31) hx hb d_Model_compareRows_23 d_Model_compareRows_24 (by decide) (fun hc => ?_) (fun hc => ?_)
    · have hm := sd_mt hc hm
      refine lv_iconst (v := (1 : Int32)) hx hb d_Model_compareRows_31 (by decide) ?_
      cases hm
      exact J32_5 H locs ls (hP.sub [0, 1] rfl) (hD.sub [0, 1] (by decide) rfl) hS (lv_sub hl [] rfl)
    · have hm := sd_mf hc hm
      refine lv_iconst (v := (-1 : Int32)) hx hb d_Model_compareRows_27 (by decide) ?_
      refine lv_goto (tgt := 32) hx hb d_Model_compareRows_28 (by decide) ?_
      cases hm
      exact J32_5 H locs ls (hP.sub [0, 1] rfl) (hD.sub [0, 1] (by decide) rfl) hS (lv_sub hl [] rfl)
  · intro ht H locs ls hP hD hS hl
    have hm := sd_mf (by rw [ht]; decide) hm
    refine lv_iconst (v := (0 : Int32)) hx hb d_Model_compareRows_39 (by decide) ?_
    exact sd_i0ret hQ hx hb hr hlk hK (hP.sub [0, 1] rfl) (hD.sub [0, 1] (by decide) rfl) hS (Option.some.inj hm).symm d_Model_compareRows_40
theorem d_Model_addRows_0 : decode b_Model_addRows 0 = .ok (.lconst 0, 1) := by decide +kernel
theorem d_Model_addRows_1 : decode b_Model_addRows 1 = .ok (.lstore_n 2, 1) := by decide +kernel
theorem d_Model_addRows_2 : decode b_Model_addRows 2 = .ok (.bipush 76, 2) := by decide +kernel
theorem d_Model_addRows_4 : decode b_Model_addRows 4 = .ok (.aload_n 0, 1) := by decide +kernel
theorem d_Model_addRows_5 : decode b_Model_addRows 5 = .ok (.invokestatic 140, 3) := by decide +kernel
theorem d_Model_addRows_8 : decode b_Model_addRows 8 = .ok (.aload_n 1, 1) := by decide +kernel
theorem d_Model_addRows_9 : decode b_Model_addRows 9 = .ok (.invokestatic 140, 3) := by decide +kernel
theorem d_Model_addRows_12 : decode b_Model_addRows 12 = .ok (.invokestatic 150, 3) := by decide +kernel
theorem d_Model_addRows_15 : decode b_Model_addRows 15 = .ok (.iconst 1, 1) := by decide +kernel
theorem d_Model_addRows_16 : decode b_Model_addRows 16 = .ok (.iadd, 1) := by decide +kernel
theorem d_Model_addRows_17 : decode b_Model_addRows 17 = .ok (.invokestatic 154, 3) := by decide +kernel
theorem d_Model_addRows_20 : decode b_Model_addRows 20 = .ok (.istore 4, 2) := by decide +kernel
theorem d_Model_addRows_22 : decode b_Model_addRows 22 = .ok (.iconst 0, 1) := by decide +kernel
theorem d_Model_addRows_23 : decode b_Model_addRows 23 = .ok (.istore 5, 2) := by decide +kernel
theorem d_Model_addRows_25 : decode b_Model_addRows 25 = .ok (.iload 5, 2) := by decide +kernel
theorem d_Model_addRows_27 : decode b_Model_addRows 27 = .ok (.iload 4, 2) := by decide +kernel
theorem d_Model_addRows_29 : decode b_Model_addRows 29 = .ok (.if_icmp .ge 35, 3) := by decide +kernel
theorem d_Model_addRows_32 : decode b_Model_addRows 32 = .ok (.lload_n 2, 1) := by decide +kernel
theorem d_Model_addRows_33 : decode b_Model_addRows 33 = .ok (.aload_n 0, 1) := by decide +kernel
theorem d_Model_addRows_34 : decode b_Model_addRows 34 = .ok (.iload 5, 2) := by decide +kernel
theorem d_Model_addRows_36 : decode b_Model_addRows 36 = .ok (.laload, 1) := by decide +kernel
theorem d_Model_addRows_37 : decode b_Model_addRows 37 = .ok (.aload_n 1, 1) := by decide +kernel
theorem d_Model_addRows_38 : decode b_Model_addRows 38 = .ok (.iload 5, 2) := by decide +kernel
theorem d_Model_addRows_40 : decode b_Model_addRows 40 = .ok (.laload, 1) := by decide +kernel
theorem d_Model_addRows_41 : decode b_Model_addRows 41 = .ok (.ladd, 1) := by decide +kernel
theorem d_Model_addRows_42 : decode b_Model_addRows 42 = .ok (.ladd, 1) := by decide +kernel
theorem d_Model_addRows_43 : decode b_Model_addRows 43 = .ok (.lstore_n 2, 1) := by decide +kernel
theorem d_Model_addRows_44 : decode b_Model_addRows 44 = .ok (.aload_n 0, 1) := by decide +kernel
theorem d_Model_addRows_45 : decode b_Model_addRows 45 = .ok (.iload 5, 2) := by decide +kernel
theorem d_Model_addRows_47 : decode b_Model_addRows 47 = .ok (.lload_n 2, 1) := by decide +kernel
theorem d_Model_addRows_48 : decode b_Model_addRows 48 = .ok (.ldc2_w 138, 3) := by decide +kernel
theorem d_Model_addRows_51 : decode b_Model_addRows 51 = .ok (.land, 1) := by decide +kernel
theorem d_Model_addRows_52 : decode b_Model_addRows 52 = .ok (.lastore, 1) := by decide +kernel
theorem d_Model_addRows_53 : decode b_Model_addRows 53 = .ok (.lload_n 2, 1) := by decide +kernel
theorem d_Model_addRows_54 : decode b_Model_addRows 54 = .ok (.bipush 32, 2) := by decide +kernel
theorem d_Model_addRows_56 : decode b_Model_addRows 56 = .ok (.lshr, 1) := by decide +kernel
theorem d_Model_addRows_57 : decode b_Model_addRows 57 = .ok (.lstore_n 2, 1) := by decide +kernel
theorem d_Model_addRows_58 : decode b_Model_addRows 58 = .ok (.iinc 5 1, 3) := by decide +kernel
theorem d_Model_addRows_61 : decode b_Model_addRows 61 = .ok (.goto (-36), 3) := by decide +kernel
theorem d_Model_addRows_64 : decode b_Model_addRows 64 = .ok (.return_, 1) := by decide +kernel
def mf_Model_addRows_L25 (x4 : Int32) (cT : Nat → Int64) : Nat → Int64 → Int32 → (Nat → Int64) → Option ((Nat → Int64))
  | 0, _, _, _ => none
  | fu + 1, x2, x5, uaE => (if x4 ≤ x5 then (some (uaE)) else (sd_g (sd_ix x5 76) (sd_g (sd_ix x5 76) (sd_let ((x2 + ((uaE x5.toNatClampNeg) + (cT x5.toNatClampNeg)))) fun x2_1 => (sd_g (sd_ix x5 76) (sd_let (vp_updL uaE x5.toNatClampNeg (x2_1 &&& (4294967295 : Int64))) fun uaE_1 => (sd_let ((x2_1 >>> ((32 : Int32).toInt64 &&& 63))) fun x2_2 => (sd_let (x5 + (1 : Int32)) fun x5_1 => ((mf_Model_addRows_L25 x4 cT fu) x2_2 x5_1 uaE_1)))))))))
def mf_Model_addRows (F : Nat) (cE : Nat → Int64) (cT : Nat → Int64) : Option ((Nat → Int64)) :=
  (sd_b1 (mf_Model_size F cE) fun r => (sd_b1 (mf_Model_size F cT) fun r_1 => (sd_let ((if ((if r < r_1 then r_1 else r) + (1 : Int32)) < (76 : Int32) then ((if r < r_1 then r_1 else r) + (1 : Int32)) else (76 : Int32))) fun x4 => (sd_b1 (mf_Model_addRows_L25 x4 cT F (0 : Int64) (0 : Int32) cE) fun ruaE => (some (ruaE))))))
abbrev rm_Model_addRows : Room := { frames := 1, cells := 0, slots := 0, locals := 24 }
set_option maxHeartbeats 4000000 in
set_option maxRecDepth 100000 in
theorem ct_Model_addRows (l : Launch) (D : va_G) (g : G4) (aE : Nat) (aT : Nat) (sz : Nat) (cE : Nat → Int64) (cT : Nat → Int64) (F : Nat) (res : (Nat → Int64)) (hm : mf_Model_addRows F cE cT = some res) : Met l y_Model_addRows (.code y_Model_addRows b_Model_addRows 6 none :: sd_tb) rm_Model_addRows (sd_PW D g [.ref aE, .ref aT] sz [(aE, aJ g 76 cE), (aT, aJ g 76 cT)]) (sd_Qv1 D g res (fun u : (Nat → Int64) => [(aE, aJ g 76 u), (aT, aJ g 76 cT)]) (va_A [(aE, aJ g 76 cE), (aT, aJ g 76 cT)] sz)) 0 0 (va_A [(aE, aJ g 76 cE), (aT, aJ g 76 cT)] sz) := by
  refine sd_met (Qf := fun A => sd_Qv1 D g res (fun u : (Nat → Int64) => [(aE, aJ g 76 u), (aT, aJ g 76 cT)]) A) (own := R_Model) (by decide +kernel) rfl (Nat.le_of_ble_eq_true rfl) ?_
  intro p e s m args below meth c S hr hlk hK A hA Q hQ H locs hP hD hS ls hl
  have hx := S.1
  have hb := S.2.1
  have hml := S.2.2.1
  have hown := S.2.2.2.1
  have htt := sd_tt S
  replace hl : lv_has ls 6 [(0, .ref aE), (1, .ref aT)] := hl
  unfold mf_Model_addRows at hm
  refine lv_lconst (v := (0 : Int64)) hx hb d_Model_addRows_0 (by decide) ?_
  refine lv_lstore_n (lv' := [(2, .long (0 : Int64)), (0, .ref aE), (1, .ref aT)]) hx hb d_Model_addRows_1 rfl hl (by decide) rfl (fun ls hl => ?_)
  refine lv_bipush (v := (76 : Int32)) hx hb d_Model_addRows_2 (by decide) ?_
  refine lv_aload_n hx hb d_Model_addRows_4 rfl (lv_at hl 1 rfl) ?_
  obtain ⟨r, hc, hm⟩ := sd_mb1 hm
  refine sd_ci0 (wr := [(aT, aJ g 76 cT)]) (w2 := [(aT, aJ g 76 cT), (aE, aJ g 76 cE)]) (sd_runS (rest := [.int (76 : Int32)]) (As := [.ref aE]) S (ct_Model_size l D g aE (H.size) cE F (r) hc) kl_Model_140 (by decide) (by decide) hK hP hD [0] rfl (by decide) rfl hl d_Model_addRows_5 rfl (Nat.le_of_ble_eq_true rfl) ⟨Nat.zero_le _, Nat.zero_le _⟩) hP hD hS hA [0] [1] rfl rfl (by decide) (by decide) rfl (fun H locs hP hD hS => ?_)
  refine W.eq (g2 := F0 m 8 ls [.int r, .int (76 : Int32)]) rfl ?_
  refine lv_aload_n hx hb d_Model_addRows_8 rfl (lv_at hl 2 rfl) ?_
  obtain ⟨r_1, hc, hm⟩ := sd_mb1 hm
  refine sd_ci0 (wr := [(aE, aJ g 76 cE)]) (w2 := [(aE, aJ g 76 cE), (aT, aJ g 76 cT)]) (sd_runS (rest := [.int r, .int (76 : Int32)]) (As := [.ref aT]) S (ct_Model_size l D g aT (H.size) cT F (r_1) hc) kl_Model_140 (by decide) (by decide) hK hP hD [0] rfl (by decide) rfl hl d_Model_addRows_9 rfl (Nat.le_of_ble_eq_true rfl) ⟨Nat.zero_le _, Nat.zero_le _⟩) hP hD hS hA [0] [1] rfl rfl (by decide) (by decide) rfl (fun H locs hP hD hS => ?_)
  refine W.eq (g2 := F0 m 12 ls [.int r_1, .int r, .int (76 : Int32)]) rfl ?_
  refine sd_maxi hx hb hml hown kl_Model_150 htt hl d_Model_addRows_12 (Nat.le_of_ble_eq_true rfl) (Nat.le_of_ble_eq_true rfl) ?_
  refine lv_iconst (v := (1 : Int32)) hx hb d_Model_addRows_15 (by decide) ?_
  refine lv_iadd hx hb d_Model_addRows_16 ?_
  refine sd_mini hx hb hml hown kl_Model_154 htt hl d_Model_addRows_17 (Nat.le_of_ble_eq_true rfl) (Nat.le_of_ble_eq_true rfl) ?_
  obtain ⟨x4, ex4, hm⟩ := sd_mlet hm
  refine sd_topi ex4 ?_
  refine lv_istore (lv' := [(4, .int x4), (2, .long (0 : Int64)), (0, .ref aE), (1, .ref aT)]) hx hb d_Model_addRows_20 hl (by decide) rfl (fun ls hl => ?_)
  refine lv_iconst (v := (0 : Int32)) hx hb d_Model_addRows_22 (by decide) ?_
  refine lv_istore (lv' := [(5, .int (0 : Int32)), (4, .int x4), (2, .long (0 : Int64)), (0, .ref aE), (1, .ref aT)]) hx hb d_Model_addRows_23 hl (by decide) rfl (fun ls hl => ?_)
  have L25 : ∀ (fu : Nat) (x2 : Int64) (x5 : Int32) (uaE : Nat → Int64) (ruaE : Nat → Int64), mf_Model_addRows_L25 x4 cT fu x2 x5 uaE = some (ruaE) → ∀ (H : Heap) (locs : List Loc) (ls : Array Slot), va_P D classes [(aE, aJ g 76 uaE), (aT, aJ g 76 cT)] H → va_D A [(aE, aJ g 76 uaE), (aT, aJ g 76 cT)] → va_S A s.heap H locs → lv_has ls 6 [(0, .ref aE), (1, .ref aT), (2, .long x2), (4, .int x4), (5, .int x5)] → (∀ (H : Heap) (locs : List Loc) (ls : Array Slot), va_P D classes [(aE, aJ g 76 ruaE), (aT, aJ g 76 cT)] H → va_D A [(aE, aJ g 76 ruaE), (aT, aJ g 76 cT)] → va_S A s.heap H locs → lv_has ls 6 [] → W p l e rm_Model_addRows s m args below meth c H locs 0 0 Q (F0 m 64 ls [])) → W p l e rm_Model_addRows s m args below meth c H locs 0 0 Q (F0 m 25 ls []) := by
    intro fu
    induction fu with
    | zero => intro x2 x5 uaE ruaE hm; exact absurd (show (none : Option ((Nat → Int64))) = some (ruaE) from hm) (fun h => nomatch h)
    | succ fu ih =>
      intro x2 x5 uaE ruaE hm H locs ls hP hD hS hl kx64
      rw [mf_Model_addRows_L25] at hm
      refine lv_iload hx hb d_Model_addRows_25 (lv_at hl 4 rfl) ?_
      refine lv_iload hx hb d_Model_addRows_27 (lv_at hl 3 rfl) ?_
      refine lv_icmp_ge (tgt := 64) hx hb d_Model_addRows_29 (by decide) (fun hc => ?_) (fun hc => ?_)
      · have hm := sd_mt hc hm
        cases hm
        exact kx64 H locs ls (hP.sub [0, 1] rfl) (hD.sub [0, 1] (by decide) rfl) hS (lv_sub hl [] rfl)
      · have hm := sd_mf hc hm
        refine lv_lload_n hx hb d_Model_addRows_32 rfl (lv_at hl 2 rfl) ?_
        refine lv_aload_n hx hb d_Model_addRows_33 rfl (lv_at hl 0 rfl) ?_
        refine lv_iload hx hb d_Model_addRows_34 (lv_at hl 4 rfl) ?_
        obtain ⟨h_1, hm⟩ := sd_mg hm
        refine sd_lald hx hb hK hP 0 rfl h_1 d_Model_addRows_36 ?_
        refine lv_aload_n hx hb d_Model_addRows_37 rfl (lv_at hl 1 rfl) ?_
        refine lv_iload hx hb d_Model_addRows_38 (lv_at hl 4 rfl) ?_
        obtain ⟨h_2, hm⟩ := sd_mg hm
        refine sd_lald hx hb hK hP 1 rfl h_2 d_Model_addRows_40 ?_
        refine lv_ladd hx hb d_Model_addRows_41 ?_
        refine lv_ladd hx hb d_Model_addRows_42 ?_
        obtain ⟨x2_1, ex2_1, hm⟩ := sd_mlet hm
        refine sd_topj ex2_1 ?_
        refine lv_lstore_n (lv' := [(2, .long x2_1), (0, .ref aE), (1, .ref aT), (4, .int x4), (5, .int x5)]) hx hb d_Model_addRows_43 rfl hl (by decide) rfl (fun ls hl => ?_)
        refine lv_aload_n hx hb d_Model_addRows_44 rfl (lv_at hl 1 rfl) ?_
        refine lv_iload hx hb d_Model_addRows_45 (lv_at hl 4 rfl) ?_
        refine lv_lload_n hx hb d_Model_addRows_47 rfl (lv_at hl 0 rfl) ?_
        refine sd_ldc2 (v := (4294967295 : Int64)) hx hb hown (htt _ km_Model_138) d_Model_addRows_48 ?_
        refine lv_land hx hb d_Model_addRows_51 ?_
        obtain ⟨h_3, hm⟩ := sd_mg hm
        obtain ⟨uaE_1, euaE_1, hm⟩ := sd_mlet hm
        refine sd_last (f2 := uaE_1) (ws2 := [(aE, aJ g 76 uaE_1), (aT, aJ g 76 cT)]) hx hb hK hP hD hS 0 rfl h_3 euaE_1 rfl d_Model_addRows_52 (fun H locs hP hD hS => ?_)
        refine lv_lload_n hx hb d_Model_addRows_53 rfl (lv_at hl 0 rfl) ?_
        refine lv_bipush (v := (32 : Int32)) hx hb d_Model_addRows_54 (by decide) ?_
        refine lv_lshr hx hb d_Model_addRows_56 rfl ?_
        obtain ⟨x2_2, ex2_2, hm⟩ := sd_mlet hm
        refine sd_topj ex2_2 ?_
        refine lv_lstore_n (lv' := [(2, .long x2_2), (0, .ref aE), (1, .ref aT), (4, .int x4), (5, .int x5)]) hx hb d_Model_addRows_57 rfl hl (by decide) rfl (fun ls hl => ?_)
        obtain ⟨x5_1, ex5_1, hm⟩ := sd_mlet hm
        refine lv_iinc (v := x5_1) (lv' := [(5, .int x5_1), (2, .long x2_2), (0, .ref aE), (1, .ref aT), (4, .int x4)]) hx hb d_Model_addRows_58 hl (k := 4) rfl (by rw [ex5_1]; rfl) (by decide) rfl (fun ls hl => ?_)
        refine lv_goto (tgt := 25) hx hb d_Model_addRows_61 (by decide) ?_
        exact ih x2_2 x5_1 uaE_1 ruaE hm H locs ls (hP.sub [0, 1] rfl) (hD.sub [0, 1] (by decide) rfl) hS (lv_sub hl [2, 3, 1, 4, 0] rfl) kx64
  obtain ⟨ruaE, hc, hm⟩ := sd_mb1 hm
  refine L25 F (0 : Int64) (0 : Int32) cE ruaE hc H locs ls (hP.sub [0, 1] rfl) (hD.sub [0, 1] (by decide) rfl) hS (lv_sub hl [3, 4, 2, 1, 0] rfl) ?_
  intro H locs ls hP hD hS hl
  exact sd_v1ret (u := (ruaE)) hQ hx hb hr hlk hK (hP.sub [0, 1] rfl) (hD.sub [0, 1] (by decide) rfl) hS (Option.some.inj hm).symm d_Model_addRows_64
theorem d_Model_subtract_0 : decode b_Model_subtract 0 = .ok (.lconst 0, 1) := by decide +kernel
theorem d_Model_subtract_1 : decode b_Model_subtract 1 = .ok (.lstore_n 2, 1) := by decide +kernel
theorem d_Model_subtract_2 : decode b_Model_subtract 2 = .ok (.aload_n 0, 1) := by decide +kernel
theorem d_Model_subtract_3 : decode b_Model_subtract 3 = .ok (.invokestatic 140, 3) := by decide +kernel
theorem d_Model_subtract_6 : decode b_Model_subtract 6 = .ok (.istore 4, 2) := by decide +kernel
theorem d_Model_subtract_8 : decode b_Model_subtract 8 = .ok (.iconst 0, 1) := by decide +kernel
theorem d_Model_subtract_9 : decode b_Model_subtract 9 = .ok (.istore 5, 2) := by decide +kernel
theorem d_Model_subtract_11 : decode b_Model_subtract 11 = .ok (.iload 5, 2) := by decide +kernel
theorem d_Model_subtract_13 : decode b_Model_subtract 13 = .ok (.iload 4, 2) := by decide +kernel
theorem d_Model_subtract_15 : decode b_Model_subtract 15 = .ok (.if_icmp .ge 35, 3) := by decide +kernel
theorem d_Model_subtract_18 : decode b_Model_subtract 18 = .ok (.lload_n 2, 1) := by decide +kernel
theorem d_Model_subtract_19 : decode b_Model_subtract 19 = .ok (.aload_n 0, 1) := by decide +kernel
theorem d_Model_subtract_20 : decode b_Model_subtract 20 = .ok (.iload 5, 2) := by decide +kernel
theorem d_Model_subtract_22 : decode b_Model_subtract 22 = .ok (.laload, 1) := by decide +kernel
theorem d_Model_subtract_23 : decode b_Model_subtract 23 = .ok (.aload_n 1, 1) := by decide +kernel
theorem d_Model_subtract_24 : decode b_Model_subtract 24 = .ok (.iload 5, 2) := by decide +kernel
theorem d_Model_subtract_26 : decode b_Model_subtract 26 = .ok (.laload, 1) := by decide +kernel
theorem d_Model_subtract_27 : decode b_Model_subtract 27 = .ok (.lsub, 1) := by decide +kernel
theorem d_Model_subtract_28 : decode b_Model_subtract 28 = .ok (.ladd, 1) := by decide +kernel
theorem d_Model_subtract_29 : decode b_Model_subtract 29 = .ok (.lstore_n 2, 1) := by decide +kernel
theorem d_Model_subtract_30 : decode b_Model_subtract 30 = .ok (.aload_n 0, 1) := by decide +kernel
theorem d_Model_subtract_31 : decode b_Model_subtract 31 = .ok (.iload 5, 2) := by decide +kernel
theorem d_Model_subtract_33 : decode b_Model_subtract 33 = .ok (.lload_n 2, 1) := by decide +kernel
theorem d_Model_subtract_34 : decode b_Model_subtract 34 = .ok (.ldc2_w 138, 3) := by decide +kernel
theorem d_Model_subtract_37 : decode b_Model_subtract 37 = .ok (.land, 1) := by decide +kernel
theorem d_Model_subtract_38 : decode b_Model_subtract 38 = .ok (.lastore, 1) := by decide +kernel
theorem d_Model_subtract_39 : decode b_Model_subtract 39 = .ok (.lload_n 2, 1) := by decide +kernel
theorem d_Model_subtract_40 : decode b_Model_subtract 40 = .ok (.bipush 32, 2) := by decide +kernel
theorem d_Model_subtract_42 : decode b_Model_subtract 42 = .ok (.lshr, 1) := by decide +kernel
theorem d_Model_subtract_43 : decode b_Model_subtract 43 = .ok (.lstore_n 2, 1) := by decide +kernel
theorem d_Model_subtract_44 : decode b_Model_subtract 44 = .ok (.iinc 5 1, 3) := by decide +kernel
theorem d_Model_subtract_47 : decode b_Model_subtract 47 = .ok (.goto (-36), 3) := by decide +kernel
theorem d_Model_subtract_50 : decode b_Model_subtract 50 = .ok (.return_, 1) := by decide +kernel
def mf_Model_subtract_L11 (r : Int32) (cT : Nat → Int64) : Nat → Int64 → Int32 → (Nat → Int64) → Option ((Nat → Int64))
  | 0, _, _, _ => none
  | fu + 1, x2, x5, uaE => (if r ≤ x5 then (some (uaE)) else (sd_g (sd_ix x5 76) (sd_g (sd_ix x5 76) (sd_let ((x2 + ((uaE x5.toNatClampNeg) - (cT x5.toNatClampNeg)))) fun x2_1 => (sd_g (sd_ix x5 76) (sd_let (vp_updL uaE x5.toNatClampNeg (x2_1 &&& (4294967295 : Int64))) fun uaE_1 => (sd_let ((x2_1 >>> ((32 : Int32).toInt64 &&& 63))) fun x2_2 => (sd_let (x5 + (1 : Int32)) fun x5_1 => ((mf_Model_subtract_L11 r cT fu) x2_2 x5_1 uaE_1)))))))))
def mf_Model_subtract (F : Nat) (cE : Nat → Int64) (cT : Nat → Int64) : Option ((Nat → Int64)) :=
  (sd_b1 (mf_Model_size F cE) fun r => (sd_b1 (mf_Model_subtract_L11 r cT F (0 : Int64) (0 : Int32) cE) fun ruaE => (some (ruaE))))
abbrev rm_Model_subtract : Room := { frames := 1, cells := 0, slots := 0, locals := 21 }
set_option maxHeartbeats 4000000 in
set_option maxRecDepth 100000 in
theorem ct_Model_subtract (l : Launch) (D : va_G) (g : G4) (aE : Nat) (aT : Nat) (sz : Nat) (cE : Nat → Int64) (cT : Nat → Int64) (F : Nat) (res : (Nat → Int64)) (hm : mf_Model_subtract F cE cT = some res) : Met l y_Model_subtract (.code y_Model_subtract b_Model_subtract 6 none :: sd_tb) rm_Model_subtract (sd_PW D g [.ref aE, .ref aT] sz [(aE, aJ g 76 cE), (aT, aJ g 76 cT)]) (sd_Qv1 D g res (fun u : (Nat → Int64) => [(aE, aJ g 76 u), (aT, aJ g 76 cT)]) (va_A [(aE, aJ g 76 cE), (aT, aJ g 76 cT)] sz)) 0 0 (va_A [(aE, aJ g 76 cE), (aT, aJ g 76 cT)] sz) := by
  refine sd_met (Qf := fun A => sd_Qv1 D g res (fun u : (Nat → Int64) => [(aE, aJ g 76 u), (aT, aJ g 76 cT)]) A) (own := R_Model) (by decide +kernel) rfl (Nat.le_of_ble_eq_true rfl) ?_
  intro p e s m args below meth c S hr hlk hK A hA Q hQ H locs hP hD hS ls hl
  have hx := S.1
  have hb := S.2.1
  have hml := S.2.2.1
  have hown := S.2.2.2.1
  have htt := sd_tt S
  replace hl : lv_has ls 6 [(0, .ref aE), (1, .ref aT)] := hl
  unfold mf_Model_subtract at hm
  refine lv_lconst (v := (0 : Int64)) hx hb d_Model_subtract_0 (by decide) ?_
  refine lv_lstore_n (lv' := [(2, .long (0 : Int64)), (0, .ref aE), (1, .ref aT)]) hx hb d_Model_subtract_1 rfl hl (by decide) rfl (fun ls hl => ?_)
  refine lv_aload_n hx hb d_Model_subtract_2 rfl (lv_at hl 1 rfl) ?_
  obtain ⟨r, hc, hm⟩ := sd_mb1 hm
  refine sd_ci0 (wr := [(aT, aJ g 76 cT)]) (w2 := [(aT, aJ g 76 cT), (aE, aJ g 76 cE)]) (sd_runS (rest := []) (As := [.ref aE]) S (ct_Model_size l D g aE (H.size) cE F (r) hc) kl_Model_140 (by decide) (by decide) hK hP hD [0] rfl (by decide) rfl hl d_Model_subtract_3 rfl (Nat.le_of_ble_eq_true rfl) ⟨Nat.zero_le _, Nat.zero_le _⟩) hP hD hS hA [0] [1] rfl rfl (by decide) (by decide) rfl (fun H locs hP hD hS => ?_)
  refine W.eq (g2 := F0 m 6 ls [.int r]) rfl ?_
  refine lv_istore (lv' := [(4, .int r), (2, .long (0 : Int64)), (0, .ref aE), (1, .ref aT)]) hx hb d_Model_subtract_6 hl (by decide) rfl (fun ls hl => ?_)
  refine lv_iconst (v := (0 : Int32)) hx hb d_Model_subtract_8 (by decide) ?_
  refine lv_istore (lv' := [(5, .int (0 : Int32)), (4, .int r), (2, .long (0 : Int64)), (0, .ref aE), (1, .ref aT)]) hx hb d_Model_subtract_9 hl (by decide) rfl (fun ls hl => ?_)
  have L11 : ∀ (fu : Nat) (x2 : Int64) (x5 : Int32) (uaE : Nat → Int64) (ruaE : Nat → Int64), mf_Model_subtract_L11 r cT fu x2 x5 uaE = some (ruaE) → ∀ (H : Heap) (locs : List Loc) (ls : Array Slot), va_P D classes [(aT, aJ g 76 cT), (aE, aJ g 76 uaE)] H → va_D A [(aT, aJ g 76 cT), (aE, aJ g 76 uaE)] → va_S A s.heap H locs → lv_has ls 6 [(0, .ref aE), (1, .ref aT), (2, .long x2), (4, .int r), (5, .int x5)] → (∀ (H : Heap) (locs : List Loc) (ls : Array Slot), va_P D classes [(aT, aJ g 76 cT), (aE, aJ g 76 ruaE)] H → va_D A [(aT, aJ g 76 cT), (aE, aJ g 76 ruaE)] → va_S A s.heap H locs → lv_has ls 6 [] → W p l e rm_Model_subtract s m args below meth c H locs 0 0 Q (F0 m 50 ls [])) → W p l e rm_Model_subtract s m args below meth c H locs 0 0 Q (F0 m 11 ls []) := by
    intro fu
    induction fu with
    | zero => intro x2 x5 uaE ruaE hm; exact absurd (show (none : Option ((Nat → Int64))) = some (ruaE) from hm) (fun h => nomatch h)
    | succ fu ih =>
      intro x2 x5 uaE ruaE hm H locs ls hP hD hS hl kx50
      rw [mf_Model_subtract_L11] at hm
      refine lv_iload hx hb d_Model_subtract_11 (lv_at hl 4 rfl) ?_
      refine lv_iload hx hb d_Model_subtract_13 (lv_at hl 3 rfl) ?_
      refine lv_icmp_ge (tgt := 50) hx hb d_Model_subtract_15 (by decide) (fun hc => ?_) (fun hc => ?_)
      · have hm := sd_mt hc hm
        cases hm
        exact kx50 H locs ls (hP.sub [0, 1] rfl) (hD.sub [0, 1] (by decide) rfl) hS (lv_sub hl [] rfl)
      · have hm := sd_mf hc hm
        refine lv_lload_n hx hb d_Model_subtract_18 rfl (lv_at hl 2 rfl) ?_
        refine lv_aload_n hx hb d_Model_subtract_19 rfl (lv_at hl 0 rfl) ?_
        refine lv_iload hx hb d_Model_subtract_20 (lv_at hl 4 rfl) ?_
        obtain ⟨h_1, hm⟩ := sd_mg hm
        refine sd_lald hx hb hK hP 1 rfl h_1 d_Model_subtract_22 ?_
        refine lv_aload_n hx hb d_Model_subtract_23 rfl (lv_at hl 1 rfl) ?_
        refine lv_iload hx hb d_Model_subtract_24 (lv_at hl 4 rfl) ?_
        obtain ⟨h_2, hm⟩ := sd_mg hm
        refine sd_lald hx hb hK hP 0 rfl h_2 d_Model_subtract_26 ?_
        refine lv_lsub hx hb d_Model_subtract_27 ?_
        refine lv_ladd hx hb d_Model_subtract_28 ?_
        obtain ⟨x2_1, ex2_1, hm⟩ := sd_mlet hm
        refine sd_topj ex2_1 ?_
        refine lv_lstore_n (lv' := [(2, .long x2_1), (0, .ref aE), (1, .ref aT), (4, .int r), (5, .int x5)]) hx hb d_Model_subtract_29 rfl hl (by decide) rfl (fun ls hl => ?_)
        refine lv_aload_n hx hb d_Model_subtract_30 rfl (lv_at hl 1 rfl) ?_
        refine lv_iload hx hb d_Model_subtract_31 (lv_at hl 4 rfl) ?_
        refine lv_lload_n hx hb d_Model_subtract_33 rfl (lv_at hl 0 rfl) ?_
        refine sd_ldc2 (v := (4294967295 : Int64)) hx hb hown (htt _ km_Model_138) d_Model_subtract_34 ?_
        refine lv_land hx hb d_Model_subtract_37 ?_
        obtain ⟨h_3, hm⟩ := sd_mg hm
        obtain ⟨uaE_1, euaE_1, hm⟩ := sd_mlet hm
        refine sd_last (f2 := uaE_1) (ws2 := [(aT, aJ g 76 cT), (aE, aJ g 76 uaE_1)]) hx hb hK hP hD hS 1 rfl h_3 euaE_1 rfl d_Model_subtract_38 (fun H locs hP hD hS => ?_)
        refine lv_lload_n hx hb d_Model_subtract_39 rfl (lv_at hl 0 rfl) ?_
        refine lv_bipush (v := (32 : Int32)) hx hb d_Model_subtract_40 (by decide) ?_
        refine lv_lshr hx hb d_Model_subtract_42 rfl ?_
        obtain ⟨x2_2, ex2_2, hm⟩ := sd_mlet hm
        refine sd_topj ex2_2 ?_
        refine lv_lstore_n (lv' := [(2, .long x2_2), (0, .ref aE), (1, .ref aT), (4, .int r), (5, .int x5)]) hx hb d_Model_subtract_43 rfl hl (by decide) rfl (fun ls hl => ?_)
        obtain ⟨x5_1, ex5_1, hm⟩ := sd_mlet hm
        refine lv_iinc (v := x5_1) (lv' := [(5, .int x5_1), (2, .long x2_2), (0, .ref aE), (1, .ref aT), (4, .int r)]) hx hb d_Model_subtract_44 hl (k := 4) rfl (by rw [ex5_1]; rfl) (by decide) rfl (fun ls hl => ?_)
        refine lv_goto (tgt := 11) hx hb d_Model_subtract_47 (by decide) ?_
        exact ih x2_2 x5_1 uaE_1 ruaE hm H locs ls (hP.sub [0, 1] rfl) (hD.sub [0, 1] (by decide) rfl) hS (lv_sub hl [2, 3, 1, 4, 0] rfl) kx50
  obtain ⟨ruaE, hc, hm⟩ := sd_mb1 hm
  refine L11 F (0 : Int64) (0 : Int32) cE ruaE hc H locs ls (hP.sub [0, 1] rfl) (hD.sub [0, 1] (by decide) rfl) hS (lv_sub hl [3, 4, 2, 1, 0] rfl) ?_
  intro H locs ls hP hD hS hl
  exact sd_v1ret (u := (ruaE)) hQ hx hb hr hlk hK (hP.sub [1, 0] rfl) (hD.sub [1, 0] (by decide) rfl) hS (Option.some.inj hm).symm d_Model_subtract_50
theorem d_Model_addSmall_0 : decode b_Model_addSmall 0 = .ok (.lload_n 1, 1) := by decide +kernel
theorem d_Model_addSmall_1 : decode b_Model_addSmall 1 = .ok (.lstore_n 3, 1) := by decide +kernel
theorem d_Model_addSmall_2 : decode b_Model_addSmall 2 = .ok (.iconst 0, 1) := by decide +kernel
theorem d_Model_addSmall_3 : decode b_Model_addSmall 3 = .ok (.istore 5, 2) := by decide +kernel
theorem d_Model_addSmall_5 : decode b_Model_addSmall 5 = .ok (.lload_n 3, 1) := by decide +kernel
theorem d_Model_addSmall_6 : decode b_Model_addSmall 6 = .ok (.lconst 0, 1) := by decide +kernel
theorem d_Model_addSmall_7 : decode b_Model_addSmall 7 = .ok (.lcmp, 1) := by decide +kernel
theorem d_Model_addSmall_8 : decode b_Model_addSmall 8 = .ok (.ifCond .eq 30, 3) := by decide +kernel
theorem d_Model_addSmall_11 : decode b_Model_addSmall 11 = .ok (.lload_n 3, 1) := by decide +kernel
theorem d_Model_addSmall_12 : decode b_Model_addSmall 12 = .ok (.aload_n 0, 1) := by decide +kernel
theorem d_Model_addSmall_13 : decode b_Model_addSmall 13 = .ok (.iload 5, 2) := by decide +kernel
theorem d_Model_addSmall_15 : decode b_Model_addSmall 15 = .ok (.laload, 1) := by decide +kernel
theorem d_Model_addSmall_16 : decode b_Model_addSmall 16 = .ok (.ladd, 1) := by decide +kernel
theorem d_Model_addSmall_17 : decode b_Model_addSmall 17 = .ok (.lstore_n 3, 1) := by decide +kernel
theorem d_Model_addSmall_18 : decode b_Model_addSmall 18 = .ok (.aload_n 0, 1) := by decide +kernel
theorem d_Model_addSmall_19 : decode b_Model_addSmall 19 = .ok (.iload 5, 2) := by decide +kernel
theorem d_Model_addSmall_21 : decode b_Model_addSmall 21 = .ok (.lload_n 3, 1) := by decide +kernel
theorem d_Model_addSmall_22 : decode b_Model_addSmall 22 = .ok (.ldc2_w 138, 3) := by decide +kernel
theorem d_Model_addSmall_25 : decode b_Model_addSmall 25 = .ok (.land, 1) := by decide +kernel
theorem d_Model_addSmall_26 : decode b_Model_addSmall 26 = .ok (.lastore, 1) := by decide +kernel
theorem d_Model_addSmall_27 : decode b_Model_addSmall 27 = .ok (.lload_n 3, 1) := by decide +kernel
theorem d_Model_addSmall_28 : decode b_Model_addSmall 28 = .ok (.bipush 32, 2) := by decide +kernel
theorem d_Model_addSmall_30 : decode b_Model_addSmall 30 = .ok (.lshr, 1) := by decide +kernel
theorem d_Model_addSmall_31 : decode b_Model_addSmall 31 = .ok (.lstore_n 3, 1) := by decide +kernel
theorem d_Model_addSmall_32 : decode b_Model_addSmall 32 = .ok (.iinc 5 1, 3) := by decide +kernel
theorem d_Model_addSmall_35 : decode b_Model_addSmall 35 = .ok (.goto (-30), 3) := by decide +kernel
theorem d_Model_addSmall_38 : decode b_Model_addSmall 38 = .ok (.return_, 1) := by decide +kernel
def mf_Model_addSmall_L5  : Nat → Int64 → Int32 → (Nat → Int64) → Option ((Nat → Int64))
  | 0, _, _, _ => none
  | fu + 1, x3, x5, uaE => (if x3 = (0 : Int64) then (some (uaE)) else (sd_g (sd_ix x5 76) (sd_let ((x3 + (uaE x5.toNatClampNeg))) fun x3_1 => (sd_g (sd_ix x5 76) (sd_let (vp_updL uaE x5.toNatClampNeg (x3_1 &&& (4294967295 : Int64))) fun uaE_1 => (sd_let ((x3_1 >>> ((32 : Int32).toInt64 &&& 63))) fun x3_2 => (sd_let (x5 + (1 : Int32)) fun x5_1 => ((mf_Model_addSmall_L5  fu) x3_2 x5_1 uaE_1))))))))
def mf_Model_addSmall (F : Nat) (vV : Int64) (cE : Nat → Int64) : Option ((Nat → Int64)) :=
  (sd_b1 (mf_Model_addSmall_L5  F vV (0 : Int32) cE) fun ruaE => (some (ruaE)))
abbrev rm_Model_addSmall : Room := { frames := 0, cells := 0, slots := 0, locals := 0 }
set_option maxHeartbeats 4000000 in
set_option maxRecDepth 100000 in
theorem ct_Model_addSmall (l : Launch) (D : va_G) (g : G4) (aE : Nat) (sz : Nat) (vV : Int64) (cE : Nat → Int64) (F : Nat) (res : (Nat → Int64)) (hm : mf_Model_addSmall F vV cE = some res) : Met l y_Model_addSmall (.code y_Model_addSmall b_Model_addSmall 6 none :: sd_tb) rm_Model_addSmall (sd_PW D g [.ref aE, .long vV] sz [(aE, aJ g 76 cE)]) (sd_Qv1 D g res (fun u : (Nat → Int64) => [(aE, aJ g 76 u)]) (va_A [(aE, aJ g 76 cE)] sz)) 0 0 (va_A [(aE, aJ g 76 cE)] sz) := by
  refine sd_met (Qf := fun A => sd_Qv1 D g res (fun u : (Nat → Int64) => [(aE, aJ g 76 u)]) A) (own := R_Model) (by decide +kernel) rfl (Nat.le_of_ble_eq_true rfl) ?_
  intro p e s m args below meth c S hr hlk hK A hA Q hQ H locs hP hD hS ls hl
  have hx := S.1
  have hb := S.2.1
  have hml := S.2.2.1
  have hown := S.2.2.2.1
  have htt := sd_tt S
  replace hl : lv_has ls 6 [(0, .ref aE), (1, .long vV)] := hl
  unfold mf_Model_addSmall at hm
  refine lv_lload_n hx hb d_Model_addSmall_0 rfl (lv_at hl 1 rfl) ?_
  refine lv_lstore_n (lv' := [(3, .long vV), (0, .ref aE), (1, .long vV)]) hx hb d_Model_addSmall_1 rfl hl (by decide) rfl (fun ls hl => ?_)
  refine lv_iconst (v := (0 : Int32)) hx hb d_Model_addSmall_2 (by decide) ?_
  refine lv_istore (lv' := [(5, .int (0 : Int32)), (3, .long vV), (0, .ref aE), (1, .long vV)]) hx hb d_Model_addSmall_3 hl (by decide) rfl (fun ls hl => ?_)
  have L5 : ∀ (fu : Nat) (x3 : Int64) (x5 : Int32) (uaE : Nat → Int64) (ruaE : Nat → Int64), mf_Model_addSmall_L5  fu x3 x5 uaE = some (ruaE) → ∀ (H : Heap) (locs : List Loc) (ls : Array Slot), va_P D classes [(aE, aJ g 76 uaE)] H → va_D A [(aE, aJ g 76 uaE)] → va_S A s.heap H locs → lv_has ls 6 [(0, .ref aE), (3, .long x3), (5, .int x5)] → (∀ (H : Heap) (locs : List Loc) (ls : Array Slot), va_P D classes [(aE, aJ g 76 ruaE)] H → va_D A [(aE, aJ g 76 ruaE)] → va_S A s.heap H locs → lv_has ls 6 [] → W p l e rm_Model_addSmall s m args below meth c H locs 0 0 Q (F0 m 38 ls [])) → W p l e rm_Model_addSmall s m args below meth c H locs 0 0 Q (F0 m 5 ls []) := by
    intro fu
    induction fu with
    | zero => intro x3 x5 uaE ruaE hm; exact absurd (show (none : Option ((Nat → Int64))) = some (ruaE) from hm) (fun h => nomatch h)
    | succ fu ih =>
      intro x3 x5 uaE ruaE hm H locs ls hP hD hS hl kx38
      rw [mf_Model_addSmall_L5] at hm
      refine lv_lload_n hx hb d_Model_addSmall_5 rfl (lv_at hl 1 rfl) ?_
      refine lv_lconst (v := (0 : Int64)) hx hb d_Model_addSmall_6 (by decide) ?_
      refine sd_leq (tgt := 38) hx hb d_Model_addSmall_7 d_Model_addSmall_8 (by decide) (fun hc => ?_) (fun hc => ?_)
      · have hm := sd_mt hc hm
        cases hm
        exact kx38 H locs ls (hP.sub [0] rfl) (hD.sub [0] (by decide) rfl) hS (lv_sub hl [] rfl)
      · have hm := sd_mf hc hm
        refine lv_lload_n hx hb d_Model_addSmall_11 rfl (lv_at hl 1 rfl) ?_
        refine lv_aload_n hx hb d_Model_addSmall_12 rfl (lv_at hl 0 rfl) ?_
        refine lv_iload hx hb d_Model_addSmall_13 (lv_at hl 2 rfl) ?_
        obtain ⟨h_1, hm⟩ := sd_mg hm
        refine sd_lald hx hb hK hP 0 rfl h_1 d_Model_addSmall_15 ?_
        refine lv_ladd hx hb d_Model_addSmall_16 ?_
        obtain ⟨x3_1, ex3_1, hm⟩ := sd_mlet hm
        refine sd_topj ex3_1 ?_
        refine lv_lstore_n (lv' := [(3, .long x3_1), (0, .ref aE), (5, .int x5)]) hx hb d_Model_addSmall_17 rfl hl (by decide) rfl (fun ls hl => ?_)
        refine lv_aload_n hx hb d_Model_addSmall_18 rfl (lv_at hl 1 rfl) ?_
        refine lv_iload hx hb d_Model_addSmall_19 (lv_at hl 2 rfl) ?_
        refine lv_lload_n hx hb d_Model_addSmall_21 rfl (lv_at hl 0 rfl) ?_
        refine sd_ldc2 (v := (4294967295 : Int64)) hx hb hown (htt _ km_Model_138) d_Model_addSmall_22 ?_
        refine lv_land hx hb d_Model_addSmall_25 ?_
        obtain ⟨h_2, hm⟩ := sd_mg hm
        obtain ⟨uaE_1, euaE_1, hm⟩ := sd_mlet hm
        refine sd_last (f2 := uaE_1) (ws2 := [(aE, aJ g 76 uaE_1)]) hx hb hK hP hD hS 0 rfl h_2 euaE_1 rfl d_Model_addSmall_26 (fun H locs hP hD hS => ?_)
        refine lv_lload_n hx hb d_Model_addSmall_27 rfl (lv_at hl 0 rfl) ?_
        refine lv_bipush (v := (32 : Int32)) hx hb d_Model_addSmall_28 (by decide) ?_
        refine lv_lshr hx hb d_Model_addSmall_30 rfl ?_
        obtain ⟨x3_2, ex3_2, hm⟩ := sd_mlet hm
        refine sd_topj ex3_2 ?_
        refine lv_lstore_n (lv' := [(3, .long x3_2), (0, .ref aE), (5, .int x5)]) hx hb d_Model_addSmall_31 rfl hl (by decide) rfl (fun ls hl => ?_)
        obtain ⟨x5_1, ex5_1, hm⟩ := sd_mlet hm
        refine lv_iinc (v := x5_1) (lv' := [(5, .int x5_1), (3, .long x3_2), (0, .ref aE)]) hx hb d_Model_addSmall_32 hl (k := 2) rfl (by rw [ex5_1]; rfl) (by decide) rfl (fun ls hl => ?_)
        refine lv_goto (tgt := 5) hx hb d_Model_addSmall_35 (by decide) ?_
        exact ih x3_2 x5_1 uaE_1 ruaE hm H locs ls (hP.sub [0] rfl) (hD.sub [0] (by decide) rfl) hS (lv_sub hl [2, 1, 0] rfl) kx38
  obtain ⟨ruaE, hc, hm⟩ := sd_mb1 hm
  refine L5 F vV (0 : Int32) cE ruaE hc H locs ls (hP.sub [0] rfl) (hD.sub [0] (by decide) rfl) hS (lv_sub hl [2, 1, 0] rfl) ?_
  intro H locs ls hP hD hS hl
  exact sd_v1ret (u := (ruaE)) hQ hx hb hr hlk hK (hP.sub [0] rfl) (hD.sub [0] (by decide) rfl) hS (Option.some.inj hm).symm d_Model_addSmall_38
theorem d_Model_multiplyRow_0 : decode b_Model_multiplyRow 0 = .ok (.lconst 0, 1) := by decide +kernel
theorem d_Model_multiplyRow_1 : decode b_Model_multiplyRow 1 = .ok (.lstore_n 3, 1) := by decide +kernel
theorem d_Model_multiplyRow_2 : decode b_Model_multiplyRow 2 = .ok (.bipush 76, 2) := by decide +kernel
theorem d_Model_multiplyRow_4 : decode b_Model_multiplyRow 4 = .ok (.aload_n 0, 1) := by decide +kernel
theorem d_Model_multiplyRow_5 : decode b_Model_multiplyRow 5 = .ok (.invokestatic 140, 3) := by decide +kernel
theorem d_Model_multiplyRow_8 : decode b_Model_multiplyRow 8 = .ok (.iconst 2, 1) := by decide +kernel
theorem d_Model_multiplyRow_9 : decode b_Model_multiplyRow 9 = .ok (.iadd, 1) := by decide +kernel
theorem d_Model_multiplyRow_10 : decode b_Model_multiplyRow 10 = .ok (.invokestatic 154, 3) := by decide +kernel
theorem d_Model_multiplyRow_13 : decode b_Model_multiplyRow 13 = .ok (.istore 5, 2) := by decide +kernel
theorem d_Model_multiplyRow_15 : decode b_Model_multiplyRow 15 = .ok (.iconst 0, 1) := by decide +kernel
theorem d_Model_multiplyRow_16 : decode b_Model_multiplyRow 16 = .ok (.istore 6, 2) := by decide +kernel
theorem d_Model_multiplyRow_18 : decode b_Model_multiplyRow 18 = .ok (.iload 6, 2) := by decide +kernel
theorem d_Model_multiplyRow_20 : decode b_Model_multiplyRow 20 = .ok (.iload 5, 2) := by decide +kernel
theorem d_Model_multiplyRow_22 : decode b_Model_multiplyRow 22 = .ok (.if_icmp .ge 32, 3) := by decide +kernel
theorem d_Model_multiplyRow_25 : decode b_Model_multiplyRow 25 = .ok (.lload_n 3, 1) := by decide +kernel
theorem d_Model_multiplyRow_26 : decode b_Model_multiplyRow 26 = .ok (.aload_n 0, 1) := by decide +kernel
theorem d_Model_multiplyRow_27 : decode b_Model_multiplyRow 27 = .ok (.iload 6, 2) := by decide +kernel
theorem d_Model_multiplyRow_29 : decode b_Model_multiplyRow 29 = .ok (.laload, 1) := by decide +kernel
theorem d_Model_multiplyRow_30 : decode b_Model_multiplyRow 30 = .ok (.lload_n 1, 1) := by decide +kernel
theorem d_Model_multiplyRow_31 : decode b_Model_multiplyRow 31 = .ok (.lmul, 1) := by decide +kernel
theorem d_Model_multiplyRow_32 : decode b_Model_multiplyRow 32 = .ok (.ladd, 1) := by decide +kernel
theorem d_Model_multiplyRow_33 : decode b_Model_multiplyRow 33 = .ok (.lstore_n 3, 1) := by decide +kernel
theorem d_Model_multiplyRow_34 : decode b_Model_multiplyRow 34 = .ok (.aload_n 0, 1) := by decide +kernel
theorem d_Model_multiplyRow_35 : decode b_Model_multiplyRow 35 = .ok (.iload 6, 2) := by decide +kernel
theorem d_Model_multiplyRow_37 : decode b_Model_multiplyRow 37 = .ok (.lload_n 3, 1) := by decide +kernel
theorem d_Model_multiplyRow_38 : decode b_Model_multiplyRow 38 = .ok (.ldc2_w 138, 3) := by decide +kernel
theorem d_Model_multiplyRow_41 : decode b_Model_multiplyRow 41 = .ok (.land, 1) := by decide +kernel
theorem d_Model_multiplyRow_42 : decode b_Model_multiplyRow 42 = .ok (.lastore, 1) := by decide +kernel
theorem d_Model_multiplyRow_43 : decode b_Model_multiplyRow 43 = .ok (.lload_n 3, 1) := by decide +kernel
theorem d_Model_multiplyRow_44 : decode b_Model_multiplyRow 44 = .ok (.bipush 32, 2) := by decide +kernel
theorem d_Model_multiplyRow_46 : decode b_Model_multiplyRow 46 = .ok (.lushr, 1) := by decide +kernel
theorem d_Model_multiplyRow_47 : decode b_Model_multiplyRow 47 = .ok (.lstore_n 3, 1) := by decide +kernel
theorem d_Model_multiplyRow_48 : decode b_Model_multiplyRow 48 = .ok (.iinc 6 1, 3) := by decide +kernel
theorem d_Model_multiplyRow_51 : decode b_Model_multiplyRow 51 = .ok (.goto (-33), 3) := by decide +kernel
theorem d_Model_multiplyRow_54 : decode b_Model_multiplyRow 54 = .ok (.return_, 1) := by decide +kernel
def mf_Model_multiplyRow_L18 (x5 : Int32) (vBy : Int64) : Nat → Int64 → Int32 → (Nat → Int64) → Option ((Nat → Int64))
  | 0, _, _, _ => none
  | fu + 1, x3, x6, uaE => (if x5 ≤ x6 then (some (uaE)) else (sd_g (sd_ix x6 76) (sd_let ((x3 + ((uaE x6.toNatClampNeg) * vBy))) fun x3_1 => (sd_g (sd_ix x6 76) (sd_let (vp_updL uaE x6.toNatClampNeg (x3_1 &&& (4294967295 : Int64))) fun uaE_1 => (sd_let (((x3_1.toUInt64 >>> ((32 : Int32).toInt64.toUInt64 &&& Int64.toUInt64 63)).toInt64)) fun x3_2 => (sd_let (x6 + (1 : Int32)) fun x6_1 => ((mf_Model_multiplyRow_L18 x5 vBy fu) x3_2 x6_1 uaE_1))))))))
def mf_Model_multiplyRow (F : Nat) (vBy : Int64) (cE : Nat → Int64) : Option ((Nat → Int64)) :=
  (sd_b1 (mf_Model_size F cE) fun r => (sd_let ((if (r + (2 : Int32)) < (76 : Int32) then (r + (2 : Int32)) else (76 : Int32))) fun x5 => (sd_b1 (mf_Model_multiplyRow_L18 x5 vBy F (0 : Int64) (0 : Int32) cE) fun ruaE => (some (ruaE)))))
abbrev rm_Model_multiplyRow : Room := { frames := 1, cells := 0, slots := 0, locals := 24 }
set_option maxHeartbeats 4000000 in
set_option maxRecDepth 100000 in
theorem ct_Model_multiplyRow (l : Launch) (D : va_G) (g : G4) (aE : Nat) (sz : Nat) (vBy : Int64) (cE : Nat → Int64) (F : Nat) (res : (Nat → Int64)) (hm : mf_Model_multiplyRow F vBy cE = some res) : Met l y_Model_multiplyRow (.code y_Model_multiplyRow b_Model_multiplyRow 7 none :: sd_tb) rm_Model_multiplyRow (sd_PW D g [.ref aE, .long vBy] sz [(aE, aJ g 76 cE)]) (sd_Qv1 D g res (fun u : (Nat → Int64) => [(aE, aJ g 76 u)]) (va_A [(aE, aJ g 76 cE)] sz)) 0 0 (va_A [(aE, aJ g 76 cE)] sz) := by
  refine sd_met (Qf := fun A => sd_Qv1 D g res (fun u : (Nat → Int64) => [(aE, aJ g 76 u)]) A) (own := R_Model) (by decide +kernel) rfl (Nat.le_of_ble_eq_true rfl) ?_
  intro p e s m args below meth c S hr hlk hK A hA Q hQ H locs hP hD hS ls hl
  have hx := S.1
  have hb := S.2.1
  have hml := S.2.2.1
  have hown := S.2.2.2.1
  have htt := sd_tt S
  replace hl : lv_has ls 7 [(0, .ref aE), (1, .long vBy)] := hl
  unfold mf_Model_multiplyRow at hm
  refine lv_lconst (v := (0 : Int64)) hx hb d_Model_multiplyRow_0 (by decide) ?_
  refine lv_lstore_n (lv' := [(3, .long (0 : Int64)), (0, .ref aE), (1, .long vBy)]) hx hb d_Model_multiplyRow_1 rfl hl (by decide) rfl (fun ls hl => ?_)
  refine lv_bipush (v := (76 : Int32)) hx hb d_Model_multiplyRow_2 (by decide) ?_
  refine lv_aload_n hx hb d_Model_multiplyRow_4 rfl (lv_at hl 1 rfl) ?_
  obtain ⟨r, hc, hm⟩ := sd_mb1 hm
  refine sd_ci0 (wr := []) (w2 := [(aE, aJ g 76 cE)]) (sd_runS (rest := [.int (76 : Int32)]) (As := [.ref aE]) S (ct_Model_size l D g aE (H.size) cE F (r) hc) kl_Model_140 (by decide) (by decide) hK hP hD [0] rfl (by decide) rfl hl d_Model_multiplyRow_5 rfl (Nat.le_of_ble_eq_true rfl) ⟨Nat.zero_le _, Nat.zero_le _⟩) hP hD hS hA [0] [] rfl rfl (by decide) (by decide) rfl (fun H locs hP hD hS => ?_)
  refine W.eq (g2 := F0 m 8 ls [.int r, .int (76 : Int32)]) rfl ?_
  refine lv_iconst (v := (2 : Int32)) hx hb d_Model_multiplyRow_8 (by decide) ?_
  refine lv_iadd hx hb d_Model_multiplyRow_9 ?_
  refine sd_mini hx hb hml hown kl_Model_154 htt hl d_Model_multiplyRow_10 (Nat.le_of_ble_eq_true rfl) (Nat.le_of_ble_eq_true rfl) ?_
  obtain ⟨x5, ex5, hm⟩ := sd_mlet hm
  refine sd_topi ex5 ?_
  refine lv_istore (lv' := [(5, .int x5), (3, .long (0 : Int64)), (0, .ref aE), (1, .long vBy)]) hx hb d_Model_multiplyRow_13 hl (by decide) rfl (fun ls hl => ?_)
  refine lv_iconst (v := (0 : Int32)) hx hb d_Model_multiplyRow_15 (by decide) ?_
  refine lv_istore (lv' := [(6, .int (0 : Int32)), (5, .int x5), (3, .long (0 : Int64)), (0, .ref aE), (1, .long vBy)]) hx hb d_Model_multiplyRow_16 hl (by decide) rfl (fun ls hl => ?_)
  have L18 : ∀ (fu : Nat) (x3 : Int64) (x6 : Int32) (uaE : Nat → Int64) (ruaE : Nat → Int64), mf_Model_multiplyRow_L18 x5 vBy fu x3 x6 uaE = some (ruaE) → ∀ (H : Heap) (locs : List Loc) (ls : Array Slot), va_P D classes [(aE, aJ g 76 uaE)] H → va_D A [(aE, aJ g 76 uaE)] → va_S A s.heap H locs → lv_has ls 7 [(0, .ref aE), (1, .long vBy), (3, .long x3), (5, .int x5), (6, .int x6)] → (∀ (H : Heap) (locs : List Loc) (ls : Array Slot), va_P D classes [(aE, aJ g 76 ruaE)] H → va_D A [(aE, aJ g 76 ruaE)] → va_S A s.heap H locs → lv_has ls 7 [] → W p l e rm_Model_multiplyRow s m args below meth c H locs 0 0 Q (F0 m 54 ls [])) → W p l e rm_Model_multiplyRow s m args below meth c H locs 0 0 Q (F0 m 18 ls []) := by
    intro fu
    induction fu with
    | zero => intro x3 x6 uaE ruaE hm; exact absurd (show (none : Option ((Nat → Int64))) = some (ruaE) from hm) (fun h => nomatch h)
    | succ fu ih =>
      intro x3 x6 uaE ruaE hm H locs ls hP hD hS hl kx54
      rw [mf_Model_multiplyRow_L18] at hm
      refine lv_iload hx hb d_Model_multiplyRow_18 (lv_at hl 4 rfl) ?_
      refine lv_iload hx hb d_Model_multiplyRow_20 (lv_at hl 3 rfl) ?_
      refine lv_icmp_ge (tgt := 54) hx hb d_Model_multiplyRow_22 (by decide) (fun hc => ?_) (fun hc => ?_)
      · have hm := sd_mt hc hm
        cases hm
        exact kx54 H locs ls (hP.sub [0] rfl) (hD.sub [0] (by decide) rfl) hS (lv_sub hl [] rfl)
      · have hm := sd_mf hc hm
        refine lv_lload_n hx hb d_Model_multiplyRow_25 rfl (lv_at hl 2 rfl) ?_
        refine lv_aload_n hx hb d_Model_multiplyRow_26 rfl (lv_at hl 0 rfl) ?_
        refine lv_iload hx hb d_Model_multiplyRow_27 (lv_at hl 4 rfl) ?_
        obtain ⟨h_1, hm⟩ := sd_mg hm
        refine sd_lald hx hb hK hP 0 rfl h_1 d_Model_multiplyRow_29 ?_
        refine lv_lload_n hx hb d_Model_multiplyRow_30 rfl (lv_at hl 1 rfl) ?_
        refine lv_lmul hx hb d_Model_multiplyRow_31 ?_
        refine lv_ladd hx hb d_Model_multiplyRow_32 ?_
        obtain ⟨x3_1, ex3_1, hm⟩ := sd_mlet hm
        refine sd_topj ex3_1 ?_
        refine lv_lstore_n (lv' := [(3, .long x3_1), (0, .ref aE), (1, .long vBy), (5, .int x5), (6, .int x6)]) hx hb d_Model_multiplyRow_33 rfl hl (by decide) rfl (fun ls hl => ?_)
        refine lv_aload_n hx hb d_Model_multiplyRow_34 rfl (lv_at hl 1 rfl) ?_
        refine lv_iload hx hb d_Model_multiplyRow_35 (lv_at hl 4 rfl) ?_
        refine lv_lload_n hx hb d_Model_multiplyRow_37 rfl (lv_at hl 0 rfl) ?_
        refine sd_ldc2 (v := (4294967295 : Int64)) hx hb hown (htt _ km_Model_138) d_Model_multiplyRow_38 ?_
        refine lv_land hx hb d_Model_multiplyRow_41 ?_
        obtain ⟨h_2, hm⟩ := sd_mg hm
        obtain ⟨uaE_1, euaE_1, hm⟩ := sd_mlet hm
        refine sd_last (f2 := uaE_1) (ws2 := [(aE, aJ g 76 uaE_1)]) hx hb hK hP hD hS 0 rfl h_2 euaE_1 rfl d_Model_multiplyRow_42 (fun H locs hP hD hS => ?_)
        refine lv_lload_n hx hb d_Model_multiplyRow_43 rfl (lv_at hl 0 rfl) ?_
        refine lv_bipush (v := (32 : Int32)) hx hb d_Model_multiplyRow_44 (by decide) ?_
        refine lv_lushr hx hb d_Model_multiplyRow_46 rfl ?_
        obtain ⟨x3_2, ex3_2, hm⟩ := sd_mlet hm
        refine sd_topj ex3_2 ?_
        refine lv_lstore_n (lv' := [(3, .long x3_2), (0, .ref aE), (1, .long vBy), (5, .int x5), (6, .int x6)]) hx hb d_Model_multiplyRow_47 rfl hl (by decide) rfl (fun ls hl => ?_)
        obtain ⟨x6_1, ex6_1, hm⟩ := sd_mlet hm
        refine lv_iinc (v := x6_1) (lv' := [(6, .int x6_1), (3, .long x3_2), (0, .ref aE), (1, .long vBy), (5, .int x5)]) hx hb d_Model_multiplyRow_48 hl (k := 4) rfl (by rw [ex6_1]; rfl) (by decide) rfl (fun ls hl => ?_)
        refine lv_goto (tgt := 18) hx hb d_Model_multiplyRow_51 (by decide) ?_
        exact ih x3_2 x6_1 uaE_1 ruaE hm H locs ls (hP.sub [0] rfl) (hD.sub [0] (by decide) rfl) hS (lv_sub hl [2, 3, 1, 4, 0] rfl) kx54
  obtain ⟨ruaE, hc, hm⟩ := sd_mb1 hm
  refine L18 F (0 : Int64) (0 : Int32) cE ruaE hc H locs ls (hP.sub [0] rfl) (hD.sub [0] (by decide) rfl) hS (lv_sub hl [3, 4, 2, 1, 0] rfl) ?_
  intro H locs ls hP hD hS hl
  exact sd_v1ret (u := (ruaE)) hQ hx hb hr hlk hK (hP.sub [0] rfl) (hD.sub [0] (by decide) rfl) hS (Option.some.inj hm).symm d_Model_multiplyRow_54
theorem d_Model_twice_0 : decode b_Model_twice 0 = .ok (.iload_n 1, 1) := by decide +kernel
theorem d_Model_twice_1 : decode b_Model_twice 1 = .ok (.i2l, 1) := by decide +kernel
theorem d_Model_twice_2 : decode b_Model_twice 2 = .ok (.lstore_n 2, 1) := by decide +kernel
theorem d_Model_twice_3 : decode b_Model_twice 3 = .ok (.bipush 76, 2) := by decide +kernel
theorem d_Model_twice_5 : decode b_Model_twice 5 = .ok (.aload_n 0, 1) := by decide +kernel
theorem d_Model_twice_6 : decode b_Model_twice 6 = .ok (.invokestatic 140, 3) := by decide +kernel
theorem d_Model_twice_9 : decode b_Model_twice 9 = .ok (.iconst 1, 1) := by decide +kernel
theorem d_Model_twice_10 : decode b_Model_twice 10 = .ok (.iadd, 1) := by decide +kernel
theorem d_Model_twice_11 : decode b_Model_twice 11 = .ok (.invokestatic 154, 3) := by decide +kernel
theorem d_Model_twice_14 : decode b_Model_twice 14 = .ok (.istore 4, 2) := by decide +kernel
theorem d_Model_twice_16 : decode b_Model_twice 16 = .ok (.iconst 0, 1) := by decide +kernel
theorem d_Model_twice_17 : decode b_Model_twice 17 = .ok (.istore 5, 2) := by decide +kernel
theorem d_Model_twice_19 : decode b_Model_twice 19 = .ok (.iload 5, 2) := by decide +kernel
theorem d_Model_twice_21 : decode b_Model_twice 21 = .ok (.iload 4, 2) := by decide +kernel
theorem d_Model_twice_23 : decode b_Model_twice 23 = .ok (.if_icmp .ge 32, 3) := by decide +kernel
theorem d_Model_twice_26 : decode b_Model_twice 26 = .ok (.lload_n 2, 1) := by decide +kernel
theorem d_Model_twice_27 : decode b_Model_twice 27 = .ok (.aload_n 0, 1) := by decide +kernel
theorem d_Model_twice_28 : decode b_Model_twice 28 = .ok (.iload 5, 2) := by decide +kernel
theorem d_Model_twice_30 : decode b_Model_twice 30 = .ok (.laload, 1) := by decide +kernel
theorem d_Model_twice_31 : decode b_Model_twice 31 = .ok (.iconst 1, 1) := by decide +kernel
theorem d_Model_twice_32 : decode b_Model_twice 32 = .ok (.lshl, 1) := by decide +kernel
theorem d_Model_twice_33 : decode b_Model_twice 33 = .ok (.ladd, 1) := by decide +kernel
theorem d_Model_twice_34 : decode b_Model_twice 34 = .ok (.lstore_n 2, 1) := by decide +kernel
theorem d_Model_twice_35 : decode b_Model_twice 35 = .ok (.aload_n 0, 1) := by decide +kernel
theorem d_Model_twice_36 : decode b_Model_twice 36 = .ok (.iload 5, 2) := by decide +kernel
theorem d_Model_twice_38 : decode b_Model_twice 38 = .ok (.lload_n 2, 1) := by decide +kernel
theorem d_Model_twice_39 : decode b_Model_twice 39 = .ok (.ldc2_w 138, 3) := by decide +kernel
theorem d_Model_twice_42 : decode b_Model_twice 42 = .ok (.land, 1) := by decide +kernel
theorem d_Model_twice_43 : decode b_Model_twice 43 = .ok (.lastore, 1) := by decide +kernel
theorem d_Model_twice_44 : decode b_Model_twice 44 = .ok (.lload_n 2, 1) := by decide +kernel
theorem d_Model_twice_45 : decode b_Model_twice 45 = .ok (.bipush 32, 2) := by decide +kernel
theorem d_Model_twice_47 : decode b_Model_twice 47 = .ok (.lshr, 1) := by decide +kernel
theorem d_Model_twice_48 : decode b_Model_twice 48 = .ok (.lstore_n 2, 1) := by decide +kernel
theorem d_Model_twice_49 : decode b_Model_twice 49 = .ok (.iinc 5 1, 3) := by decide +kernel
theorem d_Model_twice_52 : decode b_Model_twice 52 = .ok (.goto (-33), 3) := by decide +kernel
theorem d_Model_twice_55 : decode b_Model_twice 55 = .ok (.return_, 1) := by decide +kernel
def mf_Model_twice_L19 (x4 : Int32) : Nat → Int64 → Int32 → (Nat → Int64) → Option ((Nat → Int64))
  | 0, _, _, _ => none
  | fu + 1, x2_1, x5, uaE => (if x4 ≤ x5 then (some (uaE)) else (sd_g (sd_ix x5 76) (sd_let ((x2_1 + ((uaE x5.toNatClampNeg) <<< ((1 : Int32).toInt64 &&& 63)))) fun x2_2 => (sd_g (sd_ix x5 76) (sd_let (vp_updL uaE x5.toNatClampNeg (x2_2 &&& (4294967295 : Int64))) fun uaE_1 => (sd_let ((x2_2 >>> ((32 : Int32).toInt64 &&& 63))) fun x2_3 => (sd_let (x5 + (1 : Int32)) fun x5_1 => ((mf_Model_twice_L19 x4 fu) x2_3 x5_1 uaE_1))))))))
def mf_Model_twice (F : Nat) (vBit : Int32) (cE : Nat → Int64) : Option ((Nat → Int64)) :=
  (sd_let ((vBit.toInt64)) fun x2 => (sd_b1 (mf_Model_size F cE) fun r => (sd_let ((if (r + (1 : Int32)) < (76 : Int32) then (r + (1 : Int32)) else (76 : Int32))) fun x4 => (sd_b1 (mf_Model_twice_L19 x4 F x2 (0 : Int32) cE) fun ruaE => (some (ruaE))))))
abbrev rm_Model_twice : Room := { frames := 1, cells := 0, slots := 0, locals := 24 }
set_option maxHeartbeats 4000000 in
set_option maxRecDepth 100000 in
theorem ct_Model_twice (l : Launch) (D : va_G) (g : G4) (aE : Nat) (sz : Nat) (vBit : Int32) (cE : Nat → Int64) (F : Nat) (res : (Nat → Int64)) (hm : mf_Model_twice F vBit cE = some res) : Met l y_Model_twice (.code y_Model_twice b_Model_twice 6 none :: sd_tb) rm_Model_twice (sd_PW D g [.ref aE, .int vBit] sz [(aE, aJ g 76 cE)]) (sd_Qv1 D g res (fun u : (Nat → Int64) => [(aE, aJ g 76 u)]) (va_A [(aE, aJ g 76 cE)] sz)) 0 0 (va_A [(aE, aJ g 76 cE)] sz) := by
  refine sd_met (Qf := fun A => sd_Qv1 D g res (fun u : (Nat → Int64) => [(aE, aJ g 76 u)]) A) (own := R_Model) (by decide +kernel) rfl (Nat.le_of_ble_eq_true rfl) ?_
  intro p e s m args below meth c S hr hlk hK A hA Q hQ H locs hP hD hS ls hl
  have hx := S.1
  have hb := S.2.1
  have hml := S.2.2.1
  have hown := S.2.2.2.1
  have htt := sd_tt S
  replace hl : lv_has ls 6 [(0, .ref aE), (1, .int vBit)] := hl
  unfold mf_Model_twice at hm
  refine lv_iload_n hx hb d_Model_twice_0 rfl (lv_at hl 1 rfl) ?_
  refine lv_i2l hx hb d_Model_twice_1 rfl ?_
  obtain ⟨x2, ex2, hm⟩ := sd_mlet hm
  refine sd_topj ex2 ?_
  refine lv_lstore_n (lv' := [(2, .long x2), (0, .ref aE), (1, .int vBit)]) hx hb d_Model_twice_2 rfl hl (by decide) rfl (fun ls hl => ?_)
  refine lv_bipush (v := (76 : Int32)) hx hb d_Model_twice_3 (by decide) ?_
  refine lv_aload_n hx hb d_Model_twice_5 rfl (lv_at hl 1 rfl) ?_
  obtain ⟨r, hc, hm⟩ := sd_mb1 hm
  refine sd_ci0 (wr := []) (w2 := [(aE, aJ g 76 cE)]) (sd_runS (rest := [.int (76 : Int32)]) (As := [.ref aE]) S (ct_Model_size l D g aE (H.size) cE F (r) hc) kl_Model_140 (by decide) (by decide) hK hP hD [0] rfl (by decide) rfl hl d_Model_twice_6 rfl (Nat.le_of_ble_eq_true rfl) ⟨Nat.zero_le _, Nat.zero_le _⟩) hP hD hS hA [0] [] rfl rfl (by decide) (by decide) rfl (fun H locs hP hD hS => ?_)
  refine W.eq (g2 := F0 m 9 ls [.int r, .int (76 : Int32)]) rfl ?_
  refine lv_iconst (v := (1 : Int32)) hx hb d_Model_twice_9 (by decide) ?_
  refine lv_iadd hx hb d_Model_twice_10 ?_
  refine sd_mini hx hb hml hown kl_Model_154 htt hl d_Model_twice_11 (Nat.le_of_ble_eq_true rfl) (Nat.le_of_ble_eq_true rfl) ?_
  obtain ⟨x4, ex4, hm⟩ := sd_mlet hm
  refine sd_topi ex4 ?_
  refine lv_istore (lv' := [(4, .int x4), (2, .long x2), (0, .ref aE), (1, .int vBit)]) hx hb d_Model_twice_14 hl (by decide) rfl (fun ls hl => ?_)
  refine lv_iconst (v := (0 : Int32)) hx hb d_Model_twice_16 (by decide) ?_
  refine lv_istore (lv' := [(5, .int (0 : Int32)), (4, .int x4), (2, .long x2), (0, .ref aE), (1, .int vBit)]) hx hb d_Model_twice_17 hl (by decide) rfl (fun ls hl => ?_)
  have L19 : ∀ (fu : Nat) (x2_1 : Int64) (x5 : Int32) (uaE : Nat → Int64) (ruaE : Nat → Int64), mf_Model_twice_L19 x4 fu x2_1 x5 uaE = some (ruaE) → ∀ (H : Heap) (locs : List Loc) (ls : Array Slot), va_P D classes [(aE, aJ g 76 uaE)] H → va_D A [(aE, aJ g 76 uaE)] → va_S A s.heap H locs → lv_has ls 6 [(0, .ref aE), (2, .long x2_1), (4, .int x4), (5, .int x5)] → (∀ (H : Heap) (locs : List Loc) (ls : Array Slot), va_P D classes [(aE, aJ g 76 ruaE)] H → va_D A [(aE, aJ g 76 ruaE)] → va_S A s.heap H locs → lv_has ls 6 [] → W p l e rm_Model_twice s m args below meth c H locs 0 0 Q (F0 m 55 ls [])) → W p l e rm_Model_twice s m args below meth c H locs 0 0 Q (F0 m 19 ls []) := by
    intro fu
    induction fu with
    | zero => intro x2_1 x5 uaE ruaE hm; exact absurd (show (none : Option ((Nat → Int64))) = some (ruaE) from hm) (fun h => nomatch h)
    | succ fu ih =>
      intro x2_1 x5 uaE ruaE hm H locs ls hP hD hS hl kx55
      rw [mf_Model_twice_L19] at hm
      refine lv_iload hx hb d_Model_twice_19 (lv_at hl 3 rfl) ?_
      refine lv_iload hx hb d_Model_twice_21 (lv_at hl 2 rfl) ?_
      refine lv_icmp_ge (tgt := 55) hx hb d_Model_twice_23 (by decide) (fun hc => ?_) (fun hc => ?_)
      · have hm := sd_mt hc hm
        cases hm
        exact kx55 H locs ls (hP.sub [0] rfl) (hD.sub [0] (by decide) rfl) hS (lv_sub hl [] rfl)
      · have hm := sd_mf hc hm
        refine lv_lload_n hx hb d_Model_twice_26 rfl (lv_at hl 1 rfl) ?_
        refine lv_aload_n hx hb d_Model_twice_27 rfl (lv_at hl 0 rfl) ?_
        refine lv_iload hx hb d_Model_twice_28 (lv_at hl 3 rfl) ?_
        obtain ⟨h_1, hm⟩ := sd_mg hm
        refine sd_lald hx hb hK hP 0 rfl h_1 d_Model_twice_30 ?_
        refine lv_iconst (v := (1 : Int32)) hx hb d_Model_twice_31 (by decide) ?_
        refine lv_lshl hx hb d_Model_twice_32 rfl ?_
        refine lv_ladd hx hb d_Model_twice_33 ?_
        obtain ⟨x2_2, ex2_2, hm⟩ := sd_mlet hm
        refine sd_topj ex2_2 ?_
        refine lv_lstore_n (lv' := [(2, .long x2_2), (0, .ref aE), (4, .int x4), (5, .int x5)]) hx hb d_Model_twice_34 rfl hl (by decide) rfl (fun ls hl => ?_)
        refine lv_aload_n hx hb d_Model_twice_35 rfl (lv_at hl 1 rfl) ?_
        refine lv_iload hx hb d_Model_twice_36 (lv_at hl 3 rfl) ?_
        refine lv_lload_n hx hb d_Model_twice_38 rfl (lv_at hl 0 rfl) ?_
        refine sd_ldc2 (v := (4294967295 : Int64)) hx hb hown (htt _ km_Model_138) d_Model_twice_39 ?_
        refine lv_land hx hb d_Model_twice_42 ?_
        obtain ⟨h_2, hm⟩ := sd_mg hm
        obtain ⟨uaE_1, euaE_1, hm⟩ := sd_mlet hm
        refine sd_last (f2 := uaE_1) (ws2 := [(aE, aJ g 76 uaE_1)]) hx hb hK hP hD hS 0 rfl h_2 euaE_1 rfl d_Model_twice_43 (fun H locs hP hD hS => ?_)
        refine lv_lload_n hx hb d_Model_twice_44 rfl (lv_at hl 0 rfl) ?_
        refine lv_bipush (v := (32 : Int32)) hx hb d_Model_twice_45 (by decide) ?_
        refine lv_lshr hx hb d_Model_twice_47 rfl ?_
        obtain ⟨x2_3, ex2_3, hm⟩ := sd_mlet hm
        refine sd_topj ex2_3 ?_
        refine lv_lstore_n (lv' := [(2, .long x2_3), (0, .ref aE), (4, .int x4), (5, .int x5)]) hx hb d_Model_twice_48 rfl hl (by decide) rfl (fun ls hl => ?_)
        obtain ⟨x5_1, ex5_1, hm⟩ := sd_mlet hm
        refine lv_iinc (v := x5_1) (lv' := [(5, .int x5_1), (2, .long x2_3), (0, .ref aE), (4, .int x4)]) hx hb d_Model_twice_49 hl (k := 3) rfl (by rw [ex5_1]; rfl) (by decide) rfl (fun ls hl => ?_)
        refine lv_goto (tgt := 19) hx hb d_Model_twice_52 (by decide) ?_
        exact ih x2_3 x5_1 uaE_1 ruaE hm H locs ls (hP.sub [0] rfl) (hD.sub [0] (by decide) rfl) hS (lv_sub hl [2, 1, 3, 0] rfl) kx55
  obtain ⟨ruaE, hc, hm⟩ := sd_mb1 hm
  refine L19 F x2 (0 : Int32) cE ruaE hc H locs ls (hP.sub [0] rfl) (hD.sub [0] (by decide) rfl) hS (lv_sub hl [3, 2, 1, 0] rfl) ?_
  intro H locs ls hP hD hS hl
  exact sd_v1ret (u := (ruaE)) hQ hx hb hr hlk hK (hP.sub [0] rfl) (hD.sub [0] (by decide) rfl) hS (Option.some.inj hm).symm d_Model_twice_55
theorem d_Model_shift_0 : decode b_Model_shift 0 = .ok (.iload_n 1, 1) := by decide +kernel
theorem d_Model_shift_1 : decode b_Model_shift 1 = .ok (.bipush 32, 2) := by decide +kernel
theorem d_Model_shift_3 : decode b_Model_shift 3 = .ok (.idiv, 1) := by decide +kernel
theorem d_Model_shift_4 : decode b_Model_shift 4 = .ok (.istore_n 2, 1) := by decide +kernel
theorem d_Model_shift_5 : decode b_Model_shift 5 = .ok (.iload_n 1, 1) := by decide +kernel
theorem d_Model_shift_6 : decode b_Model_shift 6 = .ok (.bipush 32, 2) := by decide +kernel
theorem d_Model_shift_8 : decode b_Model_shift 8 = .ok (.irem, 1) := by decide +kernel
theorem d_Model_shift_9 : decode b_Model_shift 9 = .ok (.istore_n 3, 1) := by decide +kernel
theorem d_Model_shift_10 : decode b_Model_shift 10 = .ok (.bipush 75, 2) := by decide +kernel
theorem d_Model_shift_12 : decode b_Model_shift 12 = .ok (.istore 4, 2) := by decide +kernel
theorem d_Model_shift_14 : decode b_Model_shift 14 = .ok (.iload 4, 2) := by decide +kernel
theorem d_Model_shift_16 : decode b_Model_shift 16 = .ok (.ifCond .lt 67, 3) := by decide +kernel
theorem d_Model_shift_19 : decode b_Model_shift 19 = .ok (.iload 4, 2) := by decide +kernel
theorem d_Model_shift_21 : decode b_Model_shift 21 = .ok (.iload_n 2, 1) := by decide +kernel
theorem d_Model_shift_22 : decode b_Model_shift 22 = .ok (.if_icmp .lt 18, 3) := by decide +kernel
theorem d_Model_shift_25 : decode b_Model_shift 25 = .ok (.aload_n 0, 1) := by decide +kernel
theorem d_Model_shift_26 : decode b_Model_shift 26 = .ok (.iload 4, 2) := by decide +kernel
theorem d_Model_shift_28 : decode b_Model_shift 28 = .ok (.iload_n 2, 1) := by decide +kernel
theorem d_Model_shift_29 : decode b_Model_shift 29 = .ok (.isub, 1) := by decide +kernel
theorem d_Model_shift_30 : decode b_Model_shift 30 = .ok (.laload, 1) := by decide +kernel
theorem d_Model_shift_31 : decode b_Model_shift 31 = .ok (.iload_n 3, 1) := by decide +kernel
theorem d_Model_shift_32 : decode b_Model_shift 32 = .ok (.lshl, 1) := by decide +kernel
theorem d_Model_shift_33 : decode b_Model_shift 33 = .ok (.ldc2_w 138, 3) := by decide +kernel
theorem d_Model_shift_36 : decode b_Model_shift 36 = .ok (.land, 1) := by decide +kernel
theorem d_Model_shift_37 : decode b_Model_shift 37 = .ok (.goto 4, 3) := by decide +kernel
theorem d_Model_shift_40 : decode b_Model_shift 40 = .ok (.lconst 0, 1) := by decide +kernel
theorem d_Model_shift_41 : decode b_Model_shift 41 = .ok (.lstore 5, 2) := by decide +kernel
theorem d_Model_shift_43 : decode b_Model_shift 43 = .ok (.iload_n 3, 1) := by decide +kernel
theorem d_Model_shift_44 : decode b_Model_shift 44 = .ok (.ifCond .le 27, 3) := by decide +kernel
theorem d_Model_shift_47 : decode b_Model_shift 47 = .ok (.iload 4, 2) := by decide +kernel
theorem d_Model_shift_49 : decode b_Model_shift 49 = .ok (.iload_n 2, 1) := by decide +kernel
theorem d_Model_shift_50 : decode b_Model_shift 50 = .ok (.if_icmp .le 21, 3) := by decide +kernel
theorem d_Model_shift_53 : decode b_Model_shift 53 = .ok (.lload 5, 2) := by decide +kernel
theorem d_Model_shift_55 : decode b_Model_shift 55 = .ok (.aload_n 0, 1) := by decide +kernel
theorem d_Model_shift_56 : decode b_Model_shift 56 = .ok (.iload 4, 2) := by decide +kernel
theorem d_Model_shift_58 : decode b_Model_shift 58 = .ok (.iload_n 2, 1) := by decide +kernel
theorem d_Model_shift_59 : decode b_Model_shift 59 = .ok (.isub, 1) := by decide +kernel
theorem d_Model_shift_60 : decode b_Model_shift 60 = .ok (.iconst 1, 1) := by decide +kernel
theorem d_Model_shift_61 : decode b_Model_shift 61 = .ok (.isub, 1) := by decide +kernel
theorem d_Model_shift_62 : decode b_Model_shift 62 = .ok (.laload, 1) := by decide +kernel
theorem d_Model_shift_63 : decode b_Model_shift 63 = .ok (.bipush 32, 2) := by decide +kernel
theorem d_Model_shift_65 : decode b_Model_shift 65 = .ok (.iload_n 3, 1) := by decide +kernel
theorem d_Model_shift_66 : decode b_Model_shift 66 = .ok (.isub, 1) := by decide +kernel
theorem d_Model_shift_67 : decode b_Model_shift 67 = .ok (.lshr, 1) := by decide +kernel
theorem d_Model_shift_68 : decode b_Model_shift 68 = .ok (.lor, 1) := by decide +kernel
theorem d_Model_shift_69 : decode b_Model_shift 69 = .ok (.lstore 5, 2) := by decide +kernel
theorem d_Model_shift_71 : decode b_Model_shift 71 = .ok (.aload_n 0, 1) := by decide +kernel
theorem d_Model_shift_72 : decode b_Model_shift 72 = .ok (.iload 4, 2) := by decide +kernel
theorem d_Model_shift_74 : decode b_Model_shift 74 = .ok (.lload 5, 2) := by decide +kernel
theorem d_Model_shift_76 : decode b_Model_shift 76 = .ok (.lastore, 1) := by decide +kernel
theorem d_Model_shift_77 : decode b_Model_shift 77 = .ok (.iinc 4 (-1), 3) := by decide +kernel
theorem d_Model_shift_80 : decode b_Model_shift 80 = .ok (.goto (-66), 3) := by decide +kernel
theorem d_Model_shift_83 : decode b_Model_shift 83 = .ok (.return_, 1) := by decide +kernel
def mf_Model_shift_L14 (x2 : Int32) (x3 : Int32) : Nat → Int32 → (Nat → Int64) → Option ((Nat → Int64))
  | 0, _, _ => none
  | fu + 1, x4, uaE => (if x4 < 0 then (some (uaE)) else (sd_b1 (if x4 < x2 then (some ((0 : Int64))) else (sd_g (sd_ix (x4 - x2) 76) (some ((((uaE (x4 - x2).toNatClampNeg) <<< (x3.toInt64 &&& 63)) &&& (4294967295 : Int64)))))) fun y => (sd_b1 (if x3 ≤ 0 then (some (y)) else (if x4 ≤ x2 then (some (y)) else (sd_g (sd_ix ((x4 - x2) - (1 : Int32)) 76) (sd_let ((y ||| ((uaE ((x4 - x2) - (1 : Int32)).toNatClampNeg) >>> (((32 : Int32) - x3).toInt64 &&& 63)))) fun x5_1 => (some (x5_1)))))) fun x5 => (sd_g (sd_ix x4 76) (sd_let (vp_updL uaE x4.toNatClampNeg x5) fun uaE_1 => (sd_let (x4 + (-1 : Int32)) fun x4_1 => ((mf_Model_shift_L14 x2 x3 fu) x4_1 uaE_1)))))))
def mf_Model_shift (F : Nat) (vBy : Int32) (cE : Nat → Int64) : Option ((Nat → Int64)) :=
  (sd_let ((vBy / (32 : Int32))) fun x2 => (sd_let ((vBy - vBy / (32 : Int32) * (32 : Int32))) fun x3 => (sd_b1 (mf_Model_shift_L14 x2 x3 F (75 : Int32) cE) fun ruaE => (some (ruaE)))))
abbrev rm_Model_shift : Room := { frames := 0, cells := 0, slots := 0, locals := 0 }
set_option maxHeartbeats 4000000 in
set_option maxRecDepth 100000 in
theorem ct_Model_shift (l : Launch) (D : va_G) (g : G4) (aE : Nat) (sz : Nat) (vBy : Int32) (cE : Nat → Int64) (F : Nat) (res : (Nat → Int64)) (hm : mf_Model_shift F vBy cE = some res) : Met l y_Model_shift (.code y_Model_shift b_Model_shift 7 none :: sd_tb) rm_Model_shift (sd_PW D g [.ref aE, .int vBy] sz [(aE, aJ g 76 cE)]) (sd_Qv1 D g res (fun u : (Nat → Int64) => [(aE, aJ g 76 u)]) (va_A [(aE, aJ g 76 cE)] sz)) 0 0 (va_A [(aE, aJ g 76 cE)] sz) := by
  refine sd_met (Qf := fun A => sd_Qv1 D g res (fun u : (Nat → Int64) => [(aE, aJ g 76 u)]) A) (own := R_Model) (by decide +kernel) rfl (Nat.le_of_ble_eq_true rfl) ?_
  intro p e s m args below meth c S hr hlk hK A hA Q hQ H locs hP hD hS ls hl
  have hx := S.1
  have hb := S.2.1
  have hml := S.2.2.1
  have hown := S.2.2.2.1
  have htt := sd_tt S
  replace hl : lv_has ls 7 [(0, .ref aE), (1, .int vBy)] := hl
  unfold mf_Model_shift at hm
  refine lv_iload_n hx hb d_Model_shift_0 rfl (lv_at hl 1 rfl) ?_
  refine lv_bipush (v := (32 : Int32)) hx hb d_Model_shift_1 (by decide) ?_
  refine lv_idiv hx hb d_Model_shift_3 (by decide) ?_
  obtain ⟨x2, ex2, hm⟩ := sd_mlet hm
  refine sd_topi ex2 ?_
  refine lv_istore_n (lv' := [(2, .int x2), (0, .ref aE), (1, .int vBy)]) hx hb d_Model_shift_4 rfl hl (by decide) rfl (fun ls hl => ?_)
  refine lv_iload_n hx hb d_Model_shift_5 rfl (lv_at hl 2 rfl) ?_
  refine lv_bipush (v := (32 : Int32)) hx hb d_Model_shift_6 (by decide) ?_
  refine lv_irem hx hb d_Model_shift_8 (by decide) ?_
  obtain ⟨x3, ex3, hm⟩ := sd_mlet hm
  refine sd_topi ex3 ?_
  refine lv_istore_n (lv' := [(3, .int x3), (2, .int x2), (0, .ref aE), (1, .int vBy)]) hx hb d_Model_shift_9 rfl hl (by decide) rfl (fun ls hl => ?_)
  refine lv_bipush (v := (75 : Int32)) hx hb d_Model_shift_10 (by decide) ?_
  refine lv_istore (lv' := [(4, .int (75 : Int32)), (3, .int x3), (2, .int x2), (0, .ref aE), (1, .int vBy)]) hx hb d_Model_shift_12 hl (by decide) rfl (fun ls hl => ?_)
  have L14 : ∀ (fu : Nat) (x4 : Int32) (uaE : Nat → Int64) (ruaE : Nat → Int64), mf_Model_shift_L14 x2 x3 fu x4 uaE = some (ruaE) → ∀ (H : Heap) (locs : List Loc) (ls : Array Slot), va_P D classes [(aE, aJ g 76 uaE)] H → va_D A [(aE, aJ g 76 uaE)] → va_S A s.heap H locs → lv_has ls 7 [(0, .ref aE), (2, .int x2), (3, .int x3), (4, .int x4)] → (∀ (H : Heap) (locs : List Loc) (ls : Array Slot), va_P D classes [(aE, aJ g 76 ruaE)] H → va_D A [(aE, aJ g 76 ruaE)] → va_S A s.heap H locs → lv_has ls 7 [] → W p l e rm_Model_shift s m args below meth c H locs 0 0 Q (F0 m 83 ls [])) → W p l e rm_Model_shift s m args below meth c H locs 0 0 Q (F0 m 14 ls []) := by
    intro fu
    induction fu with
    | zero => intro x4 uaE ruaE hm; exact absurd (show (none : Option ((Nat → Int64))) = some (ruaE) from hm) (fun h => nomatch h)
    | succ fu ih =>
      intro x4 uaE ruaE hm H locs ls hP hD hS hl kx83
      rw [mf_Model_shift_L14] at hm
      refine lv_iload hx hb d_Model_shift_14 (lv_at hl 3 rfl) ?_
      refine lv_if_lt (tgt := 83) hx hb d_Model_shift_16 (by decide) (fun hc => ?_) (fun hc => ?_)
      · have hm := sd_mt hc hm
        cases hm
        exact kx83 H locs ls (hP.sub [0] rfl) (hD.sub [0] (by decide) rfl) hS (lv_sub hl [] rfl)
      · have hm := sd_mf hc hm
        refine lv_iload hx hb d_Model_shift_19 (lv_at hl 3 rfl) ?_
        refine lv_iload_n hx hb d_Model_shift_21 rfl (lv_at hl 1 rfl) ?_
        obtain ⟨y, hv, hm⟩ := sd_mb1 hm
        have J41_1 : ∀ (H : Heap) (locs : List Loc) (ls : Array Slot), va_P D classes [(aE, aJ g 76 uaE)] H → va_D A [(aE, aJ g 76 uaE)] → va_S A s.heap H locs → lv_has ls 7 [(0, .ref aE), (2, .int x2), (3, .int x3), (4, .int x4)] → W p l e rm_Model_shift s m args below meth c H locs 0 0 Q (F0 m 41 ls [.long y]) := by
          intro H locs ls hP hD hS hl
          refine lv_lstore (lv' := [(5, .long y), (0, .ref aE), (2, .int x2), (3, .int x3), (4, .int x4)]) hx hb d_Model_shift_41 hl (by decide) rfl (fun ls hl => ?_)
          refine lv_iload_n hx hb d_Model_shift_43 rfl (lv_at hl 3 rfl) ?_
          obtain ⟨x5, hv, hm⟩ := sd_mb1 hm
          have J71_3 : ∀ (H : Heap) (locs : List Loc) (ls : Array Slot), va_P D classes [(aE, aJ g 76 uaE)] H → va_D A [(aE, aJ g 76 uaE)] → va_S A s.heap H locs → lv_has ls 7 [(0, .ref aE), (2, .int x2), (3, .int x3), (4, .int x4), (5, .long x5)] → W p l e rm_Model_shift s m args below meth c H locs 0 0 Q (F0 m 71 ls []) := by
            intro H locs ls hP hD hS hl
            refine lv_aload_n hx hb d_Model_shift_71 rfl (lv_at hl 0 rfl) ?_
            refine lv_iload hx hb d_Model_shift_72 (lv_at hl 3 rfl) ?_
            refine lv_lload hx hb d_Model_shift_74 (lv_at hl 4 rfl) ?_
            obtain ⟨h_5, hm⟩ := sd_mg hm
            obtain ⟨uaE_1, euaE_1, hm⟩ := sd_mlet hm
            refine sd_last (f2 := uaE_1) (ws2 := [(aE, aJ g 76 uaE_1)]) hx hb hK hP hD hS 0 rfl h_5 euaE_1 rfl d_Model_shift_76 (fun H locs hP hD hS => ?_)
            obtain ⟨x4_1, ex4_1, hm⟩ := sd_mlet hm
            refine lv_iinc (v := x4_1) (lv' := [(4, .int x4_1), (0, .ref aE), (2, .int x2), (3, .int x3), (5, .long x5)]) hx hb d_Model_shift_77 hl (k := 3) rfl (by rw [ex4_1]; rfl) (by decide) rfl (fun ls hl => ?_)
            refine lv_goto (tgt := 14) hx hb d_Model_shift_80 (by decide) ?_
            exact ih x4_1 uaE_1 ruaE hm H locs ls (hP.sub [0] rfl) (hD.sub [0] (by decide) rfl) hS (lv_sub hl [1, 2, 3, 0] rfl) kx83
          replace hm := hv
          refine lv_if_le (tgt := 71) hx hb d_Model_shift_44 (by decide) (fun hc => ?_) (fun hc => ?_)
          · have hm := sd_mt hc hm
            cases hm
            exact J71_3 H locs ls (hP.sub [0] rfl) (hD.sub [0] (by decide) rfl) hS (lv_sub hl [1, 2, 3, 4, 0] rfl)
          · have hm := sd_mf hc hm
            refine lv_iload hx hb d_Model_shift_47 (lv_at hl 4 rfl) ?_
            refine lv_iload_n hx hb d_Model_shift_49 rfl (lv_at hl 2 rfl) ?_
            refine lv_icmp_le (tgt := 71) hx hb d_Model_shift_50 (by decide) (fun hc => ?_) (fun hc => ?_)
            · have hm := sd_mt hc hm
              cases hm
              exact J71_3 H locs ls (hP.sub [0] rfl) (hD.sub [0] (by decide) rfl) hS (lv_sub hl [1, 2, 3, 4, 0] rfl)
            · have hm := sd_mf hc hm
              refine lv_lload hx hb d_Model_shift_53 (lv_at hl 0 rfl) ?_
              refine lv_aload_n hx hb d_Model_shift_55 rfl (lv_at hl 1 rfl) ?_
              refine lv_iload hx hb d_Model_shift_56 (lv_at hl 4 rfl) ?_
              refine lv_iload_n hx hb d_Model_shift_58 rfl (lv_at hl 2 rfl) ?_
              refine lv_isub hx hb d_Model_shift_59 ?_
              refine lv_iconst (v := (1 : Int32)) hx hb d_Model_shift_60 (by decide) ?_
              refine lv_isub hx hb d_Model_shift_61 ?_
              obtain ⟨h_4, hm⟩ := sd_mg hm
              refine sd_lald hx hb hK hP 0 rfl h_4 d_Model_shift_62 ?_
              refine lv_bipush (v := (32 : Int32)) hx hb d_Model_shift_63 (by decide) ?_
              refine lv_iload_n hx hb d_Model_shift_65 rfl (lv_at hl 3 rfl) ?_
              refine lv_isub hx hb d_Model_shift_66 ?_
              refine lv_lshr hx hb d_Model_shift_67 rfl ?_
              refine lv_lor hx hb d_Model_shift_68 ?_
              obtain ⟨x5_1, ex5_1, hm⟩ := sd_mlet hm
              refine sd_topj ex5_1 ?_
              refine lv_lstore (lv' := [(5, .long x5_1), (0, .ref aE), (2, .int x2), (3, .int x3), (4, .int x4)]) hx hb d_Model_shift_69 hl (by decide) rfl (fun ls hl => ?_)
              cases hm
              exact J71_3 H locs ls (hP.sub [0] rfl) (hD.sub [0] (by decide) rfl) hS (lv_sub hl [1, 2, 3, 4, 0] rfl)
        replace hm := hv
        refine lv_icmp_lt (tgt := 40) hx hb d_Model_shift_22 (by decide) (fun hc => ?_) (fun hc => ?_)
        · have hm := sd_mt hc hm
          refine lv_lconst (v := (0 : Int64)) hx hb d_Model_shift_40 (by decide) ?_
          cases hm
          exact J41_1 H locs ls (hP.sub [0] rfl) (hD.sub [0] (by decide) rfl) hS (lv_sub hl [0, 1, 2, 3] rfl)
        · have hm := sd_mf hc hm
          refine lv_aload_n hx hb d_Model_shift_25 rfl (lv_at hl 0 rfl) ?_
          refine lv_iload hx hb d_Model_shift_26 (lv_at hl 3 rfl) ?_
          refine lv_iload_n hx hb d_Model_shift_28 rfl (lv_at hl 1 rfl) ?_
          refine lv_isub hx hb d_Model_shift_29 ?_
          obtain ⟨h_2, hm⟩ := sd_mg hm
          refine sd_lald hx hb hK hP 0 rfl h_2 d_Model_shift_30 ?_
          refine lv_iload_n hx hb d_Model_shift_31 rfl (lv_at hl 2 rfl) ?_
          refine lv_lshl hx hb d_Model_shift_32 rfl ?_
          refine sd_ldc2 (v := (4294967295 : Int64)) hx hb hown (htt _ km_Model_138) d_Model_shift_33 ?_
          refine lv_land hx hb d_Model_shift_36 ?_
          refine lv_goto (tgt := 41) hx hb d_Model_shift_37 (by decide) ?_
          cases hm
          exact J41_1 H locs ls (hP.sub [0] rfl) (hD.sub [0] (by decide) rfl) hS (lv_sub hl [0, 1, 2, 3] rfl)
  obtain ⟨ruaE, hc, hm⟩ := sd_mb1 hm
  refine L14 F (75 : Int32) cE ruaE hc H locs ls (hP.sub [0] rfl) (hD.sub [0] (by decide) rfl) hS (lv_sub hl [3, 2, 1, 0] rfl) ?_
  intro H locs ls hP hD hS hl
  exact sd_v1ret (u := (ruaE)) hQ hx hb hr hlk hK (hP.sub [0] rfl) (hD.sub [0] (by decide) rfl) hS (Option.some.inj hm).symm d_Model_shift_83
theorem d_Model_unshift_0 : decode b_Model_unshift 0 = .ok (.iload_n 1, 1) := by decide +kernel
theorem d_Model_unshift_1 : decode b_Model_unshift 1 = .ok (.bipush 32, 2) := by decide +kernel
theorem d_Model_unshift_3 : decode b_Model_unshift 3 = .ok (.idiv, 1) := by decide +kernel
theorem d_Model_unshift_4 : decode b_Model_unshift 4 = .ok (.istore_n 2, 1) := by decide +kernel
theorem d_Model_unshift_5 : decode b_Model_unshift 5 = .ok (.iload_n 1, 1) := by decide +kernel
theorem d_Model_unshift_6 : decode b_Model_unshift 6 = .ok (.bipush 32, 2) := by decide +kernel
theorem d_Model_unshift_8 : decode b_Model_unshift 8 = .ok (.irem, 1) := by decide +kernel
theorem d_Model_unshift_9 : decode b_Model_unshift 9 = .ok (.istore_n 3, 1) := by decide +kernel
theorem d_Model_unshift_10 : decode b_Model_unshift 10 = .ok (.iconst 0, 1) := by decide +kernel
theorem d_Model_unshift_11 : decode b_Model_unshift 11 = .ok (.istore 4, 2) := by decide +kernel
theorem d_Model_unshift_13 : decode b_Model_unshift 13 = .ok (.iload 4, 2) := by decide +kernel
theorem d_Model_unshift_15 : decode b_Model_unshift 15 = .ok (.bipush 76, 2) := by decide +kernel
theorem d_Model_unshift_17 : decode b_Model_unshift 17 = .ok (.if_icmp .ge 75, 3) := by decide +kernel
theorem d_Model_unshift_20 : decode b_Model_unshift 20 = .ok (.iload 4, 2) := by decide +kernel
theorem d_Model_unshift_22 : decode b_Model_unshift 22 = .ok (.iload_n 2, 1) := by decide +kernel
theorem d_Model_unshift_23 : decode b_Model_unshift 23 = .ok (.iadd, 1) := by decide +kernel
theorem d_Model_unshift_24 : decode b_Model_unshift 24 = .ok (.bipush 76, 2) := by decide +kernel
theorem d_Model_unshift_26 : decode b_Model_unshift 26 = .ok (.if_icmp .ge 14, 3) := by decide +kernel
theorem d_Model_unshift_29 : decode b_Model_unshift 29 = .ok (.aload_n 0, 1) := by decide +kernel
theorem d_Model_unshift_30 : decode b_Model_unshift 30 = .ok (.iload 4, 2) := by decide +kernel
theorem d_Model_unshift_32 : decode b_Model_unshift 32 = .ok (.iload_n 2, 1) := by decide +kernel
theorem d_Model_unshift_33 : decode b_Model_unshift 33 = .ok (.iadd, 1) := by decide +kernel
theorem d_Model_unshift_34 : decode b_Model_unshift 34 = .ok (.laload, 1) := by decide +kernel
theorem d_Model_unshift_35 : decode b_Model_unshift 35 = .ok (.iload_n 3, 1) := by decide +kernel
theorem d_Model_unshift_36 : decode b_Model_unshift 36 = .ok (.lshr, 1) := by decide +kernel
theorem d_Model_unshift_37 : decode b_Model_unshift 37 = .ok (.goto 4, 3) := by decide +kernel
theorem d_Model_unshift_40 : decode b_Model_unshift 40 = .ok (.lconst 0, 1) := by decide +kernel
theorem d_Model_unshift_41 : decode b_Model_unshift 41 = .ok (.lstore 5, 2) := by decide +kernel
theorem d_Model_unshift_43 : decode b_Model_unshift 43 = .ok (.iload_n 3, 1) := by decide +kernel
theorem d_Model_unshift_44 : decode b_Model_unshift 44 = .ok (.ifCond .le 36, 3) := by decide +kernel
theorem d_Model_unshift_47 : decode b_Model_unshift 47 = .ok (.iload 4, 2) := by decide +kernel
theorem d_Model_unshift_49 : decode b_Model_unshift 49 = .ok (.iload_n 2, 1) := by decide +kernel
theorem d_Model_unshift_50 : decode b_Model_unshift 50 = .ok (.iadd, 1) := by decide +kernel
theorem d_Model_unshift_51 : decode b_Model_unshift 51 = .ok (.iconst 1, 1) := by decide +kernel
theorem d_Model_unshift_52 : decode b_Model_unshift 52 = .ok (.iadd, 1) := by decide +kernel
theorem d_Model_unshift_53 : decode b_Model_unshift 53 = .ok (.bipush 76, 2) := by decide +kernel
theorem d_Model_unshift_55 : decode b_Model_unshift 55 = .ok (.if_icmp .ge 25, 3) := by decide +kernel
theorem d_Model_unshift_58 : decode b_Model_unshift 58 = .ok (.lload 5, 2) := by decide +kernel
theorem d_Model_unshift_60 : decode b_Model_unshift 60 = .ok (.aload_n 0, 1) := by decide +kernel
theorem d_Model_unshift_61 : decode b_Model_unshift 61 = .ok (.iload 4, 2) := by decide +kernel
theorem d_Model_unshift_63 : decode b_Model_unshift 63 = .ok (.iload_n 2, 1) := by decide +kernel
theorem d_Model_unshift_64 : decode b_Model_unshift 64 = .ok (.iadd, 1) := by decide +kernel
theorem d_Model_unshift_65 : decode b_Model_unshift 65 = .ok (.iconst 1, 1) := by decide +kernel
theorem d_Model_unshift_66 : decode b_Model_unshift 66 = .ok (.iadd, 1) := by decide +kernel
theorem d_Model_unshift_67 : decode b_Model_unshift 67 = .ok (.laload, 1) := by decide +kernel
theorem d_Model_unshift_68 : decode b_Model_unshift 68 = .ok (.bipush 32, 2) := by decide +kernel
theorem d_Model_unshift_70 : decode b_Model_unshift 70 = .ok (.iload_n 3, 1) := by decide +kernel
theorem d_Model_unshift_71 : decode b_Model_unshift 71 = .ok (.isub, 1) := by decide +kernel
theorem d_Model_unshift_72 : decode b_Model_unshift 72 = .ok (.lshl, 1) := by decide +kernel
theorem d_Model_unshift_73 : decode b_Model_unshift 73 = .ok (.ldc2_w 138, 3) := by decide +kernel
theorem d_Model_unshift_76 : decode b_Model_unshift 76 = .ok (.land, 1) := by decide +kernel
theorem d_Model_unshift_77 : decode b_Model_unshift 77 = .ok (.lor, 1) := by decide +kernel
theorem d_Model_unshift_78 : decode b_Model_unshift 78 = .ok (.lstore 5, 2) := by decide +kernel
theorem d_Model_unshift_80 : decode b_Model_unshift 80 = .ok (.aload_n 0, 1) := by decide +kernel
theorem d_Model_unshift_81 : decode b_Model_unshift 81 = .ok (.iload 4, 2) := by decide +kernel
theorem d_Model_unshift_83 : decode b_Model_unshift 83 = .ok (.lload 5, 2) := by decide +kernel
theorem d_Model_unshift_85 : decode b_Model_unshift 85 = .ok (.lastore, 1) := by decide +kernel
theorem d_Model_unshift_86 : decode b_Model_unshift 86 = .ok (.iinc 4 1, 3) := by decide +kernel
theorem d_Model_unshift_89 : decode b_Model_unshift 89 = .ok (.goto (-76), 3) := by decide +kernel
theorem d_Model_unshift_92 : decode b_Model_unshift 92 = .ok (.return_, 1) := by decide +kernel
def mf_Model_unshift_L13 (x2 : Int32) (x3 : Int32) : Nat → Int32 → (Nat → Int64) → Option ((Nat → Int64))
  | 0, _, _ => none
  | fu + 1, x4, uaE => (if (76 : Int32) ≤ x4 then (some (uaE)) else (sd_b1 (if (76 : Int32) ≤ (x4 + x2) then (some ((0 : Int64))) else (sd_g (sd_ix (x4 + x2) 76) (some (((uaE (x4 + x2).toNatClampNeg) >>> (x3.toInt64 &&& 63)))))) fun y => (sd_b1 (if x3 ≤ 0 then (some (y)) else (if (76 : Int32) ≤ ((x4 + x2) + (1 : Int32)) then (some (y)) else (sd_g (sd_ix ((x4 + x2) + (1 : Int32)) 76) (sd_let ((y ||| (((uaE ((x4 + x2) + (1 : Int32)).toNatClampNeg) <<< (((32 : Int32) - x3).toInt64 &&& 63)) &&& (4294967295 : Int64)))) fun x5_1 => (some (x5_1)))))) fun x5 => (sd_g (sd_ix x4 76) (sd_let (vp_updL uaE x4.toNatClampNeg x5) fun uaE_1 => (sd_let (x4 + (1 : Int32)) fun x4_1 => ((mf_Model_unshift_L13 x2 x3 fu) x4_1 uaE_1)))))))
def mf_Model_unshift (F : Nat) (vBy : Int32) (cE : Nat → Int64) : Option ((Nat → Int64)) :=
  (sd_let ((vBy / (32 : Int32))) fun x2 => (sd_let ((vBy - vBy / (32 : Int32) * (32 : Int32))) fun x3 => (sd_b1 (mf_Model_unshift_L13 x2 x3 F (0 : Int32) cE) fun ruaE => (some (ruaE)))))
abbrev rm_Model_unshift : Room := { frames := 0, cells := 0, slots := 0, locals := 0 }
set_option maxHeartbeats 4000000 in
set_option maxRecDepth 100000 in
theorem ct_Model_unshift (l : Launch) (D : va_G) (g : G4) (aE : Nat) (sz : Nat) (vBy : Int32) (cE : Nat → Int64) (F : Nat) (res : (Nat → Int64)) (hm : mf_Model_unshift F vBy cE = some res) : Met l y_Model_unshift (.code y_Model_unshift b_Model_unshift 7 none :: sd_tb) rm_Model_unshift (sd_PW D g [.ref aE, .int vBy] sz [(aE, aJ g 76 cE)]) (sd_Qv1 D g res (fun u : (Nat → Int64) => [(aE, aJ g 76 u)]) (va_A [(aE, aJ g 76 cE)] sz)) 0 0 (va_A [(aE, aJ g 76 cE)] sz) := by
  refine sd_met (Qf := fun A => sd_Qv1 D g res (fun u : (Nat → Int64) => [(aE, aJ g 76 u)]) A) (own := R_Model) (by decide +kernel) rfl (Nat.le_of_ble_eq_true rfl) ?_
  intro p e s m args below meth c S hr hlk hK A hA Q hQ H locs hP hD hS ls hl
  have hx := S.1
  have hb := S.2.1
  have hml := S.2.2.1
  have hown := S.2.2.2.1
  have htt := sd_tt S
  replace hl : lv_has ls 7 [(0, .ref aE), (1, .int vBy)] := hl
  unfold mf_Model_unshift at hm
  refine lv_iload_n hx hb d_Model_unshift_0 rfl (lv_at hl 1 rfl) ?_
  refine lv_bipush (v := (32 : Int32)) hx hb d_Model_unshift_1 (by decide) ?_
  refine lv_idiv hx hb d_Model_unshift_3 (by decide) ?_
  obtain ⟨x2, ex2, hm⟩ := sd_mlet hm
  refine sd_topi ex2 ?_
  refine lv_istore_n (lv' := [(2, .int x2), (0, .ref aE), (1, .int vBy)]) hx hb d_Model_unshift_4 rfl hl (by decide) rfl (fun ls hl => ?_)
  refine lv_iload_n hx hb d_Model_unshift_5 rfl (lv_at hl 2 rfl) ?_
  refine lv_bipush (v := (32 : Int32)) hx hb d_Model_unshift_6 (by decide) ?_
  refine lv_irem hx hb d_Model_unshift_8 (by decide) ?_
  obtain ⟨x3, ex3, hm⟩ := sd_mlet hm
  refine sd_topi ex3 ?_
  refine lv_istore_n (lv' := [(3, .int x3), (2, .int x2), (0, .ref aE), (1, .int vBy)]) hx hb d_Model_unshift_9 rfl hl (by decide) rfl (fun ls hl => ?_)
  refine lv_iconst (v := (0 : Int32)) hx hb d_Model_unshift_10 (by decide) ?_
  refine lv_istore (lv' := [(4, .int (0 : Int32)), (3, .int x3), (2, .int x2), (0, .ref aE), (1, .int vBy)]) hx hb d_Model_unshift_11 hl (by decide) rfl (fun ls hl => ?_)
  have L13 : ∀ (fu : Nat) (x4 : Int32) (uaE : Nat → Int64) (ruaE : Nat → Int64), mf_Model_unshift_L13 x2 x3 fu x4 uaE = some (ruaE) → ∀ (H : Heap) (locs : List Loc) (ls : Array Slot), va_P D classes [(aE, aJ g 76 uaE)] H → va_D A [(aE, aJ g 76 uaE)] → va_S A s.heap H locs → lv_has ls 7 [(0, .ref aE), (2, .int x2), (3, .int x3), (4, .int x4)] → (∀ (H : Heap) (locs : List Loc) (ls : Array Slot), va_P D classes [(aE, aJ g 76 ruaE)] H → va_D A [(aE, aJ g 76 ruaE)] → va_S A s.heap H locs → lv_has ls 7 [] → W p l e rm_Model_unshift s m args below meth c H locs 0 0 Q (F0 m 92 ls [])) → W p l e rm_Model_unshift s m args below meth c H locs 0 0 Q (F0 m 13 ls []) := by
    intro fu
    induction fu with
    | zero => intro x4 uaE ruaE hm; exact absurd (show (none : Option ((Nat → Int64))) = some (ruaE) from hm) (fun h => nomatch h)
    | succ fu ih =>
      intro x4 uaE ruaE hm H locs ls hP hD hS hl kx92
      rw [mf_Model_unshift_L13] at hm
      refine lv_iload hx hb d_Model_unshift_13 (lv_at hl 3 rfl) ?_
      refine lv_bipush (v := (76 : Int32)) hx hb d_Model_unshift_15 (by decide) ?_
      refine lv_icmp_ge (tgt := 92) hx hb d_Model_unshift_17 (by decide) (fun hc => ?_) (fun hc => ?_)
      · have hm := sd_mt hc hm
        cases hm
        exact kx92 H locs ls (hP.sub [0] rfl) (hD.sub [0] (by decide) rfl) hS (lv_sub hl [] rfl)
      · have hm := sd_mf hc hm
        refine lv_iload hx hb d_Model_unshift_20 (lv_at hl 3 rfl) ?_
        refine lv_iload_n hx hb d_Model_unshift_22 rfl (lv_at hl 1 rfl) ?_
        refine lv_iadd hx hb d_Model_unshift_23 ?_
        refine lv_bipush (v := (76 : Int32)) hx hb d_Model_unshift_24 (by decide) ?_
        obtain ⟨y, hv, hm⟩ := sd_mb1 hm
        have J41_1 : ∀ (H : Heap) (locs : List Loc) (ls : Array Slot), va_P D classes [(aE, aJ g 76 uaE)] H → va_D A [(aE, aJ g 76 uaE)] → va_S A s.heap H locs → lv_has ls 7 [(0, .ref aE), (2, .int x2), (3, .int x3), (4, .int x4)] → W p l e rm_Model_unshift s m args below meth c H locs 0 0 Q (F0 m 41 ls [.long y]) := by
          intro H locs ls hP hD hS hl
          refine lv_lstore (lv' := [(5, .long y), (0, .ref aE), (2, .int x2), (3, .int x3), (4, .int x4)]) hx hb d_Model_unshift_41 hl (by decide) rfl (fun ls hl => ?_)
          refine lv_iload_n hx hb d_Model_unshift_43 rfl (lv_at hl 3 rfl) ?_
          obtain ⟨x5, hv, hm⟩ := sd_mb1 hm
          have J80_3 : ∀ (H : Heap) (locs : List Loc) (ls : Array Slot), va_P D classes [(aE, aJ g 76 uaE)] H → va_D A [(aE, aJ g 76 uaE)] → va_S A s.heap H locs → lv_has ls 7 [(0, .ref aE), (2, .int x2), (3, .int x3), (4, .int x4), (5, .long x5)] → W p l e rm_Model_unshift s m args below meth c H locs 0 0 Q (F0 m 80 ls []) := by
            intro H locs ls hP hD hS hl
            refine lv_aload_n hx hb d_Model_unshift_80 rfl (lv_at hl 0 rfl) ?_
            refine lv_iload hx hb d_Model_unshift_81 (lv_at hl 3 rfl) ?_
            refine lv_lload hx hb d_Model_unshift_83 (lv_at hl 4 rfl) ?_
            obtain ⟨h_5, hm⟩ := sd_mg hm
            obtain ⟨uaE_1, euaE_1, hm⟩ := sd_mlet hm
            refine sd_last (f2 := uaE_1) (ws2 := [(aE, aJ g 76 uaE_1)]) hx hb hK hP hD hS 0 rfl h_5 euaE_1 rfl d_Model_unshift_85 (fun H locs hP hD hS => ?_)
            obtain ⟨x4_1, ex4_1, hm⟩ := sd_mlet hm
            refine lv_iinc (v := x4_1) (lv' := [(4, .int x4_1), (0, .ref aE), (2, .int x2), (3, .int x3), (5, .long x5)]) hx hb d_Model_unshift_86 hl (k := 3) rfl (by rw [ex4_1]; rfl) (by decide) rfl (fun ls hl => ?_)
            refine lv_goto (tgt := 13) hx hb d_Model_unshift_89 (by decide) ?_
            exact ih x4_1 uaE_1 ruaE hm H locs ls (hP.sub [0] rfl) (hD.sub [0] (by decide) rfl) hS (lv_sub hl [1, 2, 3, 0] rfl) kx92
          replace hm := hv
          refine lv_if_le (tgt := 80) hx hb d_Model_unshift_44 (by decide) (fun hc => ?_) (fun hc => ?_)
          · have hm := sd_mt hc hm
            cases hm
            exact J80_3 H locs ls (hP.sub [0] rfl) (hD.sub [0] (by decide) rfl) hS (lv_sub hl [1, 2, 3, 4, 0] rfl)
          · have hm := sd_mf hc hm
            refine lv_iload hx hb d_Model_unshift_47 (lv_at hl 4 rfl) ?_
            refine lv_iload_n hx hb d_Model_unshift_49 rfl (lv_at hl 2 rfl) ?_
            refine lv_iadd hx hb d_Model_unshift_50 ?_
            refine lv_iconst (v := (1 : Int32)) hx hb d_Model_unshift_51 (by decide) ?_
            refine lv_iadd hx hb d_Model_unshift_52 ?_
            refine lv_bipush (v := (76 : Int32)) hx hb d_Model_unshift_53 (by decide) ?_
            refine lv_icmp_ge (tgt := 80) hx hb d_Model_unshift_55 (by decide) (fun hc => ?_) (fun hc => ?_)
            · have hm := sd_mt hc hm
              cases hm
              exact J80_3 H locs ls (hP.sub [0] rfl) (hD.sub [0] (by decide) rfl) hS (lv_sub hl [1, 2, 3, 4, 0] rfl)
            · have hm := sd_mf hc hm
              refine lv_lload hx hb d_Model_unshift_58 (lv_at hl 0 rfl) ?_
              refine lv_aload_n hx hb d_Model_unshift_60 rfl (lv_at hl 1 rfl) ?_
              refine lv_iload hx hb d_Model_unshift_61 (lv_at hl 4 rfl) ?_
              refine lv_iload_n hx hb d_Model_unshift_63 rfl (lv_at hl 2 rfl) ?_
              refine lv_iadd hx hb d_Model_unshift_64 ?_
              refine lv_iconst (v := (1 : Int32)) hx hb d_Model_unshift_65 (by decide) ?_
              refine lv_iadd hx hb d_Model_unshift_66 ?_
              obtain ⟨h_4, hm⟩ := sd_mg hm
              refine sd_lald hx hb hK hP 0 rfl h_4 d_Model_unshift_67 ?_
              refine lv_bipush (v := (32 : Int32)) hx hb d_Model_unshift_68 (by decide) ?_
              refine lv_iload_n hx hb d_Model_unshift_70 rfl (lv_at hl 3 rfl) ?_
              refine lv_isub hx hb d_Model_unshift_71 ?_
              refine lv_lshl hx hb d_Model_unshift_72 rfl ?_
              refine sd_ldc2 (v := (4294967295 : Int64)) hx hb hown (htt _ km_Model_138) d_Model_unshift_73 ?_
              refine lv_land hx hb d_Model_unshift_76 ?_
              refine lv_lor hx hb d_Model_unshift_77 ?_
              obtain ⟨x5_1, ex5_1, hm⟩ := sd_mlet hm
              refine sd_topj ex5_1 ?_
              refine lv_lstore (lv' := [(5, .long x5_1), (0, .ref aE), (2, .int x2), (3, .int x3), (4, .int x4)]) hx hb d_Model_unshift_78 hl (by decide) rfl (fun ls hl => ?_)
              cases hm
              exact J80_3 H locs ls (hP.sub [0] rfl) (hD.sub [0] (by decide) rfl) hS (lv_sub hl [1, 2, 3, 4, 0] rfl)
        replace hm := hv
        refine lv_icmp_ge (tgt := 40) hx hb d_Model_unshift_26 (by decide) (fun hc => ?_) (fun hc => ?_)
        · have hm := sd_mt hc hm
          refine lv_lconst (v := (0 : Int64)) hx hb d_Model_unshift_40 (by decide) ?_
          cases hm
          exact J41_1 H locs ls (hP.sub [0] rfl) (hD.sub [0] (by decide) rfl) hS (lv_sub hl [0, 1, 2, 3] rfl)
        · have hm := sd_mf hc hm
          refine lv_aload_n hx hb d_Model_unshift_29 rfl (lv_at hl 0 rfl) ?_
          refine lv_iload hx hb d_Model_unshift_30 (lv_at hl 3 rfl) ?_
          refine lv_iload_n hx hb d_Model_unshift_32 rfl (lv_at hl 1 rfl) ?_
          refine lv_iadd hx hb d_Model_unshift_33 ?_
          obtain ⟨h_2, hm⟩ := sd_mg hm
          refine sd_lald hx hb hK hP 0 rfl h_2 d_Model_unshift_34 ?_
          refine lv_iload_n hx hb d_Model_unshift_35 rfl (lv_at hl 2 rfl) ?_
          refine lv_lshr hx hb d_Model_unshift_36 rfl ?_
          refine lv_goto (tgt := 41) hx hb d_Model_unshift_37 (by decide) ?_
          cases hm
          exact J41_1 H locs ls (hP.sub [0] rfl) (hD.sub [0] (by decide) rfl) hS (lv_sub hl [0, 1, 2, 3] rfl)
  obtain ⟨ruaE, hc, hm⟩ := sd_mb1 hm
  refine L13 F (0 : Int32) cE ruaE hc H locs ls (hP.sub [0] rfl) (hD.sub [0] (by decide) rfl) hS (lv_sub hl [3, 2, 1, 0] rfl) ?_
  intro H locs ls hP hD hS hl
  exact sd_v1ret (u := (ruaE)) hQ hx hb hr hlk hK (hP.sub [0] rfl) (hD.sub [0] (by decide) rfl) hS (Option.some.inj hm).symm d_Model_unshift_92
